def f_X5_ofTouch_15   (x1 : Int32) (x2 : Int32) (σ : wx_St) : Option Int32 :=
  some (-1)
def f_X5_ofTouch_102   (x1 : Int32) (x2 : Int32) (y0 : Int32) (σ : wx_St) : Option Int32 :=
  some y0
def f_X5_ofTouch   (x1 : Int32) (x2 : Int32) (σ : wx_St) : Option Int32 :=
  if x1 < 0 then
    f_X5_ofTouch_15 x1 x2 σ
   else
    if x1 < (σ.2.2.1 7 3) then
      if x2 = 0 then
        wx_rI σ 7 4 3 x1 (fun v56 => some v56)
       else
        if x2 = 1 then
          wx_rI σ 7 4 3 x1 (fun v73 => wx_rI σ 7 1 64 v73 (fun v74 => some v74))
         else
          if x2 = 2 then
            wx_rI σ 7 5 3 x1 (fun v84 => some v84)
           else
            if x2 = 3 then
              wx_o (f_X0_isLive 7 x1 σ) (fun v91 => if v91 = 0 then
                f_X5_ofTouch_102 x1 x2 0 σ
               else
                f_X5_ofTouch_102 x1 x2 1 σ)
             else
              some (-2)
     else
      f_X5_ofTouch_15 x1 x2 σ
def f_X5_reading_15   (x1 : Int32) (x2 : Int32) (σ : wx_St) : Option Int32 :=
  some (-1)
def f_X5_reading   (x1 : Int32) (x2 : Int32) (σ : wx_St) : Option Int32 :=
  if x1 < 0 then
    f_X5_reading_15 x1 x2 σ
   else
    if x1 < (σ.2.2.1 7 9) then
      if x2 = 0 then
        wx_rI σ 7 10 8 x1 (fun v52 => some v52)
       else
        if x2 = 1 then
          wx_rI σ 7 11 8 x1 (fun v62 => some v62)
         else
          if x2 = 2 then
            wx_rI σ 7 12 8 x1 (fun v72 => some v72)
           else
            some (-2)
     else
      f_X5_reading_15 x1 x2 σ
def f_X5_columnsOf   (x0 : Int64) (x2 : Int32) : Option Int32 :=
  some ((((x0.toUInt64 >>> ((8 * x2).toInt64.toUInt64 &&& Int64.toUInt64 63)).toInt64) &&& (255 : Int64)).toInt32)
def f_X5_row_10   (x1 : Int32) (x2 : Int32) (σ : wx_St) : Option (Int32 × wx_St) :=
  some ((-1), σ)
def f_X5_row_75   (x1 : Int32) (x2 : Int32) (y0 : Int64) (σ : wx_St) : Option (Int32 × wx_St) :=
  wx_o (f_X5_columnsOf y0 x1) (fun v76 => some (v76, σ))
def f_X5_row   (x1 : Int32) (x2 : Int32) (σ : wx_St) : Option (Int32 × wx_St) :=
  if x1 < 0 then
    f_X5_row_10 x1 x2 σ
   else
    if x1 < 8 then
      if x2 = 0 then
        wx_o (f_X0_tracked 7 σ) (fun v44 => wx_o (f_X5_columnsOf v44 x1) (fun v48 => some (v48, σ)))
       else
        if x2 = 1 then
          wx_o (f_X0_suspects 7 σ) (fun v56 => wx_o (f_X5_columnsOf v56 x1) (fun v60 => some (v60, σ)))
         else
          if x2 = 2 then
            wx_b (f_X4_fitting 7 σ) (fun v72 σ72 => f_X5_row_75 x1 x2 v72 σ72)
           else
            some ((-2), σ)
     else
      f_X5_row_10 x1 x2 σ
def f_X0_beginRun_12 (o : Nat)  : Nat → Int32 → wx_St → Option (Unit × wx_St)
  | 0, _, _ => none
  | n + 1, x1, σ =>
  if 64 ≤ x1 then
    some ((), σ)
   else
    wx_w (wx_sF σ o 7 (Int32.toNatClampNeg x1) FP.fconst0) 64 x1 (fun σ24 => (f_X0_beginRun_12 o n) (x1 + 1) σ24)
def f_X0_beginRun (o : Nat)   (σ : wx_St) : Option (Unit × wx_St) :=
  wx_l (wx_sS σ o 6 0) (fun σ2 => wx_l (wx_sS σ2 o 9 0) (fun σ7 => f_X0_beginRun_12 o 2000 0 σ7))
def f_X0_change_9 (o : Nat)  (x1 : Int32) (x2 : Int32) (σ : wx_St) : Option (Int32 × wx_St) :=
  some ((-2), σ)
def f_X0_change_30 (o : Nat)  (x1 : Int32) (x2 : Int32) (σ : wx_St) : Option (Int32 × wx_St) :=
  some ((-2), σ)
def f_X0_change_56 (o : Nat)  (x1 : Int32) (x2 : Int32) (x3 : Int32) (σ : wx_St) : Option (Int32 × wx_St) :=
  some (x3, σ)
def f_X0_change (o : Nat)  (x1 : Int32) (x2 : Int32) (σ : wx_St) : Option (Int32 × wx_St) :=
  if x1 < 0 then
    f_X0_change_9 o x1 x2 σ
   else
    if x1 < 4 then
      wx_rT wx_v1 4 x1 (fun v17 => if x2 < v17 then
        f_X0_change_30 o x1 x2 σ
       else
        wx_rT wx_v2 4 x1 (fun v26 => if x2 ≤ v26 then
          wx_rI σ o 0 4 x1 (fun v38 => wx_w (wx_sI σ o 0 (Int32.toNatClampNeg x1) x2) 4 x1 (fun σ46 => if x1 = 3 then
            f_X0_change_56 o x1 x2 v38 σ46
           else
            wx_b (f_X0_beginRun o σ46) (fun v53 σ53 => f_X0_change_56 o x1 x2 v38 σ53)))
         else
          f_X0_change_30 o x1 x2 σ))
     else
      f_X0_change_9 o x1 x2 σ
def f_X0_hasNeighbourOf_32 (o : Nat) (K2 : Int32 → Int32 → Int32 → wx_St → Option Int32) (x1 : Int32) (x2 : Int32) (x3 : Int32) (x4 : Int32) (σ : wx_St) : Option Int32 :=
  K2 x1 x2 (x3 + 1) σ
def f_X0_hasNeighbourOf_2 (o : Nat)  : Nat → Int32 → Int32 → Int32 → wx_St → Option Int32
  | 0, _, _, _, _ => none
  | n + 1, x1, x2, x3, σ =>
  if 4 ≤ x3 then
    some 0
   else
    wx_o (f_X5_neighbourOf x1 x3) (fun v9 => if v9 < 0 then
      f_X0_hasNeighbourOf_32 o (f_X0_hasNeighbourOf_2 o n) x1 x2 x3 v9 σ
     else
      wx_rI σ o 1 64 v9 (fun v25 => if v25 = x2 then
        some 1
       else
        f_X0_hasNeighbourOf_32 o (f_X0_hasNeighbourOf_2 o n) x1 x2 x3 v9 σ))
def f_X0_hasNeighbourOf (o : Nat)  (x1 : Int32) (x2 : Int32) (σ : wx_St) : Option Int32 :=
  f_X0_hasNeighbourOf_2 o 2000 x1 x2 0 σ
def f_X5_areNeighbours_2   : Nat → Int32 → Int32 → Int32 → Option Int32
  | 0, _, _, _ => none
  | n + 1, x0, x1, x2 =>
  if 4 ≤ x2 then
    some 0
   else
    wx_o (f_X5_neighbourOf x0 x2) (fun v9 => if v9 = x1 then
      some 1
     else
      (f_X5_areNeighbours_2 n) x0 x1 (x2 + 1))
def f_X5_areNeighbours   (x0 : Int32) (x1 : Int32) : Option Int32 :=
  f_X5_areNeighbours_2 2000 x0 x1 0
def f_X0_isNeededByTouch_52 (o : Nat) (K2 : Int32 → Int32 → wx_St → Option Int32) (x1 : Int32) (x2 : Int32) (σ : wx_St) : Option Int32 :=
  K2 x1 (x2 + 1) σ
def f_X0_isNeededByTouch_2 (o : Nat)  : Nat → Int32 → Int32 → wx_St → Option Int32
  | 0, _, _, _ => none
  | n + 1, x1, x2, σ =>
  if (σ.2.2.1 o 3) ≤ x2 then
    some 0
   else
    wx_rI σ o 4 3 x2 (fun v15 => if v15 = x1 then
      some 1
     else
      wx_rI σ o 4 3 x2 (fun v27 => wx_o (f_X5_areNeighbours v27 x1) (fun v29 => if v29 = 0 then
        f_X0_isNeededByTouch_52 o (f_X0_isNeededByTouch_2 o n) x1 x2 σ
       else
        wx_rI σ o 5 3 x2 (fun v40 => wx_rI σ o 1 64 x1 (fun v46 => if v40 = v46 then
          some 1
         else
          f_X0_isNeededByTouch_52 o (f_X0_isNeededByTouch_2 o n) x1 x2 σ)))))
def f_X0_isNeededByTouch (o : Nat)  (x1 : Int32) (σ : wx_St) : Option Int32 :=
  f_X0_isNeededByTouch_2 o 2000 x1 0 σ
def f_X0_join_66 (o : Nat)  (x1 : Int32) (x2 : Int32) (x3 : Int32) (x4 : Int32) (σ : wx_St) : Option (Int32 × wx_St) :=
  some ((-5), σ)
def f_X0_join (o : Nat)  (x1 : Int32) (x2 : Int32) (x3 : Int32) (σ : wx_St) : Option (Int32 × wx_St) :=
  wx_o (f_X5_placeOf x1 x2) (fun v2 => if 0 ≤ v2 then
    wx_o (f_X5_isNet x3) (fun v15 => if v15 = 0 then
      some ((-2), σ)
     else
      wx_rI σ o 1 64 v2 (fun v30 => if v30 = 0 then
        f_X0_join_66 o x1 x2 x3 v2 σ
       else
        wx_rI σ o 1 64 v2 (fun v40 => if v40 = x3 then
          f_X0_join_66 o x1 x2 x3 v2 σ
         else
          wx_o (f_X0_touchAt o v2 σ) (fun v48 => if v48 = (-6) then
            wx_o (f_X0_hasNeighbourOf o v2 x3 σ) (fun v60 => if v60 = 0 then
              f_X0_join_66 o x1 x2 x3 v2 σ
             else
              if (σ.2.2.1 o 3) < 3 then
                wx_w (wx_sI σ o 4 (Int32.toNatClampNeg (σ.2.2.1 o 3)) v2) 3 (σ.2.2.1 o 3) (fun σ90 => wx_w (wx_sI σ90 o 5 (Int32.toNatClampNeg (σ90.2.2.1 o 3)) x3) 3 (σ90.2.2.1 o 3) (fun σ100 => wx_l (wx_sS σ100 o 3 ((σ100.2.2.1 o 3) + 1)) (fun σ108 => wx_b (f_X0_beginRun o σ108) (fun v112 σ112 => some (((σ112.2.2.1 o 3) - 1), σ112)))))
               else
                some ((-4), σ))
           else
            f_X0_join_66 o x1 x2 x3 v2 σ))))
   else
    some ((-1), σ))
def f_X0_lay_28 (o : Nat)  (x1 : Int32) (x2 : Int32) (x3 : Int32) (x4 : Int32) (σ : wx_St) : Option (Int32 × wx_St) :=
  wx_o (f_X0_isNeededByTouch o x4 σ) (fun v31 => if v31 = 0 then
    wx_rI σ o 1 64 x4 (fun v46 => wx_w (wx_sI σ o 1 (Int32.toNatClampNeg x4) x3) 64 x4 (fun σ56 => wx_b (f_X0_beginRun o σ56) (fun v58 σ58 => some (v46, σ58))))
   else
    some ((-5), σ))
def f_X0_lay (o : Nat)  (x1 : Int32) (x2 : Int32) (x3 : Int32) (σ : wx_St) : Option (Int32 × wx_St) :=
  wx_o (f_X5_placeOf x1 x2) (fun v2 => if 0 ≤ v2 then
    if x3 = 0 then
      f_X0_lay_28 o x1 x2 x3 v2 σ
     else
      wx_o (f_X5_isNet x3) (fun v19 => if v19 = 0 then
        some ((-2), σ)
       else
        f_X0_lay_28 o x1 x2 x3 v2 σ)
   else
    some ((-1), σ))
def f_X0_passOne (o : Nat)  (x1 : Int64) (σ : wx_St) : Option (Unit × wx_St) :=
  wx_b (f_X5_step o 7 64 o 8 64 o 0 0 0 x1 σ) (fun v15 σ15 => wx_l (wx_cF σ15 o 8 0 o 7 0 64) (fun σ30 => some ((), σ30)))
def f_X0_letPass_11 (o : Nat)  (x1 : Int32) (σ : wx_St) : Option (Int32 × wx_St) :=
  some ((-2), σ)
def f_X0_letPass_36 (o : Nat)  : Nat → Int32 → Int64 → Int32 → wx_St → Option (Int32 × wx_St)
  | 0, _, _, _, _ => none
  | n + 1, x1, x2, x4, σ =>
  if x1 ≤ x4 then
    wx_l (wx_sS σ o 6 ((σ.2.2.1 o 6) + x1)) (fun σ60 => some ((σ60.2.2.1 o 6), σ60))
   else
    wx_b (f_X0_passOne o x2 σ) (fun v44 σ44 => (f_X0_letPass_36 o n) x1 x2 (x4 + 1) σ44)
def f_X0_letPass (o : Nat)  (x1 : Int32) (σ : wx_St) : Option (Int32 × wx_St) :=
  if x1 < 1 then
    f_X0_letPass_11 o x1 σ
   else
    if x1 ≤ 50 then
      if ((σ.2.2.1 o 6) + x1) ≤ 100 then
        wx_o (f_X0_heated o σ) (fun v29 => f_X0_letPass_36 o 2000 x1 v29 0 σ)
       else
        some ((-5), σ)
     else
      f_X0_letPass_11 o x1 σ
def f_X0_measure (o : Nat)  (x1 : Int32) (x2 : Int32) (σ : wx_St) : Option (Int32 × wx_St) :=
  wx_o (f_X5_placeOf x1 x2) (fun v2 => if 0 ≤ v2 then
    if (σ.2.2.1 o 9) < 8 then
      wx_rF σ o 7 64 v2 (fun v29 => wx_o (f_X5_readOf v29) (fun v30 => wx_w (wx_sI σ o 10 (Int32.toNatClampNeg (σ.2.2.1 o 9)) v2) 8 (σ.2.2.1 o 9) (fun σ44 => wx_w (wx_sI σ44 o 11 (Int32.toNatClampNeg (σ44.2.2.1 o 9)) v30) 8 (σ44.2.2.1 o 9) (fun σ55 => wx_w (wx_sI σ55 o 12 (Int32.toNatClampNeg (σ55.2.2.1 o 9)) (σ55.2.2.1 o 6)) 8 (σ55.2.2.1 o 9) (fun σ68 => wx_l (wx_sS σ68 o 9 ((σ68.2.2.1 o 9) + 1)) (fun σ76 => some (v30, σ76)))))))
     else
      some ((-4), σ)
   else
    some ((-1), σ))
def f_X0_part_12 (o : Nat)  (x1 : Int32) (σ : wx_St) : Option (Int32 × wx_St) :=
  some ((-1), σ)
def f_X0_part_16 (o : Nat)  : Nat → Int32 → Int32 → wx_St → Option (Int32 × wx_St)
  | 0, _, _, _ => none
  | n + 1, x1, x2, σ =>
  if ((σ.2.2.1 o 3) - 1) ≤ x2 then
    wx_l (wx_sS σ o 3 ((σ.2.2.1 o 3) - 1)) (fun σ67 => wx_b (f_X0_beginRun o σ67) (fun v71 σ71 => some ((σ71.2.2.1 o 3), σ71)))
   else
    wx_rI σ o 4 3 (x2 + 1) (fun v38 => wx_w (wx_sI σ o 4 (Int32.toNatClampNeg x2) v38) 3 x2 (fun σ39 => wx_rI σ39 o 5 3 (x2 + 1) (fun v52 => wx_w (wx_sI σ39 o 5 (Int32.toNatClampNeg x2) v52) 3 x2 (fun σ53 => (f_X0_part_16 o n) x1 (x2 + 1) σ53))))
def f_X0_part (o : Nat)  (x1 : Int32) (σ : wx_St) : Option (Int32 × wx_St) :=
  if x1 < 0 then
    f_X0_part_12 o x1 σ
   else
    if x1 < (σ.2.2.1 o 3) then
      f_X0_part_16 o 2000 x1 x1 σ
     else
      f_X0_part_12 o x1 σ
def f_X0_takeOver (o : Nat) (b1 : Nat)   (σ : wx_St) : Option (Unit × wx_St) :=
  wx_l (wx_cI σ b1 0 0 o 0 0 4) (fun σ11 => wx_l (wx_cI σ11 b1 1 0 o 1 0 64) (fun σ26 => wx_l (wx_cI σ26 b1 2 0 o 2 0 8) (fun σ41 => wx_l (wx_sS σ41 o 3 (σ41.2.2.1 b1 3)) (fun σ49 => wx_l (wx_cI σ49 b1 4 0 o 4 0 3) (fun σ63 => wx_l (wx_cI σ63 b1 5 0 o 5 0 3) (fun σ77 => wx_l (wx_sS σ77 o 6 (σ77.2.2.1 b1 6)) (fun σ85 => wx_l (wx_cF σ85 b1 7 0 o 7 0 64) (fun σ100 => wx_l (wx_sS σ100 o 9 (σ100.2.2.1 b1 9)) (fun σ108 => wx_l (wx_cI σ108 b1 10 0 o 10 0 8) (fun σ123 => wx_l (wx_cI σ123 b1 11 0 o 11 0 8) (fun σ138 => wx_l (wx_cI σ138 b1 12 0 o 12 0 8) (fun σ153 => some ((), σ153)))))))))))))
def f_X0_turnPair_14 (o : Nat)  (x1 : Int32) (x2 : Int32) (σ : wx_St) : Option (Int32 × wx_St) :=
  some ((-1), σ)
def f_X0_turnPair_74 (o : Nat)  (x1 : Int32) (x2 : Int32) (y0 : Int32) (σ : wx_St) : Option (Int32 × wx_St) :=
  some (y0, σ)
def f_X0_turnPair (o : Nat)  (x1 : Int32) (x2 : Int32) (σ : wx_St) : Option (Int32 × wx_St) :=
  wx_o (f_X5_isNet x1) (fun v1 => if v1 = 0 then
    f_X0_turnPair_14 o x1 x2 σ
   else
    wx_o (f_X5_isNet x2) (fun v8 => if v8 = 0 then
      f_X0_turnPair_14 o x1 x2 σ
     else
      if x1 = x2 then
        some ((-2), σ)
       else
        wx_rI σ o 2 8 x1 (fun v34 => wx_w (wx_sI σ o 2 (Int32.toNatClampNeg x1) (v34 ^^^ (1 <<< (x2 &&& 31)))) 8 x1 (fun σ39 => wx_rI σ39 o 2 8 x2 (fun v50 => wx_w (wx_sI σ39 o 2 (Int32.toNatClampNeg x2) (v50 ^^^ (1 <<< (x1 &&& 31)))) 8 x2 (fun σ55 => wx_b (f_X0_beginRun o σ55) (fun v57 σ57 => wx_o (f_X0_isFed o x1 x2 σ57) (fun v63 => if v63 = 0 then
          f_X0_turnPair_74 o x1 x2 0 σ57
         else
          f_X0_turnPair_74 o x1 x2 1 σ57))))))))
def f_X3_kept_36   : Nat → Int32 → Nat → Int32 → wx_St → Option (Int32 × wx_St)
  | 0, _, _, _, _ => none
  | n + 1, x1, z2, x3, σ =>
  if 6 ≤ x3 then
    wx_w (wx_sR σ (Int32.toNatClampNeg 6) z2) 7 6 (fun σ69 => some (x1, σ69))
   else
    wx_rR σ 14 7 (x3 + 1) (fun z54 => wx_w (wx_sR σ (Int32.toNatClampNeg x3) z54) 7 x3 (fun σ55 => (f_X3_kept_36 n) x1 z2 (x3 + 1) σ55))
def f_X3_kept   (x1 : Int32) (σ : wx_St) : Option (Int32 × wx_St) :=
  if 0 ≤ x1 then
    if 6 ≤ (σ.2.2.1 14 1) then
      wx_rR σ 14 7 0 (fun z32 => f_X3_kept_36 2000 x1 z32 0 σ)
     else
      wx_l (wx_sS σ 14 1 ((σ.2.2.1 14 1) + 1)) (fun σ22 => some (x1, σ22))
   else
    some (x1, σ)
def f_X3_prepare (b1 : Nat)   (σ : wx_St) : Option (Unit × wx_St) :=
  wx_rR σ 14 7 (σ.2.2.1 14 1) (fun z8 => wx_b (f_X0_takeOver z8 b1 σ) (fun v10 σ10 => some ((), σ10)))
def f_X4_readBy_24 (b1 : Nat)  (x2 : Int32) (x3 : Int32) (y0 : UInt32) (σ : wx_St) : Option (Int32 × wx_St) :=
  wx_o (f_X5_readOf y0) (fun v24 => some (v24, σ))
def f_X4_readBy (b1 : Nat)  (x2 : Int32) (x3 : Int32) (σ : wx_St) : Option (Int32 × wx_St) :=
  wx_b (f_X1_follow b1 0 σ) (fun v8 σ8 => wx_b (f_X1_warmthBy x2 (σ8.2.2.1 b1 6) x3 σ8) (fun v21 σ21 => f_X4_readBy_24 b1 x2 x3 v21 σ21))
def f_X5_cool    (σ : wx_St) : Option (Int32 × wx_St) :=
  wx_b (f_X3_prepare 7 σ) (fun v8 σ8 => wx_b (f_X0_beginRun 7 σ8) (fun v23 σ23 => wx_b (f_X3_kept (σ8.2.2.1 7 6) σ23) (fun v31 σ31 => some (v31, σ31))))
def f_X5_feed   (x1 : Int32) (x2 : Int32) (σ : wx_St) : Option (Int32 × wx_St) :=
  wx_b (f_X3_prepare 7 σ) (fun v8 σ8 => wx_b (f_X0_turnPair 7 x1 x2 σ8) (fun v21 σ21 => wx_b (f_X3_kept v21 σ21) (fun v24 σ24 => some (v24, σ24))))
def f_X5_mend   (x1 : Int32) (σ : wx_St) : Option (Int32 × wx_St) :=
  wx_b (f_X3_prepare 7 σ) (fun v8 σ8 => wx_b (f_X0_part 7 x1 σ8) (fun v20 σ20 => wx_b (f_X3_kept v20 σ20) (fun v23 σ23 => some (v23, σ23))))
def f_X5_probe   (x1 : Int32) (x2 : Int32) (σ : wx_St) : Option (Int32 × wx_St) :=
  wx_b (f_X3_prepare 7 σ) (fun v8 σ8 => wx_b (f_X0_measure 7 x1 x2 σ8) (fun v21 σ21 => wx_b (f_X3_kept v21 σ21) (fun v24 σ24 => some (v24, σ24))))
def f_X5_set   (x1 : Int32) (x2 : Int32) (σ : wx_St) : Option (Int32 × wx_St) :=
  wx_b (f_X3_prepare 7 σ) (fun v8 σ8 => wx_b (f_X0_change 7 x1 x2 σ8) (fun v21 σ21 => wx_b (f_X3_kept v21 σ21) (fun v24 σ24 => some (v24, σ24))))
def f_X5_touch   (x1 : Int32) (x2 : Int32) (x3 : Int32) (σ : wx_St) : Option (Int32 × wx_St) :=
  wx_b (f_X3_prepare 7 σ) (fun v8 σ8 => wx_b (f_X0_join 7 x1 x2 x3 σ8) (fun v22 σ22 => wx_b (f_X3_kept v22 σ22) (fun v25 σ25 => some (v25, σ25))))
def f_X5_track   (x1 : Int32) (x2 : Int32) (x3 : Int32) (σ : wx_St) : Option (Int32 × wx_St) :=
  wx_b (f_X3_prepare 7 σ) (fun v8 σ8 => wx_b (f_X0_lay 7 x1 x2 x3 σ8) (fun v22 σ22 => wx_b (f_X3_kept v22 σ22) (fun v25 σ25 => some (v25, σ25))))
def f_X5_warm   (x1 : Int32) (σ : wx_St) : Option (Int32 × wx_St) :=
  wx_b (f_X3_prepare 7 σ) (fun v8 σ8 => wx_b (f_X0_letPass 7 x1 σ8) (fun v20 σ20 => wx_b (f_X3_kept v20 σ20) (fun v23 σ23 => some (v23, σ23))))
def f_X5_wouldRead_37   (x1 : Int32) (x2 : Int32) (x3 : Int32) (x4 : Int32) (x5 : Int32) (x6 : Int32) (σ : wx_St) : Option (Int32 × wx_St) :=
  some ((-1), σ)
def f_X5_wouldRead_54   (x1 : Int32) (x2 : Int32) (x3 : Int32) (x4 : Int32) (x5 : Int32) (x6 : Int32) (y0 : Int32) (σ : wx_St) : Option (Int32 × wx_St) :=
  some (y0, σ)
def f_X5_wouldRead   (x1 : Int32) (x2 : Int32) (x3 : Int32) (x4 : Int32) (σ : wx_St) : Option (Int32 × wx_St) :=
  wx_o (f_X5_placeOf x1 x2) (fun v2 => wx_o (f_X5_placeOf x3 x4) (fun v10 => if v2 < 0 then
    f_X5_wouldRead_37 x1 x2 x3 x4 v2 v10 σ
   else
    if v10 < 0 then
      f_X5_wouldRead_37 x1 x2 x3 x4 v2 v10 σ
     else
      wx_o (f_X0_isSuspect 7 v10 σ) (fun v31 => if v31 = 0 then
        f_X5_wouldRead_37 x1 x2 x3 x4 v2 v10 σ
       else
        wx_b (f_X4_readBy 7 v10 v2 σ) (fun v51 σ51 => f_X5_wouldRead_54 x1 x2 x3 x4 v2 v10 v51 σ51))))
variable {p : Program} {l : Launch} {e : Env} {s : State} {m : MethodId} {args : Array Value} {below : List Frame} {meth : Method} {c : Code} {D : va_G} {ad : Nat → Nat → Nat} {rd : Nat → Nat} {ca : Nat → ClassId} {A : Nat → Prop}
theorem i_X5_ofTouch_0 : ∀ w ∈ wsX00, w ∈ wsX5_ofTouch := by decide +kernel
theorem i_X5_ofTouch_5 : ∀ w ∈ wsX50, w ∈ wsX5_ofTouch := by decide +kernel
theorem k_X5_ofTouch_w0 : Cond.fieldLink RX5 10 "WarmProbes" "board" "LWarmProbes$Board;" ∈ wsX5_ofTouch := by decide +kernel
theorem k_X5_ofTouch_w1 : Cond.initialized RX0 ∈ wsX5_ofTouch := by decide +kernel
theorem k_X5_ofTouch_w2 : Cond.instanceMethod yX0_isLive ∈ wsX5_ofTouch := by decide +kernel
theorem k_X5_ofTouch_w3 : Cond.selects RX0 yX0_isLive yX0_isLive ∈ wsX5_ofTouch := by decide +kernel
set_option maxRecDepth 20000 in
set_option maxHeartbeats 4000000 in
theorem b_X5_ofTouch_15 (B : wx_B p s m args meth c cX5_ofTouch 3 (some .int) wsX5_ofTouch RX5 D ad ca A)    {r : Int32} {σ : wx_St}  {x1 : Int32} {x2 : Int32}   (h : f_X5_ofTouch_15 x1 x2 σ = some r) {H : Heap} {locs : List Loc} (Z : wx_Z D ad rd ca A σ H) (hS : va_S A s.heap H locs) {ls : Array Slot} (hl : lv_has ls 3 [(0, .ref (ad 11 99)), (1, .int x1), (2, .int x2)]) : W p l e ({ frames := 2, cells := 0, slots := 0, locals := 43 } : Room) s m args below meth c H locs 0 0 (MQ below (wx_Q D ad rd ca A (some (.int r)) σ) args s 0 0 A) (F0 m 15 ls []) := by
  obtain ⟨hx, hb, hml, hr, hts, hown, hlk, hC, hA⟩ := id B
  unfold f_X5_ofTouch_15 at h
  refine lv_iconst (v := (-1)) hx hb dX5_ofTouch_15 (by decide) ?_
  obtain rfl := Option.some.inj h
  exact W.iret hx hb hr (fun t ht hW => ⟨rfl, by rw [ht]; exact Z, hS.F ht⟩) hS.2.2 dX5_ofTouch_16
set_option maxRecDepth 20000 in
set_option maxHeartbeats 4000000 in
theorem b_X5_ofTouch_102 (B : wx_B p s m args meth c cX5_ofTouch 3 (some .int) wsX5_ofTouch RX5 D ad ca A)    {r : Int32} {σ : wx_St}  {x1 : Int32} {x2 : Int32} {y0 : Int32}   (h : f_X5_ofTouch_102 x1 x2 y0 σ = some r) {H : Heap} {locs : List Loc} (Z : wx_Z D ad rd ca A σ H) (hS : va_S A s.heap H locs) {ls : Array Slot} (hl : lv_has ls 3 [(0, .ref (ad 11 99)), (1, .int x1), (2, .int x2)]) : W p l e ({ frames := 2, cells := 0, slots := 0, locals := 43 } : Room) s m args below meth c H locs 0 0 (MQ below (wx_Q D ad rd ca A (some (.int r)) σ) args s 0 0 A) (F0 m 102 ls [.int y0]) := by
  obtain ⟨hx, hb, hml, hr, hts, hown, hlk, hC, hA⟩ := id B
  unfold f_X5_ofTouch_102 at h
  obtain rfl := Option.some.inj h
  exact W.iret hx hb hr (fun t ht hW => ⟨rfl, by rw [ht]; exact Z, hS.F ht⟩) hS.2.2 dX5_ofTouch_102
set_option maxRecDepth 20000 in
set_option maxHeartbeats 4000000 in
theorem b_X5_ofTouch_0 (B : wx_B p s m args meth c cX5_ofTouch 3 (some .int) wsX5_ofTouch RX5 D ad ca A)    {r : Int32} {σ : wx_St}  {x1 : Int32} {x2 : Int32}   (h : f_X5_ofTouch x1 x2 σ = some r) {H : Heap} {locs : List Loc} (Z : wx_Z D ad rd ca A σ H) (hS : va_S A s.heap H locs) {ls : Array Slot} (hl : lv_has ls 3 [(0, .ref (ad 11 99)), (1, .int x1), (2, .int x2)]) : W p l e ({ frames := 2, cells := 0, slots := 0, locals := 43 } : Room) s m args below meth c H locs 0 0 (MQ below (wx_Q D ad rd ca A (some (.int r)) σ) args s 0 0 A) (F0 m 0 ls []) := by
  obtain ⟨hx, hb, hml, hr, hts, hown, hlk, hC, hA⟩ := id B
  unfold f_X5_ofTouch at h
  refine lv_iload_n hx hb dX5_ofTouch_0 rfl (lv_at hl 1 rfl) ?_
  refine lv_if_lt (tgt := 15) hx hb dX5_ofTouch_1 (by decide) (fun c1 => ?_) (fun c1 => ?_)
  · replace h := wx_ift c1 h
    exact b_X5_ofTouch_15 B h Z hS (lv_sub hl [0, 1, 2] rfl)
  · replace h := wx_iff c1 h
    refine lv_iload_n hx hb dX5_ofTouch_4 rfl (lv_at hl 1 rfl) ?_
    refine lv_aload_n hx hb dX5_ofTouch_5 rfl (lv_at hl 0 rfl) ?_
    refine wx_get (own := RX5) hx hb hts i_X5_ofTouch_5 hown hC.1 Z (o := 11) (ci := 5) rfl (rfl : vwCl[5]? = some (RX5, TX5, 7)) 0 (by decide) (hts _ k_X5_ofTouch_w0) (fun _ h9 => h9) (f := 107) rfl rfl dX5_ofTouch_6 ?_
    refine wx_getN (own := RX5) hx hb hts i_X5_ofTouch_0 hown hC.1 Z (o := 7) (ci := 0) rfl (rfl : vwCl[0]? = some (RX0, TX0, 13)) 3 (by decide) (wx_nst hC 6 rfl rfl) (fun _ h9 => h9) (f := 1) rfl rfl dX5_ofTouch_9 ?_
    refine lv_icmp_lt (tgt := 17) hx hb dX5_ofTouch_12 (by decide) (fun c12 => ?_) (fun c12 => ?_)
    · replace h := wx_ift c12 h
      refine lv_iload_n hx hb dX5_ofTouch_17 rfl (lv_at hl 2 rfl) ?_
      by_cases c18_0 : x2 = 0
      · replace h := wx_ift c18_0 h
        refine lv_tableIn (off := 30) (tgt := 48) hx hb dX5_ofTouch_18 (by rw [c18_0]; decide) (by rw [c18_0]; decide) (by rw [c18_0]; rfl) (by decide) ?_
        refine lv_aload_n hx hb dX5_ofTouch_48 rfl (lv_at hl 0 rfl) ?_
        refine wx_get (own := RX5) hx hb hts i_X5_ofTouch_5 hown hC.1 Z (o := 11) (ci := 5) rfl (rfl : vwCl[5]? = some (RX5, TX5, 7)) 0 (by decide) (hts _ k_X5_ofTouch_w0) (fun _ h9 => h9) (f := 107) rfl rfl dX5_ofTouch_49 ?_
        refine wx_getN (own := RX5) hx hb hts i_X5_ofTouch_0 hown hC.1 Z (o := 7) (ci := 0) rfl (rfl : vwCl[0]? = some (RX0, TX0, 13)) 4 (by decide) (wx_nst hC 7 rfl rfl) (fun _ h9 => h9) (f := 0) rfl rfl dX5_ofTouch_52 ?_
        refine lv_iload_n hx hb dX5_ofTouch_55 rfl (lv_at hl 1 rfl) ?_
        obtain ⟨v56, ev56, iv56, h⟩ := wx_rI_ok h
        refine wx_iald hx hb hC.1 Z (o := 7) (k := 4) (n := 3) rfl rfl iv56 dX5_ofTouch_56 ev56 ?_
        obtain rfl := Option.some.inj h
        exact W.iret hx hb hr (fun t ht hW => ⟨rfl, by rw [ht]; exact Z, hS.F ht⟩) hS.2.2 dX5_ofTouch_57
      · replace h := wx_iff c18_0 h
        by_cases c18_1 : x2 = 1
        · replace h := wx_ift c18_1 h
          refine lv_tableIn (off := 40) (tgt := 58) hx hb dX5_ofTouch_18 (by rw [c18_1]; decide) (by rw [c18_1]; decide) (by rw [c18_1]; rfl) (by decide) ?_
          refine lv_aload_n hx hb dX5_ofTouch_58 rfl (lv_at hl 0 rfl) ?_
          refine wx_get (own := RX5) hx hb hts i_X5_ofTouch_5 hown hC.1 Z (o := 11) (ci := 5) rfl (rfl : vwCl[5]? = some (RX5, TX5, 7)) 0 (by decide) (hts _ k_X5_ofTouch_w0) (fun _ h9 => h9) (f := 107) rfl rfl dX5_ofTouch_59 ?_
          refine wx_getN (own := RX5) hx hb hts i_X5_ofTouch_0 hown hC.1 Z (o := 7) (ci := 0) rfl (rfl : vwCl[0]? = some (RX0, TX0, 13)) 1 (by decide) (wx_nst hC 4 rfl rfl) (fun _ h9 => h9) (f := 0) rfl rfl dX5_ofTouch_62 ?_
          refine lv_aload_n hx hb dX5_ofTouch_65 rfl (lv_at hl 0 rfl) ?_
          refine wx_get (own := RX5) hx hb hts i_X5_ofTouch_5 hown hC.1 Z (o := 11) (ci := 5) rfl (rfl : vwCl[5]? = some (RX5, TX5, 7)) 0 (by decide) (hts _ k_X5_ofTouch_w0) (fun _ h9 => h9) (f := 107) rfl rfl dX5_ofTouch_66 ?_
          refine wx_getN (own := RX5) hx hb hts i_X5_ofTouch_0 hown hC.1 Z (o := 7) (ci := 0) rfl (rfl : vwCl[0]? = some (RX0, TX0, 13)) 4 (by decide) (wx_nst hC 7 rfl rfl) (fun _ h9 => h9) (f := 0) rfl rfl dX5_ofTouch_69 ?_
          refine lv_iload_n hx hb dX5_ofTouch_72 rfl (lv_at hl 1 rfl) ?_
          obtain ⟨v73, ev73, iv73, h⟩ := wx_rI_ok h
          refine wx_iald hx hb hC.1 Z (o := 7) (k := 4) (n := 3) rfl rfl iv73 dX5_ofTouch_73 ev73 ?_
          obtain ⟨v74, ev74, iv74, h⟩ := wx_rI_ok h
          refine wx_iald hx hb hC.1 Z (o := 7) (k := 1) (n := 64) rfl rfl iv74 dX5_ofTouch_74 ev74 ?_
          obtain rfl := Option.some.inj h
          exact W.iret hx hb hr (fun t ht hW => ⟨rfl, by rw [ht]; exact Z, hS.F ht⟩) hS.2.2 dX5_ofTouch_75
        · replace h := wx_iff c18_1 h
          by_cases c18_2 : x2 = 2
          · replace h := wx_ift c18_2 h
            refine lv_tableIn (off := 58) (tgt := 76) hx hb dX5_ofTouch_18 (by rw [c18_2]; decide) (by rw [c18_2]; decide) (by rw [c18_2]; rfl) (by decide) ?_
            refine lv_aload_n hx hb dX5_ofTouch_76 rfl (lv_at hl 0 rfl) ?_
            refine wx_get (own := RX5) hx hb hts i_X5_ofTouch_5 hown hC.1 Z (o := 11) (ci := 5) rfl (rfl : vwCl[5]? = some (RX5, TX5, 7)) 0 (by decide) (hts _ k_X5_ofTouch_w0) (fun _ h9 => h9) (f := 107) rfl rfl dX5_ofTouch_77 ?_
            refine wx_getN (own := RX5) hx hb hts i_X5_ofTouch_0 hown hC.1 Z (o := 7) (ci := 0) rfl (rfl : vwCl[0]? = some (RX0, TX0, 13)) 5 (by decide) (wx_nst hC 8 rfl rfl) (fun _ h9 => h9) (f := 0) rfl rfl dX5_ofTouch_80 ?_
            refine lv_iload_n hx hb dX5_ofTouch_83 rfl (lv_at hl 1 rfl) ?_
            obtain ⟨v84, ev84, iv84, h⟩ := wx_rI_ok h
            refine wx_iald hx hb hC.1 Z (o := 7) (k := 5) (n := 3) rfl rfl iv84 dX5_ofTouch_84 ev84 ?_
            obtain rfl := Option.some.inj h
            exact W.iret hx hb hr (fun t ht hW => ⟨rfl, by rw [ht]; exact Z, hS.F ht⟩) hS.2.2 dX5_ofTouch_85
          · replace h := wx_iff c18_2 h
            by_cases c18_3 : x2 = 3
            · replace h := wx_ift c18_3 h
              refine lv_tableIn (off := 68) (tgt := 86) hx hb dX5_ofTouch_18 (by rw [c18_3]; decide) (by rw [c18_3]; decide) (by rw [c18_3]; rfl) (by decide) ?_
              refine lv_aload_n hx hb dX5_ofTouch_86 rfl (lv_at hl 0 rfl) ?_
              refine wx_get (own := RX5) hx hb hts i_X5_ofTouch_5 hown hC.1 Z (o := 11) (ci := 5) rfl (rfl : vwCl[5]? = some (RX5, TX5, 7)) 0 (by decide) (hts _ k_X5_ofTouch_w0) (fun _ h9 => h9) (f := 107) rfl rfl dX5_ofTouch_87 ?_
              refine lv_iload_n hx hb dX5_ofTouch_90 rfl (lv_at hl 1 rfl) ?_
              obtain ⟨v91, hc91, h⟩ := wx_o_ok h
              refine wx_call (va_runVN (As := [.int x1]) (rest := []) ⟨hx, hb, hml, hown, hts⟩ (c_X0_isLive l (D := D) (ad := ad) (rd := rd) (ca := ca) (A := A) (σ := σ) (o := 7) (by decide : 7 < 11) hc91) ⟨va_cnB 1 hts gX5_ofTouch_X0_isLive_n142 rfl rfl rfl (hC.1.2.1 _ (List.mem_of_getElem? (i := 58) rfl)) (hts _ k_X5_ofTouch_w1) (by decide +kernel) ⟨Nat.le_of_ble_eq_true rfl, Nat.le_of_ble_eq_true rfl⟩, hts _ k_X5_ofTouch_w2, hts _ k_X5_ofTouch_w3⟩ (wx_preV hC Z hS hA rfl (rfl : vwCl[0]? = some (RX0, TX0, 13))) rfl rfl hl.1 rfl (lv_room (Nat.le_of_ble_eq_true rfl)) dX5_ofTouch_91 ⟨Nat.zero_le _, Nat.zero_le _⟩) hS (fun H locs Z hS => ?_)
              refine lv_if_eq (tgt := 101) hx hb dX5_ofTouch_94 (by decide) (fun c94 => ?_) (fun c94 => ?_)
              · replace h := wx_ift c94 h
                refine lv_iconst (v := 0) hx hb dX5_ofTouch_101 (by decide) ?_
                exact b_X5_ofTouch_102 B h Z hS (lv_sub hl [0, 1, 2] rfl)
              · replace h := wx_iff c94 h
                refine lv_iconst (v := 1) hx hb dX5_ofTouch_97 (by decide) ?_
                refine lv_goto (tgt := 102) hx hb dX5_ofTouch_98 (by decide) ?_
                exact b_X5_ofTouch_102 B h Z hS (lv_sub hl [0, 1, 2] rfl)
            · replace h := wx_iff c18_3 h
              have n18_0 := wx_ni c18_0
              have n18_1 := wx_ni c18_1
              have n18_2 := wx_ni c18_2
              have n18_3 := wx_ni c18_3
              rw [show (0 : Int32).toInt = 0 from by decide] at n18_0
              rw [show (1 : Int32).toInt = 1 from by decide] at n18_1
              rw [show (2 : Int32).toInt = 2 from by decide] at n18_2
              rw [show (3 : Int32).toInt = 3 from by decide] at n18_3
              refine lv_tableOut (tgt := 103) hx hb dX5_ofTouch_18 (by omega) (by decide) ?_
              refine lv_bipush (v := (-2)) hx hb dX5_ofTouch_103 (by decide) ?_
              obtain rfl := Option.some.inj h
              exact W.iret hx hb hr (fun t ht hW => ⟨rfl, by rw [ht]; exact Z, hS.F ht⟩) hS.2.2 dX5_ofTouch_105
    · replace h := wx_iff c12 h
      exact b_X5_ofTouch_15 B h Z hS (lv_sub hl [0, 1, 2] rfl)
set_option maxRecDepth 20000 in
theorem c_X5_ofTouch (l : Launch) {D : va_G} {ad : Nat → Nat → Nat} {rd : Nat → Nat} {ca : Nat → ClassId} {A : Nat → Prop} {σ : wx_St}    {x1 : Int32} {x2 : Int32} {r : Int32} (h : f_X5_ofTouch x1 x2 σ = some r) : wx_M l yX5_ofTouch wsX5_ofTouch 2 43 D ad rd ca A [.ref (ad 11 99), .int x1, .int x2] σ (some (.int r)) σ := by
  refine Met.ofW (cc := cX5_ofTouch) (maxL := 3) (ret := (some .int)) (by decide +kernel) rfl ?_
  intro p e s m args below meth c s₁ B0 hml hv
  obtain ⟨rfl, hC, Z, hA⟩ := hv
  have hl := lv_entry ([.ref (ad 11 99), .int x1, .int x2]) (n := 3) (Nat.le_of_ble_eq_true rfl)
  rw [lg_entry_eq]
  generalize (lg_sl ([.ref (ad 11 99), .int x1, .int x2]) ++ List.replicate (3 - (lg_sl ([.ref (ad 11 99), .int x1, .int x2])).length) Slot.unset).toArray = ls at hl ⊢
  exact b_X5_ofTouch_0 ⟨B0.exec, B0.bytes, hml, B0.returns, atoms_spec (ws := wsX5_ofTouch) B0.pre, findClass_of_methodNamed B0.named, B0.notSynchronized, hC, hA⟩   h Z va_S.rf hl
theorem i_X5_reading_0 : ∀ w ∈ wsX00, w ∈ wsX5_reading := by decide +kernel
theorem i_X5_reading_5 : ∀ w ∈ wsX50, w ∈ wsX5_reading := by decide +kernel
theorem k_X5_reading_w0 : Cond.fieldLink RX5 10 "WarmProbes" "board" "LWarmProbes$Board;" ∈ wsX5_reading := by decide +kernel
set_option maxRecDepth 20000 in
set_option maxHeartbeats 4000000 in
theorem b_X5_reading_15 (B : wx_B p s m args meth c cX5_reading 3 (some .int) wsX5_reading RX5 D ad ca A)    {r : Int32} {σ : wx_St}  {x1 : Int32} {x2 : Int32}   (h : f_X5_reading_15 x1 x2 σ = some r) {H : Heap} {locs : List Loc} (Z : wx_Z D ad rd ca A σ H) (hS : va_S A s.heap H locs) {ls : Array Slot} (hl : lv_has ls 3 [(0, .ref (ad 11 99)), (1, .int x1), (2, .int x2)]) : W p l e ({ frames := 0, cells := 0, slots := 0, locals := 0 } : Room) s m args below meth c H locs 0 0 (MQ below (wx_Q D ad rd ca A (some (.int r)) σ) args s 0 0 A) (F0 m 15 ls []) := by
  obtain ⟨hx, hb, hml, hr, hts, hown, hlk, hC, hA⟩ := id B
  unfold f_X5_reading_15 at h
  refine lv_iconst (v := (-1)) hx hb dX5_reading_15 (by decide) ?_
  obtain rfl := Option.some.inj h
  exact W.iret hx hb hr (fun t ht hW => ⟨rfl, by rw [ht]; exact Z, hS.F ht⟩) hS.2.2 dX5_reading_16
set_option maxRecDepth 20000 in
set_option maxHeartbeats 4000000 in
theorem b_X5_reading_0 (B : wx_B p s m args meth c cX5_reading 3 (some .int) wsX5_reading RX5 D ad ca A)    {r : Int32} {σ : wx_St}  {x1 : Int32} {x2 : Int32}   (h : f_X5_reading x1 x2 σ = some r) {H : Heap} {locs : List Loc} (Z : wx_Z D ad rd ca A σ H) (hS : va_S A s.heap H locs) {ls : Array Slot} (hl : lv_has ls 3 [(0, .ref (ad 11 99)), (1, .int x1), (2, .int x2)]) : W p l e ({ frames := 0, cells := 0, slots := 0, locals := 0 } : Room) s m args below meth c H locs 0 0 (MQ below (wx_Q D ad rd ca A (some (.int r)) σ) args s 0 0 A) (F0 m 0 ls []) := by
  obtain ⟨hx, hb, hml, hr, hts, hown, hlk, hC, hA⟩ := id B
  unfold f_X5_reading at h
  refine lv_iload_n hx hb dX5_reading_0 rfl (lv_at hl 1 rfl) ?_
  refine lv_if_lt (tgt := 15) hx hb dX5_reading_1 (by decide) (fun c1 => ?_) (fun c1 => ?_)
  · replace h := wx_ift c1 h
    exact b_X5_reading_15 B h Z hS (lv_sub hl [0, 1, 2] rfl)
  · replace h := wx_iff c1 h
    refine lv_iload_n hx hb dX5_reading_4 rfl (lv_at hl 1 rfl) ?_
    refine lv_aload_n hx hb dX5_reading_5 rfl (lv_at hl 0 rfl) ?_
    refine wx_get (own := RX5) hx hb hts i_X5_reading_5 hown hC.1 Z (o := 11) (ci := 5) rfl (rfl : vwCl[5]? = some (RX5, TX5, 7)) 0 (by decide) (hts _ k_X5_reading_w0) (fun _ h9 => h9) (f := 107) rfl rfl dX5_reading_6 ?_
    refine wx_getN (own := RX5) hx hb hts i_X5_reading_0 hown hC.1 Z (o := 7) (ci := 0) rfl (rfl : vwCl[0]? = some (RX0, TX0, 13)) 9 (by decide) (wx_nst hC 13 rfl rfl) (fun _ h9 => h9) (f := 1) rfl rfl dX5_reading_9 ?_
    refine lv_icmp_lt (tgt := 17) hx hb dX5_reading_12 (by decide) (fun c12 => ?_) (fun c12 => ?_)
    · replace h := wx_ift c12 h
      refine lv_iload_n hx hb dX5_reading_17 rfl (lv_at hl 2 rfl) ?_
      by_cases c18_0 : x2 = 0
      · replace h := wx_ift c18_0 h
        refine lv_tableIn (off := 26) (tgt := 44) hx hb dX5_reading_18 (by rw [c18_0]; decide) (by rw [c18_0]; decide) (by rw [c18_0]; rfl) (by decide) ?_
        refine lv_aload_n hx hb dX5_reading_44 rfl (lv_at hl 0 rfl) ?_
        refine wx_get (own := RX5) hx hb hts i_X5_reading_5 hown hC.1 Z (o := 11) (ci := 5) rfl (rfl : vwCl[5]? = some (RX5, TX5, 7)) 0 (by decide) (hts _ k_X5_reading_w0) (fun _ h9 => h9) (f := 107) rfl rfl dX5_reading_45 ?_
        refine wx_getN (own := RX5) hx hb hts i_X5_reading_0 hown hC.1 Z (o := 7) (ci := 0) rfl (rfl : vwCl[0]? = some (RX0, TX0, 13)) 10 (by decide) (wx_nst hC 15 rfl rfl) (fun _ h9 => h9) (f := 0) rfl rfl dX5_reading_48 ?_
        refine lv_iload_n hx hb dX5_reading_51 rfl (lv_at hl 1 rfl) ?_
        obtain ⟨v52, ev52, iv52, h⟩ := wx_rI_ok h
        refine wx_iald hx hb hC.1 Z (o := 7) (k := 10) (n := 8) rfl rfl iv52 dX5_reading_52 ev52 ?_
        obtain rfl := Option.some.inj h
        exact W.iret hx hb hr (fun t ht hW => ⟨rfl, by rw [ht]; exact Z, hS.F ht⟩) hS.2.2 dX5_reading_53
      · replace h := wx_iff c18_0 h
        by_cases c18_1 : x2 = 1
        · replace h := wx_ift c18_1 h
          refine lv_tableIn (off := 36) (tgt := 54) hx hb dX5_reading_18 (by rw [c18_1]; decide) (by rw [c18_1]; decide) (by rw [c18_1]; rfl) (by decide) ?_
          refine lv_aload_n hx hb dX5_reading_54 rfl (lv_at hl 0 rfl) ?_
          refine wx_get (own := RX5) hx hb hts i_X5_reading_5 hown hC.1 Z (o := 11) (ci := 5) rfl (rfl : vwCl[5]? = some (RX5, TX5, 7)) 0 (by decide) (hts _ k_X5_reading_w0) (fun _ h9 => h9) (f := 107) rfl rfl dX5_reading_55 ?_
          refine wx_getN (own := RX5) hx hb hts i_X5_reading_0 hown hC.1 Z (o := 7) (ci := 0) rfl (rfl : vwCl[0]? = some (RX0, TX0, 13)) 11 (by decide) (wx_nst hC 17 rfl rfl) (fun _ h9 => h9) (f := 0) rfl rfl dX5_reading_58 ?_
          refine lv_iload_n hx hb dX5_reading_61 rfl (lv_at hl 1 rfl) ?_
          obtain ⟨v62, ev62, iv62, h⟩ := wx_rI_ok h
          refine wx_iald hx hb hC.1 Z (o := 7) (k := 11) (n := 8) rfl rfl iv62 dX5_reading_62 ev62 ?_
          obtain rfl := Option.some.inj h
          exact W.iret hx hb hr (fun t ht hW => ⟨rfl, by rw [ht]; exact Z, hS.F ht⟩) hS.2.2 dX5_reading_63
        · replace h := wx_iff c18_1 h
          by_cases c18_2 : x2 = 2
          · replace h := wx_ift c18_2 h
            refine lv_tableIn (off := 46) (tgt := 64) hx hb dX5_reading_18 (by rw [c18_2]; decide) (by rw [c18_2]; decide) (by rw [c18_2]; rfl) (by decide) ?_
            refine lv_aload_n hx hb dX5_reading_64 rfl (lv_at hl 0 rfl) ?_
            refine wx_get (own := RX5) hx hb hts i_X5_reading_5 hown hC.1 Z (o := 11) (ci := 5) rfl (rfl : vwCl[5]? = some (RX5, TX5, 7)) 0 (by decide) (hts _ k_X5_reading_w0) (fun _ h9 => h9) (f := 107) rfl rfl dX5_reading_65 ?_
            refine wx_getN (own := RX5) hx hb hts i_X5_reading_0 hown hC.1 Z (o := 7) (ci := 0) rfl (rfl : vwCl[0]? = some (RX0, TX0, 13)) 12 (by decide) (wx_nst hC 19 rfl rfl) (fun _ h9 => h9) (f := 0) rfl rfl dX5_reading_68 ?_
            refine lv_iload_n hx hb dX5_reading_71 rfl (lv_at hl 1 rfl) ?_
            obtain ⟨v72, ev72, iv72, h⟩ := wx_rI_ok h
            refine wx_iald hx hb hC.1 Z (o := 7) (k := 12) (n := 8) rfl rfl iv72 dX5_reading_72 ev72 ?_
            obtain rfl := Option.some.inj h
            exact W.iret hx hb hr (fun t ht hW => ⟨rfl, by rw [ht]; exact Z, hS.F ht⟩) hS.2.2 dX5_reading_73
          · replace h := wx_iff c18_2 h
            have n18_0 := wx_ni c18_0
            have n18_1 := wx_ni c18_1
            have n18_2 := wx_ni c18_2
            rw [show (0 : Int32).toInt = 0 from by decide] at n18_0
            rw [show (1 : Int32).toInt = 1 from by decide] at n18_1
            rw [show (2 : Int32).toInt = 2 from by decide] at n18_2
            refine lv_tableOut (tgt := 74) hx hb dX5_reading_18 (by omega) (by decide) ?_
            refine lv_bipush (v := (-2)) hx hb dX5_reading_74 (by decide) ?_
            obtain rfl := Option.some.inj h
            exact W.iret hx hb hr (fun t ht hW => ⟨rfl, by rw [ht]; exact Z, hS.F ht⟩) hS.2.2 dX5_reading_76
    · replace h := wx_iff c12 h
      exact b_X5_reading_15 B h Z hS (lv_sub hl [0, 1, 2] rfl)
set_option maxRecDepth 20000 in
theorem c_X5_reading (l : Launch) {D : va_G} {ad : Nat → Nat → Nat} {rd : Nat → Nat} {ca : Nat → ClassId} {A : Nat → Prop} {σ : wx_St}    {x1 : Int32} {x2 : Int32} {r : Int32} (h : f_X5_reading x1 x2 σ = some r) : wx_M l yX5_reading wsX5_reading 0 0 D ad rd ca A [.ref (ad 11 99), .int x1, .int x2] σ (some (.int r)) σ := by
  refine Met.ofW (cc := cX5_reading) (maxL := 3) (ret := (some .int)) (by decide +kernel) rfl ?_
  intro p e s m args below meth c s₁ B0 hml hv
  obtain ⟨rfl, hC, Z, hA⟩ := hv
  have hl := lv_entry ([.ref (ad 11 99), .int x1, .int x2]) (n := 3) (Nat.le_of_ble_eq_true rfl)
  rw [lg_entry_eq]
  generalize (lg_sl ([.ref (ad 11 99), .int x1, .int x2]) ++ List.replicate (3 - (lg_sl ([.ref (ad 11 99), .int x1, .int x2])).length) Slot.unset).toArray = ls at hl ⊢
  exact b_X5_reading_0 ⟨B0.exec, B0.bytes, hml, B0.returns, atoms_spec (ws := wsX5_reading) B0.pre, findClass_of_methodNamed B0.named, B0.notSynchronized, hC, hA⟩   h Z va_S.rf hl
theorem k_X5_columnsOf_w0 : Cond.constantLong RX5 256 (255) ∈ wsX5_columnsOf := by decide +kernel
set_option maxRecDepth 20000 in
set_option maxHeartbeats 4000000 in
theorem b_X5_columnsOf_0 (B : wx_B p s m args meth c cX5_columnsOf 3 (some .int) wsX5_columnsOf RX5 D ad ca A)    {r : Int32} {σ : wx_St}  {x0 : Int64} {x2 : Int32}   (h : f_X5_columnsOf x0 x2 = some r) {H : Heap} {locs : List Loc} (Z : wx_Z D ad rd ca A σ H) (hS : va_S A s.heap H locs) {ls : Array Slot} (hl : lv_has ls 3 [(0, .long x0), (2, .int x2)]) : W p l e ({ frames := 0, cells := 0, slots := 0, locals := 0 } : Room) s m args below meth c H locs 0 0 (MQ below (wx_Q D ad rd ca A (some (.int r)) σ) args s 0 0 A) (F0 m 0 ls []) := by
  obtain ⟨hx, hb, hml, hr, hts, hown, hlk, hC, hA⟩ := id B
  unfold f_X5_columnsOf at h
  refine lv_lload_n hx hb dX5_columnsOf_0 rfl (lv_at hl 0 rfl) ?_
  refine lv_bipush (v := 8) hx hb dX5_columnsOf_1 (by decide) ?_
  refine lv_iload_n hx hb dX5_columnsOf_3 rfl (lv_at hl 1 rfl) ?_
  refine lv_imul hx hb dX5_columnsOf_4 ?_
  refine lv_lushr (v := (x0.toUInt64 >>> ((8 * x2).toInt64.toUInt64 &&& Int64.toUInt64 63)).toInt64) hx hb dX5_columnsOf_5 rfl ?_
  refine lv_ldc2 hx hb hown (hts _ k_X5_columnsOf_w0) dX5_columnsOf_6 ?_
  refine lv_land hx hb dX5_columnsOf_9 ?_
  refine lv_l2i (v := (((x0.toUInt64 >>> ((8 * x2).toInt64.toUInt64 &&& Int64.toUInt64 63)).toInt64) &&& (255 : Int64)).toInt32) hx hb dX5_columnsOf_10 rfl ?_
  obtain rfl := Option.some.inj h
  exact W.iret hx hb hr (fun t ht hW => ⟨rfl, by rw [ht]; exact Z, hS.F ht⟩) hS.2.2 dX5_columnsOf_11
set_option maxRecDepth 20000 in
theorem c_X5_columnsOf (l : Launch) {D : va_G} {ad : Nat → Nat → Nat} {rd : Nat → Nat} {ca : Nat → ClassId} {A : Nat → Prop} {σ : wx_St}    {x0 : Int64} {x2 : Int32} {r : Int32} (h : f_X5_columnsOf x0 x2 = some r) : wx_M l yX5_columnsOf wsX5_columnsOf 0 0 D ad rd ca A [.long x0, .int x2] σ (some (.int r)) σ := by
  refine Met.ofW (cc := cX5_columnsOf) (maxL := 3) (ret := (some .int)) (by decide +kernel) rfl ?_
  intro p e s m args below meth c s₁ B0 hml hv
  obtain ⟨rfl, hC, Z, hA⟩ := hv
  have hl := lv_entry ([.long x0, .int x2]) (n := 3) (Nat.le_of_ble_eq_true rfl)
  rw [lg_entry_eq]
  generalize (lg_sl ([.long x0, .int x2]) ++ List.replicate (3 - (lg_sl ([.long x0, .int x2])).length) Slot.unset).toArray = ls at hl ⊢
  exact b_X5_columnsOf_0 ⟨B0.exec, B0.bytes, hml, B0.returns, atoms_spec (ws := wsX5_columnsOf) B0.pre, findClass_of_methodNamed B0.named, B0.notSynchronized, hC, hA⟩   h Z va_S.rf hl
theorem i_X5_row_5 : ∀ w ∈ wsX50, w ∈ wsX5_row := by decide +kernel
theorem k_X5_row_w0 : Cond.fieldLink RX5 10 "WarmProbes" "board" "LWarmProbes$Board;" ∈ wsX5_row := by decide +kernel
theorem k_X5_row_w1 : Cond.initialized RX0 ∈ wsX5_row := by decide +kernel
theorem k_X5_row_w2 : Cond.instanceMethod yX0_tracked ∈ wsX5_row := by decide +kernel
theorem k_X5_row_w3 : Cond.selects RX0 yX0_tracked yX0_tracked ∈ wsX5_row := by decide +kernel
theorem k_X5_row_w4 : Cond.instanceMethod yX0_suspects ∈ wsX5_row := by decide +kernel
theorem k_X5_row_w5 : Cond.selects RX0 yX0_suspects yX0_suspects ∈ wsX5_row := by decide +kernel
theorem k_X5_row_w6 : Cond.fieldLink RX5 22 "WarmProbes" "suspicion" "LWarmProbes$Suspicion;" ∈ wsX5_row := by decide +kernel
theorem k_X5_row_w7 : Cond.initialized RX4 ∈ wsX5_row := by decide +kernel
theorem k_X5_row_w8 : Cond.instanceMethod yX4_fitting ∈ wsX5_row := by decide +kernel
theorem k_X5_row_w9 : Cond.selects RX4 yX4_fitting yX4_fitting ∈ wsX5_row := by decide +kernel
set_option maxRecDepth 20000 in
set_option maxHeartbeats 4000000 in
theorem m_X5_row_10  {r : Int32} {σ' : wx_St}  {x1 : Int32} {x2 : Int32} {σ : wx_St} (h : f_X5_row_10 x1 x2 σ = some (r, σ')) : wx_n σ.2.2.2.2 ≤ wx_n σ'.2.2.2.2 := by
  unfold f_X5_row_10 at h
  obtain ⟨rfl, rfl⟩ := wx_ret_ok h
  exact Nat.le_refl _
set_option maxRecDepth 20000 in
set_option maxHeartbeats 4000000 in
theorem b_X5_row_10 (B : wx_B p s m args meth c cX5_row 3 (some .int) wsX5_row RX5 D ad ca A)    {r : Int32} {σ' : wx_St} {mc : Nat}  {x1 : Int32} {x2 : Int32} {σ : wx_St} {k : Nat} (hk : k + wx_n σ'.2.2.2.2 ≤ mc + wx_n σ.2.2.2.2)  (h : f_X5_row_10 x1 x2 σ = some (r, σ')) {rd : Nat → Nat} {H : Heap} {locs : List Loc} (Z : wx_Z D ad rd ca A σ H) (hS : va_S A s.heap H locs) {ls : Array Slot} (hl : lv_has ls 3 [(0, .ref (ad 11 99)), (1, .int x1), (2, .int x2)]) : W p l e ({ frames := 6, cells := mc, slots := 6464 * mc, locals := 152 } : Room) s m args below meth c H locs k (6464 * k) (MQ below (wx_QA D ad ca A (some (.int r)) σ') args s mc (6464 * mc) A) (F0 m 10 ls []) := by
  obtain ⟨hx, hb, hml, hr, hts, hown, hlk, hC, hA⟩ := id B
  have hm := m_X5_row_10 h
  unfold f_X5_row_10 at h
  refine lv_iconst (v := (-1)) hx hb dX5_row_10 (by decide) ?_
  obtain ⟨rfl, rfl⟩ := wx_ret_ok h
  refine W.widen (k := mc) (n := 6464 * mc) (by omega) (by omega) ?_
  exact W.iret hx hb hr (fun t ht hW => ⟨rfl, ⟨_, by rw [ht]; exact Z⟩, hS.F ht⟩) hS.2.2 dX5_row_11
set_option maxRecDepth 20000 in
set_option maxHeartbeats 4000000 in
theorem m_X5_row_75  {r : Int32} {σ' : wx_St}  {x1 : Int32} {x2 : Int32} {y0 : Int64} {σ : wx_St} (h : f_X5_row_75 x1 x2 y0 σ = some (r, σ')) : wx_n σ.2.2.2.2 ≤ wx_n σ'.2.2.2.2 := by
  unfold f_X5_row_75 at h
  obtain ⟨v76, hc76, h⟩ := wx_o_ok h
  obtain ⟨rfl, rfl⟩ := wx_ret_ok h
  exact Nat.le_refl _
set_option maxRecDepth 20000 in
set_option maxHeartbeats 4000000 in
theorem b_X5_row_75 (B : wx_B p s m args meth c cX5_row 3 (some .int) wsX5_row RX5 D ad ca A)    {r : Int32} {σ' : wx_St} {mc : Nat}  {x1 : Int32} {x2 : Int32} {y0 : Int64} {σ : wx_St} {k : Nat} (hk : k + wx_n σ'.2.2.2.2 ≤ mc + wx_n σ.2.2.2.2)  (h : f_X5_row_75 x1 x2 y0 σ = some (r, σ')) {rd : Nat → Nat} {H : Heap} {locs : List Loc} (Z : wx_Z D ad rd ca A σ H) (hS : va_S A s.heap H locs) {ls : Array Slot} (hl : lv_has ls 3 [(0, .ref (ad 11 99)), (1, .int x1), (2, .int x2)]) : W p l e ({ frames := 6, cells := mc, slots := 6464 * mc, locals := 152 } : Room) s m args below meth c H locs k (6464 * k) (MQ below (wx_QA D ad ca A (some (.int r)) σ') args s mc (6464 * mc) A) (F0 m 75 ls [.long y0]) := by
  obtain ⟨hx, hb, hml, hr, hts, hown, hlk, hC, hA⟩ := id B
  have hm := m_X5_row_75 h
  unfold f_X5_row_75 at h
  refine lv_iload_n hx hb dX5_row_75 rfl (lv_at hl 1 rfl) ?_
  obtain ⟨v76, hc76, h⟩ := wx_o_ok h
  refine wx_call (va_runS (As := [.long y0, .int x1]) (rest := []) ⟨hx, hb, hml, hown, hts⟩ (c_X5_columnsOf l (D := D) (ad := ad) (rd := rd) (ca := ca) (A := A) (σ := σ) hc76) (va_cwS 2 hts gX5_row_X5_columnsOf rfl rfl rfl (by decide +kernel) ⟨Nat.le_of_ble_eq_true rfl, Nat.le_of_ble_eq_true rfl⟩) (wx_preS hC Z hS hA) rfl rfl hl.1 rfl (lv_room (Nat.le_of_ble_eq_true rfl)) dX5_row_76 ⟨(by show k + 0 ≤ mc; omega), (by show 6464 * k + 0 ≤ 6464 * mc; omega)⟩) hS (fun H locs Z hS => ?_)
  obtain ⟨rfl, rfl⟩ := wx_ret_ok h
  refine W.widen (k := mc) (n := 6464 * mc) (by omega) (by omega) ?_
  exact W.iret hx hb hr (fun t ht hW => ⟨rfl, ⟨_, by rw [ht]; exact Z⟩, hS.F ht⟩) hS.2.2 dX5_row_79
set_option maxRecDepth 20000 in
set_option maxHeartbeats 4000000 in
theorem m_X5_row_0  {r : Int32} {σ' : wx_St}  {x1 : Int32} {x2 : Int32} {σ : wx_St} (h : f_X5_row x1 x2 σ = some (r, σ')) : wx_n σ.2.2.2.2 ≤ wx_n σ'.2.2.2.2 := by
  unfold f_X5_row at h
  by_cases c1 : x1 < 0
  · replace h := wx_ift c1 h
    exact m_X5_row_10 h
  · replace h := wx_iff c1 h
    by_cases c7 : x1 < 8
    · replace h := wx_ift c7 h
      by_cases c13_0 : x2 = 0
      · replace h := wx_ift c13_0 h
        obtain ⟨v44, hc44, h⟩ := wx_o_ok h
        obtain ⟨v48, hc48, h⟩ := wx_o_ok h
        obtain ⟨rfl, rfl⟩ := wx_ret_ok h
        exact Nat.le_refl _
      · replace h := wx_iff c13_0 h
        by_cases c13_1 : x2 = 1
        · replace h := wx_ift c13_1 h
          obtain ⟨v56, hc56, h⟩ := wx_o_ok h
          obtain ⟨v60, hc60, h⟩ := wx_o_ok h
          obtain ⟨rfl, rfl⟩ := wx_ret_ok h
          exact Nat.le_refl _
        · replace h := wx_iff c13_1 h
          by_cases c13_2 : x2 = 2
          · replace h := wx_ift c13_2 h
            obtain ⟨v72, σ72, hc72, h⟩ := wx_b_ok h
            refine Nat.le_trans (m_X4_fitting_0 hc72) ?_
            exact m_X5_row_75 h
          · replace h := wx_iff c13_2 h
            obtain ⟨rfl, rfl⟩ := wx_ret_ok h
            exact Nat.le_refl _
    · replace h := wx_iff c7 h
      exact m_X5_row_10 h
set_option maxRecDepth 20000 in
set_option maxHeartbeats 4000000 in
theorem b_X5_row_0 (B : wx_B p s m args meth c cX5_row 3 (some .int) wsX5_row RX5 D ad ca A)    {r : Int32} {σ' : wx_St} {mc : Nat}  {x1 : Int32} {x2 : Int32} {σ : wx_St} {k : Nat} (hk : k + wx_n σ'.2.2.2.2 ≤ mc + wx_n σ.2.2.2.2)  (h : f_X5_row x1 x2 σ = some (r, σ')) {rd : Nat → Nat} {H : Heap} {locs : List Loc} (Z : wx_Z D ad rd ca A σ H) (hS : va_S A s.heap H locs) {ls : Array Slot} (hl : lv_has ls 3 [(0, .ref (ad 11 99)), (1, .int x1), (2, .int x2)]) : W p l e ({ frames := 6, cells := mc, slots := 6464 * mc, locals := 152 } : Room) s m args below meth c H locs k (6464 * k) (MQ below (wx_QA D ad ca A (some (.int r)) σ') args s mc (6464 * mc) A) (F0 m 0 ls []) := by
  obtain ⟨hx, hb, hml, hr, hts, hown, hlk, hC, hA⟩ := id B
  have hm := m_X5_row_0 h
  unfold f_X5_row at h
  refine lv_iload_n hx hb dX5_row_0 rfl (lv_at hl 1 rfl) ?_
  refine lv_if_lt (tgt := 10) hx hb dX5_row_1 (by decide) (fun c1 => ?_) (fun c1 => ?_)
  · replace h := wx_ift c1 h
    exact b_X5_row_10 B (k := k) hk h Z hS (lv_sub hl [0, 1, 2] rfl)
  · replace h := wx_iff c1 h
    refine lv_iload_n hx hb dX5_row_4 rfl (lv_at hl 1 rfl) ?_
    refine lv_bipush (v := 8) hx hb dX5_row_5 (by decide) ?_
    refine lv_icmp_lt (tgt := 12) hx hb dX5_row_7 (by decide) (fun c7 => ?_) (fun c7 => ?_)
    · replace h := wx_ift c7 h
      refine lv_iload_n hx hb dX5_row_12 rfl (lv_at hl 2 rfl) ?_
      by_cases c13_0 : x2 = 0
      · replace h := wx_ift c13_0 h
        refine lv_tableIn (off := 27) (tgt := 40) hx hb dX5_row_13 (by rw [c13_0]; decide) (by rw [c13_0]; decide) (by rw [c13_0]; rfl) (by decide) ?_
        refine lv_aload_n hx hb dX5_row_40 rfl (lv_at hl 0 rfl) ?_
        refine wx_get (own := RX5) hx hb hts i_X5_row_5 hown hC.1 Z (o := 11) (ci := 5) rfl (rfl : vwCl[5]? = some (RX5, TX5, 7)) 0 (by decide) (hts _ k_X5_row_w0) (fun _ h9 => h9) (f := 107) rfl rfl dX5_row_41 ?_
        obtain ⟨v44, hc44, h⟩ := wx_o_ok h
        refine wx_call (va_runVN (As := []) (rest := []) ⟨hx, hb, hml, hown, hts⟩ (c_X0_tracked l (D := D) (ad := ad) (rd := rd) (ca := ca) (A := A) (σ := σ) (o := 7) (by decide : 7 < 11) hc44) ⟨va_cnB 0 hts gX5_row_X0_tracked_n118 rfl rfl rfl (hC.1.2.1 _ (List.mem_of_getElem? (i := 55) rfl)) (hts _ k_X5_row_w1) (by decide +kernel) ⟨Nat.le_of_ble_eq_true rfl, Nat.le_of_ble_eq_true rfl⟩, hts _ k_X5_row_w2, hts _ k_X5_row_w3⟩ (wx_preV hC Z hS hA rfl (rfl : vwCl[0]? = some (RX0, TX0, 13))) rfl rfl hl.1 rfl (lv_room (Nat.le_of_ble_eq_true rfl)) dX5_row_44 ⟨(by show k + 0 ≤ mc; omega), (by show 6464 * k + 0 ≤ 6464 * mc; omega)⟩) hS (fun H locs Z hS => ?_)
        refine lv_iload_n hx hb dX5_row_47 rfl (lv_at hl 1 rfl) ?_
        obtain ⟨v48, hc48, h⟩ := wx_o_ok h
        refine wx_call (va_runS (As := [.long v44, .int x1]) (rest := []) ⟨hx, hb, hml, hown, hts⟩ (c_X5_columnsOf l (D := D) (ad := ad) (rd := rd) (ca := ca) (A := A) (σ := σ) hc48) (va_cwS 2 hts gX5_row_X5_columnsOf rfl rfl rfl (by decide +kernel) ⟨Nat.le_of_ble_eq_true rfl, Nat.le_of_ble_eq_true rfl⟩) (wx_preS hC Z hS hA) rfl rfl hl.1 rfl (lv_room (Nat.le_of_ble_eq_true rfl)) dX5_row_48 ⟨(by show k + 0 ≤ mc; omega), (by show 6464 * k + 0 ≤ 6464 * mc; omega)⟩) hS (fun H locs Z hS => ?_)
        obtain ⟨rfl, rfl⟩ := wx_ret_ok h
        refine W.widen (k := mc) (n := 6464 * mc) (by omega) (by omega) ?_
        exact W.iret hx hb hr (fun t ht hW => ⟨rfl, ⟨_, by rw [ht]; exact Z⟩, hS.F ht⟩) hS.2.2 dX5_row_51
      · replace h := wx_iff c13_0 h
        by_cases c13_1 : x2 = 1
        · replace h := wx_ift c13_1 h
          refine lv_tableIn (off := 39) (tgt := 52) hx hb dX5_row_13 (by rw [c13_1]; decide) (by rw [c13_1]; decide) (by rw [c13_1]; rfl) (by decide) ?_
          refine lv_aload_n hx hb dX5_row_52 rfl (lv_at hl 0 rfl) ?_
          refine wx_get (own := RX5) hx hb hts i_X5_row_5 hown hC.1 Z (o := 11) (ci := 5) rfl (rfl : vwCl[5]? = some (RX5, TX5, 7)) 0 (by decide) (hts _ k_X5_row_w0) (fun _ h9 => h9) (f := 107) rfl rfl dX5_row_53 ?_
          obtain ⟨v56, hc56, h⟩ := wx_o_ok h
          refine wx_call (va_runVN (As := []) (rest := []) ⟨hx, hb, hml, hown, hts⟩ (c_X0_suspects l (D := D) (ad := ad) (rd := rd) (ca := ca) (A := A) (σ := σ) (o := 7) (by decide : 7 < 11) hc56) ⟨va_cnB 0 hts gX5_row_X0_suspects_n126 rfl rfl rfl (hC.1.2.1 _ (List.mem_of_getElem? (i := 56) rfl)) (hts _ k_X5_row_w1) (by decide +kernel) ⟨Nat.le_of_ble_eq_true rfl, Nat.le_of_ble_eq_true rfl⟩, hts _ k_X5_row_w4, hts _ k_X5_row_w5⟩ (wx_preV hC Z hS hA rfl (rfl : vwCl[0]? = some (RX0, TX0, 13))) rfl rfl hl.1 rfl (lv_room (Nat.le_of_ble_eq_true rfl)) dX5_row_56 ⟨(by show k + 0 ≤ mc; omega), (by show 6464 * k + 0 ≤ 6464 * mc; omega)⟩) hS (fun H locs Z hS => ?_)
          refine lv_iload_n hx hb dX5_row_59 rfl (lv_at hl 1 rfl) ?_
          obtain ⟨v60, hc60, h⟩ := wx_o_ok h
          refine wx_call (va_runS (As := [.long v56, .int x1]) (rest := []) ⟨hx, hb, hml, hown, hts⟩ (c_X5_columnsOf l (D := D) (ad := ad) (rd := rd) (ca := ca) (A := A) (σ := σ) hc60) (va_cwS 2 hts gX5_row_X5_columnsOf rfl rfl rfl (by decide +kernel) ⟨Nat.le_of_ble_eq_true rfl, Nat.le_of_ble_eq_true rfl⟩) (wx_preS hC Z hS hA) rfl rfl hl.1 rfl (lv_room (Nat.le_of_ble_eq_true rfl)) dX5_row_60 ⟨(by show k + 0 ≤ mc; omega), (by show 6464 * k + 0 ≤ 6464 * mc; omega)⟩) hS (fun H locs Z hS => ?_)
          obtain ⟨rfl, rfl⟩ := wx_ret_ok h
          refine W.widen (k := mc) (n := 6464 * mc) (by omega) (by omega) ?_
          exact W.iret hx hb hr (fun t ht hW => ⟨rfl, ⟨_, by rw [ht]; exact Z⟩, hS.F ht⟩) hS.2.2 dX5_row_63
        · replace h := wx_iff c13_1 h
          by_cases c13_2 : x2 = 2
          · replace h := wx_ift c13_2 h
            refine lv_tableIn (off := 51) (tgt := 64) hx hb dX5_row_13 (by rw [c13_2]; decide) (by rw [c13_2]; decide) (by rw [c13_2]; rfl) (by decide) ?_
            refine lv_aload_n hx hb dX5_row_64 rfl (lv_at hl 0 rfl) ?_
            refine wx_get (own := RX5) hx hb hts i_X5_row_5 hown hC.1 Z (o := 11) (ci := 5) rfl (rfl : vwCl[5]? = some (RX5, TX5, 7)) 2 (by decide) (hts _ k_X5_row_w6) (fun _ h9 => h9) (f := 112) rfl rfl dX5_row_65 ?_
            refine lv_aload_n hx hb dX5_row_68 rfl (lv_at hl 0 rfl) ?_
            refine wx_get (own := RX5) hx hb hts i_X5_row_5 hown hC.1 Z (o := 11) (ci := 5) rfl (rfl : vwCl[5]? = some (RX5, TX5, 7)) 0 (by decide) (hts _ k_X5_row_w0) (fun _ h9 => h9) (f := 107) rfl rfl dX5_row_69 ?_
            obtain ⟨v72, σ72, hc72, h⟩ := wx_b_ok h
            have m1 := m_X4_fitting_0 hc72
            have m2 := m_X5_row_75 h
            refine wx_callA (va_runVN (As := [.ref (ad 7 99)]) (rest := []) ⟨hx, hb, hml, hown, hts⟩ (c_X4_fitting l (D := D) (ad := ad) (rd := rd) (ca := ca) (A := A) (σ := σ) (b1 := 7) (by decide : 7 < 11) hc72) ⟨va_cnB 1 hts gX5_row_X4_fitting_n129 rfl rfl rfl (hC.1.2.1 _ (List.mem_of_getElem? (i := 57) rfl)) (hts _ k_X5_row_w7) (by decide +kernel) ⟨Nat.le_of_ble_eq_true rfl, Nat.le_of_ble_eq_true rfl⟩, hts _ k_X5_row_w8, hts _ k_X5_row_w9⟩ (wx_preV hC Z hS hA rfl (rfl : vwCl[4]? = some (RX4, TX4, 2))) rfl rfl hl.1 rfl (lv_room (Nat.le_of_ble_eq_true rfl)) dX5_row_72 ⟨(by show k + (wx_n σ72.2.2.2.2 - wx_n σ.2.2.2.2) ≤ mc; omega), (by show 6464 * k + 6464 * (wx_n σ72.2.2.2.2 - wx_n σ.2.2.2.2) ≤ 6464 * mc; omega)⟩) hS (fun rd H locs Z hS => ?_)
            refine W.widen (k := k + (wx_n σ72.2.2.2.2 - wx_n σ.2.2.2.2)) (n := 6464 * (k + (wx_n σ72.2.2.2.2 - wx_n σ.2.2.2.2))) (Nat.le_refl _) (by omega) ?_
            exact b_X5_row_75 B (k := k + (wx_n σ72.2.2.2.2 - wx_n σ.2.2.2.2)) (by omega) h Z hS (lv_sub hl [0, 1, 2] rfl)
          · replace h := wx_iff c13_2 h
            have n13_0 := wx_ni c13_0
            have n13_1 := wx_ni c13_1
            have n13_2 := wx_ni c13_2
            rw [show (0 : Int32).toInt = 0 from by decide] at n13_0
            rw [show (1 : Int32).toInt = 1 from by decide] at n13_1
            rw [show (2 : Int32).toInt = 2 from by decide] at n13_2
            refine lv_tableOut (tgt := 80) hx hb dX5_row_13 (by omega) (by decide) ?_
            refine lv_bipush (v := (-2)) hx hb dX5_row_80 (by decide) ?_
            obtain ⟨rfl, rfl⟩ := wx_ret_ok h
            refine W.widen (k := mc) (n := 6464 * mc) (by omega) (by omega) ?_
            exact W.iret hx hb hr (fun t ht hW => ⟨rfl, ⟨_, by rw [ht]; exact Z⟩, hS.F ht⟩) hS.2.2 dX5_row_82
    · replace h := wx_iff c7 h
      exact b_X5_row_10 B (k := k) hk h Z hS (lv_sub hl [0, 1, 2] rfl)
set_option maxRecDepth 20000 in
theorem c_X5_row (l : Launch) {D : va_G} {ad : Nat → Nat → Nat} {rd : Nat → Nat} {ca : Nat → ClassId} {A : Nat → Prop} {σ : wx_St}    {x1 : Int32} {x2 : Int32} {r : Int32} {σ' : wx_St} (h : f_X5_row x1 x2 σ = some (r, σ')) : wx_MA l yX5_row wsX5_row 6 152 D ad rd ca A [.ref (ad 11 99), .int x1, .int x2] σ (some (.int r)) σ' := by
  refine Met.ofW (cc := cX5_row) (maxL := 3) (ret := (some .int)) (by decide +kernel) rfl ?_
  intro p e s m args below meth c s₁ B0 hml hv
  obtain ⟨rfl, hC, Z, hA⟩ := hv
  have hl := lv_entry ([.ref (ad 11 99), .int x1, .int x2]) (n := 3) (Nat.le_of_ble_eq_true rfl)
  rw [lg_entry_eq]
  generalize (lg_sl ([.ref (ad 11 99), .int x1, .int x2]) ++ List.replicate (3 - (lg_sl ([.ref (ad 11 99), .int x1, .int x2])).length) Slot.unset).toArray = ls at hl ⊢
  exact b_X5_row_0 ⟨B0.exec, B0.bytes, hml, B0.returns, atoms_spec (ws := wsX5_row) B0.pre, findClass_of_methodNamed B0.named, B0.notSynchronized, hC, hA⟩  (k := 0) (by have hm := m_X5_row_0 h; omega) h Z va_S.rf hl
theorem i_X0_beginRun_0 : ∀ w ∈ wsX00, w ∈ wsX0_beginRun := by decide +kernel
theorem k_X0_beginRun_w0 : Cond.fieldLink RX0 31 "WarmProbes$Board" "steps" "I" ∈ wsX0_beginRun := by decide +kernel
theorem k_X0_beginRun_w1 : Cond.fieldLink RX0 41 "WarmProbes$Board" "readings" "I" ∈ wsX0_beginRun := by decide +kernel
theorem k_X0_beginRun_w2 : Cond.fieldLink RX0 34 "WarmProbes$Board" "warmth" "[F" ∈ wsX0_beginRun := by decide +kernel
set_option maxRecDepth 20000 in
set_option maxHeartbeats 4000000 in
theorem b_X0_beginRun_12 (B : wx_B p s m args meth c cX0_beginRun 2 none wsX0_beginRun RX0 D ad ca A) {o : Nat}  (ho : o < 11)  {σ' : wx_St}   :
    ∀ {n : Nat} {x1 : Int32} {σ : wx_St}  (h : f_X0_beginRun_12 o n x1 σ = some ((), σ')) {H : Heap} {locs : List Loc} (Z : wx_Z D ad rd ca A σ H) (hS : va_S A s.heap H locs) {ls : Array Slot} (hl : lv_has ls 2 [(0, .ref (ad o 99)), (1, .int x1)]), W p l e ({ frames := 0, cells := 0, slots := 0, locals := 0 } : Room) s m args below meth c H locs 0 0 (MQ below (wx_Q D ad rd ca A none σ') args s 0 0 A) (F0 m 12 ls []) := by
  obtain ⟨hx, hb, hml, hr, hts, hown, hlk, hC, hA⟩ := id B
  intro n
  induction n with
  | zero => intro x1 σ  h H locs Z hS ls hl; exact wx_no h
  | succ n ih =>
    intro x1 σ  h H locs Z hS ls hl
    rw [f_X0_beginRun_12] at h
    refine lv_iload_n hx hb dX0_beginRun_12 rfl (lv_at hl 1 rfl) ?_
    refine lv_bipush (v := 64) hx hb dX0_beginRun_13 (by decide) ?_
    refine lv_icmp_ge (tgt := 31) hx hb dX0_beginRun_15 (by decide) (fun c15 => ?_) (fun c15 => ?_)
    · replace h := wx_ift c15 h
      obtain ⟨-, rfl⟩ := wx_ret_ok h
      exact W.vret hx hb hr (fun t ht hW => ⟨rfl, by rw [ht]; exact Z, hS.F ht⟩) hS.2.2 dX0_beginRun_31
    · replace h := wx_iff c15 h
      refine lv_aload_n hx hb dX0_beginRun_18 rfl (lv_at hl 0 rfl) ?_
      refine wx_get (own := RX0) hx hb hts i_X0_beginRun_0 hown hC.1 Z (o := o) (ci := 0) (wx_sbo ho 99) (rfl : vwCl[0]? = some (RX0, TX0, 13)) 7 (by decide) (hts _ k_X0_beginRun_w2) (fun _ h9 => h9) (f := 0) rfl rfl dX0_beginRun_19 ?_
      refine lv_iload_n hx hb dX0_beginRun_22 rfl (lv_at hl 1 rfl) ?_
      refine lv_fconst0 hx hb dX0_beginRun_23 ?_
      obtain ⟨σ24, e24, i24, h⟩ := wx_w_ok h
      refine wx_fast hx hb hC.1 Z hS (o := o) (k := 7) (n := 64) (wx_sbo ho 7) rfl i24 dX0_beginRun_24 e24 (fun H locs Z hS => ?_)
      refine lv_iinc (v := x1 + 1) (lv' := [(1, .int (x1 + 1)), (0, .ref (ad o 99))]) hx hb dX0_beginRun_25 hl (k := 1) rfl rfl (by decide) rfl (fun ls hl => ?_)
      refine lv_goto (tgt := 12) hx hb dX0_beginRun_28 (by decide) ?_
      exact ih h Z hS (lv_sub hl [1, 0] rfl)
set_option maxRecDepth 20000 in
set_option maxHeartbeats 4000000 in
theorem b_X0_beginRun_0 (B : wx_B p s m args meth c cX0_beginRun 2 none wsX0_beginRun RX0 D ad ca A) {o : Nat}  (ho : o < 11)  {σ' : wx_St}   {σ : wx_St}  (h : f_X0_beginRun o σ = some ((), σ')) {H : Heap} {locs : List Loc} (Z : wx_Z D ad rd ca A σ H) (hS : va_S A s.heap H locs) {ls : Array Slot} (hl : lv_has ls 2 [(0, .ref (ad o 99))]) : W p l e ({ frames := 0, cells := 0, slots := 0, locals := 0 } : Room) s m args below meth c H locs 0 0 (MQ below (wx_Q D ad rd ca A none σ') args s 0 0 A) (F0 m 0 ls []) := by
  obtain ⟨hx, hb, hml, hr, hts, hown, hlk, hC, hA⟩ := id B
  unfold f_X0_beginRun at h
  refine lv_aload_n hx hb dX0_beginRun_0 rfl (lv_at hl 0 rfl) ?_
  refine lv_iconst (v := 0) hx hb dX0_beginRun_1 (by decide) ?_
  obtain ⟨σ2, e2, h⟩ := wx_l_ok h
  refine wx_put (own := RX0) hx hb hts i_X0_beginRun_0 tyX0 tyX0_ok nmX0 hown hC.1 Z hS (o := o) (ci := 0) (wx_sbo ho 99) (rfl : vwCl[0]? = some (RX0, TX0, 13)) 6 (by decide) (hts _ k_X0_beginRun_w0) (fun _ h9 => h9) rfl (by decide +kernel) rfl dX0_beginRun_2 e2 (fun H locs Z hS => ?_)
  refine lv_aload_n hx hb dX0_beginRun_5 rfl (lv_at hl 0 rfl) ?_
  refine lv_iconst (v := 0) hx hb dX0_beginRun_6 (by decide) ?_
  obtain ⟨σ7, e7, h⟩ := wx_l_ok h
  refine wx_put (own := RX0) hx hb hts i_X0_beginRun_0 tyX0 tyX0_ok nmX0 hown hC.1 Z hS (o := o) (ci := 0) (wx_sbo ho 99) (rfl : vwCl[0]? = some (RX0, TX0, 13)) 9 (by decide) (hts _ k_X0_beginRun_w1) (fun _ h9 => h9) rfl (by decide +kernel) rfl dX0_beginRun_7 e7 (fun H locs Z hS => ?_)
  refine lv_iconst (v := 0) hx hb dX0_beginRun_10 (by decide) ?_
  refine lv_istore_n (lv' := [(1, .int 0), (0, .ref (ad o 99))]) hx hb dX0_beginRun_11 rfl hl (by decide) rfl (fun ls hl => ?_)
  exact b_X0_beginRun_12 B ho h Z hS (lv_sub hl [1, 0] rfl)
set_option maxRecDepth 20000 in
theorem c_X0_beginRun (l : Launch) {D : va_G} {ad : Nat → Nat → Nat} {rd : Nat → Nat} {ca : Nat → ClassId} {A : Nat → Prop} {σ : wx_St} {o : Nat}  (ho : o < 11)   {σ' : wx_St} (h : f_X0_beginRun o σ = some ((), σ')) : wx_M l yX0_beginRun wsX0_beginRun 0 0 D ad rd ca A [.ref (ad o 99)] σ none σ' := by
  refine Met.ofW (cc := cX0_beginRun) (maxL := 2) (ret := none) (by decide +kernel) rfl ?_
  intro p e s m args below meth c s₁ B0 hml hv
  obtain ⟨rfl, hC, Z, hA⟩ := hv
  have hl := lv_entry ([.ref (ad o 99)]) (n := 2) (Nat.le_of_ble_eq_true rfl)
  rw [lg_entry_eq]
  generalize (lg_sl ([.ref (ad o 99)]) ++ List.replicate (2 - (lg_sl ([.ref (ad o 99)])).length) Slot.unset).toArray = ls at hl ⊢
  exact b_X0_beginRun_0 ⟨B0.exec, B0.bytes, hml, B0.returns, atoms_spec (ws := wsX0_beginRun) B0.pre, findClass_of_methodNamed B0.named, B0.notSynchronized, hC, hA⟩ ho  h Z va_S.rf hl
theorem i_X0_change_0 : ∀ w ∈ wsX00, w ∈ wsX0_change := by decide +kernel
theorem k_X0_change_w0 : Cond.fieldLink RX0 9 "WarmProbes$Board" "settings" "[I" ∈ wsX0_change := by decide +kernel
set_option maxRecDepth 20000 in
set_option maxHeartbeats 4000000 in
theorem b_X0_change_9 (B : wx_B p s m args meth c cX0_change 4 (some .int) wsX0_change RX0 D ad ca A) {o : Nat}  (ho : o < 11) {r : Int32} {σ' : wx_St}  {x1 : Int32} {x2 : Int32} {σ : wx_St}  (h : f_X0_change_9 o x1 x2 σ = some (r, σ')) {H : Heap} {locs : List Loc} (Z : wx_Z D ad rd ca A σ H) (hS : va_S A s.heap H locs) {ls : Array Slot} (hl : lv_has ls 4 [(0, .ref (ad o 99)), (1, .int x1), (2, .int x2)]) : W p l e ({ frames := 1, cells := 0, slots := 0, locals := 21 } : Room) s m args below meth c H locs 0 0 (MQ below (wx_Q D ad rd ca A (some (.int r)) σ') args s 0 0 A) (F0 m 9 ls []) := by
  obtain ⟨hx, hb, hml, hr, hts, hown, hlk, hC, hA⟩ := id B
  unfold f_X0_change_9 at h
  refine lv_bipush (v := (-2)) hx hb dX0_change_9 (by decide) ?_
  obtain ⟨rfl, rfl⟩ := wx_ret_ok h
  exact W.iret hx hb hr (fun t ht hW => ⟨rfl, by rw [ht]; exact Z, hS.F ht⟩) hS.2.2 dX0_change_11
set_option maxRecDepth 20000 in
set_option maxHeartbeats 4000000 in
theorem b_X0_change_30 (B : wx_B p s m args meth c cX0_change 4 (some .int) wsX0_change RX0 D ad ca A) {o : Nat}  (ho : o < 11) {r : Int32} {σ' : wx_St}  {x1 : Int32} {x2 : Int32} {σ : wx_St}  (h : f_X0_change_30 o x1 x2 σ = some (r, σ')) {H : Heap} {locs : List Loc} (Z : wx_Z D ad rd ca A σ H) (hS : va_S A s.heap H locs) {ls : Array Slot} (hl : lv_has ls 4 [(0, .ref (ad o 99)), (1, .int x1), (2, .int x2)]) : W p l e ({ frames := 1, cells := 0, slots := 0, locals := 21 } : Room) s m args below meth c H locs 0 0 (MQ below (wx_Q D ad rd ca A (some (.int r)) σ') args s 0 0 A) (F0 m 30 ls []) := by
  obtain ⟨hx, hb, hml, hr, hts, hown, hlk, hC, hA⟩ := id B
  unfold f_X0_change_30 at h
  refine lv_bipush (v := (-2)) hx hb dX0_change_30 (by decide) ?_
  obtain ⟨rfl, rfl⟩ := wx_ret_ok h
  exact W.iret hx hb hr (fun t ht hW => ⟨rfl, by rw [ht]; exact Z, hS.F ht⟩) hS.2.2 dX0_change_32
set_option maxRecDepth 20000 in
set_option maxHeartbeats 4000000 in
theorem b_X0_change_56 (B : wx_B p s m args meth c cX0_change 4 (some .int) wsX0_change RX0 D ad ca A) {o : Nat}  (ho : o < 11) {r : Int32} {σ' : wx_St}  {x1 : Int32} {x2 : Int32} {x3 : Int32} {σ : wx_St}  (h : f_X0_change_56 o x1 x2 x3 σ = some (r, σ')) {H : Heap} {locs : List Loc} (Z : wx_Z D ad rd ca A σ H) (hS : va_S A s.heap H locs) {ls : Array Slot} (hl : lv_has ls 4 [(0, .ref (ad o 99)), (1, .int x1), (2, .int x2), (3, .int x3)]) : W p l e ({ frames := 1, cells := 0, slots := 0, locals := 21 } : Room) s m args below meth c H locs 0 0 (MQ below (wx_Q D ad rd ca A (some (.int r)) σ') args s 0 0 A) (F0 m 56 ls []) := by
  obtain ⟨hx, hb, hml, hr, hts, hown, hlk, hC, hA⟩ := id B
  unfold f_X0_change_56 at h
  refine lv_iload_n hx hb dX0_change_56 rfl (lv_at hl 3 rfl) ?_
  obtain ⟨rfl, rfl⟩ := wx_ret_ok h
  exact W.iret hx hb hr (fun t ht hW => ⟨rfl, by rw [ht]; exact Z, hS.F ht⟩) hS.2.2 dX0_change_57
set_option maxRecDepth 20000 in
set_option maxHeartbeats 4000000 in
theorem b_X0_change_0 (B : wx_B p s m args meth c cX0_change 4 (some .int) wsX0_change RX0 D ad ca A) {o : Nat}  (ho : o < 11) {r : Int32} {σ' : wx_St}  {x1 : Int32} {x2 : Int32} {σ : wx_St}  (h : f_X0_change o x1 x2 σ = some (r, σ')) {H : Heap} {locs : List Loc} (Z : wx_Z D ad rd ca A σ H) (hS : va_S A s.heap H locs) {ls : Array Slot} (hl : lv_has ls 4 [(0, .ref (ad o 99)), (1, .int x1), (2, .int x2)]) : W p l e ({ frames := 1, cells := 0, slots := 0, locals := 21 } : Room) s m args below meth c H locs 0 0 (MQ below (wx_Q D ad rd ca A (some (.int r)) σ') args s 0 0 A) (F0 m 0 ls []) := by
  obtain ⟨hx, hb, hml, hr, hts, hown, hlk, hC, hA⟩ := id B
  unfold f_X0_change at h
  refine lv_iload_n hx hb dX0_change_0 rfl (lv_at hl 1 rfl) ?_
  refine lv_if_lt (tgt := 9) hx hb dX0_change_1 (by decide) (fun c1 => ?_) (fun c1 => ?_)
  · replace h := wx_ift c1 h
    exact b_X0_change_9 B ho h Z hS (lv_sub hl [0, 1, 2] rfl)
  · replace h := wx_iff c1 h
    refine lv_iload_n hx hb dX0_change_4 rfl (lv_at hl 1 rfl) ?_
    refine lv_iconst (v := 4) hx hb dX0_change_5 (by decide) ?_
    refine lv_icmp_lt (tgt := 12) hx hb dX0_change_6 (by decide) (fun c6 => ?_) (fun c6 => ?_)
    · replace h := wx_ift c6 h
      refine lv_iload_n hx hb dX0_change_12 rfl (lv_at hl 2 rfl) ?_
      refine va_getsN (own := RX0) hx hb hC.2.1.1.2.1 hS hown (wx_nst hC 30 rfl rfl) (fun _ h9 => h9) dX0_change_13 ?_
      refine lv_iload_n hx hb dX0_change_16 rfl (lv_at hl 1 rfl) ?_
      obtain ⟨v17, ev17, iv17, h⟩ := wx_rT_ok h
      refine va_ti hx hb hC.2.1.2.1.2.1 hS (wx_in_vp iv17) (v := .int v17) (by rw [ev17]) dX0_change_17 ?_
      refine lv_icmp_lt (tgt := 30) hx hb dX0_change_18 (by decide) (fun c18 => ?_) (fun c18 => ?_)
      · replace h := wx_ift c18 h
        exact b_X0_change_30 B ho h Z hS (lv_sub hl [0, 1, 2] rfl)
      · replace h := wx_iff c18 h
        refine lv_iload_n hx hb dX0_change_21 rfl (lv_at hl 2 rfl) ?_
        refine va_getsN (own := RX0) hx hb hC.2.1.1.2.2 hS hown (wx_nst hC 31 rfl rfl) (fun _ h9 => h9) dX0_change_22 ?_
        refine lv_iload_n hx hb dX0_change_25 rfl (lv_at hl 1 rfl) ?_
        obtain ⟨v26, ev26, iv26, h⟩ := wx_rT_ok h
        refine va_ti hx hb hC.2.1.2.1.2.2 hS (wx_in_vp iv26) (v := .int v26) (by rw [ev26]) dX0_change_26 ?_
        refine lv_icmp_le (tgt := 33) hx hb dX0_change_27 (by decide) (fun c27 => ?_) (fun c27 => ?_)
        · replace h := wx_ift c27 h
          refine lv_aload_n hx hb dX0_change_33 rfl (lv_at hl 0 rfl) ?_
          refine wx_get (own := RX0) hx hb hts i_X0_change_0 hown hC.1 Z (o := o) (ci := 0) (wx_sbo ho 99) (rfl : vwCl[0]? = some (RX0, TX0, 13)) 0 (by decide) (hts _ k_X0_change_w0) (fun _ h9 => h9) (f := 0) rfl rfl dX0_change_34 ?_
          refine lv_iload_n hx hb dX0_change_37 rfl (lv_at hl 1 rfl) ?_
          obtain ⟨v38, ev38, iv38, h⟩ := wx_rI_ok h
          refine wx_iald hx hb hC.1 Z (o := o) (k := 0) (n := 4) (wx_sbo ho 0) rfl iv38 dX0_change_38 ev38 ?_
          refine lv_istore_n (lv' := [(3, .int v38), (0, .ref (ad o 99)), (1, .int x1), (2, .int x2)]) hx hb dX0_change_39 rfl hl (by decide) rfl (fun ls hl => ?_)
          refine lv_aload_n hx hb dX0_change_40 rfl (lv_at hl 1 rfl) ?_
          refine wx_get (own := RX0) hx hb hts i_X0_change_0 hown hC.1 Z (o := o) (ci := 0) (wx_sbo ho 99) (rfl : vwCl[0]? = some (RX0, TX0, 13)) 0 (by decide) (hts _ k_X0_change_w0) (fun _ h9 => h9) (f := 0) rfl rfl dX0_change_41 ?_
          refine lv_iload_n hx hb dX0_change_44 rfl (lv_at hl 2 rfl) ?_
          refine lv_iload_n hx hb dX0_change_45 rfl (lv_at hl 3 rfl) ?_
          obtain ⟨σ46, e46, i46, h⟩ := wx_w_ok h
          refine wx_iast hx hb hC.1 Z hS (o := o) (k := 0) (n := 4) (wx_sbo ho 0) rfl i46 dX0_change_46 e46 (fun H locs Z hS => ?_)
          refine lv_iload_n hx hb dX0_change_47 rfl (lv_at hl 2 rfl) ?_
          refine lv_iconst (v := 3) hx hb dX0_change_48 (by decide) ?_
          refine lv_icmp_eq (tgt := 56) hx hb dX0_change_49 (by decide) (fun c49 => ?_) (fun c49 => ?_)
          · replace h := wx_ift c49 h
            exact b_X0_change_56 B ho h Z hS (lv_sub hl [1, 2, 3, 0] rfl)
          · replace h := wx_iff c49 h
            refine lv_aload_n hx hb dX0_change_52 rfl (lv_at hl 1 rfl) ?_
            obtain ⟨v53, σ53, hc53, h⟩ := wx_b_ok h
            refine wx_call (va_runV (As := []) (rest := []) ⟨hx, hb, hml, hown, hts⟩ (c_X0_beginRun l (D := D) (ad := ad) (rd := rd) (ca := ca) (A := A) (σ := σ46) (o := o) ho hc53) (cwV 0 hts gX0_change_X0_beginRun rfl rfl rfl (by decide +kernel) ⟨Nat.le_of_ble_eq_true rfl, Nat.le_of_ble_eq_true rfl⟩) (wx_preV hC Z hS hA (wx_sbo ho 99) (rfl : vwCl[0]? = some (RX0, TX0, 13))) rfl rfl hl.1 rfl (lv_room (Nat.le_of_ble_eq_true rfl)) dX0_change_53 ⟨Nat.zero_le _, Nat.zero_le _⟩) hS (fun H locs Z hS => ?_)
            exact b_X0_change_56 B ho h Z hS (lv_sub hl [1, 2, 3, 0] rfl)
        · replace h := wx_iff c27 h
          exact b_X0_change_30 B ho h Z hS (lv_sub hl [0, 1, 2] rfl)
    · replace h := wx_iff c6 h
      exact b_X0_change_9 B ho h Z hS (lv_sub hl [0, 1, 2] rfl)
set_option maxRecDepth 20000 in
theorem c_X0_change (l : Launch) {D : va_G} {ad : Nat → Nat → Nat} {rd : Nat → Nat} {ca : Nat → ClassId} {A : Nat → Prop} {σ : wx_St} {o : Nat}  (ho : o < 11) {x1 : Int32} {x2 : Int32} {r : Int32} {σ' : wx_St} (h : f_X0_change o x1 x2 σ = some (r, σ')) : wx_M l yX0_change wsX0_change 1 21 D ad rd ca A [.ref (ad o 99), .int x1, .int x2] σ (some (.int r)) σ' := by
  refine Met.ofW (cc := cX0_change) (maxL := 4) (ret := (some .int)) (by decide +kernel) rfl ?_
  intro p e s m args below meth c s₁ B0 hml hv
  obtain ⟨rfl, hC, Z, hA⟩ := hv
  have hl := lv_entry ([.ref (ad o 99), .int x1, .int x2]) (n := 4) (Nat.le_of_ble_eq_true rfl)
  rw [lg_entry_eq]
  generalize (lg_sl ([.ref (ad o 99), .int x1, .int x2]) ++ List.replicate (4 - (lg_sl ([.ref (ad o 99), .int x1, .int x2])).length) Slot.unset).toArray = ls at hl ⊢
  exact b_X0_change_0 ⟨B0.exec, B0.bytes, hml, B0.returns, atoms_spec (ws := wsX0_change) B0.pre, findClass_of_methodNamed B0.named, B0.notSynchronized, hC, hA⟩ ho  h Z va_S.rf hl
theorem i_X0_hasNeighbourOf_0 : ∀ w ∈ wsX00, w ∈ wsX0_hasNeighbourOf := by decide +kernel
theorem k_X0_hasNeighbourOf_w0 : Cond.initialized RX5 ∈ wsX0_hasNeighbourOf := by decide +kernel
theorem k_X0_hasNeighbourOf_w1 : Cond.static yX5_neighbourOf ∈ wsX0_hasNeighbourOf := by decide +kernel
theorem k_X0_hasNeighbourOf_w2 : Cond.fieldLink RX0 15 "WarmProbes$Board" "nets" "[I" ∈ wsX0_hasNeighbourOf := by decide +kernel
set_option maxRecDepth 20000 in
set_option maxHeartbeats 4000000 in
theorem b_X0_hasNeighbourOf_32 (B : wx_B p s m args meth c cX0_hasNeighbourOf 5 (some .boolean) wsX0_hasNeighbourOf RX0 D ad ca A) {o : Nat}  (ho : o < 11) {r : Int32} {σ : wx_St} {K2 : Int32 → Int32 → Int32 → wx_St → Option Int32} (hK2 : ∀ {x1 : Int32} {x2 : Int32} {x3 : Int32}   (h : K2 x1 x2 x3 σ = some r) {H : Heap} {locs : List Loc} (Z : wx_Z D ad rd ca A σ H) (hS : va_S A s.heap H locs) {ls : Array Slot} (hl : lv_has ls 5 [(0, .ref (ad o 99)), (1, .int x1), (2, .int x2), (3, .int x3)]), W p l e ({ frames := 1, cells := 0, slots := 0, locals := 21 } : Room) s m args below meth c H locs 0 0 (MQ below (wx_Q D ad rd ca A (some (.int r)) σ) args s 0 0 A) (F0 m 2 ls [])) {x1 : Int32} {x2 : Int32} {x3 : Int32} {x4 : Int32}   (h : f_X0_hasNeighbourOf_32 o K2 x1 x2 x3 x4 σ = some r) {H : Heap} {locs : List Loc} (Z : wx_Z D ad rd ca A σ H) (hS : va_S A s.heap H locs) {ls : Array Slot} (hl : lv_has ls 5 [(0, .ref (ad o 99)), (1, .int x1), (2, .int x2), (3, .int x3), (4, .int x4)]) : W p l e ({ frames := 1, cells := 0, slots := 0, locals := 21 } : Room) s m args below meth c H locs 0 0 (MQ below (wx_Q D ad rd ca A (some (.int r)) σ) args s 0 0 A) (F0 m 32 ls []) := by
  obtain ⟨hx, hb, hml, hr, hts, hown, hlk, hC, hA⟩ := id B
  unfold f_X0_hasNeighbourOf_32 at h
  refine lv_iinc (v := x3 + 1) (lv' := [(3, .int (x3 + 1)), (0, .ref (ad o 99)), (1, .int x1), (2, .int x2), (4, .int x4)]) hx hb dX0_hasNeighbourOf_32 hl (k := 3) rfl rfl (by decide) rfl (fun ls hl => ?_)
  refine lv_goto (tgt := 2) hx hb dX0_hasNeighbourOf_35 (by decide) ?_
  exact hK2 h Z hS (lv_sub hl [1, 2, 3, 0] rfl)
set_option maxRecDepth 20000 in
set_option maxHeartbeats 4000000 in
theorem b_X0_hasNeighbourOf_2 (B : wx_B p s m args meth c cX0_hasNeighbourOf 5 (some .boolean) wsX0_hasNeighbourOf RX0 D ad ca A) {o : Nat}  (ho : o < 11) {r : Int32} {σ : wx_St}   :
    ∀ {n : Nat} {x1 : Int32} {x2 : Int32} {x3 : Int32}   (h : f_X0_hasNeighbourOf_2 o n x1 x2 x3 σ = some r) {H : Heap} {locs : List Loc} (Z : wx_Z D ad rd ca A σ H) (hS : va_S A s.heap H locs) {ls : Array Slot} (hl : lv_has ls 5 [(0, .ref (ad o 99)), (1, .int x1), (2, .int x2), (3, .int x3)]), W p l e ({ frames := 1, cells := 0, slots := 0, locals := 21 } : Room) s m args below meth c H locs 0 0 (MQ below (wx_Q D ad rd ca A (some (.int r)) σ) args s 0 0 A) (F0 m 2 ls []) := by
  obtain ⟨hx, hb, hml, hr, hts, hown, hlk, hC, hA⟩ := id B
  intro n
  induction n with
  | zero => intro x1 x2 x3   h H locs Z hS ls hl; exact wx_no h
  | succ n ih =>
    intro x1 x2 x3   h H locs Z hS ls hl
    rw [f_X0_hasNeighbourOf_2] at h
    refine lv_iload_n hx hb dX0_hasNeighbourOf_2 rfl (lv_at hl 3 rfl) ?_
    refine lv_iconst (v := 4) hx hb dX0_hasNeighbourOf_3 (by decide) ?_
    refine lv_icmp_ge (tgt := 38) hx hb dX0_hasNeighbourOf_4 (by decide) (fun c4 => ?_) (fun c4 => ?_)
    · replace h := wx_ift c4 h
      refine lv_iconst (v := 0) hx hb dX0_hasNeighbourOf_38 (by decide) ?_
      obtain rfl := Option.some.inj h
      exact W.zret hx hb hr rfl (fun t ht hW => ⟨rfl, by rw [ht]; exact Z, hS.F ht⟩) hS.2.2 dX0_hasNeighbourOf_39
    · replace h := wx_iff c4 h
      refine lv_iload_n hx hb dX0_hasNeighbourOf_7 rfl (lv_at hl 1 rfl) ?_
      refine lv_iload_n hx hb dX0_hasNeighbourOf_8 rfl (lv_at hl 3 rfl) ?_
      obtain ⟨v9, hc9, h⟩ := wx_o_ok h
      refine wx_call (va_runSN (As := [.int x1, .int x3]) (rest := []) ⟨hx, hb, hml, hown, hts⟩ (c_X5_neighbourOf l (D := D) (ad := ad) (rd := rd) (ca := ca) (A := A) (σ := σ) hc9) ⟨va_cnB 2 hts gX0_hasNeighbourOf_X5_neighbourOf_n93 rfl rfl rfl (hC.1.2.1 _ (List.mem_of_getElem? (i := 38) rfl)) (hts _ k_X0_hasNeighbourOf_w0) (by decide +kernel) ⟨Nat.le_of_ble_eq_true rfl, Nat.le_of_ble_eq_true rfl⟩, hts _ k_X0_hasNeighbourOf_w1, trivial⟩ (wx_preS hC Z hS hA) rfl rfl hl.1 rfl (lv_room (Nat.le_of_ble_eq_true rfl)) dX0_hasNeighbourOf_9 ⟨Nat.zero_le _, Nat.zero_le _⟩) hS (fun H locs Z hS => ?_)
      refine lv_istore (lv' := [(4, .int v9), (0, .ref (ad o 99)), (1, .int x1), (2, .int x2), (3, .int x3)]) hx hb dX0_hasNeighbourOf_12 hl (by decide) rfl (fun ls hl => ?_)
      refine lv_iload hx hb dX0_hasNeighbourOf_14 (lv_at hl 0 rfl) ?_
      refine lv_if_lt (tgt := 32) hx hb dX0_hasNeighbourOf_16 (by decide) (fun c16 => ?_) (fun c16 => ?_)
      · replace h := wx_ift c16 h
        exact b_X0_hasNeighbourOf_32 B ho (K2 := (f_X0_hasNeighbourOf_2 o n)) @ih h Z hS (lv_sub hl [1, 2, 3, 4, 0] rfl)
      · replace h := wx_iff c16 h
        refine lv_aload_n hx hb dX0_hasNeighbourOf_19 rfl (lv_at hl 1 rfl) ?_
        refine wx_get (own := RX0) hx hb hts i_X0_hasNeighbourOf_0 hown hC.1 Z (o := o) (ci := 0) (wx_sbo ho 99) (rfl : vwCl[0]? = some (RX0, TX0, 13)) 1 (by decide) (hts _ k_X0_hasNeighbourOf_w2) (fun _ h9 => h9) (f := 0) rfl rfl dX0_hasNeighbourOf_20 ?_
        refine lv_iload hx hb dX0_hasNeighbourOf_23 (lv_at hl 0 rfl) ?_
        obtain ⟨v25, ev25, iv25, h⟩ := wx_rI_ok h
        refine wx_iald hx hb hC.1 Z (o := o) (k := 1) (n := 64) (wx_sbo ho 1) rfl iv25 dX0_hasNeighbourOf_25 ev25 ?_
        refine lv_iload_n hx hb dX0_hasNeighbourOf_26 rfl (lv_at hl 3 rfl) ?_
        refine lv_icmp_ne (tgt := 32) hx hb dX0_hasNeighbourOf_27 (by decide) (fun c27 => ?_) (fun c27 => ?_)
        · replace h := wx_iff c27 h
          exact b_X0_hasNeighbourOf_32 B ho (K2 := (f_X0_hasNeighbourOf_2 o n)) @ih h Z hS (lv_sub hl [1, 2, 3, 4, 0] rfl)
        · replace h := wx_ift c27 h
          refine lv_iconst (v := 1) hx hb dX0_hasNeighbourOf_30 (by decide) ?_
          obtain rfl := Option.some.inj h
          exact W.zret hx hb hr rfl (fun t ht hW => ⟨rfl, by rw [ht]; exact Z, hS.F ht⟩) hS.2.2 dX0_hasNeighbourOf_31
set_option maxRecDepth 20000 in
set_option maxHeartbeats 4000000 in
theorem b_X0_hasNeighbourOf_0 (B : wx_B p s m args meth c cX0_hasNeighbourOf 5 (some .boolean) wsX0_hasNeighbourOf RX0 D ad ca A) {o : Nat}  (ho : o < 11) {r : Int32} {σ : wx_St}  {x1 : Int32} {x2 : Int32}   (h : f_X0_hasNeighbourOf o x1 x2 σ = some r) {H : Heap} {locs : List Loc} (Z : wx_Z D ad rd ca A σ H) (hS : va_S A s.heap H locs) {ls : Array Slot} (hl : lv_has ls 5 [(0, .ref (ad o 99)), (1, .int x1), (2, .int x2)]) : W p l e ({ frames := 1, cells := 0, slots := 0, locals := 21 } : Room) s m args below meth c H locs 0 0 (MQ below (wx_Q D ad rd ca A (some (.int r)) σ) args s 0 0 A) (F0 m 0 ls []) := by
  obtain ⟨hx, hb, hml, hr, hts, hown, hlk, hC, hA⟩ := id B
  unfold f_X0_hasNeighbourOf at h
  refine lv_iconst (v := 0) hx hb dX0_hasNeighbourOf_0 (by decide) ?_
  refine lv_istore_n (lv' := [(3, .int 0), (0, .ref (ad o 99)), (1, .int x1), (2, .int x2)]) hx hb dX0_hasNeighbourOf_1 rfl hl (by decide) rfl (fun ls hl => ?_)
  exact b_X0_hasNeighbourOf_2 B ho h Z hS (lv_sub hl [1, 2, 3, 0] rfl)
set_option maxRecDepth 20000 in
theorem c_X0_hasNeighbourOf (l : Launch) {D : va_G} {ad : Nat → Nat → Nat} {rd : Nat → Nat} {ca : Nat → ClassId} {A : Nat → Prop} {σ : wx_St} {o : Nat}  (ho : o < 11) {x1 : Int32} {x2 : Int32} {r : Int32} (h : f_X0_hasNeighbourOf o x1 x2 σ = some r) : wx_M l yX0_hasNeighbourOf wsX0_hasNeighbourOf 1 21 D ad rd ca A [.ref (ad o 99), .int x1, .int x2] σ (some (.int r)) σ := by
  refine Met.ofW (cc := cX0_hasNeighbourOf) (maxL := 5) (ret := (some .boolean)) (by decide +kernel) rfl ?_
  intro p e s m args below meth c s₁ B0 hml hv
  obtain ⟨rfl, hC, Z, hA⟩ := hv
  have hl := lv_entry ([.ref (ad o 99), .int x1, .int x2]) (n := 5) (Nat.le_of_ble_eq_true rfl)
  rw [lg_entry_eq]
  generalize (lg_sl ([.ref (ad o 99), .int x1, .int x2]) ++ List.replicate (5 - (lg_sl ([.ref (ad o 99), .int x1, .int x2])).length) Slot.unset).toArray = ls at hl ⊢
  exact b_X0_hasNeighbourOf_0 ⟨B0.exec, B0.bytes, hml, B0.returns, atoms_spec (ws := wsX0_hasNeighbourOf) B0.pre, findClass_of_methodNamed B0.named, B0.notSynchronized, hC, hA⟩ ho  h Z va_S.rf hl
set_option maxRecDepth 20000 in
set_option maxHeartbeats 4000000 in
theorem b_X5_areNeighbours_2 (B : wx_B p s m args meth c cX5_areNeighbours 3 (some .boolean) wsX5_areNeighbours RX5 D ad ca A)    {r : Int32} {σ : wx_St}   :
    ∀ {n : Nat} {x0 : Int32} {x1 : Int32} {x2 : Int32}   (h : f_X5_areNeighbours_2 n x0 x1 x2 = some r) {H : Heap} {locs : List Loc} (Z : wx_Z D ad rd ca A σ H) (hS : va_S A s.heap H locs) {ls : Array Slot} (hl : lv_has ls 3 [(0, .int x0), (1, .int x1), (2, .int x2)]), W p l e ({ frames := 1, cells := 0, slots := 0, locals := 21 } : Room) s m args below meth c H locs 0 0 (MQ below (wx_Q D ad rd ca A (some (.int r)) σ) args s 0 0 A) (F0 m 2 ls []) := by
  obtain ⟨hx, hb, hml, hr, hts, hown, hlk, hC, hA⟩ := id B
  intro n
  induction n with
  | zero => intro x0 x1 x2   h H locs Z hS ls hl; exact wx_no h
  | succ n ih =>
    intro x0 x1 x2   h H locs Z hS ls hl
    rw [f_X5_areNeighbours_2] at h
    refine lv_iload_n hx hb dX5_areNeighbours_2 rfl (lv_at hl 2 rfl) ?_
    refine lv_iconst (v := 4) hx hb dX5_areNeighbours_3 (by decide) ?_
    refine lv_icmp_ge (tgt := 24) hx hb dX5_areNeighbours_4 (by decide) (fun c4 => ?_) (fun c4 => ?_)
    · replace h := wx_ift c4 h
      refine lv_iconst (v := 0) hx hb dX5_areNeighbours_24 (by decide) ?_
      obtain rfl := Option.some.inj h
      exact W.zret hx hb hr rfl (fun t ht hW => ⟨rfl, by rw [ht]; exact Z, hS.F ht⟩) hS.2.2 dX5_areNeighbours_25
    · replace h := wx_iff c4 h
      refine lv_iload_n hx hb dX5_areNeighbours_7 rfl (lv_at hl 0 rfl) ?_
      refine lv_iload_n hx hb dX5_areNeighbours_8 rfl (lv_at hl 2 rfl) ?_
      obtain ⟨v9, hc9, h⟩ := wx_o_ok h
      refine wx_call (va_runS (As := [.int x0, .int x2]) (rest := []) ⟨hx, hb, hml, hown, hts⟩ (c_X5_neighbourOf l (D := D) (ad := ad) (rd := rd) (ca := ca) (A := A) (σ := σ) hc9) (va_cwS 2 hts gX5_areNeighbours_X5_neighbourOf rfl rfl rfl (by decide +kernel) ⟨Nat.le_of_ble_eq_true rfl, Nat.le_of_ble_eq_true rfl⟩) (wx_preS hC Z hS hA) rfl rfl hl.1 rfl (lv_room (Nat.le_of_ble_eq_true rfl)) dX5_areNeighbours_9 ⟨Nat.zero_le _, Nat.zero_le _⟩) hS (fun H locs Z hS => ?_)
      refine lv_iload_n hx hb dX5_areNeighbours_12 rfl (lv_at hl 1 rfl) ?_
      refine lv_icmp_ne (tgt := 18) hx hb dX5_areNeighbours_13 (by decide) (fun c13 => ?_) (fun c13 => ?_)
      · replace h := wx_iff c13 h
        refine lv_iinc (v := x2 + 1) (lv' := [(2, .int (x2 + 1)), (0, .int x0), (1, .int x1)]) hx hb dX5_areNeighbours_18 hl (k := 2) rfl rfl (by decide) rfl (fun ls hl => ?_)
        refine lv_goto (tgt := 2) hx hb dX5_areNeighbours_21 (by decide) ?_
        exact ih h Z hS (lv_sub hl [1, 2, 0] rfl)
      · replace h := wx_ift c13 h
        refine lv_iconst (v := 1) hx hb dX5_areNeighbours_16 (by decide) ?_
        obtain rfl := Option.some.inj h
        exact W.zret hx hb hr rfl (fun t ht hW => ⟨rfl, by rw [ht]; exact Z, hS.F ht⟩) hS.2.2 dX5_areNeighbours_17
set_option maxRecDepth 20000 in
set_option maxHeartbeats 4000000 in
theorem b_X5_areNeighbours_0 (B : wx_B p s m args meth c cX5_areNeighbours 3 (some .boolean) wsX5_areNeighbours RX5 D ad ca A)    {r : Int32} {σ : wx_St}  {x0 : Int32} {x1 : Int32}   (h : f_X5_areNeighbours x0 x1 = some r) {H : Heap} {locs : List Loc} (Z : wx_Z D ad rd ca A σ H) (hS : va_S A s.heap H locs) {ls : Array Slot} (hl : lv_has ls 3 [(0, .int x0), (1, .int x1)]) : W p l e ({ frames := 1, cells := 0, slots := 0, locals := 21 } : Room) s m args below meth c H locs 0 0 (MQ below (wx_Q D ad rd ca A (some (.int r)) σ) args s 0 0 A) (F0 m 0 ls []) := by
  obtain ⟨hx, hb, hml, hr, hts, hown, hlk, hC, hA⟩ := id B
  unfold f_X5_areNeighbours at h
  refine lv_iconst (v := 0) hx hb dX5_areNeighbours_0 (by decide) ?_
  refine lv_istore_n (lv' := [(2, .int 0), (0, .int x0), (1, .int x1)]) hx hb dX5_areNeighbours_1 rfl hl (by decide) rfl (fun ls hl => ?_)
  exact b_X5_areNeighbours_2 B h Z hS (lv_sub hl [1, 2, 0] rfl)
set_option maxRecDepth 20000 in
theorem c_X5_areNeighbours (l : Launch) {D : va_G} {ad : Nat → Nat → Nat} {rd : Nat → Nat} {ca : Nat → ClassId} {A : Nat → Prop} {σ : wx_St}    {x0 : Int32} {x1 : Int32} {r : Int32} (h : f_X5_areNeighbours x0 x1 = some r) : wx_M l yX5_areNeighbours wsX5_areNeighbours 1 21 D ad rd ca A [.int x0, .int x1] σ (some (.int r)) σ := by
  refine Met.ofW (cc := cX5_areNeighbours) (maxL := 3) (ret := (some .boolean)) (by decide +kernel) rfl ?_
  intro p e s m args below meth c s₁ B0 hml hv
  obtain ⟨rfl, hC, Z, hA⟩ := hv
  have hl := lv_entry ([.int x0, .int x1]) (n := 3) (Nat.le_of_ble_eq_true rfl)
  rw [lg_entry_eq]
  generalize (lg_sl ([.int x0, .int x1]) ++ List.replicate (3 - (lg_sl ([.int x0, .int x1])).length) Slot.unset).toArray = ls at hl ⊢
  exact b_X5_areNeighbours_0 ⟨B0.exec, B0.bytes, hml, B0.returns, atoms_spec (ws := wsX5_areNeighbours) B0.pre, findClass_of_methodNamed B0.named, B0.notSynchronized, hC, hA⟩   h Z va_S.rf hl
theorem i_X0_isNeededByTouch_0 : ∀ w ∈ wsX00, w ∈ wsX0_isNeededByTouch := by decide +kernel
theorem k_X0_isNeededByTouch_w0 : Cond.fieldLink RX0 21 "WarmProbes$Board" "touches" "I" ∈ wsX0_isNeededByTouch := by decide +kernel
theorem k_X0_isNeededByTouch_w1 : Cond.fieldLink RX0 25 "WarmProbes$Board" "touchPlaces" "[I" ∈ wsX0_isNeededByTouch := by decide +kernel
theorem k_X0_isNeededByTouch_w2 : Cond.initialized RX5 ∈ wsX0_isNeededByTouch := by decide +kernel
theorem k_X0_isNeededByTouch_w3 : Cond.static yX5_areNeighbours ∈ wsX0_isNeededByTouch := by decide +kernel
theorem k_X0_isNeededByTouch_w4 : Cond.fieldLink RX0 28 "WarmProbes$Board" "touchOthers" "[I" ∈ wsX0_isNeededByTouch := by decide +kernel
theorem k_X0_isNeededByTouch_w5 : Cond.fieldLink RX0 15 "WarmProbes$Board" "nets" "[I" ∈ wsX0_isNeededByTouch := by decide +kernel
set_option maxRecDepth 20000 in
set_option maxHeartbeats 4000000 in
theorem b_X0_isNeededByTouch_52 (B : wx_B p s m args meth c cX0_isNeededByTouch 3 (some .boolean) wsX0_isNeededByTouch RX0 D ad ca A) {o : Nat}  (ho : o < 11) {r : Int32} {σ : wx_St} {K2 : Int32 → Int32 → wx_St → Option Int32} (hK2 : ∀ {x1 : Int32} {x2 : Int32}   (h : K2 x1 x2 σ = some r) {H : Heap} {locs : List Loc} (Z : wx_Z D ad rd ca A σ H) (hS : va_S A s.heap H locs) {ls : Array Slot} (hl : lv_has ls 3 [(0, .ref (ad o 99)), (1, .int x1), (2, .int x2)]), W p l e ({ frames := 2, cells := 0, slots := 0, locals := 43 } : Room) s m args below meth c H locs 0 0 (MQ below (wx_Q D ad rd ca A (some (.int r)) σ) args s 0 0 A) (F0 m 2 ls [])) {x1 : Int32} {x2 : Int32}   (h : f_X0_isNeededByTouch_52 o K2 x1 x2 σ = some r) {H : Heap} {locs : List Loc} (Z : wx_Z D ad rd ca A σ H) (hS : va_S A s.heap H locs) {ls : Array Slot} (hl : lv_has ls 3 [(0, .ref (ad o 99)), (1, .int x1), (2, .int x2)]) : W p l e ({ frames := 2, cells := 0, slots := 0, locals := 43 } : Room) s m args below meth c H locs 0 0 (MQ below (wx_Q D ad rd ca A (some (.int r)) σ) args s 0 0 A) (F0 m 52 ls []) := by
  obtain ⟨hx, hb, hml, hr, hts, hown, hlk, hC, hA⟩ := id B
  unfold f_X0_isNeededByTouch_52 at h
  refine lv_iinc (v := x2 + 1) (lv' := [(2, .int (x2 + 1)), (0, .ref (ad o 99)), (1, .int x1)]) hx hb dX0_isNeededByTouch_52 hl (k := 2) rfl rfl (by decide) rfl (fun ls hl => ?_)
  refine lv_goto (tgt := 2) hx hb dX0_isNeededByTouch_55 (by decide) ?_
  exact hK2 h Z hS (lv_sub hl [1, 2, 0] rfl)
set_option maxRecDepth 20000 in
set_option maxHeartbeats 4000000 in
theorem b_X0_isNeededByTouch_2 (B : wx_B p s m args meth c cX0_isNeededByTouch 3 (some .boolean) wsX0_isNeededByTouch RX0 D ad ca A) {o : Nat}  (ho : o < 11) {r : Int32} {σ : wx_St}   :
    ∀ {n : Nat} {x1 : Int32} {x2 : Int32}   (h : f_X0_isNeededByTouch_2 o n x1 x2 σ = some r) {H : Heap} {locs : List Loc} (Z : wx_Z D ad rd ca A σ H) (hS : va_S A s.heap H locs) {ls : Array Slot} (hl : lv_has ls 3 [(0, .ref (ad o 99)), (1, .int x1), (2, .int x2)]), W p l e ({ frames := 2, cells := 0, slots := 0, locals := 43 } : Room) s m args below meth c H locs 0 0 (MQ below (wx_Q D ad rd ca A (some (.int r)) σ) args s 0 0 A) (F0 m 2 ls []) := by
  obtain ⟨hx, hb, hml, hr, hts, hown, hlk, hC, hA⟩ := id B
  intro n
  induction n with
  | zero => intro x1 x2   h H locs Z hS ls hl; exact wx_no h
  | succ n ih =>
    intro x1 x2   h H locs Z hS ls hl
    rw [f_X0_isNeededByTouch_2] at h
    refine lv_iload_n hx hb dX0_isNeededByTouch_2 rfl (lv_at hl 2 rfl) ?_
    refine lv_aload_n hx hb dX0_isNeededByTouch_3 rfl (lv_at hl 0 rfl) ?_
    refine wx_get (own := RX0) hx hb hts i_X0_isNeededByTouch_0 hown hC.1 Z (o := o) (ci := 0) (wx_sbo ho 99) (rfl : vwCl[0]? = some (RX0, TX0, 13)) 3 (by decide) (hts _ k_X0_isNeededByTouch_w0) (fun _ h9 => h9) (f := 1) rfl rfl dX0_isNeededByTouch_4 ?_
    refine lv_icmp_ge (tgt := 58) hx hb dX0_isNeededByTouch_7 (by decide) (fun c7 => ?_) (fun c7 => ?_)
    · replace h := wx_ift c7 h
      refine lv_iconst (v := 0) hx hb dX0_isNeededByTouch_58 (by decide) ?_
      obtain rfl := Option.some.inj h
      exact W.zret hx hb hr rfl (fun t ht hW => ⟨rfl, by rw [ht]; exact Z, hS.F ht⟩) hS.2.2 dX0_isNeededByTouch_59
    · replace h := wx_iff c7 h
      refine lv_aload_n hx hb dX0_isNeededByTouch_10 rfl (lv_at hl 0 rfl) ?_
      refine wx_get (own := RX0) hx hb hts i_X0_isNeededByTouch_0 hown hC.1 Z (o := o) (ci := 0) (wx_sbo ho 99) (rfl : vwCl[0]? = some (RX0, TX0, 13)) 4 (by decide) (hts _ k_X0_isNeededByTouch_w1) (fun _ h9 => h9) (f := 0) rfl rfl dX0_isNeededByTouch_11 ?_
      refine lv_iload_n hx hb dX0_isNeededByTouch_14 rfl (lv_at hl 2 rfl) ?_
      obtain ⟨v15, ev15, iv15, h⟩ := wx_rI_ok h
      refine wx_iald hx hb hC.1 Z (o := o) (k := 4) (n := 3) (wx_sbo ho 4) rfl iv15 dX0_isNeededByTouch_15 ev15 ?_
      refine lv_iload_n hx hb dX0_isNeededByTouch_16 rfl (lv_at hl 1 rfl) ?_
      refine lv_icmp_ne (tgt := 22) hx hb dX0_isNeededByTouch_17 (by decide) (fun c17 => ?_) (fun c17 => ?_)
      · replace h := wx_iff c17 h
        refine lv_aload_n hx hb dX0_isNeededByTouch_22 rfl (lv_at hl 0 rfl) ?_
        refine wx_get (own := RX0) hx hb hts i_X0_isNeededByTouch_0 hown hC.1 Z (o := o) (ci := 0) (wx_sbo ho 99) (rfl : vwCl[0]? = some (RX0, TX0, 13)) 4 (by decide) (hts _ k_X0_isNeededByTouch_w1) (fun _ h9 => h9) (f := 0) rfl rfl dX0_isNeededByTouch_23 ?_
        refine lv_iload_n hx hb dX0_isNeededByTouch_26 rfl (lv_at hl 2 rfl) ?_
        obtain ⟨v27, ev27, iv27, h⟩ := wx_rI_ok h
        refine wx_iald hx hb hC.1 Z (o := o) (k := 4) (n := 3) (wx_sbo ho 4) rfl iv27 dX0_isNeededByTouch_27 ev27 ?_
        refine lv_iload_n hx hb dX0_isNeededByTouch_28 rfl (lv_at hl 1 rfl) ?_
        obtain ⟨v29, hc29, h⟩ := wx_o_ok h
        refine wx_call (va_runSN (As := [.int v27, .int x1]) (rest := []) ⟨hx, hb, hml, hown, hts⟩ (c_X5_areNeighbours l (D := D) (ad := ad) (rd := rd) (ca := ca) (A := A) (σ := σ) hc29) ⟨va_cnB 2 hts gX0_isNeededByTouch_X5_areNeighbours_n82 rfl rfl rfl (hC.1.2.1 _ (List.mem_of_getElem? (i := 36) rfl)) (hts _ k_X0_isNeededByTouch_w2) (by decide +kernel) ⟨Nat.le_of_ble_eq_true rfl, Nat.le_of_ble_eq_true rfl⟩, hts _ k_X0_isNeededByTouch_w3, trivial⟩ (wx_preS hC Z hS hA) rfl rfl hl.1 rfl (lv_room (Nat.le_of_ble_eq_true rfl)) dX0_isNeededByTouch_29 ⟨Nat.zero_le _, Nat.zero_le _⟩) hS (fun H locs Z hS => ?_)
        refine lv_if_eq (tgt := 52) hx hb dX0_isNeededByTouch_32 (by decide) (fun c32 => ?_) (fun c32 => ?_)
        · replace h := wx_ift c32 h
          exact b_X0_isNeededByTouch_52 B ho (K2 := (f_X0_isNeededByTouch_2 o n)) @ih h Z hS (lv_sub hl [0, 1, 2] rfl)
        · replace h := wx_iff c32 h
          refine lv_aload_n hx hb dX0_isNeededByTouch_35 rfl (lv_at hl 0 rfl) ?_
          refine wx_get (own := RX0) hx hb hts i_X0_isNeededByTouch_0 hown hC.1 Z (o := o) (ci := 0) (wx_sbo ho 99) (rfl : vwCl[0]? = some (RX0, TX0, 13)) 5 (by decide) (hts _ k_X0_isNeededByTouch_w4) (fun _ h9 => h9) (f := 0) rfl rfl dX0_isNeededByTouch_36 ?_
          refine lv_iload_n hx hb dX0_isNeededByTouch_39 rfl (lv_at hl 2 rfl) ?_
          obtain ⟨v40, ev40, iv40, h⟩ := wx_rI_ok h
          refine wx_iald hx hb hC.1 Z (o := o) (k := 5) (n := 3) (wx_sbo ho 5) rfl iv40 dX0_isNeededByTouch_40 ev40 ?_
          refine lv_aload_n hx hb dX0_isNeededByTouch_41 rfl (lv_at hl 0 rfl) ?_
          refine wx_get (own := RX0) hx hb hts i_X0_isNeededByTouch_0 hown hC.1 Z (o := o) (ci := 0) (wx_sbo ho 99) (rfl : vwCl[0]? = some (RX0, TX0, 13)) 1 (by decide) (hts _ k_X0_isNeededByTouch_w5) (fun _ h9 => h9) (f := 0) rfl rfl dX0_isNeededByTouch_42 ?_
          refine lv_iload_n hx hb dX0_isNeededByTouch_45 rfl (lv_at hl 1 rfl) ?_
          obtain ⟨v46, ev46, iv46, h⟩ := wx_rI_ok h
          refine wx_iald hx hb hC.1 Z (o := o) (k := 1) (n := 64) (wx_sbo ho 1) rfl iv46 dX0_isNeededByTouch_46 ev46 ?_
          refine lv_icmp_ne (tgt := 52) hx hb dX0_isNeededByTouch_47 (by decide) (fun c47 => ?_) (fun c47 => ?_)
          · replace h := wx_iff c47 h
            exact b_X0_isNeededByTouch_52 B ho (K2 := (f_X0_isNeededByTouch_2 o n)) @ih h Z hS (lv_sub hl [0, 1, 2] rfl)
          · replace h := wx_ift c47 h
            refine lv_iconst (v := 1) hx hb dX0_isNeededByTouch_50 (by decide) ?_
            obtain rfl := Option.some.inj h
            exact W.zret hx hb hr rfl (fun t ht hW => ⟨rfl, by rw [ht]; exact Z, hS.F ht⟩) hS.2.2 dX0_isNeededByTouch_51
      · replace h := wx_ift c17 h
        refine lv_iconst (v := 1) hx hb dX0_isNeededByTouch_20 (by decide) ?_
        obtain rfl := Option.some.inj h
        exact W.zret hx hb hr rfl (fun t ht hW => ⟨rfl, by rw [ht]; exact Z, hS.F ht⟩) hS.2.2 dX0_isNeededByTouch_21
set_option maxRecDepth 20000 in
set_option maxHeartbeats 4000000 in
theorem b_X0_isNeededByTouch_0 (B : wx_B p s m args meth c cX0_isNeededByTouch 3 (some .boolean) wsX0_isNeededByTouch RX0 D ad ca A) {o : Nat}  (ho : o < 11) {r : Int32} {σ : wx_St}  {x1 : Int32}   (h : f_X0_isNeededByTouch o x1 σ = some r) {H : Heap} {locs : List Loc} (Z : wx_Z D ad rd ca A σ H) (hS : va_S A s.heap H locs) {ls : Array Slot} (hl : lv_has ls 3 [(0, .ref (ad o 99)), (1, .int x1)]) : W p l e ({ frames := 2, cells := 0, slots := 0, locals := 43 } : Room) s m args below meth c H locs 0 0 (MQ below (wx_Q D ad rd ca A (some (.int r)) σ) args s 0 0 A) (F0 m 0 ls []) := by
  obtain ⟨hx, hb, hml, hr, hts, hown, hlk, hC, hA⟩ := id B
  unfold f_X0_isNeededByTouch at h
  refine lv_iconst (v := 0) hx hb dX0_isNeededByTouch_0 (by decide) ?_
  refine lv_istore_n (lv' := [(2, .int 0), (0, .ref (ad o 99)), (1, .int x1)]) hx hb dX0_isNeededByTouch_1 rfl hl (by decide) rfl (fun ls hl => ?_)
  exact b_X0_isNeededByTouch_2 B ho h Z hS (lv_sub hl [1, 2, 0] rfl)
set_option maxRecDepth 20000 in
theorem c_X0_isNeededByTouch (l : Launch) {D : va_G} {ad : Nat → Nat → Nat} {rd : Nat → Nat} {ca : Nat → ClassId} {A : Nat → Prop} {σ : wx_St} {o : Nat}  (ho : o < 11) {x1 : Int32} {r : Int32} (h : f_X0_isNeededByTouch o x1 σ = some r) : wx_M l yX0_isNeededByTouch wsX0_isNeededByTouch 2 43 D ad rd ca A [.ref (ad o 99), .int x1] σ (some (.int r)) σ := by
  refine Met.ofW (cc := cX0_isNeededByTouch) (maxL := 3) (ret := (some .boolean)) (by decide +kernel) rfl ?_
  intro p e s m args below meth c s₁ B0 hml hv
  obtain ⟨rfl, hC, Z, hA⟩ := hv
  have hl := lv_entry ([.ref (ad o 99), .int x1]) (n := 3) (Nat.le_of_ble_eq_true rfl)
  rw [lg_entry_eq]
  generalize (lg_sl ([.ref (ad o 99), .int x1]) ++ List.replicate (3 - (lg_sl ([.ref (ad o 99), .int x1])).length) Slot.unset).toArray = ls at hl ⊢
  exact b_X0_isNeededByTouch_0 ⟨B0.exec, B0.bytes, hml, B0.returns, atoms_spec (ws := wsX0_isNeededByTouch) B0.pre, findClass_of_methodNamed B0.named, B0.notSynchronized, hC, hA⟩ ho  h Z va_S.rf hl
theorem i_X0_join_0 : ∀ w ∈ wsX00, w ∈ wsX0_join := by decide +kernel
theorem k_X0_join_w0 : Cond.initialized RX5 ∈ wsX0_join := by decide +kernel
theorem k_X0_join_w1 : Cond.static yX5_placeOf ∈ wsX0_join := by decide +kernel
theorem k_X0_join_w2 : Cond.static yX5_isNet ∈ wsX0_join := by decide +kernel
theorem k_X0_join_w3 : Cond.fieldLink RX0 15 "WarmProbes$Board" "nets" "[I" ∈ wsX0_join := by decide +kernel
theorem k_X0_join_w4 : Cond.fieldLink RX0 21 "WarmProbes$Board" "touches" "I" ∈ wsX0_join := by decide +kernel
theorem k_X0_join_w5 : Cond.fieldLink RX0 25 "WarmProbes$Board" "touchPlaces" "[I" ∈ wsX0_join := by decide +kernel
theorem k_X0_join_w6 : Cond.fieldLink RX0 28 "WarmProbes$Board" "touchOthers" "[I" ∈ wsX0_join := by decide +kernel
set_option maxRecDepth 20000 in
set_option maxHeartbeats 4000000 in
theorem b_X0_join_66 (B : wx_B p s m args meth c cX0_join 5 (some .int) wsX0_join RX0 D ad ca A) {o : Nat}  (ho : o < 11) {r : Int32} {σ' : wx_St}  {x1 : Int32} {x2 : Int32} {x3 : Int32} {x4 : Int32} {σ : wx_St}  (h : f_X0_join_66 o x1 x2 x3 x4 σ = some (r, σ')) {H : Heap} {locs : List Loc} (Z : wx_Z D ad rd ca A σ H) (hS : va_S A s.heap H locs) {ls : Array Slot} (hl : lv_has ls 5 [(0, .ref (ad o 99)), (1, .int x1), (2, .int x2), (3, .int x3), (4, .int x4)]) : W p l e ({ frames := 2, cells := 0, slots := 0, locals := 45 } : Room) s m args below meth c H locs 0 0 (MQ below (wx_Q D ad rd ca A (some (.int r)) σ') args s 0 0 A) (F0 m 66 ls []) := by
  obtain ⟨hx, hb, hml, hr, hts, hown, hlk, hC, hA⟩ := id B
  unfold f_X0_join_66 at h
  refine lv_bipush (v := (-5)) hx hb dX0_join_66 (by decide) ?_
  obtain ⟨rfl, rfl⟩ := wx_ret_ok h
  exact W.iret hx hb hr (fun t ht hW => ⟨rfl, by rw [ht]; exact Z, hS.F ht⟩) hS.2.2 dX0_join_68
set_option maxRecDepth 20000 in
set_option maxHeartbeats 4000000 in
theorem b_X0_join_0 (B : wx_B p s m args meth c cX0_join 5 (some .int) wsX0_join RX0 D ad ca A) {o : Nat}  (ho : o < 11) {r : Int32} {σ' : wx_St}  {x1 : Int32} {x2 : Int32} {x3 : Int32} {σ : wx_St}  (h : f_X0_join o x1 x2 x3 σ = some (r, σ')) {H : Heap} {locs : List Loc} (Z : wx_Z D ad rd ca A σ H) (hS : va_S A s.heap H locs) {ls : Array Slot} (hl : lv_has ls 5 [(0, .ref (ad o 99)), (1, .int x1), (2, .int x2), (3, .int x3)]) : W p l e ({ frames := 2, cells := 0, slots := 0, locals := 45 } : Room) s m args below meth c H locs 0 0 (MQ below (wx_Q D ad rd ca A (some (.int r)) σ') args s 0 0 A) (F0 m 0 ls []) := by
  obtain ⟨hx, hb, hml, hr, hts, hown, hlk, hC, hA⟩ := id B
  unfold f_X0_join at h
  refine lv_iload_n hx hb dX0_join_0 rfl (lv_at hl 1 rfl) ?_
  refine lv_iload_n hx hb dX0_join_1 rfl (lv_at hl 2 rfl) ?_
  obtain ⟨v2, hc2, h⟩ := wx_o_ok h
  refine wx_call (va_runSN (As := [.int x1, .int x2]) (rest := []) ⟨hx, hb, hml, hown, hts⟩ (c_X5_placeOf l (D := D) (ad := ad) (rd := rd) (ca := ca) (A := A) (σ := σ) hc2) ⟨va_cnB 2 hts gX0_join_X5_placeOf_n71 rfl rfl rfl (hC.1.2.1 _ (List.mem_of_getElem? (i := 34) rfl)) (hts _ k_X0_join_w0) (by decide +kernel) ⟨Nat.le_of_ble_eq_true rfl, Nat.le_of_ble_eq_true rfl⟩, hts _ k_X0_join_w1, trivial⟩ (wx_preS hC Z hS hA) rfl rfl hl.1 rfl (lv_room (Nat.le_of_ble_eq_true rfl)) dX0_join_2 ⟨Nat.zero_le _, Nat.zero_le _⟩) hS (fun H locs Z hS => ?_)
  refine lv_istore (lv' := [(4, .int v2), (0, .ref (ad o 99)), (1, .int x1), (2, .int x2), (3, .int x3)]) hx hb dX0_join_5 hl (by decide) rfl (fun ls hl => ?_)
  refine lv_iload hx hb dX0_join_7 (lv_at hl 0 rfl) ?_
  refine lv_if_ge (tgt := 14) hx hb dX0_join_9 (by decide) (fun c9 => ?_) (fun c9 => ?_)
  · replace h := wx_ift c9 h
    refine lv_iload_n hx hb dX0_join_14 rfl (lv_at hl 4 rfl) ?_
    obtain ⟨v15, hc15, h⟩ := wx_o_ok h
    refine wx_call (va_runSN (As := [.int x3]) (rest := []) ⟨hx, hb, hml, hown, hts⟩ (c_X5_isNet l (D := D) (ad := ad) (rd := rd) (ca := ca) (A := A) (σ := σ) hc15) ⟨va_cnB 1 hts gX0_join_X5_isNet_n75 rfl rfl rfl (hC.1.2.1 _ (List.mem_of_getElem? (i := 35) rfl)) (hts _ k_X0_join_w0) (by decide +kernel) ⟨Nat.le_of_ble_eq_true rfl, Nat.le_of_ble_eq_true rfl⟩, hts _ k_X0_join_w2, trivial⟩ (wx_preS hC Z hS hA) rfl rfl hl.1 rfl (lv_room (Nat.le_of_ble_eq_true rfl)) dX0_join_15 ⟨Nat.zero_le _, Nat.zero_le _⟩) hS (fun H locs Z hS => ?_)
    refine lv_if_ne (tgt := 24) hx hb dX0_join_18 (by decide) (fun c18 => ?_) (fun c18 => ?_)
    · replace h := wx_iff c18 h
      refine lv_aload_n hx hb dX0_join_24 rfl (lv_at hl 1 rfl) ?_
      refine wx_get (own := RX0) hx hb hts i_X0_join_0 hown hC.1 Z (o := o) (ci := 0) (wx_sbo ho 99) (rfl : vwCl[0]? = some (RX0, TX0, 13)) 1 (by decide) (hts _ k_X0_join_w3) (fun _ h9 => h9) (f := 0) rfl rfl dX0_join_25 ?_
      refine lv_iload hx hb dX0_join_28 (lv_at hl 0 rfl) ?_
      obtain ⟨v30, ev30, iv30, h⟩ := wx_rI_ok h
      refine wx_iald hx hb hC.1 Z (o := o) (k := 1) (n := 64) (wx_sbo ho 1) rfl iv30 dX0_join_30 ev30 ?_
      refine lv_if_eq (tgt := 66) hx hb dX0_join_31 (by decide) (fun c31 => ?_) (fun c31 => ?_)
      · replace h := wx_ift c31 h
        exact b_X0_join_66 B ho h Z hS (lv_sub hl [1, 2, 3, 4, 0] rfl)
      · replace h := wx_iff c31 h
        refine lv_aload_n hx hb dX0_join_34 rfl (lv_at hl 1 rfl) ?_
        refine wx_get (own := RX0) hx hb hts i_X0_join_0 hown hC.1 Z (o := o) (ci := 0) (wx_sbo ho 99) (rfl : vwCl[0]? = some (RX0, TX0, 13)) 1 (by decide) (hts _ k_X0_join_w3) (fun _ h9 => h9) (f := 0) rfl rfl dX0_join_35 ?_
        refine lv_iload hx hb dX0_join_38 (lv_at hl 0 rfl) ?_
        obtain ⟨v40, ev40, iv40, h⟩ := wx_rI_ok h
        refine wx_iald hx hb hC.1 Z (o := o) (k := 1) (n := 64) (wx_sbo ho 1) rfl iv40 dX0_join_40 ev40 ?_
        refine lv_iload_n hx hb dX0_join_41 rfl (lv_at hl 4 rfl) ?_
        refine lv_icmp_eq (tgt := 66) hx hb dX0_join_42 (by decide) (fun c42 => ?_) (fun c42 => ?_)
        · replace h := wx_ift c42 h
          exact b_X0_join_66 B ho h Z hS (lv_sub hl [1, 2, 3, 4, 0] rfl)
        · replace h := wx_iff c42 h
          refine lv_aload_n hx hb dX0_join_45 rfl (lv_at hl 1 rfl) ?_
          refine lv_iload hx hb dX0_join_46 (lv_at hl 0 rfl) ?_
          obtain ⟨v48, hc48, h⟩ := wx_o_ok h
          refine wx_call (va_runV (As := [.int v2]) (rest := []) ⟨hx, hb, hml, hown, hts⟩ (c_X0_touchAt l (D := D) (ad := ad) (rd := rd) (ca := ca) (A := A) (σ := σ) (o := o) ho hc48) (cwV 1 hts gX0_join_X0_touchAt rfl rfl rfl (by decide +kernel) ⟨Nat.le_of_ble_eq_true rfl, Nat.le_of_ble_eq_true rfl⟩) (wx_preV hC Z hS hA (wx_sbo ho 99) (rfl : vwCl[0]? = some (RX0, TX0, 13))) rfl rfl hl.1 rfl (lv_room (Nat.le_of_ble_eq_true rfl)) dX0_join_48 ⟨Nat.zero_le _, Nat.zero_le _⟩) hS (fun H locs Z hS => ?_)
          refine lv_bipush (v := (-6)) hx hb dX0_join_51 (by decide) ?_
          refine lv_icmp_ne (tgt := 66) hx hb dX0_join_53 (by decide) (fun c53 => ?_) (fun c53 => ?_)
          · replace h := wx_iff c53 h
            exact b_X0_join_66 B ho h Z hS (lv_sub hl [1, 2, 3, 4, 0] rfl)
          · replace h := wx_ift c53 h
            refine lv_aload_n hx hb dX0_join_56 rfl (lv_at hl 1 rfl) ?_
            refine lv_iload hx hb dX0_join_57 (lv_at hl 0 rfl) ?_
            refine lv_iload_n hx hb dX0_join_59 rfl (lv_at hl 4 rfl) ?_
            obtain ⟨v60, hc60, h⟩ := wx_o_ok h
            refine wx_call (va_runV (As := [.int v2, .int x3]) (rest := []) ⟨hx, hb, hml, hown, hts⟩ (c_X0_hasNeighbourOf l (D := D) (ad := ad) (rd := rd) (ca := ca) (A := A) (σ := σ) (o := o) ho hc60) (cwV 2 hts gX0_join_X0_hasNeighbourOf rfl rfl rfl (by decide +kernel) ⟨Nat.le_of_ble_eq_true rfl, Nat.le_of_ble_eq_true rfl⟩) (wx_preV hC Z hS hA (wx_sbo ho 99) (rfl : vwCl[0]? = some (RX0, TX0, 13))) rfl rfl hl.1 rfl (lv_room (Nat.le_of_ble_eq_true rfl)) dX0_join_60 ⟨Nat.zero_le _, Nat.zero_le _⟩) hS (fun H locs Z hS => ?_)
            refine lv_if_ne (tgt := 69) hx hb dX0_join_63 (by decide) (fun c63 => ?_) (fun c63 => ?_)
            · replace h := wx_iff c63 h
              refine lv_aload_n hx hb dX0_join_69 rfl (lv_at hl 1 rfl) ?_
              refine wx_get (own := RX0) hx hb hts i_X0_join_0 hown hC.1 Z (o := o) (ci := 0) (wx_sbo ho 99) (rfl : vwCl[0]? = some (RX0, TX0, 13)) 3 (by decide) (hts _ k_X0_join_w4) (fun _ h9 => h9) (f := 1) rfl rfl dX0_join_70 ?_
              refine lv_iconst (v := 3) hx hb dX0_join_73 (by decide) ?_
              refine lv_icmp_lt (tgt := 80) hx hb dX0_join_74 (by decide) (fun c74 => ?_) (fun c74 => ?_)
              · replace h := wx_ift c74 h
                refine lv_aload_n hx hb dX0_join_80 rfl (lv_at hl 1 rfl) ?_
                refine wx_get (own := RX0) hx hb hts i_X0_join_0 hown hC.1 Z (o := o) (ci := 0) (wx_sbo ho 99) (rfl : vwCl[0]? = some (RX0, TX0, 13)) 4 (by decide) (hts _ k_X0_join_w5) (fun _ h9 => h9) (f := 0) rfl rfl dX0_join_81 ?_
                refine lv_aload_n hx hb dX0_join_84 rfl (lv_at hl 1 rfl) ?_
                refine wx_get (own := RX0) hx hb hts i_X0_join_0 hown hC.1 Z (o := o) (ci := 0) (wx_sbo ho 99) (rfl : vwCl[0]? = some (RX0, TX0, 13)) 3 (by decide) (hts _ k_X0_join_w4) (fun _ h9 => h9) (f := 1) rfl rfl dX0_join_85 ?_
                refine lv_iload hx hb dX0_join_88 (lv_at hl 0 rfl) ?_
                obtain ⟨σ90, e90, i90, h⟩ := wx_w_ok h
                refine wx_iast hx hb hC.1 Z hS (o := o) (k := 4) (n := 3) (wx_sbo ho 4) rfl i90 dX0_join_90 e90 (fun H locs Z hS => ?_)
                refine lv_aload_n hx hb dX0_join_91 rfl (lv_at hl 1 rfl) ?_
                refine wx_get (own := RX0) hx hb hts i_X0_join_0 hown hC.1 Z (o := o) (ci := 0) (wx_sbo ho 99) (rfl : vwCl[0]? = some (RX0, TX0, 13)) 5 (by decide) (hts _ k_X0_join_w6) (fun _ h9 => h9) (f := 0) rfl rfl dX0_join_92 ?_
                refine lv_aload_n hx hb dX0_join_95 rfl (lv_at hl 1 rfl) ?_
                refine wx_get (own := RX0) hx hb hts i_X0_join_0 hown hC.1 Z (o := o) (ci := 0) (wx_sbo ho 99) (rfl : vwCl[0]? = some (RX0, TX0, 13)) 3 (by decide) (hts _ k_X0_join_w4) (fun _ h9 => h9) (f := 1) rfl rfl dX0_join_96 ?_
                refine lv_iload_n hx hb dX0_join_99 rfl (lv_at hl 4 rfl) ?_
                obtain ⟨σ100, e100, i100, h⟩ := wx_w_ok h
                refine wx_iast hx hb hC.1 Z hS (o := o) (k := 5) (n := 3) (wx_sbo ho 5) rfl i100 dX0_join_100 e100 (fun H locs Z hS => ?_)
                refine lv_aload_n hx hb dX0_join_101 rfl (lv_at hl 1 rfl) ?_
                refine lv_dup hx hb dX0_join_102 rfl ?_
                refine wx_get (own := RX0) hx hb hts i_X0_join_0 hown hC.1 Z (o := o) (ci := 0) (wx_sbo ho 99) (rfl : vwCl[0]? = some (RX0, TX0, 13)) 3 (by decide) (hts _ k_X0_join_w4) (fun _ h9 => h9) (f := 1) rfl rfl dX0_join_103 ?_
                refine lv_iconst (v := 1) hx hb dX0_join_106 (by decide) ?_
                refine lv_iadd hx hb dX0_join_107 ?_
                obtain ⟨σ108, e108, h⟩ := wx_l_ok h
                refine wx_put (own := RX0) hx hb hts i_X0_join_0 tyX0 tyX0_ok nmX0 hown hC.1 Z hS (o := o) (ci := 0) (wx_sbo ho 99) (rfl : vwCl[0]? = some (RX0, TX0, 13)) 3 (by decide) (hts _ k_X0_join_w4) (fun _ h9 => h9) rfl (by decide +kernel) rfl dX0_join_108 e108 (fun H locs Z hS => ?_)
                refine lv_aload_n hx hb dX0_join_111 rfl (lv_at hl 1 rfl) ?_
                obtain ⟨v112, σ112, hc112, h⟩ := wx_b_ok h
                refine wx_call (va_runV (As := []) (rest := []) ⟨hx, hb, hml, hown, hts⟩ (c_X0_beginRun l (D := D) (ad := ad) (rd := rd) (ca := ca) (A := A) (σ := σ108) (o := o) ho hc112) (cwV 0 hts gX0_join_X0_beginRun rfl rfl rfl (by decide +kernel) ⟨Nat.le_of_ble_eq_true rfl, Nat.le_of_ble_eq_true rfl⟩) (wx_preV hC Z hS hA (wx_sbo ho 99) (rfl : vwCl[0]? = some (RX0, TX0, 13))) rfl rfl hl.1 rfl (lv_room (Nat.le_of_ble_eq_true rfl)) dX0_join_112 ⟨Nat.zero_le _, Nat.zero_le _⟩) hS (fun H locs Z hS => ?_)
                refine lv_aload_n hx hb dX0_join_115 rfl (lv_at hl 1 rfl) ?_
                refine wx_get (own := RX0) hx hb hts i_X0_join_0 hown hC.1 Z (o := o) (ci := 0) (wx_sbo ho 99) (rfl : vwCl[0]? = some (RX0, TX0, 13)) 3 (by decide) (hts _ k_X0_join_w4) (fun _ h9 => h9) (f := 1) rfl rfl dX0_join_116 ?_
                refine lv_iconst (v := 1) hx hb dX0_join_119 (by decide) ?_
                refine lv_isub hx hb dX0_join_120 ?_
                obtain ⟨rfl, rfl⟩ := wx_ret_ok h
                exact W.iret hx hb hr (fun t ht hW => ⟨rfl, by rw [ht]; exact Z, hS.F ht⟩) hS.2.2 dX0_join_121
              · replace h := wx_iff c74 h
                refine lv_bipush (v := (-4)) hx hb dX0_join_77 (by decide) ?_
                obtain ⟨rfl, rfl⟩ := wx_ret_ok h
                exact W.iret hx hb hr (fun t ht hW => ⟨rfl, by rw [ht]; exact Z, hS.F ht⟩) hS.2.2 dX0_join_79
            · replace h := wx_ift c63 h
              exact b_X0_join_66 B ho h Z hS (lv_sub hl [1, 2, 3, 4, 0] rfl)
    · replace h := wx_ift c18 h
      refine lv_bipush (v := (-2)) hx hb dX0_join_21 (by decide) ?_
      obtain ⟨rfl, rfl⟩ := wx_ret_ok h
      exact W.iret hx hb hr (fun t ht hW => ⟨rfl, by rw [ht]; exact Z, hS.F ht⟩) hS.2.2 dX0_join_23
  · replace h := wx_iff c9 h
    refine lv_iconst (v := (-1)) hx hb dX0_join_12 (by decide) ?_
    obtain ⟨rfl, rfl⟩ := wx_ret_ok h
    exact W.iret hx hb hr (fun t ht hW => ⟨rfl, by rw [ht]; exact Z, hS.F ht⟩) hS.2.2 dX0_join_13
set_option maxRecDepth 20000 in
theorem c_X0_join (l : Launch) {D : va_G} {ad : Nat → Nat → Nat} {rd : Nat → Nat} {ca : Nat → ClassId} {A : Nat → Prop} {σ : wx_St} {o : Nat}  (ho : o < 11) {x1 : Int32} {x2 : Int32} {x3 : Int32} {r : Int32} {σ' : wx_St} (h : f_X0_join o x1 x2 x3 σ = some (r, σ')) : wx_M l yX0_join wsX0_join 2 45 D ad rd ca A [.ref (ad o 99), .int x1, .int x2, .int x3] σ (some (.int r)) σ' := by
  refine Met.ofW (cc := cX0_join) (maxL := 5) (ret := (some .int)) (by decide +kernel) rfl ?_
  intro p e s m args below meth c s₁ B0 hml hv
  obtain ⟨rfl, hC, Z, hA⟩ := hv
  have hl := lv_entry ([.ref (ad o 99), .int x1, .int x2, .int x3]) (n := 5) (Nat.le_of_ble_eq_true rfl)
  rw [lg_entry_eq]
  generalize (lg_sl ([.ref (ad o 99), .int x1, .int x2, .int x3]) ++ List.replicate (5 - (lg_sl ([.ref (ad o 99), .int x1, .int x2, .int x3])).length) Slot.unset).toArray = ls at hl ⊢
  exact b_X0_join_0 ⟨B0.exec, B0.bytes, hml, B0.returns, atoms_spec (ws := wsX0_join) B0.pre, findClass_of_methodNamed B0.named, B0.notSynchronized, hC, hA⟩ ho  h Z va_S.rf hl
theorem i_X0_lay_0 : ∀ w ∈ wsX00, w ∈ wsX0_lay := by decide +kernel
theorem k_X0_lay_w0 : Cond.initialized RX5 ∈ wsX0_lay := by decide +kernel
theorem k_X0_lay_w1 : Cond.static yX5_placeOf ∈ wsX0_lay := by decide +kernel
theorem k_X0_lay_w2 : Cond.static yX5_isNet ∈ wsX0_lay := by decide +kernel
theorem k_X0_lay_w3 : Cond.fieldLink RX0 15 "WarmProbes$Board" "nets" "[I" ∈ wsX0_lay := by decide +kernel
set_option maxRecDepth 20000 in
set_option maxHeartbeats 4000000 in
theorem b_X0_lay_28 (B : wx_B p s m args meth c cX0_lay 6 (some .int) wsX0_lay RX0 D ad ca A) {o : Nat}  (ho : o < 11) {r : Int32} {σ' : wx_St}  {x1 : Int32} {x2 : Int32} {x3 : Int32} {x4 : Int32} {σ : wx_St}  (h : f_X0_lay_28 o x1 x2 x3 x4 σ = some (r, σ')) {H : Heap} {locs : List Loc} (Z : wx_Z D ad rd ca A σ H) (hS : va_S A s.heap H locs) {ls : Array Slot} (hl : lv_has ls 6 [(0, .ref (ad o 99)), (1, .int x1), (2, .int x2), (3, .int x3), (4, .int x4)]) : W p l e ({ frames := 3, cells := 0, slots := 0, locals := 65 } : Room) s m args below meth c H locs 0 0 (MQ below (wx_Q D ad rd ca A (some (.int r)) σ') args s 0 0 A) (F0 m 28 ls []) := by
  obtain ⟨hx, hb, hml, hr, hts, hown, hlk, hC, hA⟩ := id B
  unfold f_X0_lay_28 at h
  refine lv_aload_n hx hb dX0_lay_28 rfl (lv_at hl 0 rfl) ?_
  refine lv_iload hx hb dX0_lay_29 (lv_at hl 4 rfl) ?_
  obtain ⟨v31, hc31, h⟩ := wx_o_ok h
  refine wx_call (va_runV (As := [.int x4]) (rest := []) ⟨hx, hb, hml, hown, hts⟩ (c_X0_isNeededByTouch l (D := D) (ad := ad) (rd := rd) (ca := ca) (A := A) (σ := σ) (o := o) ho hc31) (cwV 1 hts gX0_lay_X0_isNeededByTouch rfl rfl rfl (by decide +kernel) ⟨Nat.le_of_ble_eq_true rfl, Nat.le_of_ble_eq_true rfl⟩) (wx_preV hC Z hS hA (wx_sbo ho 99) (rfl : vwCl[0]? = some (RX0, TX0, 13))) rfl rfl hl.1 rfl (lv_room (Nat.le_of_ble_eq_true rfl)) dX0_lay_31 ⟨Nat.zero_le _, Nat.zero_le _⟩) hS (fun H locs Z hS => ?_)
  refine lv_if_eq (tgt := 40) hx hb dX0_lay_34 (by decide) (fun c34 => ?_) (fun c34 => ?_)
  · replace h := wx_ift c34 h
    refine lv_aload_n hx hb dX0_lay_40 rfl (lv_at hl 0 rfl) ?_
    refine wx_get (own := RX0) hx hb hts i_X0_lay_0 hown hC.1 Z (o := o) (ci := 0) (wx_sbo ho 99) (rfl : vwCl[0]? = some (RX0, TX0, 13)) 1 (by decide) (hts _ k_X0_lay_w3) (fun _ h9 => h9) (f := 0) rfl rfl dX0_lay_41 ?_
    refine lv_iload hx hb dX0_lay_44 (lv_at hl 4 rfl) ?_
    obtain ⟨v46, ev46, iv46, h⟩ := wx_rI_ok h
    refine wx_iald hx hb hC.1 Z (o := o) (k := 1) (n := 64) (wx_sbo ho 1) rfl iv46 dX0_lay_46 ev46 ?_
    refine lv_istore (lv' := [(5, .int v46), (0, .ref (ad o 99)), (1, .int x1), (2, .int x2), (3, .int x3), (4, .int x4)]) hx hb dX0_lay_47 hl (by decide) rfl (fun ls hl => ?_)
    refine lv_aload_n hx hb dX0_lay_49 rfl (lv_at hl 1 rfl) ?_
    refine wx_get (own := RX0) hx hb hts i_X0_lay_0 hown hC.1 Z (o := o) (ci := 0) (wx_sbo ho 99) (rfl : vwCl[0]? = some (RX0, TX0, 13)) 1 (by decide) (hts _ k_X0_lay_w3) (fun _ h9 => h9) (f := 0) rfl rfl dX0_lay_50 ?_
    refine lv_iload hx hb dX0_lay_53 (lv_at hl 5 rfl) ?_
    refine lv_iload_n hx hb dX0_lay_55 rfl (lv_at hl 4 rfl) ?_
    obtain ⟨σ56, e56, i56, h⟩ := wx_w_ok h
    refine wx_iast hx hb hC.1 Z hS (o := o) (k := 1) (n := 64) (wx_sbo ho 1) rfl i56 dX0_lay_56 e56 (fun H locs Z hS => ?_)
    refine lv_aload_n hx hb dX0_lay_57 rfl (lv_at hl 1 rfl) ?_
    obtain ⟨v58, σ58, hc58, h⟩ := wx_b_ok h
    refine wx_call (va_runV (As := []) (rest := []) ⟨hx, hb, hml, hown, hts⟩ (c_X0_beginRun l (D := D) (ad := ad) (rd := rd) (ca := ca) (A := A) (σ := σ56) (o := o) ho hc58) (cwV 0 hts gX0_lay_X0_beginRun rfl rfl rfl (by decide +kernel) ⟨Nat.le_of_ble_eq_true rfl, Nat.le_of_ble_eq_true rfl⟩) (wx_preV hC Z hS hA (wx_sbo ho 99) (rfl : vwCl[0]? = some (RX0, TX0, 13))) rfl rfl hl.1 rfl (lv_room (Nat.le_of_ble_eq_true rfl)) dX0_lay_58 ⟨Nat.zero_le _, Nat.zero_le _⟩) hS (fun H locs Z hS => ?_)
    refine lv_iload hx hb dX0_lay_61 (lv_at hl 0 rfl) ?_
    obtain ⟨rfl, rfl⟩ := wx_ret_ok h
    exact W.iret hx hb hr (fun t ht hW => ⟨rfl, by rw [ht]; exact Z, hS.F ht⟩) hS.2.2 dX0_lay_63
  · replace h := wx_iff c34 h
    refine lv_bipush (v := (-5)) hx hb dX0_lay_37 (by decide) ?_
    obtain ⟨rfl, rfl⟩ := wx_ret_ok h
    exact W.iret hx hb hr (fun t ht hW => ⟨rfl, by rw [ht]; exact Z, hS.F ht⟩) hS.2.2 dX0_lay_39
set_option maxRecDepth 20000 in
set_option maxHeartbeats 4000000 in
theorem b_X0_lay_0 (B : wx_B p s m args meth c cX0_lay 6 (some .int) wsX0_lay RX0 D ad ca A) {o : Nat}  (ho : o < 11) {r : Int32} {σ' : wx_St}  {x1 : Int32} {x2 : Int32} {x3 : Int32} {σ : wx_St}  (h : f_X0_lay o x1 x2 x3 σ = some (r, σ')) {H : Heap} {locs : List Loc} (Z : wx_Z D ad rd ca A σ H) (hS : va_S A s.heap H locs) {ls : Array Slot} (hl : lv_has ls 6 [(0, .ref (ad o 99)), (1, .int x1), (2, .int x2), (3, .int x3)]) : W p l e ({ frames := 3, cells := 0, slots := 0, locals := 65 } : Room) s m args below meth c H locs 0 0 (MQ below (wx_Q D ad rd ca A (some (.int r)) σ') args s 0 0 A) (F0 m 0 ls []) := by
  obtain ⟨hx, hb, hml, hr, hts, hown, hlk, hC, hA⟩ := id B
  unfold f_X0_lay at h
  refine lv_iload_n hx hb dX0_lay_0 rfl (lv_at hl 1 rfl) ?_
  refine lv_iload_n hx hb dX0_lay_1 rfl (lv_at hl 2 rfl) ?_
  obtain ⟨v2, hc2, h⟩ := wx_o_ok h
  refine wx_call (va_runSN (As := [.int x1, .int x2]) (rest := []) ⟨hx, hb, hml, hown, hts⟩ (c_X5_placeOf l (D := D) (ad := ad) (rd := rd) (ca := ca) (A := A) (σ := σ) hc2) ⟨va_cnB 2 hts gX0_lay_X5_placeOf_n71 rfl rfl rfl (hC.1.2.1 _ (List.mem_of_getElem? (i := 34) rfl)) (hts _ k_X0_lay_w0) (by decide +kernel) ⟨Nat.le_of_ble_eq_true rfl, Nat.le_of_ble_eq_true rfl⟩, hts _ k_X0_lay_w1, trivial⟩ (wx_preS hC Z hS hA) rfl rfl hl.1 rfl (lv_room (Nat.le_of_ble_eq_true rfl)) dX0_lay_2 ⟨Nat.zero_le _, Nat.zero_le _⟩) hS (fun H locs Z hS => ?_)
  refine lv_istore (lv' := [(4, .int v2), (0, .ref (ad o 99)), (1, .int x1), (2, .int x2), (3, .int x3)]) hx hb dX0_lay_5 hl (by decide) rfl (fun ls hl => ?_)
  refine lv_iload hx hb dX0_lay_7 (lv_at hl 0 rfl) ?_
  refine lv_if_ge (tgt := 14) hx hb dX0_lay_9 (by decide) (fun c9 => ?_) (fun c9 => ?_)
  · replace h := wx_ift c9 h
    refine lv_iload_n hx hb dX0_lay_14 rfl (lv_at hl 4 rfl) ?_
    refine lv_if_eq (tgt := 28) hx hb dX0_lay_15 (by decide) (fun c15 => ?_) (fun c15 => ?_)
    · replace h := wx_ift c15 h
      exact b_X0_lay_28 B ho h Z hS (lv_sub hl [1, 2, 3, 4, 0] rfl)
    · replace h := wx_iff c15 h
      refine lv_iload_n hx hb dX0_lay_18 rfl (lv_at hl 4 rfl) ?_
      obtain ⟨v19, hc19, h⟩ := wx_o_ok h
      refine wx_call (va_runSN (As := [.int x3]) (rest := []) ⟨hx, hb, hml, hown, hts⟩ (c_X5_isNet l (D := D) (ad := ad) (rd := rd) (ca := ca) (A := A) (σ := σ) hc19) ⟨va_cnB 1 hts gX0_lay_X5_isNet_n75 rfl rfl rfl (hC.1.2.1 _ (List.mem_of_getElem? (i := 35) rfl)) (hts _ k_X0_lay_w0) (by decide +kernel) ⟨Nat.le_of_ble_eq_true rfl, Nat.le_of_ble_eq_true rfl⟩, hts _ k_X0_lay_w2, trivial⟩ (wx_preS hC Z hS hA) rfl rfl hl.1 rfl (lv_room (Nat.le_of_ble_eq_true rfl)) dX0_lay_19 ⟨Nat.zero_le _, Nat.zero_le _⟩) hS (fun H locs Z hS => ?_)
      refine lv_if_ne (tgt := 28) hx hb dX0_lay_22 (by decide) (fun c22 => ?_) (fun c22 => ?_)
      · replace h := wx_iff c22 h
        exact b_X0_lay_28 B ho h Z hS (lv_sub hl [1, 2, 3, 4, 0] rfl)
      · replace h := wx_ift c22 h
        refine lv_bipush (v := (-2)) hx hb dX0_lay_25 (by decide) ?_
        obtain ⟨rfl, rfl⟩ := wx_ret_ok h
        exact W.iret hx hb hr (fun t ht hW => ⟨rfl, by rw [ht]; exact Z, hS.F ht⟩) hS.2.2 dX0_lay_27
  · replace h := wx_iff c9 h
    refine lv_iconst (v := (-1)) hx hb dX0_lay_12 (by decide) ?_
    obtain ⟨rfl, rfl⟩ := wx_ret_ok h
    exact W.iret hx hb hr (fun t ht hW => ⟨rfl, by rw [ht]; exact Z, hS.F ht⟩) hS.2.2 dX0_lay_13
set_option maxRecDepth 20000 in
theorem c_X0_lay (l : Launch) {D : va_G} {ad : Nat → Nat → Nat} {rd : Nat → Nat} {ca : Nat → ClassId} {A : Nat → Prop} {σ : wx_St} {o : Nat}  (ho : o < 11) {x1 : Int32} {x2 : Int32} {x3 : Int32} {r : Int32} {σ' : wx_St} (h : f_X0_lay o x1 x2 x3 σ = some (r, σ')) : wx_M l yX0_lay wsX0_lay 3 65 D ad rd ca A [.ref (ad o 99), .int x1, .int x2, .int x3] σ (some (.int r)) σ' := by
  refine Met.ofW (cc := cX0_lay) (maxL := 6) (ret := (some .int)) (by decide +kernel) rfl ?_
  intro p e s m args below meth c s₁ B0 hml hv
  obtain ⟨rfl, hC, Z, hA⟩ := hv
  have hl := lv_entry ([.ref (ad o 99), .int x1, .int x2, .int x3]) (n := 6) (Nat.le_of_ble_eq_true rfl)
  rw [lg_entry_eq]
  generalize (lg_sl ([.ref (ad o 99), .int x1, .int x2, .int x3]) ++ List.replicate (6 - (lg_sl ([.ref (ad o 99), .int x1, .int x2, .int x3])).length) Slot.unset).toArray = ls at hl ⊢
  exact b_X0_lay_0 ⟨B0.exec, B0.bytes, hml, B0.returns, atoms_spec (ws := wsX0_lay) B0.pre, findClass_of_methodNamed B0.named, B0.notSynchronized, hC, hA⟩ ho  h Z va_S.rf hl
theorem i_X0_passOne_0 : ∀ w ∈ wsX00, w ∈ wsX0_passOne := by decide +kernel
theorem k_X0_passOne_w0 : Cond.fieldLink RX0 34 "WarmProbes$Board" "warmth" "[F" ∈ wsX0_passOne := by decide +kernel
theorem k_X0_passOne_w1 : Cond.fieldLink RX0 38 "WarmProbes$Board" "nextWarmth" "[F" ∈ wsX0_passOne := by decide +kernel
theorem k_X0_passOne_w2 : Cond.fieldLink RX0 9 "WarmProbes$Board" "settings" "[I" ∈ wsX0_passOne := by decide +kernel
theorem k_X0_passOne_w3 : Cond.initialized RX5 ∈ wsX0_passOne := by decide +kernel
theorem k_X0_passOne_w4 : Cond.static yX5_step ∈ wsX0_passOne := by decide +kernel
theorem k_X0_passOne_w5 : Cond.methodLink RX0 56 arraycopyName ∈ wsX0_passOne := by decide +kernel
theorem k_X0_passOne_w6 : Cond.native arraycopyName ∈ wsX0_passOne := by decide +kernel
theorem k_X0_passOne_w7 : Cond.static arraycopyName ∈ wsX0_passOne := by decide +kernel
theorem k_X0_passOne_w8 : Cond.initialized "java/lang/System" ∈ wsX0_passOne := by decide +kernel
set_option maxRecDepth 20000 in
set_option maxHeartbeats 4000000 in
theorem b_X0_passOne_0 (B : wx_B p s m args meth c cX0_passOne 3 none wsX0_passOne RX0 D ad ca A) {o : Nat}  (ho : o < 11)  {σ' : wx_St}  {x1 : Int64} {σ : wx_St}  (h : f_X0_passOne o x1 σ = some ((), σ')) {H : Heap} {locs : List Loc} (Z : wx_Z D ad rd ca A σ H) (hS : va_S A s.heap H locs) {ls : Array Slot} (hl : lv_has ls 3 [(0, .ref (ad o 99)), (1, .long x1)]) : W p l e ({ frames := 2, cells := 0, slots := 0, locals := 56 } : Room) s m args below meth c H locs 0 0 (MQ below (wx_Q D ad rd ca A none σ') args s 0 0 A) (F0 m 0 ls []) := by
  obtain ⟨hx, hb, hml, hr, hts, hown, hlk, hC, hA⟩ := id B
  unfold f_X0_passOne at h
  refine lv_aload_n hx hb dX0_passOne_0 rfl (lv_at hl 0 rfl) ?_
  refine wx_get (own := RX0) hx hb hts i_X0_passOne_0 hown hC.1 Z (o := o) (ci := 0) (wx_sbo ho 99) (rfl : vwCl[0]? = some (RX0, TX0, 13)) 7 (by decide) (hts _ k_X0_passOne_w0) (fun _ h9 => h9) (f := 0) rfl rfl dX0_passOne_1 ?_
  refine lv_iconst (v := 0) hx hb dX0_passOne_4 (by decide) ?_
  refine lv_aload_n hx hb dX0_passOne_5 rfl (lv_at hl 0 rfl) ?_
  refine wx_get (own := RX0) hx hb hts i_X0_passOne_0 hown hC.1 Z (o := o) (ci := 0) (wx_sbo ho 99) (rfl : vwCl[0]? = some (RX0, TX0, 13)) 8 (by decide) (hts _ k_X0_passOne_w1) (fun _ h9 => h9) (f := 0) rfl rfl dX0_passOne_6 ?_
  refine lv_iconst (v := 0) hx hb dX0_passOne_9 (by decide) ?_
  refine lv_lload_n hx hb dX0_passOne_10 rfl (lv_at hl 1 rfl) ?_
  refine lv_aload_n hx hb dX0_passOne_11 rfl (lv_at hl 0 rfl) ?_
  refine wx_get (own := RX0) hx hb hts i_X0_passOne_0 hown hC.1 Z (o := o) (ci := 0) (wx_sbo ho 99) (rfl : vwCl[0]? = some (RX0, TX0, 13)) 0 (by decide) (hts _ k_X0_passOne_w2) (fun _ h9 => h9) (f := 0) rfl rfl dX0_passOne_12 ?_
  obtain ⟨v15, σ15, hc15, h⟩ := wx_b_ok h
  refine wx_call (va_runSN (As := [.ref (ad o 7), .int 0, .ref (ad o 8), .int 0, .long x1, .ref (ad o 0)]) (rest := []) ⟨hx, hb, hml, hown, hts⟩ (c_X5_step l (D := D) (ad := ad) (rd := rd) (ca := ca) (A := A) (σ := σ) (o0 := o) (k0 := 7) (n0 := 64) (o2 := o) (k2 := 8) (n2 := 64) (o6 := o) (k6 := 0) (al := σ.2.2.2.2) (wx_sbo ho 7) (wx_sbo ho 8) (wx_sbo ho 0) rfl hc15) ⟨va_cnB 6 hts gX0_passOne_X5_step_n107 rfl rfl rfl (hC.1.2.1 _ (List.mem_of_getElem? (i := 43) rfl)) (hts _ k_X0_passOne_w3) (by decide +kernel) ⟨Nat.le_of_ble_eq_true rfl, Nat.le_of_ble_eq_true rfl⟩, hts _ k_X0_passOne_w4, trivial⟩ (wx_preS hC Z hS hA) rfl rfl hl.1 rfl (lv_room (Nat.le_of_ble_eq_true rfl)) dX0_passOne_15 ⟨Nat.zero_le _, Nat.zero_le _⟩) hS (fun H locs Z hS => ?_)
  refine lv_aload_n hx hb dX0_passOne_18 rfl (lv_at hl 0 rfl) ?_
  refine wx_get (own := RX0) hx hb hts i_X0_passOne_0 hown hC.1 Z (o := o) (ci := 0) (wx_sbo ho 99) (rfl : vwCl[0]? = some (RX0, TX0, 13)) 8 (by decide) (hts _ k_X0_passOne_w1) (fun _ h9 => h9) (f := 0) rfl rfl dX0_passOne_19 ?_
  refine lv_iconst (v := 0) hx hb dX0_passOne_22 (by decide) ?_
  refine lv_aload_n hx hb dX0_passOne_23 rfl (lv_at hl 0 rfl) ?_
  refine wx_get (own := RX0) hx hb hts i_X0_passOne_0 hown hC.1 Z (o := o) (ci := 0) (wx_sbo ho 99) (rfl : vwCl[0]? = some (RX0, TX0, 13)) 7 (by decide) (hts _ k_X0_passOne_w0) (fun _ h9 => h9) (f := 0) rfl rfl dX0_passOne_24 ?_
  refine lv_iconst (v := 0) hx hb dX0_passOne_27 (by decide) ?_
  refine lv_bipush (v := 64) hx hb dX0_passOne_28 (by decide) ?_
  obtain ⟨σ30, e30, h⟩ := wx_l_ok h
  refine wx_copyf (own := RX0) hx hb (hml.trans hl.1.symm) hown (hts _ k_X0_passOne_w5) (hts _ k_X0_passOne_w6) (hts _ k_X0_passOne_w7) (hts _ k_X0_passOne_w8) hC.1 Z hS (o := o) (k := 8) (n := 64) (o' := o) (k' := 7) (n' := 64) (wx_sbo ho 8) (wx_sbo ho 7) rfl rfl (by decide) (by decide) (by decide) (by decide) (by decide) (Nat.le_of_ble_eq_true rfl) (Nat.le_of_ble_eq_true rfl) dX0_passOne_30 e30 (fun H locs Z hS => ?_)
  obtain ⟨-, rfl⟩ := wx_ret_ok h
  exact W.vret hx hb hr (fun t ht hW => ⟨rfl, by rw [ht]; exact Z, hS.F ht⟩) hS.2.2 dX0_passOne_33
set_option maxRecDepth 20000 in
theorem c_X0_passOne (l : Launch) {D : va_G} {ad : Nat → Nat → Nat} {rd : Nat → Nat} {ca : Nat → ClassId} {A : Nat → Prop} {σ : wx_St} {o : Nat}  (ho : o < 11) {x1 : Int64}  {σ' : wx_St} (h : f_X0_passOne o x1 σ = some ((), σ')) : wx_M l yX0_passOne wsX0_passOne 2 56 D ad rd ca A [.ref (ad o 99), .long x1] σ none σ' := by
  refine Met.ofW (cc := cX0_passOne) (maxL := 3) (ret := none) (by decide +kernel) rfl ?_
  intro p e s m args below meth c s₁ B0 hml hv
  obtain ⟨rfl, hC, Z, hA⟩ := hv
  have hl := lv_entry ([.ref (ad o 99), .long x1]) (n := 3) (Nat.le_of_ble_eq_true rfl)
  rw [lg_entry_eq]
  generalize (lg_sl ([.ref (ad o 99), .long x1]) ++ List.replicate (3 - (lg_sl ([.ref (ad o 99), .long x1])).length) Slot.unset).toArray = ls at hl ⊢
  exact b_X0_passOne_0 ⟨B0.exec, B0.bytes, hml, B0.returns, atoms_spec (ws := wsX0_passOne) B0.pre, findClass_of_methodNamed B0.named, B0.notSynchronized, hC, hA⟩ ho  h Z va_S.rf hl
theorem i_X0_letPass_0 : ∀ w ∈ wsX00, w ∈ wsX0_letPass := by decide +kernel
theorem k_X0_letPass_w0 : Cond.fieldLink RX0 31 "WarmProbes$Board" "steps" "I" ∈ wsX0_letPass := by decide +kernel
set_option maxRecDepth 20000 in
set_option maxHeartbeats 4000000 in
theorem b_X0_letPass_11 (B : wx_B p s m args meth c cX0_letPass 5 (some .int) wsX0_letPass RX0 D ad ca A) {o : Nat}  (ho : o < 11) {r : Int32} {σ' : wx_St}  {x1 : Int32} {σ : wx_St}  (h : f_X0_letPass_11 o x1 σ = some (r, σ')) {H : Heap} {locs : List Loc} (Z : wx_Z D ad rd ca A σ H) (hS : va_S A s.heap H locs) {ls : Array Slot} (hl : lv_has ls 5 [(0, .ref (ad o 99)), (1, .int x1)]) : W p l e ({ frames := 3, cells := 0, slots := 0, locals := 78 } : Room) s m args below meth c H locs 0 0 (MQ below (wx_Q D ad rd ca A (some (.int r)) σ') args s 0 0 A) (F0 m 11 ls []) := by
  obtain ⟨hx, hb, hml, hr, hts, hown, hlk, hC, hA⟩ := id B
  unfold f_X0_letPass_11 at h
  refine lv_bipush (v := (-2)) hx hb dX0_letPass_11 (by decide) ?_
  obtain ⟨rfl, rfl⟩ := wx_ret_ok h
  exact W.iret hx hb hr (fun t ht hW => ⟨rfl, by rw [ht]; exact Z, hS.F ht⟩) hS.2.2 dX0_letPass_13
set_option maxRecDepth 20000 in
set_option maxHeartbeats 4000000 in
theorem b_X0_letPass_36 (B : wx_B p s m args meth c cX0_letPass 5 (some .int) wsX0_letPass RX0 D ad ca A) {o : Nat}  (ho : o < 11) {r : Int32} {σ' : wx_St}   :
    ∀ {n : Nat} {x1 : Int32} {x2 : Int64} {x4 : Int32} {σ : wx_St}  (h : f_X0_letPass_36 o n x1 x2 x4 σ = some (r, σ')) {H : Heap} {locs : List Loc} (Z : wx_Z D ad rd ca A σ H) (hS : va_S A s.heap H locs) {ls : Array Slot} (hl : lv_has ls 5 [(0, .ref (ad o 99)), (1, .int x1), (2, .long x2), (4, .int x4)]), W p l e ({ frames := 3, cells := 0, slots := 0, locals := 78 } : Room) s m args below meth c H locs 0 0 (MQ below (wx_Q D ad rd ca A (some (.int r)) σ') args s 0 0 A) (F0 m 36 ls []) := by
  obtain ⟨hx, hb, hml, hr, hts, hown, hlk, hC, hA⟩ := id B
  intro n
  induction n with
  | zero => intro x1 x2 x4 σ  h H locs Z hS ls hl; exact wx_no h
  | succ n ih =>
    intro x1 x2 x4 σ  h H locs Z hS ls hl
    rw [f_X0_letPass_36] at h
    refine lv_iload hx hb dX0_letPass_36 (lv_at hl 3 rfl) ?_
    refine lv_iload_n hx hb dX0_letPass_38 rfl (lv_at hl 1 rfl) ?_
    refine lv_icmp_ge (tgt := 53) hx hb dX0_letPass_39 (by decide) (fun c39 => ?_) (fun c39 => ?_)
    · replace h := wx_ift c39 h
      refine lv_aload_n hx hb dX0_letPass_53 rfl (lv_at hl 0 rfl) ?_
      refine lv_aload_n hx hb dX0_letPass_54 rfl (lv_at hl 0 rfl) ?_
      refine wx_get (own := RX0) hx hb hts i_X0_letPass_0 hown hC.1 Z (o := o) (ci := 0) (wx_sbo ho 99) (rfl : vwCl[0]? = some (RX0, TX0, 13)) 6 (by decide) (hts _ k_X0_letPass_w0) (fun _ h9 => h9) (f := 1) rfl rfl dX0_letPass_55 ?_
      refine lv_iload_n hx hb dX0_letPass_58 rfl (lv_at hl 1 rfl) ?_
      refine lv_iadd hx hb dX0_letPass_59 ?_
      obtain ⟨σ60, e60, h⟩ := wx_l_ok h
      refine wx_put (own := RX0) hx hb hts i_X0_letPass_0 tyX0 tyX0_ok nmX0 hown hC.1 Z hS (o := o) (ci := 0) (wx_sbo ho 99) (rfl : vwCl[0]? = some (RX0, TX0, 13)) 6 (by decide) (hts _ k_X0_letPass_w0) (fun _ h9 => h9) rfl (by decide +kernel) rfl dX0_letPass_60 e60 (fun H locs Z hS => ?_)
      refine lv_aload_n hx hb dX0_letPass_63 rfl (lv_at hl 0 rfl) ?_
      refine wx_get (own := RX0) hx hb hts i_X0_letPass_0 hown hC.1 Z (o := o) (ci := 0) (wx_sbo ho 99) (rfl : vwCl[0]? = some (RX0, TX0, 13)) 6 (by decide) (hts _ k_X0_letPass_w0) (fun _ h9 => h9) (f := 1) rfl rfl dX0_letPass_64 ?_
      obtain ⟨rfl, rfl⟩ := wx_ret_ok h
      exact W.iret hx hb hr (fun t ht hW => ⟨rfl, by rw [ht]; exact Z, hS.F ht⟩) hS.2.2 dX0_letPass_67
    · replace h := wx_iff c39 h
      refine lv_aload_n hx hb dX0_letPass_42 rfl (lv_at hl 0 rfl) ?_
      refine lv_lload_n hx hb dX0_letPass_43 rfl (lv_at hl 2 rfl) ?_
      obtain ⟨v44, σ44, hc44, h⟩ := wx_b_ok h
      refine wx_call (va_runV (As := [.long x2]) (rest := []) ⟨hx, hb, hml, hown, hts⟩ (c_X0_passOne l (D := D) (ad := ad) (rd := rd) (ca := ca) (A := A) (σ := σ) (o := o) ho hc44) (cwV 1 hts gX0_letPass_X0_passOne rfl rfl rfl (by decide +kernel) ⟨Nat.le_of_ble_eq_true rfl, Nat.le_of_ble_eq_true rfl⟩) (wx_preV hC Z hS hA (wx_sbo ho 99) (rfl : vwCl[0]? = some (RX0, TX0, 13))) rfl rfl hl.1 rfl (lv_room (Nat.le_of_ble_eq_true rfl)) dX0_letPass_44 ⟨Nat.zero_le _, Nat.zero_le _⟩) hS (fun H locs Z hS => ?_)
      refine lv_iinc (v := x4 + 1) (lv' := [(4, .int (x4 + 1)), (0, .ref (ad o 99)), (1, .int x1), (2, .long x2)]) hx hb dX0_letPass_47 hl (k := 3) rfl rfl (by decide) rfl (fun ls hl => ?_)
      refine lv_goto (tgt := 36) hx hb dX0_letPass_50 (by decide) ?_
      exact ih h Z hS (lv_sub hl [1, 2, 3, 0] rfl)
set_option maxRecDepth 20000 in
set_option maxHeartbeats 4000000 in
theorem b_X0_letPass_0 (B : wx_B p s m args meth c cX0_letPass 5 (some .int) wsX0_letPass RX0 D ad ca A) {o : Nat}  (ho : o < 11) {r : Int32} {σ' : wx_St}  {x1 : Int32} {σ : wx_St}  (h : f_X0_letPass o x1 σ = some (r, σ')) {H : Heap} {locs : List Loc} (Z : wx_Z D ad rd ca A σ H) (hS : va_S A s.heap H locs) {ls : Array Slot} (hl : lv_has ls 5 [(0, .ref (ad o 99)), (1, .int x1)]) : W p l e ({ frames := 3, cells := 0, slots := 0, locals := 78 } : Room) s m args below meth c H locs 0 0 (MQ below (wx_Q D ad rd ca A (some (.int r)) σ') args s 0 0 A) (F0 m 0 ls []) := by
  obtain ⟨hx, hb, hml, hr, hts, hown, hlk, hC, hA⟩ := id B
  unfold f_X0_letPass at h
  refine lv_iload_n hx hb dX0_letPass_0 rfl (lv_at hl 1 rfl) ?_
  refine lv_iconst (v := 1) hx hb dX0_letPass_1 (by decide) ?_
  refine lv_icmp_lt (tgt := 11) hx hb dX0_letPass_2 (by decide) (fun c2 => ?_) (fun c2 => ?_)
  · replace h := wx_ift c2 h
    exact b_X0_letPass_11 B ho h Z hS (lv_sub hl [0, 1] rfl)
  · replace h := wx_iff c2 h
    refine lv_iload_n hx hb dX0_letPass_5 rfl (lv_at hl 1 rfl) ?_
    refine lv_bipush (v := 50) hx hb dX0_letPass_6 (by decide) ?_
    refine lv_icmp_le (tgt := 14) hx hb dX0_letPass_8 (by decide) (fun c8 => ?_) (fun c8 => ?_)
    · replace h := wx_ift c8 h
      refine lv_aload_n hx hb dX0_letPass_14 rfl (lv_at hl 0 rfl) ?_
      refine wx_get (own := RX0) hx hb hts i_X0_letPass_0 hown hC.1 Z (o := o) (ci := 0) (wx_sbo ho 99) (rfl : vwCl[0]? = some (RX0, TX0, 13)) 6 (by decide) (hts _ k_X0_letPass_w0) (fun _ h9 => h9) (f := 1) rfl rfl dX0_letPass_15 ?_
      refine lv_iload_n hx hb dX0_letPass_18 rfl (lv_at hl 1 rfl) ?_
      refine lv_iadd hx hb dX0_letPass_19 ?_
      refine lv_bipush (v := 100) hx hb dX0_letPass_20 (by decide) ?_
      refine lv_icmp_le (tgt := 28) hx hb dX0_letPass_22 (by decide) (fun c22 => ?_) (fun c22 => ?_)
      · replace h := wx_ift c22 h
        refine lv_aload_n hx hb dX0_letPass_28 rfl (lv_at hl 0 rfl) ?_
        obtain ⟨v29, hc29, h⟩ := wx_o_ok h
        refine wx_call (va_runV (As := []) (rest := []) ⟨hx, hb, hml, hown, hts⟩ (c_X0_heated l (D := D) (ad := ad) (rd := rd) (ca := ca) (A := A) (σ := σ) (o := o) ho hc29) (cwV 0 hts gX0_letPass_X0_heated rfl rfl rfl (by decide +kernel) ⟨Nat.le_of_ble_eq_true rfl, Nat.le_of_ble_eq_true rfl⟩) (wx_preV hC Z hS hA (wx_sbo ho 99) (rfl : vwCl[0]? = some (RX0, TX0, 13))) rfl rfl hl.1 rfl (lv_room (Nat.le_of_ble_eq_true rfl)) dX0_letPass_29 ⟨Nat.zero_le _, Nat.zero_le _⟩) hS (fun H locs Z hS => ?_)
        refine lv_lstore_n (lv' := [(2, .long v29), (0, .ref (ad o 99)), (1, .int x1)]) hx hb dX0_letPass_32 rfl hl (by decide) rfl (fun ls hl => ?_)
        refine lv_iconst (v := 0) hx hb dX0_letPass_33 (by decide) ?_
        refine lv_istore (lv' := [(4, .int 0), (2, .long v29), (0, .ref (ad o 99)), (1, .int x1)]) hx hb dX0_letPass_34 hl (by decide) rfl (fun ls hl => ?_)
        exact b_X0_letPass_36 B ho h Z hS (lv_sub hl [2, 3, 1, 0] rfl)
      · replace h := wx_iff c22 h
        refine lv_bipush (v := (-5)) hx hb dX0_letPass_25 (by decide) ?_
        obtain ⟨rfl, rfl⟩ := wx_ret_ok h
        exact W.iret hx hb hr (fun t ht hW => ⟨rfl, by rw [ht]; exact Z, hS.F ht⟩) hS.2.2 dX0_letPass_27
    · replace h := wx_iff c8 h
      exact b_X0_letPass_11 B ho h Z hS (lv_sub hl [0, 1] rfl)
set_option maxRecDepth 20000 in
theorem c_X0_letPass (l : Launch) {D : va_G} {ad : Nat → Nat → Nat} {rd : Nat → Nat} {ca : Nat → ClassId} {A : Nat → Prop} {σ : wx_St} {o : Nat}  (ho : o < 11) {x1 : Int32} {r : Int32} {σ' : wx_St} (h : f_X0_letPass o x1 σ = some (r, σ')) : wx_M l yX0_letPass wsX0_letPass 3 78 D ad rd ca A [.ref (ad o 99), .int x1] σ (some (.int r)) σ' := by
  refine Met.ofW (cc := cX0_letPass) (maxL := 5) (ret := (some .int)) (by decide +kernel) rfl ?_
  intro p e s m args below meth c s₁ B0 hml hv
  obtain ⟨rfl, hC, Z, hA⟩ := hv
  have hl := lv_entry ([.ref (ad o 99), .int x1]) (n := 5) (Nat.le_of_ble_eq_true rfl)
  rw [lg_entry_eq]
  generalize (lg_sl ([.ref (ad o 99), .int x1]) ++ List.replicate (5 - (lg_sl ([.ref (ad o 99), .int x1])).length) Slot.unset).toArray = ls at hl ⊢
  exact b_X0_letPass_0 ⟨B0.exec, B0.bytes, hml, B0.returns, atoms_spec (ws := wsX0_letPass) B0.pre, findClass_of_methodNamed B0.named, B0.notSynchronized, hC, hA⟩ ho  h Z va_S.rf hl
theorem i_X0_measure_0 : ∀ w ∈ wsX00, w ∈ wsX0_measure := by decide +kernel
theorem k_X0_measure_w0 : Cond.initialized RX5 ∈ wsX0_measure := by decide +kernel
theorem k_X0_measure_w1 : Cond.static yX5_placeOf ∈ wsX0_measure := by decide +kernel
theorem k_X0_measure_w2 : Cond.fieldLink RX0 41 "WarmProbes$Board" "readings" "I" ∈ wsX0_measure := by decide +kernel
theorem k_X0_measure_w3 : Cond.fieldLink RX0 34 "WarmProbes$Board" "warmth" "[F" ∈ wsX0_measure := by decide +kernel
theorem k_X0_measure_w4 : Cond.static yX5_readOf ∈ wsX0_measure := by decide +kernel
theorem k_X0_measure_w5 : Cond.fieldLink RX0 44 "WarmProbes$Board" "readingPlaces" "[I" ∈ wsX0_measure := by decide +kernel
theorem k_X0_measure_w6 : Cond.fieldLink RX0 47 "WarmProbes$Board" "readingReads" "[I" ∈ wsX0_measure := by decide +kernel
theorem k_X0_measure_w7 : Cond.fieldLink RX0 50 "WarmProbes$Board" "readingSteps" "[I" ∈ wsX0_measure := by decide +kernel
theorem k_X0_measure_w8 : Cond.fieldLink RX0 31 "WarmProbes$Board" "steps" "I" ∈ wsX0_measure := by decide +kernel
set_option maxRecDepth 20000 in
set_option maxHeartbeats 4000000 in
theorem b_X0_measure_0 (B : wx_B p s m args meth c cX0_measure 5 (some .int) wsX0_measure RX0 D ad ca A) {o : Nat}  (ho : o < 11) {r : Int32} {σ' : wx_St}  {x1 : Int32} {x2 : Int32} {σ : wx_St}  (h : f_X0_measure o x1 x2 σ = some (r, σ')) {H : Heap} {locs : List Loc} (Z : wx_Z D ad rd ca A σ H) (hS : va_S A s.heap H locs) {ls : Array Slot} (hl : lv_has ls 5 [(0, .ref (ad o 99)), (1, .int x1), (2, .int x2)]) : W p l e ({ frames := 1, cells := 0, slots := 0, locals := 21 } : Room) s m args below meth c H locs 0 0 (MQ below (wx_Q D ad rd ca A (some (.int r)) σ') args s 0 0 A) (F0 m 0 ls []) := by
  obtain ⟨hx, hb, hml, hr, hts, hown, hlk, hC, hA⟩ := id B
  unfold f_X0_measure at h
  refine lv_iload_n hx hb dX0_measure_0 rfl (lv_at hl 1 rfl) ?_
  refine lv_iload_n hx hb dX0_measure_1 rfl (lv_at hl 2 rfl) ?_
  obtain ⟨v2, hc2, h⟩ := wx_o_ok h
  refine wx_call (va_runSN (As := [.int x1, .int x2]) (rest := []) ⟨hx, hb, hml, hown, hts⟩ (c_X5_placeOf l (D := D) (ad := ad) (rd := rd) (ca := ca) (A := A) (σ := σ) hc2) ⟨va_cnB 2 hts gX0_measure_X5_placeOf_n71 rfl rfl rfl (hC.1.2.1 _ (List.mem_of_getElem? (i := 34) rfl)) (hts _ k_X0_measure_w0) (by decide +kernel) ⟨Nat.le_of_ble_eq_true rfl, Nat.le_of_ble_eq_true rfl⟩, hts _ k_X0_measure_w1, trivial⟩ (wx_preS hC Z hS hA) rfl rfl hl.1 rfl (lv_room (Nat.le_of_ble_eq_true rfl)) dX0_measure_2 ⟨Nat.zero_le _, Nat.zero_le _⟩) hS (fun H locs Z hS => ?_)
  refine lv_istore_n (lv' := [(3, .int v2), (0, .ref (ad o 99)), (1, .int x1), (2, .int x2)]) hx hb dX0_measure_5 rfl hl (by decide) rfl (fun ls hl => ?_)
  refine lv_iload_n hx hb dX0_measure_6 rfl (lv_at hl 0 rfl) ?_
  refine lv_if_ge (tgt := 12) hx hb dX0_measure_7 (by decide) (fun c7 => ?_) (fun c7 => ?_)
  · replace h := wx_ift c7 h
    refine lv_aload_n hx hb dX0_measure_12 rfl (lv_at hl 1 rfl) ?_
    refine wx_get (own := RX0) hx hb hts i_X0_measure_0 hown hC.1 Z (o := o) (ci := 0) (wx_sbo ho 99) (rfl : vwCl[0]? = some (RX0, TX0, 13)) 9 (by decide) (hts _ k_X0_measure_w2) (fun _ h9 => h9) (f := 1) rfl rfl dX0_measure_13 ?_
    refine lv_bipush (v := 8) hx hb dX0_measure_16 (by decide) ?_
    refine lv_icmp_lt (tgt := 24) hx hb dX0_measure_18 (by decide) (fun c18 => ?_) (fun c18 => ?_)
    · replace h := wx_ift c18 h
      refine lv_aload_n hx hb dX0_measure_24 rfl (lv_at hl 1 rfl) ?_
      refine wx_get (own := RX0) hx hb hts i_X0_measure_0 hown hC.1 Z (o := o) (ci := 0) (wx_sbo ho 99) (rfl : vwCl[0]? = some (RX0, TX0, 13)) 7 (by decide) (hts _ k_X0_measure_w3) (fun _ h9 => h9) (f := 0) rfl rfl dX0_measure_25 ?_
      refine lv_iload_n hx hb dX0_measure_28 rfl (lv_at hl 0 rfl) ?_
      obtain ⟨v29, ev29, iv29, h⟩ := wx_rF_ok h
      refine wx_fald hx hb hC.1 Z (o := o) (k := 7) (n := 64) (wx_sbo ho 7) rfl iv29 dX0_measure_29 ev29 ?_
      obtain ⟨v30, hc30, h⟩ := wx_o_ok h
      refine wx_call (va_runSN (As := [.float v29]) (rest := []) ⟨hx, hb, hml, hown, hts⟩ (c_X5_readOf l (D := D) (ad := ad) (rd := rd) (ca := ca) (A := A) (σ := σ) hc30) ⟨va_cnB 1 hts gX0_measure_X5_readOf_n111 rfl rfl rfl (hC.1.2.1 _ (List.mem_of_getElem? (i := 45) rfl)) (hts _ k_X0_measure_w0) (by decide +kernel) ⟨Nat.le_of_ble_eq_true rfl, Nat.le_of_ble_eq_true rfl⟩, hts _ k_X0_measure_w4, trivial⟩ (wx_preS hC Z hS hA) rfl rfl hl.1 rfl (lv_room (Nat.le_of_ble_eq_true rfl)) dX0_measure_30 ⟨Nat.zero_le _, Nat.zero_le _⟩) hS (fun H locs Z hS => ?_)
      refine lv_istore (lv' := [(4, .int v30), (3, .int v2), (0, .ref (ad o 99)), (1, .int x1), (2, .int x2)]) hx hb dX0_measure_33 hl (by decide) rfl (fun ls hl => ?_)
      refine lv_aload_n hx hb dX0_measure_35 rfl (lv_at hl 2 rfl) ?_
      refine wx_get (own := RX0) hx hb hts i_X0_measure_0 hown hC.1 Z (o := o) (ci := 0) (wx_sbo ho 99) (rfl : vwCl[0]? = some (RX0, TX0, 13)) 10 (by decide) (hts _ k_X0_measure_w5) (fun _ h9 => h9) (f := 0) rfl rfl dX0_measure_36 ?_
      refine lv_aload_n hx hb dX0_measure_39 rfl (lv_at hl 2 rfl) ?_
      refine wx_get (own := RX0) hx hb hts i_X0_measure_0 hown hC.1 Z (o := o) (ci := 0) (wx_sbo ho 99) (rfl : vwCl[0]? = some (RX0, TX0, 13)) 9 (by decide) (hts _ k_X0_measure_w2) (fun _ h9 => h9) (f := 1) rfl rfl dX0_measure_40 ?_
      refine lv_iload_n hx hb dX0_measure_43 rfl (lv_at hl 1 rfl) ?_
      obtain ⟨σ44, e44, i44, h⟩ := wx_w_ok h
      refine wx_iast hx hb hC.1 Z hS (o := o) (k := 10) (n := 8) (wx_sbo ho 10) rfl i44 dX0_measure_44 e44 (fun H locs Z hS => ?_)
      refine lv_aload_n hx hb dX0_measure_45 rfl (lv_at hl 2 rfl) ?_
      refine wx_get (own := RX0) hx hb hts i_X0_measure_0 hown hC.1 Z (o := o) (ci := 0) (wx_sbo ho 99) (rfl : vwCl[0]? = some (RX0, TX0, 13)) 11 (by decide) (hts _ k_X0_measure_w6) (fun _ h9 => h9) (f := 0) rfl rfl dX0_measure_46 ?_
      refine lv_aload_n hx hb dX0_measure_49 rfl (lv_at hl 2 rfl) ?_
      refine wx_get (own := RX0) hx hb hts i_X0_measure_0 hown hC.1 Z (o := o) (ci := 0) (wx_sbo ho 99) (rfl : vwCl[0]? = some (RX0, TX0, 13)) 9 (by decide) (hts _ k_X0_measure_w2) (fun _ h9 => h9) (f := 1) rfl rfl dX0_measure_50 ?_
      refine lv_iload hx hb dX0_measure_53 (lv_at hl 0 rfl) ?_
      obtain ⟨σ55, e55, i55, h⟩ := wx_w_ok h
      refine wx_iast hx hb hC.1 Z hS (o := o) (k := 11) (n := 8) (wx_sbo ho 11) rfl i55 dX0_measure_55 e55 (fun H locs Z hS => ?_)
      refine lv_aload_n hx hb dX0_measure_56 rfl (lv_at hl 2 rfl) ?_
      refine wx_get (own := RX0) hx hb hts i_X0_measure_0 hown hC.1 Z (o := o) (ci := 0) (wx_sbo ho 99) (rfl : vwCl[0]? = some (RX0, TX0, 13)) 12 (by decide) (hts _ k_X0_measure_w7) (fun _ h9 => h9) (f := 0) rfl rfl dX0_measure_57 ?_
      refine lv_aload_n hx hb dX0_measure_60 rfl (lv_at hl 2 rfl) ?_
      refine wx_get (own := RX0) hx hb hts i_X0_measure_0 hown hC.1 Z (o := o) (ci := 0) (wx_sbo ho 99) (rfl : vwCl[0]? = some (RX0, TX0, 13)) 9 (by decide) (hts _ k_X0_measure_w2) (fun _ h9 => h9) (f := 1) rfl rfl dX0_measure_61 ?_
      refine lv_aload_n hx hb dX0_measure_64 rfl (lv_at hl 2 rfl) ?_
      refine wx_get (own := RX0) hx hb hts i_X0_measure_0 hown hC.1 Z (o := o) (ci := 0) (wx_sbo ho 99) (rfl : vwCl[0]? = some (RX0, TX0, 13)) 6 (by decide) (hts _ k_X0_measure_w8) (fun _ h9 => h9) (f := 1) rfl rfl dX0_measure_65 ?_
      obtain ⟨σ68, e68, i68, h⟩ := wx_w_ok h
      refine wx_iast hx hb hC.1 Z hS (o := o) (k := 12) (n := 8) (wx_sbo ho 12) rfl i68 dX0_measure_68 e68 (fun H locs Z hS => ?_)
      refine lv_aload_n hx hb dX0_measure_69 rfl (lv_at hl 2 rfl) ?_
      refine lv_dup hx hb dX0_measure_70 rfl ?_
      refine wx_get (own := RX0) hx hb hts i_X0_measure_0 hown hC.1 Z (o := o) (ci := 0) (wx_sbo ho 99) (rfl : vwCl[0]? = some (RX0, TX0, 13)) 9 (by decide) (hts _ k_X0_measure_w2) (fun _ h9 => h9) (f := 1) rfl rfl dX0_measure_71 ?_
      refine lv_iconst (v := 1) hx hb dX0_measure_74 (by decide) ?_
      refine lv_iadd hx hb dX0_measure_75 ?_
      obtain ⟨σ76, e76, h⟩ := wx_l_ok h
      refine wx_put (own := RX0) hx hb hts i_X0_measure_0 tyX0 tyX0_ok nmX0 hown hC.1 Z hS (o := o) (ci := 0) (wx_sbo ho 99) (rfl : vwCl[0]? = some (RX0, TX0, 13)) 9 (by decide) (hts _ k_X0_measure_w2) (fun _ h9 => h9) rfl (by decide +kernel) rfl dX0_measure_76 e76 (fun H locs Z hS => ?_)
      refine lv_iload hx hb dX0_measure_79 (lv_at hl 0 rfl) ?_
      obtain ⟨rfl, rfl⟩ := wx_ret_ok h
      exact W.iret hx hb hr (fun t ht hW => ⟨rfl, by rw [ht]; exact Z, hS.F ht⟩) hS.2.2 dX0_measure_81
    · replace h := wx_iff c18 h
      refine lv_bipush (v := (-4)) hx hb dX0_measure_21 (by decide) ?_
      obtain ⟨rfl, rfl⟩ := wx_ret_ok h
      exact W.iret hx hb hr (fun t ht hW => ⟨rfl, by rw [ht]; exact Z, hS.F ht⟩) hS.2.2 dX0_measure_23
  · replace h := wx_iff c7 h
    refine lv_iconst (v := (-1)) hx hb dX0_measure_10 (by decide) ?_
    obtain ⟨rfl, rfl⟩ := wx_ret_ok h
    exact W.iret hx hb hr (fun t ht hW => ⟨rfl, by rw [ht]; exact Z, hS.F ht⟩) hS.2.2 dX0_measure_11
set_option maxRecDepth 20000 in
theorem c_X0_measure (l : Launch) {D : va_G} {ad : Nat → Nat → Nat} {rd : Nat → Nat} {ca : Nat → ClassId} {A : Nat → Prop} {σ : wx_St} {o : Nat}  (ho : o < 11) {x1 : Int32} {x2 : Int32} {r : Int32} {σ' : wx_St} (h : f_X0_measure o x1 x2 σ = some (r, σ')) : wx_M l yX0_measure wsX0_measure 1 21 D ad rd ca A [.ref (ad o 99), .int x1, .int x2] σ (some (.int r)) σ' := by
  refine Met.ofW (cc := cX0_measure) (maxL := 5) (ret := (some .int)) (by decide +kernel) rfl ?_
  intro p e s m args below meth c s₁ B0 hml hv
  obtain ⟨rfl, hC, Z, hA⟩ := hv
  have hl := lv_entry ([.ref (ad o 99), .int x1, .int x2]) (n := 5) (Nat.le_of_ble_eq_true rfl)
  rw [lg_entry_eq]
  generalize (lg_sl ([.ref (ad o 99), .int x1, .int x2]) ++ List.replicate (5 - (lg_sl ([.ref (ad o 99), .int x1, .int x2])).length) Slot.unset).toArray = ls at hl ⊢
  exact b_X0_measure_0 ⟨B0.exec, B0.bytes, hml, B0.returns, atoms_spec (ws := wsX0_measure) B0.pre, findClass_of_methodNamed B0.named, B0.notSynchronized, hC, hA⟩ ho  h Z va_S.rf hl
theorem i_X0_part_0 : ∀ w ∈ wsX00, w ∈ wsX0_part := by decide +kernel
theorem k_X0_part_w0 : Cond.fieldLink RX0 21 "WarmProbes$Board" "touches" "I" ∈ wsX0_part := by decide +kernel
theorem k_X0_part_w1 : Cond.fieldLink RX0 25 "WarmProbes$Board" "touchPlaces" "[I" ∈ wsX0_part := by decide +kernel
theorem k_X0_part_w2 : Cond.fieldLink RX0 28 "WarmProbes$Board" "touchOthers" "[I" ∈ wsX0_part := by decide +kernel
set_option maxRecDepth 20000 in
set_option maxHeartbeats 4000000 in
theorem b_X0_part_12 (B : wx_B p s m args meth c cX0_part 3 (some .int) wsX0_part RX0 D ad ca A) {o : Nat}  (ho : o < 11) {r : Int32} {σ' : wx_St}  {x1 : Int32} {σ : wx_St}  (h : f_X0_part_12 o x1 σ = some (r, σ')) {H : Heap} {locs : List Loc} (Z : wx_Z D ad rd ca A σ H) (hS : va_S A s.heap H locs) {ls : Array Slot} (hl : lv_has ls 3 [(0, .ref (ad o 99)), (1, .int x1)]) : W p l e ({ frames := 1, cells := 0, slots := 0, locals := 21 } : Room) s m args below meth c H locs 0 0 (MQ below (wx_Q D ad rd ca A (some (.int r)) σ') args s 0 0 A) (F0 m 12 ls []) := by
  obtain ⟨hx, hb, hml, hr, hts, hown, hlk, hC, hA⟩ := id B
  unfold f_X0_part_12 at h
  refine lv_iconst (v := (-1)) hx hb dX0_part_12 (by decide) ?_
  obtain ⟨rfl, rfl⟩ := wx_ret_ok h
  exact W.iret hx hb hr (fun t ht hW => ⟨rfl, by rw [ht]; exact Z, hS.F ht⟩) hS.2.2 dX0_part_13
set_option maxRecDepth 20000 in
set_option maxHeartbeats 4000000 in
theorem b_X0_part_16 (B : wx_B p s m args meth c cX0_part 3 (some .int) wsX0_part RX0 D ad ca A) {o : Nat}  (ho : o < 11) {r : Int32} {σ' : wx_St}   :
    ∀ {n : Nat} {x1 : Int32} {x2 : Int32} {σ : wx_St}  (h : f_X0_part_16 o n x1 x2 σ = some (r, σ')) {H : Heap} {locs : List Loc} (Z : wx_Z D ad rd ca A σ H) (hS : va_S A s.heap H locs) {ls : Array Slot} (hl : lv_has ls 3 [(0, .ref (ad o 99)), (1, .int x1), (2, .int x2)]), W p l e ({ frames := 1, cells := 0, slots := 0, locals := 21 } : Room) s m args below meth c H locs 0 0 (MQ below (wx_Q D ad rd ca A (some (.int r)) σ') args s 0 0 A) (F0 m 16 ls []) := by
  obtain ⟨hx, hb, hml, hr, hts, hown, hlk, hC, hA⟩ := id B
  intro n
  induction n with
  | zero => intro x1 x2 σ  h H locs Z hS ls hl; exact wx_no h
  | succ n ih =>
    intro x1 x2 σ  h H locs Z hS ls hl
    rw [f_X0_part_16] at h
    refine lv_iload_n hx hb dX0_part_16 rfl (lv_at hl 2 rfl) ?_
    refine lv_aload_n hx hb dX0_part_17 rfl (lv_at hl 0 rfl) ?_
    refine wx_get (own := RX0) hx hb hts i_X0_part_0 hown hC.1 Z (o := o) (ci := 0) (wx_sbo ho 99) (rfl : vwCl[0]? = some (RX0, TX0, 13)) 3 (by decide) (hts _ k_X0_part_w0) (fun _ h9 => h9) (f := 1) rfl rfl dX0_part_18 ?_
    refine lv_iconst (v := 1) hx hb dX0_part_21 (by decide) ?_
    refine lv_isub hx hb dX0_part_22 ?_
    refine lv_icmp_ge (tgt := 60) hx hb dX0_part_23 (by decide) (fun c23 => ?_) (fun c23 => ?_)
    · replace h := wx_ift c23 h
      refine lv_aload_n hx hb dX0_part_60 rfl (lv_at hl 0 rfl) ?_
      refine lv_dup hx hb dX0_part_61 rfl ?_
      refine wx_get (own := RX0) hx hb hts i_X0_part_0 hown hC.1 Z (o := o) (ci := 0) (wx_sbo ho 99) (rfl : vwCl[0]? = some (RX0, TX0, 13)) 3 (by decide) (hts _ k_X0_part_w0) (fun _ h9 => h9) (f := 1) rfl rfl dX0_part_62 ?_
      refine lv_iconst (v := 1) hx hb dX0_part_65 (by decide) ?_
      refine lv_isub hx hb dX0_part_66 ?_
      obtain ⟨σ67, e67, h⟩ := wx_l_ok h
      refine wx_put (own := RX0) hx hb hts i_X0_part_0 tyX0 tyX0_ok nmX0 hown hC.1 Z hS (o := o) (ci := 0) (wx_sbo ho 99) (rfl : vwCl[0]? = some (RX0, TX0, 13)) 3 (by decide) (hts _ k_X0_part_w0) (fun _ h9 => h9) rfl (by decide +kernel) rfl dX0_part_67 e67 (fun H locs Z hS => ?_)
      refine lv_aload_n hx hb dX0_part_70 rfl (lv_at hl 0 rfl) ?_
      obtain ⟨v71, σ71, hc71, h⟩ := wx_b_ok h
      refine wx_call (va_runV (As := []) (rest := []) ⟨hx, hb, hml, hown, hts⟩ (c_X0_beginRun l (D := D) (ad := ad) (rd := rd) (ca := ca) (A := A) (σ := σ67) (o := o) ho hc71) (cwV 0 hts gX0_part_X0_beginRun rfl rfl rfl (by decide +kernel) ⟨Nat.le_of_ble_eq_true rfl, Nat.le_of_ble_eq_true rfl⟩) (wx_preV hC Z hS hA (wx_sbo ho 99) (rfl : vwCl[0]? = some (RX0, TX0, 13))) rfl rfl hl.1 rfl (lv_room (Nat.le_of_ble_eq_true rfl)) dX0_part_71 ⟨Nat.zero_le _, Nat.zero_le _⟩) hS (fun H locs Z hS => ?_)
      refine lv_aload_n hx hb dX0_part_74 rfl (lv_at hl 0 rfl) ?_
      refine wx_get (own := RX0) hx hb hts i_X0_part_0 hown hC.1 Z (o := o) (ci := 0) (wx_sbo ho 99) (rfl : vwCl[0]? = some (RX0, TX0, 13)) 3 (by decide) (hts _ k_X0_part_w0) (fun _ h9 => h9) (f := 1) rfl rfl dX0_part_75 ?_
      obtain ⟨rfl, rfl⟩ := wx_ret_ok h
      exact W.iret hx hb hr (fun t ht hW => ⟨rfl, by rw [ht]; exact Z, hS.F ht⟩) hS.2.2 dX0_part_78
    · replace h := wx_iff c23 h
      refine lv_aload_n hx hb dX0_part_26 rfl (lv_at hl 0 rfl) ?_
      refine wx_get (own := RX0) hx hb hts i_X0_part_0 hown hC.1 Z (o := o) (ci := 0) (wx_sbo ho 99) (rfl : vwCl[0]? = some (RX0, TX0, 13)) 4 (by decide) (hts _ k_X0_part_w1) (fun _ h9 => h9) (f := 0) rfl rfl dX0_part_27 ?_
      refine lv_iload_n hx hb dX0_part_30 rfl (lv_at hl 2 rfl) ?_
      refine lv_aload_n hx hb dX0_part_31 rfl (lv_at hl 0 rfl) ?_
      refine wx_get (own := RX0) hx hb hts i_X0_part_0 hown hC.1 Z (o := o) (ci := 0) (wx_sbo ho 99) (rfl : vwCl[0]? = some (RX0, TX0, 13)) 4 (by decide) (hts _ k_X0_part_w1) (fun _ h9 => h9) (f := 0) rfl rfl dX0_part_32 ?_
      refine lv_iload_n hx hb dX0_part_35 rfl (lv_at hl 2 rfl) ?_
      refine lv_iconst (v := 1) hx hb dX0_part_36 (by decide) ?_
      refine lv_iadd hx hb dX0_part_37 ?_
      obtain ⟨v38, ev38, iv38, h⟩ := wx_rI_ok h
      refine wx_iald hx hb hC.1 Z (o := o) (k := 4) (n := 3) (wx_sbo ho 4) rfl iv38 dX0_part_38 ev38 ?_
      obtain ⟨σ39, e39, i39, h⟩ := wx_w_ok h
      refine wx_iast hx hb hC.1 Z hS (o := o) (k := 4) (n := 3) (wx_sbo ho 4) rfl i39 dX0_part_39 e39 (fun H locs Z hS => ?_)
      refine lv_aload_n hx hb dX0_part_40 rfl (lv_at hl 0 rfl) ?_
      refine wx_get (own := RX0) hx hb hts i_X0_part_0 hown hC.1 Z (o := o) (ci := 0) (wx_sbo ho 99) (rfl : vwCl[0]? = some (RX0, TX0, 13)) 5 (by decide) (hts _ k_X0_part_w2) (fun _ h9 => h9) (f := 0) rfl rfl dX0_part_41 ?_
      refine lv_iload_n hx hb dX0_part_44 rfl (lv_at hl 2 rfl) ?_
      refine lv_aload_n hx hb dX0_part_45 rfl (lv_at hl 0 rfl) ?_
      refine wx_get (own := RX0) hx hb hts i_X0_part_0 hown hC.1 Z (o := o) (ci := 0) (wx_sbo ho 99) (rfl : vwCl[0]? = some (RX0, TX0, 13)) 5 (by decide) (hts _ k_X0_part_w2) (fun _ h9 => h9) (f := 0) rfl rfl dX0_part_46 ?_
      refine lv_iload_n hx hb dX0_part_49 rfl (lv_at hl 2 rfl) ?_
      refine lv_iconst (v := 1) hx hb dX0_part_50 (by decide) ?_
      refine lv_iadd hx hb dX0_part_51 ?_
      obtain ⟨v52, ev52, iv52, h⟩ := wx_rI_ok h
      refine wx_iald hx hb hC.1 Z (o := o) (k := 5) (n := 3) (wx_sbo ho 5) rfl iv52 dX0_part_52 ev52 ?_
      obtain ⟨σ53, e53, i53, h⟩ := wx_w_ok h
      refine wx_iast hx hb hC.1 Z hS (o := o) (k := 5) (n := 3) (wx_sbo ho 5) rfl i53 dX0_part_53 e53 (fun H locs Z hS => ?_)
      refine lv_iinc (v := x2 + 1) (lv' := [(2, .int (x2 + 1)), (0, .ref (ad o 99)), (1, .int x1)]) hx hb dX0_part_54 hl (k := 2) rfl rfl (by decide) rfl (fun ls hl => ?_)
      refine lv_goto (tgt := 16) hx hb dX0_part_57 (by decide) ?_
      exact ih h Z hS (lv_sub hl [1, 2, 0] rfl)
set_option maxRecDepth 20000 in
set_option maxHeartbeats 4000000 in
theorem b_X0_part_0 (B : wx_B p s m args meth c cX0_part 3 (some .int) wsX0_part RX0 D ad ca A) {o : Nat}  (ho : o < 11) {r : Int32} {σ' : wx_St}  {x1 : Int32} {σ : wx_St}  (h : f_X0_part o x1 σ = some (r, σ')) {H : Heap} {locs : List Loc} (Z : wx_Z D ad rd ca A σ H) (hS : va_S A s.heap H locs) {ls : Array Slot} (hl : lv_has ls 3 [(0, .ref (ad o 99)), (1, .int x1)]) : W p l e ({ frames := 1, cells := 0, slots := 0, locals := 21 } : Room) s m args below meth c H locs 0 0 (MQ below (wx_Q D ad rd ca A (some (.int r)) σ') args s 0 0 A) (F0 m 0 ls []) := by
  obtain ⟨hx, hb, hml, hr, hts, hown, hlk, hC, hA⟩ := id B
  unfold f_X0_part at h
  refine lv_iload_n hx hb dX0_part_0 rfl (lv_at hl 1 rfl) ?_
  refine lv_if_lt (tgt := 12) hx hb dX0_part_1 (by decide) (fun c1 => ?_) (fun c1 => ?_)
  · replace h := wx_ift c1 h
    exact b_X0_part_12 B ho h Z hS (lv_sub hl [0, 1] rfl)
  · replace h := wx_iff c1 h
    refine lv_iload_n hx hb dX0_part_4 rfl (lv_at hl 1 rfl) ?_
    refine lv_aload_n hx hb dX0_part_5 rfl (lv_at hl 0 rfl) ?_
    refine wx_get (own := RX0) hx hb hts i_X0_part_0 hown hC.1 Z (o := o) (ci := 0) (wx_sbo ho 99) (rfl : vwCl[0]? = some (RX0, TX0, 13)) 3 (by decide) (hts _ k_X0_part_w0) (fun _ h9 => h9) (f := 1) rfl rfl dX0_part_6 ?_
    refine lv_icmp_lt (tgt := 14) hx hb dX0_part_9 (by decide) (fun c9 => ?_) (fun c9 => ?_)
    · replace h := wx_ift c9 h
      refine lv_iload_n hx hb dX0_part_14 rfl (lv_at hl 1 rfl) ?_
      refine lv_istore_n (lv' := [(2, .int x1), (0, .ref (ad o 99)), (1, .int x1)]) hx hb dX0_part_15 rfl hl (by decide) rfl (fun ls hl => ?_)
      exact b_X0_part_16 B ho h Z hS (lv_sub hl [1, 2, 0] rfl)
    · replace h := wx_iff c9 h
      exact b_X0_part_12 B ho h Z hS (lv_sub hl [0, 1] rfl)
set_option maxRecDepth 20000 in
theorem c_X0_part (l : Launch) {D : va_G} {ad : Nat → Nat → Nat} {rd : Nat → Nat} {ca : Nat → ClassId} {A : Nat → Prop} {σ : wx_St} {o : Nat}  (ho : o < 11) {x1 : Int32} {r : Int32} {σ' : wx_St} (h : f_X0_part o x1 σ = some (r, σ')) : wx_M l yX0_part wsX0_part 1 21 D ad rd ca A [.ref (ad o 99), .int x1] σ (some (.int r)) σ' := by
  refine Met.ofW (cc := cX0_part) (maxL := 3) (ret := (some .int)) (by decide +kernel) rfl ?_
  intro p e s m args below meth c s₁ B0 hml hv
  obtain ⟨rfl, hC, Z, hA⟩ := hv
  have hl := lv_entry ([.ref (ad o 99), .int x1]) (n := 3) (Nat.le_of_ble_eq_true rfl)
  rw [lg_entry_eq]
  generalize (lg_sl ([.ref (ad o 99), .int x1]) ++ List.replicate (3 - (lg_sl ([.ref (ad o 99), .int x1])).length) Slot.unset).toArray = ls at hl ⊢
  exact b_X0_part_0 ⟨B0.exec, B0.bytes, hml, B0.returns, atoms_spec (ws := wsX0_part) B0.pre, findClass_of_methodNamed B0.named, B0.notSynchronized, hC, hA⟩ ho  h Z va_S.rf hl
theorem i_X0_takeOver_0 : ∀ w ∈ wsX00, w ∈ wsX0_takeOver := by decide +kernel
theorem k_X0_takeOver_w0 : Cond.fieldLink RX0 9 "WarmProbes$Board" "settings" "[I" ∈ wsX0_takeOver := by decide +kernel
theorem k_X0_takeOver_w1 : Cond.methodLink RX0 56 arraycopyName ∈ wsX0_takeOver := by decide +kernel
theorem k_X0_takeOver_w2 : Cond.native arraycopyName ∈ wsX0_takeOver := by decide +kernel
theorem k_X0_takeOver_w3 : Cond.static arraycopyName ∈ wsX0_takeOver := by decide +kernel
theorem k_X0_takeOver_w4 : Cond.initialized "java/lang/System" ∈ wsX0_takeOver := by decide +kernel
theorem k_X0_takeOver_w5 : Cond.fieldLink RX0 15 "WarmProbes$Board" "nets" "[I" ∈ wsX0_takeOver := by decide +kernel
theorem k_X0_takeOver_w6 : Cond.fieldLink RX0 18 "WarmProbes$Board" "fed" "[I" ∈ wsX0_takeOver := by decide +kernel
theorem k_X0_takeOver_w7 : Cond.fieldLink RX0 21 "WarmProbes$Board" "touches" "I" ∈ wsX0_takeOver := by decide +kernel
theorem k_X0_takeOver_w8 : Cond.fieldLink RX0 25 "WarmProbes$Board" "touchPlaces" "[I" ∈ wsX0_takeOver := by decide +kernel
theorem k_X0_takeOver_w9 : Cond.fieldLink RX0 28 "WarmProbes$Board" "touchOthers" "[I" ∈ wsX0_takeOver := by decide +kernel
theorem k_X0_takeOver_w10 : Cond.fieldLink RX0 31 "WarmProbes$Board" "steps" "I" ∈ wsX0_takeOver := by decide +kernel
theorem k_X0_takeOver_w11 : Cond.fieldLink RX0 34 "WarmProbes$Board" "warmth" "[F" ∈ wsX0_takeOver := by decide +kernel
theorem k_X0_takeOver_w12 : Cond.fieldLink RX0 41 "WarmProbes$Board" "readings" "I" ∈ wsX0_takeOver := by decide +kernel
theorem k_X0_takeOver_w13 : Cond.fieldLink RX0 44 "WarmProbes$Board" "readingPlaces" "[I" ∈ wsX0_takeOver := by decide +kernel
theorem k_X0_takeOver_w14 : Cond.fieldLink RX0 47 "WarmProbes$Board" "readingReads" "[I" ∈ wsX0_takeOver := by decide +kernel
theorem k_X0_takeOver_w15 : Cond.fieldLink RX0 50 "WarmProbes$Board" "readingSteps" "[I" ∈ wsX0_takeOver := by decide +kernel
set_option maxRecDepth 20000 in
set_option maxHeartbeats 4000000 in
theorem b_X0_takeOver_0 (B : wx_B p s m args meth c cX0_takeOver 2 none wsX0_takeOver RX0 D ad ca A) {o : Nat} {b1 : Nat}  (ho : o < 11) (hb1 : b1 < 11)  {σ' : wx_St}   {σ : wx_St}  (h : f_X0_takeOver o b1 σ = some ((), σ')) {H : Heap} {locs : List Loc} (Z : wx_Z D ad rd ca A σ H) (hS : va_S A s.heap H locs) {ls : Array Slot} (hl : lv_has ls 2 [(0, .ref (ad o 99)), (1, .ref (ad b1 99))]) : W p l e ({ frames := 1, cells := 0, slots := 0, locals := 26 } : Room) s m args below meth c H locs 0 0 (MQ below (wx_Q D ad rd ca A none σ') args s 0 0 A) (F0 m 0 ls []) := by
  obtain ⟨hx, hb, hml, hr, hts, hown, hlk, hC, hA⟩ := id B
  unfold f_X0_takeOver at h
  refine lv_aload_n hx hb dX0_takeOver_0 rfl (lv_at hl 1 rfl) ?_
  refine wx_get (own := RX0) hx hb hts i_X0_takeOver_0 hown hC.1 Z (o := b1) (ci := 0) (wx_sbo hb1 99) (rfl : vwCl[0]? = some (RX0, TX0, 13)) 0 (by decide) (hts _ k_X0_takeOver_w0) (fun _ h9 => h9) (f := 0) rfl rfl dX0_takeOver_1 ?_
  refine lv_iconst (v := 0) hx hb dX0_takeOver_4 (by decide) ?_
  refine lv_aload_n hx hb dX0_takeOver_5 rfl (lv_at hl 0 rfl) ?_
  refine wx_get (own := RX0) hx hb hts i_X0_takeOver_0 hown hC.1 Z (o := o) (ci := 0) (wx_sbo ho 99) (rfl : vwCl[0]? = some (RX0, TX0, 13)) 0 (by decide) (hts _ k_X0_takeOver_w0) (fun _ h9 => h9) (f := 0) rfl rfl dX0_takeOver_6 ?_
  refine lv_iconst (v := 0) hx hb dX0_takeOver_9 (by decide) ?_
  refine lv_iconst (v := 4) hx hb dX0_takeOver_10 (by decide) ?_
  obtain ⟨σ11, e11, h⟩ := wx_l_ok h
  refine wx_copyi (own := RX0) hx hb (hml.trans hl.1.symm) hown (hts _ k_X0_takeOver_w1) (hts _ k_X0_takeOver_w2) (hts _ k_X0_takeOver_w3) (hts _ k_X0_takeOver_w4) hC.1 Z hS (o := b1) (k := 0) (n := 4) (o' := o) (k' := 0) (n' := 4) (wx_sbo hb1 0) (wx_sbo ho 0) rfl rfl (by decide) (by decide) (by decide) (by decide) (by decide) (Nat.le_of_ble_eq_true rfl) (Nat.le_of_ble_eq_true rfl) dX0_takeOver_11 e11 (fun H locs Z hS => ?_)
  refine lv_aload_n hx hb dX0_takeOver_14 rfl (lv_at hl 1 rfl) ?_
  refine wx_get (own := RX0) hx hb hts i_X0_takeOver_0 hown hC.1 Z (o := b1) (ci := 0) (wx_sbo hb1 99) (rfl : vwCl[0]? = some (RX0, TX0, 13)) 1 (by decide) (hts _ k_X0_takeOver_w5) (fun _ h9 => h9) (f := 0) rfl rfl dX0_takeOver_15 ?_
  refine lv_iconst (v := 0) hx hb dX0_takeOver_18 (by decide) ?_
  refine lv_aload_n hx hb dX0_takeOver_19 rfl (lv_at hl 0 rfl) ?_
  refine wx_get (own := RX0) hx hb hts i_X0_takeOver_0 hown hC.1 Z (o := o) (ci := 0) (wx_sbo ho 99) (rfl : vwCl[0]? = some (RX0, TX0, 13)) 1 (by decide) (hts _ k_X0_takeOver_w5) (fun _ h9 => h9) (f := 0) rfl rfl dX0_takeOver_20 ?_
  refine lv_iconst (v := 0) hx hb dX0_takeOver_23 (by decide) ?_
  refine lv_bipush (v := 64) hx hb dX0_takeOver_24 (by decide) ?_
  obtain ⟨σ26, e26, h⟩ := wx_l_ok h
  refine wx_copyi (own := RX0) hx hb (hml.trans hl.1.symm) hown (hts _ k_X0_takeOver_w1) (hts _ k_X0_takeOver_w2) (hts _ k_X0_takeOver_w3) (hts _ k_X0_takeOver_w4) hC.1 Z hS (o := b1) (k := 1) (n := 64) (o' := o) (k' := 1) (n' := 64) (wx_sbo hb1 1) (wx_sbo ho 1) rfl rfl (by decide) (by decide) (by decide) (by decide) (by decide) (Nat.le_of_ble_eq_true rfl) (Nat.le_of_ble_eq_true rfl) dX0_takeOver_26 e26 (fun H locs Z hS => ?_)
  refine lv_aload_n hx hb dX0_takeOver_29 rfl (lv_at hl 1 rfl) ?_
  refine wx_get (own := RX0) hx hb hts i_X0_takeOver_0 hown hC.1 Z (o := b1) (ci := 0) (wx_sbo hb1 99) (rfl : vwCl[0]? = some (RX0, TX0, 13)) 2 (by decide) (hts _ k_X0_takeOver_w6) (fun _ h9 => h9) (f := 0) rfl rfl dX0_takeOver_30 ?_
  refine lv_iconst (v := 0) hx hb dX0_takeOver_33 (by decide) ?_
  refine lv_aload_n hx hb dX0_takeOver_34 rfl (lv_at hl 0 rfl) ?_
  refine wx_get (own := RX0) hx hb hts i_X0_takeOver_0 hown hC.1 Z (o := o) (ci := 0) (wx_sbo ho 99) (rfl : vwCl[0]? = some (RX0, TX0, 13)) 2 (by decide) (hts _ k_X0_takeOver_w6) (fun _ h9 => h9) (f := 0) rfl rfl dX0_takeOver_35 ?_
  refine lv_iconst (v := 0) hx hb dX0_takeOver_38 (by decide) ?_
  refine lv_bipush (v := 8) hx hb dX0_takeOver_39 (by decide) ?_
  obtain ⟨σ41, e41, h⟩ := wx_l_ok h
  refine wx_copyi (own := RX0) hx hb (hml.trans hl.1.symm) hown (hts _ k_X0_takeOver_w1) (hts _ k_X0_takeOver_w2) (hts _ k_X0_takeOver_w3) (hts _ k_X0_takeOver_w4) hC.1 Z hS (o := b1) (k := 2) (n := 8) (o' := o) (k' := 2) (n' := 8) (wx_sbo hb1 2) (wx_sbo ho 2) rfl rfl (by decide) (by decide) (by decide) (by decide) (by decide) (Nat.le_of_ble_eq_true rfl) (Nat.le_of_ble_eq_true rfl) dX0_takeOver_41 e41 (fun H locs Z hS => ?_)
  refine lv_aload_n hx hb dX0_takeOver_44 rfl (lv_at hl 0 rfl) ?_
  refine lv_aload_n hx hb dX0_takeOver_45 rfl (lv_at hl 1 rfl) ?_
  refine wx_get (own := RX0) hx hb hts i_X0_takeOver_0 hown hC.1 Z (o := b1) (ci := 0) (wx_sbo hb1 99) (rfl : vwCl[0]? = some (RX0, TX0, 13)) 3 (by decide) (hts _ k_X0_takeOver_w7) (fun _ h9 => h9) (f := 1) rfl rfl dX0_takeOver_46 ?_
  obtain ⟨σ49, e49, h⟩ := wx_l_ok h
  refine wx_put (own := RX0) hx hb hts i_X0_takeOver_0 tyX0 tyX0_ok nmX0 hown hC.1 Z hS (o := o) (ci := 0) (wx_sbo ho 99) (rfl : vwCl[0]? = some (RX0, TX0, 13)) 3 (by decide) (hts _ k_X0_takeOver_w7) (fun _ h9 => h9) rfl (by decide +kernel) rfl dX0_takeOver_49 e49 (fun H locs Z hS => ?_)
  refine lv_aload_n hx hb dX0_takeOver_52 rfl (lv_at hl 1 rfl) ?_
  refine wx_get (own := RX0) hx hb hts i_X0_takeOver_0 hown hC.1 Z (o := b1) (ci := 0) (wx_sbo hb1 99) (rfl : vwCl[0]? = some (RX0, TX0, 13)) 4 (by decide) (hts _ k_X0_takeOver_w8) (fun _ h9 => h9) (f := 0) rfl rfl dX0_takeOver_53 ?_
  refine lv_iconst (v := 0) hx hb dX0_takeOver_56 (by decide) ?_
  refine lv_aload_n hx hb dX0_takeOver_57 rfl (lv_at hl 0 rfl) ?_
  refine wx_get (own := RX0) hx hb hts i_X0_takeOver_0 hown hC.1 Z (o := o) (ci := 0) (wx_sbo ho 99) (rfl : vwCl[0]? = some (RX0, TX0, 13)) 4 (by decide) (hts _ k_X0_takeOver_w8) (fun _ h9 => h9) (f := 0) rfl rfl dX0_takeOver_58 ?_
  refine lv_iconst (v := 0) hx hb dX0_takeOver_61 (by decide) ?_
  refine lv_iconst (v := 3) hx hb dX0_takeOver_62 (by decide) ?_
  obtain ⟨σ63, e63, h⟩ := wx_l_ok h
  refine wx_copyi (own := RX0) hx hb (hml.trans hl.1.symm) hown (hts _ k_X0_takeOver_w1) (hts _ k_X0_takeOver_w2) (hts _ k_X0_takeOver_w3) (hts _ k_X0_takeOver_w4) hC.1 Z hS (o := b1) (k := 4) (n := 3) (o' := o) (k' := 4) (n' := 3) (wx_sbo hb1 4) (wx_sbo ho 4) rfl rfl (by decide) (by decide) (by decide) (by decide) (by decide) (Nat.le_of_ble_eq_true rfl) (Nat.le_of_ble_eq_true rfl) dX0_takeOver_63 e63 (fun H locs Z hS => ?_)
  refine lv_aload_n hx hb dX0_takeOver_66 rfl (lv_at hl 1 rfl) ?_
  refine wx_get (own := RX0) hx hb hts i_X0_takeOver_0 hown hC.1 Z (o := b1) (ci := 0) (wx_sbo hb1 99) (rfl : vwCl[0]? = some (RX0, TX0, 13)) 5 (by decide) (hts _ k_X0_takeOver_w9) (fun _ h9 => h9) (f := 0) rfl rfl dX0_takeOver_67 ?_
  refine lv_iconst (v := 0) hx hb dX0_takeOver_70 (by decide) ?_
  refine lv_aload_n hx hb dX0_takeOver_71 rfl (lv_at hl 0 rfl) ?_
  refine wx_get (own := RX0) hx hb hts i_X0_takeOver_0 hown hC.1 Z (o := o) (ci := 0) (wx_sbo ho 99) (rfl : vwCl[0]? = some (RX0, TX0, 13)) 5 (by decide) (hts _ k_X0_takeOver_w9) (fun _ h9 => h9) (f := 0) rfl rfl dX0_takeOver_72 ?_
  refine lv_iconst (v := 0) hx hb dX0_takeOver_75 (by decide) ?_
  refine lv_iconst (v := 3) hx hb dX0_takeOver_76 (by decide) ?_
  obtain ⟨σ77, e77, h⟩ := wx_l_ok h
  refine wx_copyi (own := RX0) hx hb (hml.trans hl.1.symm) hown (hts _ k_X0_takeOver_w1) (hts _ k_X0_takeOver_w2) (hts _ k_X0_takeOver_w3) (hts _ k_X0_takeOver_w4) hC.1 Z hS (o := b1) (k := 5) (n := 3) (o' := o) (k' := 5) (n' := 3) (wx_sbo hb1 5) (wx_sbo ho 5) rfl rfl (by decide) (by decide) (by decide) (by decide) (by decide) (Nat.le_of_ble_eq_true rfl) (Nat.le_of_ble_eq_true rfl) dX0_takeOver_77 e77 (fun H locs Z hS => ?_)
  refine lv_aload_n hx hb dX0_takeOver_80 rfl (lv_at hl 0 rfl) ?_
  refine lv_aload_n hx hb dX0_takeOver_81 rfl (lv_at hl 1 rfl) ?_
  refine wx_get (own := RX0) hx hb hts i_X0_takeOver_0 hown hC.1 Z (o := b1) (ci := 0) (wx_sbo hb1 99) (rfl : vwCl[0]? = some (RX0, TX0, 13)) 6 (by decide) (hts _ k_X0_takeOver_w10) (fun _ h9 => h9) (f := 1) rfl rfl dX0_takeOver_82 ?_
  obtain ⟨σ85, e85, h⟩ := wx_l_ok h
  refine wx_put (own := RX0) hx hb hts i_X0_takeOver_0 tyX0 tyX0_ok nmX0 hown hC.1 Z hS (o := o) (ci := 0) (wx_sbo ho 99) (rfl : vwCl[0]? = some (RX0, TX0, 13)) 6 (by decide) (hts _ k_X0_takeOver_w10) (fun _ h9 => h9) rfl (by decide +kernel) rfl dX0_takeOver_85 e85 (fun H locs Z hS => ?_)
  refine lv_aload_n hx hb dX0_takeOver_88 rfl (lv_at hl 1 rfl) ?_
  refine wx_get (own := RX0) hx hb hts i_X0_takeOver_0 hown hC.1 Z (o := b1) (ci := 0) (wx_sbo hb1 99) (rfl : vwCl[0]? = some (RX0, TX0, 13)) 7 (by decide) (hts _ k_X0_takeOver_w11) (fun _ h9 => h9) (f := 0) rfl rfl dX0_takeOver_89 ?_
  refine lv_iconst (v := 0) hx hb dX0_takeOver_92 (by decide) ?_
  refine lv_aload_n hx hb dX0_takeOver_93 rfl (lv_at hl 0 rfl) ?_
  refine wx_get (own := RX0) hx hb hts i_X0_takeOver_0 hown hC.1 Z (o := o) (ci := 0) (wx_sbo ho 99) (rfl : vwCl[0]? = some (RX0, TX0, 13)) 7 (by decide) (hts _ k_X0_takeOver_w11) (fun _ h9 => h9) (f := 0) rfl rfl dX0_takeOver_94 ?_
  refine lv_iconst (v := 0) hx hb dX0_takeOver_97 (by decide) ?_
  refine lv_bipush (v := 64) hx hb dX0_takeOver_98 (by decide) ?_
  obtain ⟨σ100, e100, h⟩ := wx_l_ok h
  refine wx_copyf (own := RX0) hx hb (hml.trans hl.1.symm) hown (hts _ k_X0_takeOver_w1) (hts _ k_X0_takeOver_w2) (hts _ k_X0_takeOver_w3) (hts _ k_X0_takeOver_w4) hC.1 Z hS (o := b1) (k := 7) (n := 64) (o' := o) (k' := 7) (n' := 64) (wx_sbo hb1 7) (wx_sbo ho 7) rfl rfl (by decide) (by decide) (by decide) (by decide) (by decide) (Nat.le_of_ble_eq_true rfl) (Nat.le_of_ble_eq_true rfl) dX0_takeOver_100 e100 (fun H locs Z hS => ?_)
  refine lv_aload_n hx hb dX0_takeOver_103 rfl (lv_at hl 0 rfl) ?_
  refine lv_aload_n hx hb dX0_takeOver_104 rfl (lv_at hl 1 rfl) ?_
  refine wx_get (own := RX0) hx hb hts i_X0_takeOver_0 hown hC.1 Z (o := b1) (ci := 0) (wx_sbo hb1 99) (rfl : vwCl[0]? = some (RX0, TX0, 13)) 9 (by decide) (hts _ k_X0_takeOver_w12) (fun _ h9 => h9) (f := 1) rfl rfl dX0_takeOver_105 ?_
  obtain ⟨σ108, e108, h⟩ := wx_l_ok h
  refine wx_put (own := RX0) hx hb hts i_X0_takeOver_0 tyX0 tyX0_ok nmX0 hown hC.1 Z hS (o := o) (ci := 0) (wx_sbo ho 99) (rfl : vwCl[0]? = some (RX0, TX0, 13)) 9 (by decide) (hts _ k_X0_takeOver_w12) (fun _ h9 => h9) rfl (by decide +kernel) rfl dX0_takeOver_108 e108 (fun H locs Z hS => ?_)
  refine lv_aload_n hx hb dX0_takeOver_111 rfl (lv_at hl 1 rfl) ?_
  refine wx_get (own := RX0) hx hb hts i_X0_takeOver_0 hown hC.1 Z (o := b1) (ci := 0) (wx_sbo hb1 99) (rfl : vwCl[0]? = some (RX0, TX0, 13)) 10 (by decide) (hts _ k_X0_takeOver_w13) (fun _ h9 => h9) (f := 0) rfl rfl dX0_takeOver_112 ?_
  refine lv_iconst (v := 0) hx hb dX0_takeOver_115 (by decide) ?_
  refine lv_aload_n hx hb dX0_takeOver_116 rfl (lv_at hl 0 rfl) ?_
  refine wx_get (own := RX0) hx hb hts i_X0_takeOver_0 hown hC.1 Z (o := o) (ci := 0) (wx_sbo ho 99) (rfl : vwCl[0]? = some (RX0, TX0, 13)) 10 (by decide) (hts _ k_X0_takeOver_w13) (fun _ h9 => h9) (f := 0) rfl rfl dX0_takeOver_117 ?_
  refine lv_iconst (v := 0) hx hb dX0_takeOver_120 (by decide) ?_
  refine lv_bipush (v := 8) hx hb dX0_takeOver_121 (by decide) ?_
  obtain ⟨σ123, e123, h⟩ := wx_l_ok h
  refine wx_copyi (own := RX0) hx hb (hml.trans hl.1.symm) hown (hts _ k_X0_takeOver_w1) (hts _ k_X0_takeOver_w2) (hts _ k_X0_takeOver_w3) (hts _ k_X0_takeOver_w4) hC.1 Z hS (o := b1) (k := 10) (n := 8) (o' := o) (k' := 10) (n' := 8) (wx_sbo hb1 10) (wx_sbo ho 10) rfl rfl (by decide) (by decide) (by decide) (by decide) (by decide) (Nat.le_of_ble_eq_true rfl) (Nat.le_of_ble_eq_true rfl) dX0_takeOver_123 e123 (fun H locs Z hS => ?_)
  refine lv_aload_n hx hb dX0_takeOver_126 rfl (lv_at hl 1 rfl) ?_
  refine wx_get (own := RX0) hx hb hts i_X0_takeOver_0 hown hC.1 Z (o := b1) (ci := 0) (wx_sbo hb1 99) (rfl : vwCl[0]? = some (RX0, TX0, 13)) 11 (by decide) (hts _ k_X0_takeOver_w14) (fun _ h9 => h9) (f := 0) rfl rfl dX0_takeOver_127 ?_
  refine lv_iconst (v := 0) hx hb dX0_takeOver_130 (by decide) ?_
  refine lv_aload_n hx hb dX0_takeOver_131 rfl (lv_at hl 0 rfl) ?_
  refine wx_get (own := RX0) hx hb hts i_X0_takeOver_0 hown hC.1 Z (o := o) (ci := 0) (wx_sbo ho 99) (rfl : vwCl[0]? = some (RX0, TX0, 13)) 11 (by decide) (hts _ k_X0_takeOver_w14) (fun _ h9 => h9) (f := 0) rfl rfl dX0_takeOver_132 ?_
  refine lv_iconst (v := 0) hx hb dX0_takeOver_135 (by decide) ?_
  refine lv_bipush (v := 8) hx hb dX0_takeOver_136 (by decide) ?_
  obtain ⟨σ138, e138, h⟩ := wx_l_ok h
  refine wx_copyi (own := RX0) hx hb (hml.trans hl.1.symm) hown (hts _ k_X0_takeOver_w1) (hts _ k_X0_takeOver_w2) (hts _ k_X0_takeOver_w3) (hts _ k_X0_takeOver_w4) hC.1 Z hS (o := b1) (k := 11) (n := 8) (o' := o) (k' := 11) (n' := 8) (wx_sbo hb1 11) (wx_sbo ho 11) rfl rfl (by decide) (by decide) (by decide) (by decide) (by decide) (Nat.le_of_ble_eq_true rfl) (Nat.le_of_ble_eq_true rfl) dX0_takeOver_138 e138 (fun H locs Z hS => ?_)
  refine lv_aload_n hx hb dX0_takeOver_141 rfl (lv_at hl 1 rfl) ?_
  refine wx_get (own := RX0) hx hb hts i_X0_takeOver_0 hown hC.1 Z (o := b1) (ci := 0) (wx_sbo hb1 99) (rfl : vwCl[0]? = some (RX0, TX0, 13)) 12 (by decide) (hts _ k_X0_takeOver_w15) (fun _ h9 => h9) (f := 0) rfl rfl dX0_takeOver_142 ?_
  refine lv_iconst (v := 0) hx hb dX0_takeOver_145 (by decide) ?_
  refine lv_aload_n hx hb dX0_takeOver_146 rfl (lv_at hl 0 rfl) ?_
  refine wx_get (own := RX0) hx hb hts i_X0_takeOver_0 hown hC.1 Z (o := o) (ci := 0) (wx_sbo ho 99) (rfl : vwCl[0]? = some (RX0, TX0, 13)) 12 (by decide) (hts _ k_X0_takeOver_w15) (fun _ h9 => h9) (f := 0) rfl rfl dX0_takeOver_147 ?_
  refine lv_iconst (v := 0) hx hb dX0_takeOver_150 (by decide) ?_
  refine lv_bipush (v := 8) hx hb dX0_takeOver_151 (by decide) ?_
  obtain ⟨σ153, e153, h⟩ := wx_l_ok h
  refine wx_copyi (own := RX0) hx hb (hml.trans hl.1.symm) hown (hts _ k_X0_takeOver_w1) (hts _ k_X0_takeOver_w2) (hts _ k_X0_takeOver_w3) (hts _ k_X0_takeOver_w4) hC.1 Z hS (o := b1) (k := 12) (n := 8) (o' := o) (k' := 12) (n' := 8) (wx_sbo hb1 12) (wx_sbo ho 12) rfl rfl (by decide) (by decide) (by decide) (by decide) (by decide) (Nat.le_of_ble_eq_true rfl) (Nat.le_of_ble_eq_true rfl) dX0_takeOver_153 e153 (fun H locs Z hS => ?_)
  obtain ⟨-, rfl⟩ := wx_ret_ok h
  exact W.vret hx hb hr (fun t ht hW => ⟨rfl, by rw [ht]; exact Z, hS.F ht⟩) hS.2.2 dX0_takeOver_156
set_option maxRecDepth 20000 in
theorem c_X0_takeOver (l : Launch) {D : va_G} {ad : Nat → Nat → Nat} {rd : Nat → Nat} {ca : Nat → ClassId} {A : Nat → Prop} {σ : wx_St} {o : Nat} {b1 : Nat}  (ho : o < 11) (hb1 : b1 < 11)   {σ' : wx_St} (h : f_X0_takeOver o b1 σ = some ((), σ')) : wx_M l yX0_takeOver wsX0_takeOver 1 26 D ad rd ca A [.ref (ad o 99), .ref (ad b1 99)] σ none σ' := by
  refine Met.ofW (cc := cX0_takeOver) (maxL := 2) (ret := none) (by decide +kernel) rfl ?_
  intro p e s m args below meth c s₁ B0 hml hv
  obtain ⟨rfl, hC, Z, hA⟩ := hv
  have hl := lv_entry ([.ref (ad o 99), .ref (ad b1 99)]) (n := 2) (Nat.le_of_ble_eq_true rfl)
  rw [lg_entry_eq]
  generalize (lg_sl ([.ref (ad o 99), .ref (ad b1 99)]) ++ List.replicate (2 - (lg_sl ([.ref (ad o 99), .ref (ad b1 99)])).length) Slot.unset).toArray = ls at hl ⊢
  exact b_X0_takeOver_0 ⟨B0.exec, B0.bytes, hml, B0.returns, atoms_spec (ws := wsX0_takeOver) B0.pre, findClass_of_methodNamed B0.named, B0.notSynchronized, hC, hA⟩ ho hb1  h Z va_S.rf hl
theorem i_X0_turnPair_0 : ∀ w ∈ wsX00, w ∈ wsX0_turnPair := by decide +kernel
theorem k_X0_turnPair_w0 : Cond.initialized RX5 ∈ wsX0_turnPair := by decide +kernel
theorem k_X0_turnPair_w1 : Cond.static yX5_isNet ∈ wsX0_turnPair := by decide +kernel
theorem k_X0_turnPair_w2 : Cond.fieldLink RX0 18 "WarmProbes$Board" "fed" "[I" ∈ wsX0_turnPair := by decide +kernel
set_option maxRecDepth 20000 in
set_option maxHeartbeats 4000000 in
theorem b_X0_turnPair_14 (B : wx_B p s m args meth c cX0_turnPair 3 (some .int) wsX0_turnPair RX0 D ad ca A) {o : Nat}  (ho : o < 11) {r : Int32} {σ' : wx_St}  {x1 : Int32} {x2 : Int32} {σ : wx_St}  (h : f_X0_turnPair_14 o x1 x2 σ = some (r, σ')) {H : Heap} {locs : List Loc} (Z : wx_Z D ad rd ca A σ H) (hS : va_S A s.heap H locs) {ls : Array Slot} (hl : lv_has ls 3 [(0, .ref (ad o 99)), (1, .int x1), (2, .int x2)]) : W p l e ({ frames := 1, cells := 0, slots := 0, locals := 22 } : Room) s m args below meth c H locs 0 0 (MQ below (wx_Q D ad rd ca A (some (.int r)) σ') args s 0 0 A) (F0 m 14 ls []) := by
  obtain ⟨hx, hb, hml, hr, hts, hown, hlk, hC, hA⟩ := id B
  unfold f_X0_turnPair_14 at h
  refine lv_iconst (v := (-1)) hx hb dX0_turnPair_14 (by decide) ?_
  obtain ⟨rfl, rfl⟩ := wx_ret_ok h
  exact W.iret hx hb hr (fun t ht hW => ⟨rfl, by rw [ht]; exact Z, hS.F ht⟩) hS.2.2 dX0_turnPair_15
set_option maxRecDepth 20000 in
set_option maxHeartbeats 4000000 in
theorem b_X0_turnPair_74 (B : wx_B p s m args meth c cX0_turnPair 3 (some .int) wsX0_turnPair RX0 D ad ca A) {o : Nat}  (ho : o < 11) {r : Int32} {σ' : wx_St}  {x1 : Int32} {x2 : Int32} {y0 : Int32} {σ : wx_St}  (h : f_X0_turnPair_74 o x1 x2 y0 σ = some (r, σ')) {H : Heap} {locs : List Loc} (Z : wx_Z D ad rd ca A σ H) (hS : va_S A s.heap H locs) {ls : Array Slot} (hl : lv_has ls 3 [(0, .ref (ad o 99)), (1, .int x1), (2, .int x2)]) : W p l e ({ frames := 1, cells := 0, slots := 0, locals := 22 } : Room) s m args below meth c H locs 0 0 (MQ below (wx_Q D ad rd ca A (some (.int r)) σ') args s 0 0 A) (F0 m 74 ls [.int y0]) := by
  obtain ⟨hx, hb, hml, hr, hts, hown, hlk, hC, hA⟩ := id B
  unfold f_X0_turnPair_74 at h
  obtain ⟨rfl, rfl⟩ := wx_ret_ok h
  exact W.iret hx hb hr (fun t ht hW => ⟨rfl, by rw [ht]; exact Z, hS.F ht⟩) hS.2.2 dX0_turnPair_74
set_option maxRecDepth 20000 in
set_option maxHeartbeats 4000000 in
theorem b_X0_turnPair_0 (B : wx_B p s m args meth c cX0_turnPair 3 (some .int) wsX0_turnPair RX0 D ad ca A) {o : Nat}  (ho : o < 11) {r : Int32} {σ' : wx_St}  {x1 : Int32} {x2 : Int32} {σ : wx_St}  (h : f_X0_turnPair o x1 x2 σ = some (r, σ')) {H : Heap} {locs : List Loc} (Z : wx_Z D ad rd ca A σ H) (hS : va_S A s.heap H locs) {ls : Array Slot} (hl : lv_has ls 3 [(0, .ref (ad o 99)), (1, .int x1), (2, .int x2)]) : W p l e ({ frames := 1, cells := 0, slots := 0, locals := 22 } : Room) s m args below meth c H locs 0 0 (MQ below (wx_Q D ad rd ca A (some (.int r)) σ') args s 0 0 A) (F0 m 0 ls []) := by
  obtain ⟨hx, hb, hml, hr, hts, hown, hlk, hC, hA⟩ := id B
  unfold f_X0_turnPair at h
  refine lv_iload_n hx hb dX0_turnPair_0 rfl (lv_at hl 1 rfl) ?_
  obtain ⟨v1, hc1, h⟩ := wx_o_ok h
  refine wx_call (va_runSN (As := [.int x1]) (rest := []) ⟨hx, hb, hml, hown, hts⟩ (c_X5_isNet l (D := D) (ad := ad) (rd := rd) (ca := ca) (A := A) (σ := σ) hc1) ⟨va_cnB 1 hts gX0_turnPair_X5_isNet_n75 rfl rfl rfl (hC.1.2.1 _ (List.mem_of_getElem? (i := 35) rfl)) (hts _ k_X0_turnPair_w0) (by decide +kernel) ⟨Nat.le_of_ble_eq_true rfl, Nat.le_of_ble_eq_true rfl⟩, hts _ k_X0_turnPair_w1, trivial⟩ (wx_preS hC Z hS hA) rfl rfl hl.1 rfl (lv_room (Nat.le_of_ble_eq_true rfl)) dX0_turnPair_1 ⟨Nat.zero_le _, Nat.zero_le _⟩) hS (fun H locs Z hS => ?_)
  refine lv_if_eq (tgt := 14) hx hb dX0_turnPair_4 (by decide) (fun c4 => ?_) (fun c4 => ?_)
  · replace h := wx_ift c4 h
    exact b_X0_turnPair_14 B ho h Z hS (lv_sub hl [0, 1, 2] rfl)
  · replace h := wx_iff c4 h
    refine lv_iload_n hx hb dX0_turnPair_7 rfl (lv_at hl 2 rfl) ?_
    obtain ⟨v8, hc8, h⟩ := wx_o_ok h
    refine wx_call (va_runSN (As := [.int x2]) (rest := []) ⟨hx, hb, hml, hown, hts⟩ (c_X5_isNet l (D := D) (ad := ad) (rd := rd) (ca := ca) (A := A) (σ := σ) hc8) ⟨va_cnB 1 hts gX0_turnPair_X5_isNet_n75 rfl rfl rfl (hC.1.2.1 _ (List.mem_of_getElem? (i := 35) rfl)) (hts _ k_X0_turnPair_w0) (by decide +kernel) ⟨Nat.le_of_ble_eq_true rfl, Nat.le_of_ble_eq_true rfl⟩, hts _ k_X0_turnPair_w1, trivial⟩ (wx_preS hC Z hS hA) rfl rfl hl.1 rfl (lv_room (Nat.le_of_ble_eq_true rfl)) dX0_turnPair_8 ⟨Nat.zero_le _, Nat.zero_le _⟩) hS (fun H locs Z hS => ?_)
    refine lv_if_ne (tgt := 16) hx hb dX0_turnPair_11 (by decide) (fun c11 => ?_) (fun c11 => ?_)
    · replace h := wx_iff c11 h
      refine lv_iload_n hx hb dX0_turnPair_16 rfl (lv_at hl 1 rfl) ?_
      refine lv_iload_n hx hb dX0_turnPair_17 rfl (lv_at hl 2 rfl) ?_
      refine lv_icmp_ne (tgt := 24) hx hb dX0_turnPair_18 (by decide) (fun c18 => ?_) (fun c18 => ?_)
      · replace h := wx_iff c18 h
        refine lv_aload_n hx hb dX0_turnPair_24 rfl (lv_at hl 0 rfl) ?_
        refine wx_get (own := RX0) hx hb hts i_X0_turnPair_0 hown hC.1 Z (o := o) (ci := 0) (wx_sbo ho 99) (rfl : vwCl[0]? = some (RX0, TX0, 13)) 2 (by decide) (hts _ k_X0_turnPair_w2) (fun _ h9 => h9) (f := 0) rfl rfl dX0_turnPair_25 ?_
        refine lv_iload_n hx hb dX0_turnPair_28 rfl (lv_at hl 1 rfl) ?_
        refine lv_aload_n hx hb dX0_turnPair_29 rfl (lv_at hl 0 rfl) ?_
        refine wx_get (own := RX0) hx hb hts i_X0_turnPair_0 hown hC.1 Z (o := o) (ci := 0) (wx_sbo ho 99) (rfl : vwCl[0]? = some (RX0, TX0, 13)) 2 (by decide) (hts _ k_X0_turnPair_w2) (fun _ h9 => h9) (f := 0) rfl rfl dX0_turnPair_30 ?_
        refine lv_iload_n hx hb dX0_turnPair_33 rfl (lv_at hl 1 rfl) ?_
        obtain ⟨v34, ev34, iv34, h⟩ := wx_rI_ok h
        refine wx_iald hx hb hC.1 Z (o := o) (k := 2) (n := 8) (wx_sbo ho 2) rfl iv34 dX0_turnPair_34 ev34 ?_
        refine lv_iconst (v := 1) hx hb dX0_turnPair_35 (by decide) ?_
        refine lv_iload_n hx hb dX0_turnPair_36 rfl (lv_at hl 2 rfl) ?_
        refine lv_ishl hx hb dX0_turnPair_37 ?_
        refine lv_ixor hx hb dX0_turnPair_38 ?_
        obtain ⟨σ39, e39, i39, h⟩ := wx_w_ok h
        refine wx_iast hx hb hC.1 Z hS (o := o) (k := 2) (n := 8) (wx_sbo ho 2) rfl i39 dX0_turnPair_39 e39 (fun H locs Z hS => ?_)
        refine lv_aload_n hx hb dX0_turnPair_40 rfl (lv_at hl 0 rfl) ?_
        refine wx_get (own := RX0) hx hb hts i_X0_turnPair_0 hown hC.1 Z (o := o) (ci := 0) (wx_sbo ho 99) (rfl : vwCl[0]? = some (RX0, TX0, 13)) 2 (by decide) (hts _ k_X0_turnPair_w2) (fun _ h9 => h9) (f := 0) rfl rfl dX0_turnPair_41 ?_
        refine lv_iload_n hx hb dX0_turnPair_44 rfl (lv_at hl 2 rfl) ?_
        refine lv_aload_n hx hb dX0_turnPair_45 rfl (lv_at hl 0 rfl) ?_
        refine wx_get (own := RX0) hx hb hts i_X0_turnPair_0 hown hC.1 Z (o := o) (ci := 0) (wx_sbo ho 99) (rfl : vwCl[0]? = some (RX0, TX0, 13)) 2 (by decide) (hts _ k_X0_turnPair_w2) (fun _ h9 => h9) (f := 0) rfl rfl dX0_turnPair_46 ?_
        refine lv_iload_n hx hb dX0_turnPair_49 rfl (lv_at hl 2 rfl) ?_
        obtain ⟨v50, ev50, iv50, h⟩ := wx_rI_ok h
        refine wx_iald hx hb hC.1 Z (o := o) (k := 2) (n := 8) (wx_sbo ho 2) rfl iv50 dX0_turnPair_50 ev50 ?_
        refine lv_iconst (v := 1) hx hb dX0_turnPair_51 (by decide) ?_
        refine lv_iload_n hx hb dX0_turnPair_52 rfl (lv_at hl 1 rfl) ?_
        refine lv_ishl hx hb dX0_turnPair_53 ?_
        refine lv_ixor hx hb dX0_turnPair_54 ?_
        obtain ⟨σ55, e55, i55, h⟩ := wx_w_ok h
        refine wx_iast hx hb hC.1 Z hS (o := o) (k := 2) (n := 8) (wx_sbo ho 2) rfl i55 dX0_turnPair_55 e55 (fun H locs Z hS => ?_)
        refine lv_aload_n hx hb dX0_turnPair_56 rfl (lv_at hl 0 rfl) ?_
        obtain ⟨v57, σ57, hc57, h⟩ := wx_b_ok h
        refine wx_call (va_runV (As := []) (rest := []) ⟨hx, hb, hml, hown, hts⟩ (c_X0_beginRun l (D := D) (ad := ad) (rd := rd) (ca := ca) (A := A) (σ := σ55) (o := o) ho hc57) (cwV 0 hts gX0_turnPair_X0_beginRun rfl rfl rfl (by decide +kernel) ⟨Nat.le_of_ble_eq_true rfl, Nat.le_of_ble_eq_true rfl⟩) (wx_preV hC Z hS hA (wx_sbo ho 99) (rfl : vwCl[0]? = some (RX0, TX0, 13))) rfl rfl hl.1 rfl (lv_room (Nat.le_of_ble_eq_true rfl)) dX0_turnPair_57 ⟨Nat.zero_le _, Nat.zero_le _⟩) hS (fun H locs Z hS => ?_)
        refine lv_aload_n hx hb dX0_turnPair_60 rfl (lv_at hl 0 rfl) ?_
        refine lv_iload_n hx hb dX0_turnPair_61 rfl (lv_at hl 1 rfl) ?_
        refine lv_iload_n hx hb dX0_turnPair_62 rfl (lv_at hl 2 rfl) ?_
        obtain ⟨v63, hc63, h⟩ := wx_o_ok h
        refine wx_call (va_runV (As := [.int x1, .int x2]) (rest := []) ⟨hx, hb, hml, hown, hts⟩ (c_X0_isFed l (D := D) (ad := ad) (rd := rd) (ca := ca) (A := A) (σ := σ57) (o := o) ho hc63) (cwV 2 hts gX0_turnPair_X0_isFed rfl rfl rfl (by decide +kernel) ⟨Nat.le_of_ble_eq_true rfl, Nat.le_of_ble_eq_true rfl⟩) (wx_preV hC Z hS hA (wx_sbo ho 99) (rfl : vwCl[0]? = some (RX0, TX0, 13))) rfl rfl hl.1 rfl (lv_room (Nat.le_of_ble_eq_true rfl)) dX0_turnPair_63 ⟨Nat.zero_le _, Nat.zero_le _⟩) hS (fun H locs Z hS => ?_)
        refine lv_if_eq (tgt := 73) hx hb dX0_turnPair_66 (by decide) (fun c66 => ?_) (fun c66 => ?_)
        · replace h := wx_ift c66 h
          refine lv_iconst (v := 0) hx hb dX0_turnPair_73 (by decide) ?_
          exact b_X0_turnPair_74 B ho h Z hS (lv_sub hl [0, 1, 2] rfl)
        · replace h := wx_iff c66 h
          refine lv_iconst (v := 1) hx hb dX0_turnPair_69 (by decide) ?_
          refine lv_goto (tgt := 74) hx hb dX0_turnPair_70 (by decide) ?_
          exact b_X0_turnPair_74 B ho h Z hS (lv_sub hl [0, 1, 2] rfl)
      · replace h := wx_ift c18 h
        refine lv_bipush (v := (-2)) hx hb dX0_turnPair_21 (by decide) ?_
        obtain ⟨rfl, rfl⟩ := wx_ret_ok h
        exact W.iret hx hb hr (fun t ht hW => ⟨rfl, by rw [ht]; exact Z, hS.F ht⟩) hS.2.2 dX0_turnPair_23
    · replace h := wx_ift c11 h
      exact b_X0_turnPair_14 B ho h Z hS (lv_sub hl [0, 1, 2] rfl)
set_option maxRecDepth 20000 in
theorem c_X0_turnPair (l : Launch) {D : va_G} {ad : Nat → Nat → Nat} {rd : Nat → Nat} {ca : Nat → ClassId} {A : Nat → Prop} {σ : wx_St} {o : Nat}  (ho : o < 11) {x1 : Int32} {x2 : Int32} {r : Int32} {σ' : wx_St} (h : f_X0_turnPair o x1 x2 σ = some (r, σ')) : wx_M l yX0_turnPair wsX0_turnPair 1 22 D ad rd ca A [.ref (ad o 99), .int x1, .int x2] σ (some (.int r)) σ' := by
  refine Met.ofW (cc := cX0_turnPair) (maxL := 3) (ret := (some .int)) (by decide +kernel) rfl ?_
  intro p e s m args below meth c s₁ B0 hml hv
  obtain ⟨rfl, hC, Z, hA⟩ := hv
  have hl := lv_entry ([.ref (ad o 99), .int x1, .int x2]) (n := 3) (Nat.le_of_ble_eq_true rfl)
  rw [lg_entry_eq]
  generalize (lg_sl ([.ref (ad o 99), .int x1, .int x2]) ++ List.replicate (3 - (lg_sl ([.ref (ad o 99), .int x1, .int x2])).length) Slot.unset).toArray = ls at hl ⊢
  exact b_X0_turnPair_0 ⟨B0.exec, B0.bytes, hml, B0.returns, atoms_spec (ws := wsX0_turnPair) B0.pre, findClass_of_methodNamed B0.named, B0.notSynchronized, hC, hA⟩ ho  h Z va_S.rf hl
theorem i_X3_kept_3 : ∀ w ∈ wsX30, w ∈ wsX3_kept := by decide +kernel
theorem k_X3_kept_w0 : Cond.fieldLink RX3 17 "WarmProbes$Past" "size" "I" ∈ wsX3_kept := by decide +kernel
theorem k_X3_kept_w1 : Cond.fieldLink RX3 11 "WarmProbes$Past" "states" "[LWarmProbes$Board;" ∈ wsX3_kept := by decide +kernel
set_option maxRecDepth 20000 in
set_option maxHeartbeats 4000000 in
theorem b_X3_kept_36 (B : wx_B p s m args meth c cX3_kept 4 (some .int) wsX3_kept RX3 D ad ca A)    {r : Int32} {σ' : wx_St}   :
    ∀ {n : Nat} {x1 : Int32} {z2 : Nat} {x3 : Int32} {σ : wx_St} (hz2 : z2 < 11) (h : f_X3_kept_36 n x1 z2 x3 σ = some (r, σ')) {H : Heap} {locs : List Loc} (Z : wx_Z D ad rd ca A σ H) (hS : va_S A s.heap H locs) {ls : Array Slot} (hl : lv_has ls 4 [(0, .ref (ad 14 99)), (1, .int x1), (2, .ref (ad z2 99)), (3, .int x3)]), W p l e ({ frames := 0, cells := 0, slots := 0, locals := 0 } : Room) s m args below meth c H locs 0 0 (MQ below (wx_Q D ad rd ca A (some (.int r)) σ') args s 0 0 A) (F0 m 36 ls []) := by
  obtain ⟨hx, hb, hml, hr, hts, hown, hlk, hC, hA⟩ := id B
  intro n
  induction n with
  | zero => intro x1 z2 x3 σ hz2 h H locs Z hS ls hl; exact wx_no h
  | succ n ih =>
    intro x1 z2 x3 σ hz2 h H locs Z hS ls hl
    rw [f_X3_kept_36] at h
    refine lv_iload_n hx hb dX3_kept_36 rfl (lv_at hl 3 rfl) ?_
    refine lv_bipush (v := 6) hx hb dX3_kept_37 (by decide) ?_
    refine lv_icmp_ge (tgt := 62) hx hb dX3_kept_39 (by decide) (fun c39 => ?_) (fun c39 => ?_)
    · replace h := wx_ift c39 h
      refine lv_aload_n hx hb dX3_kept_62 rfl (lv_at hl 0 rfl) ?_
      refine wx_get (own := RX3) hx hb hts i_X3_kept_3 hown hC.1 Z (o := 14) (ci := 3) rfl (rfl : vwCl[3]? = some (RX3, TX3, 2)) 0 (by decide) (hts _ k_X3_kept_w1) (fun _ h9 => h9) (f := 0) rfl rfl dX3_kept_63 ?_
      refine lv_bipush (v := 6) hx hb dX3_kept_66 (by decide) ?_
      refine lv_aload_n hx hb dX3_kept_68 rfl (lv_at hl 2 rfl) ?_
      obtain ⟨σ69, e69, i69, h⟩ := wx_w_ok h
      refine wx_bast hx hb hC.1 Z hS hz2 i69 dX3_kept_69 e69 (fun H locs Z hS => ?_)
      refine lv_iload_n hx hb dX3_kept_70 rfl (lv_at hl 1 rfl) ?_
      obtain ⟨rfl, rfl⟩ := wx_ret_ok h
      exact W.iret hx hb hr (fun t ht hW => ⟨rfl, by rw [ht]; exact Z, hS.F ht⟩) hS.2.2 dX3_kept_71
    · replace h := wx_iff c39 h
      refine lv_aload_n hx hb dX3_kept_42 rfl (lv_at hl 0 rfl) ?_
      refine wx_get (own := RX3) hx hb hts i_X3_kept_3 hown hC.1 Z (o := 14) (ci := 3) rfl (rfl : vwCl[3]? = some (RX3, TX3, 2)) 0 (by decide) (hts _ k_X3_kept_w1) (fun _ h9 => h9) (f := 0) rfl rfl dX3_kept_43 ?_
      refine lv_iload_n hx hb dX3_kept_46 rfl (lv_at hl 3 rfl) ?_
      refine lv_aload_n hx hb dX3_kept_47 rfl (lv_at hl 0 rfl) ?_
      refine wx_get (own := RX3) hx hb hts i_X3_kept_3 hown hC.1 Z (o := 14) (ci := 3) rfl (rfl : vwCl[3]? = some (RX3, TX3, 2)) 0 (by decide) (hts _ k_X3_kept_w1) (fun _ h9 => h9) (f := 0) rfl rfl dX3_kept_48 ?_
      refine lv_iload_n hx hb dX3_kept_51 rfl (lv_at hl 3 rfl) ?_
      refine lv_iconst (v := 1) hx hb dX3_kept_52 (by decide) ?_
      refine lv_iadd hx hb dX3_kept_53 ?_
      obtain ⟨z54, ez54, hz54, iz54, h⟩ := wx_rR_ok h
      refine wx_bald hx hb hC.1 Z (o := 14) (k := 0) (n := 7) rfl rfl iz54 dX3_kept_54 ez54 ?_
      obtain ⟨σ55, e55, i55, h⟩ := wx_w_ok h
      refine wx_bast hx hb hC.1 Z hS hz54 i55 dX3_kept_55 e55 (fun H locs Z hS => ?_)
      refine lv_iinc (v := x3 + 1) (lv' := [(3, .int (x3 + 1)), (0, .ref (ad 14 99)), (1, .int x1), (2, .ref (ad z2 99))]) hx hb dX3_kept_56 hl (k := 3) rfl rfl (by decide) rfl (fun ls hl => ?_)
      refine lv_goto (tgt := 36) hx hb dX3_kept_59 (by decide) ?_
      exact ih hz2 h Z hS (lv_sub hl [1, 2, 3, 0] rfl)
set_option maxRecDepth 20000 in
set_option maxHeartbeats 4000000 in
theorem b_X3_kept_0 (B : wx_B p s m args meth c cX3_kept 4 (some .int) wsX3_kept RX3 D ad ca A)    {r : Int32} {σ' : wx_St}  {x1 : Int32} {σ : wx_St}  (h : f_X3_kept x1 σ = some (r, σ')) {H : Heap} {locs : List Loc} (Z : wx_Z D ad rd ca A σ H) (hS : va_S A s.heap H locs) {ls : Array Slot} (hl : lv_has ls 4 [(0, .ref (ad 14 99)), (1, .int x1)]) : W p l e ({ frames := 0, cells := 0, slots := 0, locals := 0 } : Room) s m args below meth c H locs 0 0 (MQ below (wx_Q D ad rd ca A (some (.int r)) σ') args s 0 0 A) (F0 m 0 ls []) := by
  obtain ⟨hx, hb, hml, hr, hts, hown, hlk, hC, hA⟩ := id B
  unfold f_X3_kept at h
  refine lv_iload_n hx hb dX3_kept_0 rfl (lv_at hl 1 rfl) ?_
  refine lv_if_ge (tgt := 6) hx hb dX3_kept_1 (by decide) (fun c1 => ?_) (fun c1 => ?_)
  · replace h := wx_ift c1 h
    refine lv_aload_n hx hb dX3_kept_6 rfl (lv_at hl 0 rfl) ?_
    refine wx_get (own := RX3) hx hb hts i_X3_kept_3 hown hC.1 Z (o := 14) (ci := 3) rfl (rfl : vwCl[3]? = some (RX3, TX3, 2)) 1 (by decide) (hts _ k_X3_kept_w0) (fun _ h9 => h9) (f := 1) rfl rfl dX3_kept_7 ?_
    refine lv_bipush (v := 6) hx hb dX3_kept_10 (by decide) ?_
    refine lv_icmp_ge (tgt := 27) hx hb dX3_kept_12 (by decide) (fun c12 => ?_) (fun c12 => ?_)
    · replace h := wx_ift c12 h
      refine lv_aload_n hx hb dX3_kept_27 rfl (lv_at hl 0 rfl) ?_
      refine wx_get (own := RX3) hx hb hts i_X3_kept_3 hown hC.1 Z (o := 14) (ci := 3) rfl (rfl : vwCl[3]? = some (RX3, TX3, 2)) 0 (by decide) (hts _ k_X3_kept_w1) (fun _ h9 => h9) (f := 0) rfl rfl dX3_kept_28 ?_
      refine lv_iconst (v := 0) hx hb dX3_kept_31 (by decide) ?_
      obtain ⟨z32, ez32, hz32, iz32, h⟩ := wx_rR_ok h
      refine wx_bald hx hb hC.1 Z (o := 14) (k := 0) (n := 7) rfl rfl iz32 dX3_kept_32 ez32 ?_
      refine lv_astore_n (lv' := [(2, .ref (ad z32 99)), (0, .ref (ad 14 99)), (1, .int x1)]) hx hb dX3_kept_33 rfl hl (by decide) rfl (fun ls hl => ?_)
      refine lv_iconst (v := 0) hx hb dX3_kept_34 (by decide) ?_
      refine lv_istore_n (lv' := [(3, .int 0), (2, .ref (ad z32 99)), (0, .ref (ad 14 99)), (1, .int x1)]) hx hb dX3_kept_35 rfl hl (by decide) rfl (fun ls hl => ?_)
      exact b_X3_kept_36 B hz32 h Z hS (lv_sub hl [2, 3, 1, 0] rfl)
    · replace h := wx_iff c12 h
      refine lv_aload_n hx hb dX3_kept_15 rfl (lv_at hl 0 rfl) ?_
      refine lv_dup hx hb dX3_kept_16 rfl ?_
      refine wx_get (own := RX3) hx hb hts i_X3_kept_3 hown hC.1 Z (o := 14) (ci := 3) rfl (rfl : vwCl[3]? = some (RX3, TX3, 2)) 1 (by decide) (hts _ k_X3_kept_w0) (fun _ h9 => h9) (f := 1) rfl rfl dX3_kept_17 ?_
      refine lv_iconst (v := 1) hx hb dX3_kept_20 (by decide) ?_
      refine lv_iadd hx hb dX3_kept_21 ?_
      obtain ⟨σ22, e22, h⟩ := wx_l_ok h
      refine wx_put (own := RX3) hx hb hts i_X3_kept_3 tyX3 tyX3_ok nmX3 hown hC.1 Z hS (o := 14) (ci := 3) rfl (rfl : vwCl[3]? = some (RX3, TX3, 2)) 1 (by decide) (hts _ k_X3_kept_w0) (fun _ h9 => h9) rfl (by decide +kernel) rfl dX3_kept_22 e22 (fun H locs Z hS => ?_)
      refine lv_iload_n hx hb dX3_kept_25 rfl (lv_at hl 1 rfl) ?_
      obtain ⟨rfl, rfl⟩ := wx_ret_ok h
      exact W.iret hx hb hr (fun t ht hW => ⟨rfl, by rw [ht]; exact Z, hS.F ht⟩) hS.2.2 dX3_kept_26
  · replace h := wx_iff c1 h
    refine lv_iload_n hx hb dX3_kept_4 rfl (lv_at hl 1 rfl) ?_
    obtain ⟨rfl, rfl⟩ := wx_ret_ok h
    exact W.iret hx hb hr (fun t ht hW => ⟨rfl, by rw [ht]; exact Z, hS.F ht⟩) hS.2.2 dX3_kept_5
set_option maxRecDepth 20000 in
theorem c_X3_kept (l : Launch) {D : va_G} {ad : Nat → Nat → Nat} {rd : Nat → Nat} {ca : Nat → ClassId} {A : Nat → Prop} {σ : wx_St}    {x1 : Int32} {r : Int32} {σ' : wx_St} (h : f_X3_kept x1 σ = some (r, σ')) : wx_M l yX3_kept wsX3_kept 0 0 D ad rd ca A [.ref (ad 14 99), .int x1] σ (some (.int r)) σ' := by
  refine Met.ofW (cc := cX3_kept) (maxL := 4) (ret := (some .int)) (by decide +kernel) rfl ?_
  intro p e s m args below meth c s₁ B0 hml hv
  obtain ⟨rfl, hC, Z, hA⟩ := hv
  have hl := lv_entry ([.ref (ad 14 99), .int x1]) (n := 4) (Nat.le_of_ble_eq_true rfl)
  rw [lg_entry_eq]
  generalize (lg_sl ([.ref (ad 14 99), .int x1]) ++ List.replicate (4 - (lg_sl ([.ref (ad 14 99), .int x1])).length) Slot.unset).toArray = ls at hl ⊢
  exact b_X3_kept_0 ⟨B0.exec, B0.bytes, hml, B0.returns, atoms_spec (ws := wsX3_kept) B0.pre, findClass_of_methodNamed B0.named, B0.notSynchronized, hC, hA⟩   h Z va_S.rf hl
theorem i_X3_prepare_3 : ∀ w ∈ wsX30, w ∈ wsX3_prepare := by decide +kernel
theorem k_X3_prepare_w0 : Cond.fieldLink RX3 11 "WarmProbes$Past" "states" "[LWarmProbes$Board;" ∈ wsX3_prepare := by decide +kernel
theorem k_X3_prepare_w1 : Cond.fieldLink RX3 17 "WarmProbes$Past" "size" "I" ∈ wsX3_prepare := by decide +kernel
theorem k_X3_prepare_w2 : Cond.initialized RX0 ∈ wsX3_prepare := by decide +kernel
theorem k_X3_prepare_w3 : Cond.instanceMethod yX0_takeOver ∈ wsX3_prepare := by decide +kernel
theorem k_X3_prepare_w4 : Cond.selects RX0 yX0_takeOver yX0_takeOver ∈ wsX3_prepare := by decide +kernel
set_option maxRecDepth 20000 in
set_option maxHeartbeats 4000000 in
theorem b_X3_prepare_0 (B : wx_B p s m args meth c cX3_prepare 2 none wsX3_prepare RX3 D ad ca A) {b1 : Nat}  (hb1 : b1 < 11)  {σ' : wx_St}   {σ : wx_St}  (h : f_X3_prepare b1 σ = some ((), σ')) {H : Heap} {locs : List Loc} (Z : wx_Z D ad rd ca A σ H) (hS : va_S A s.heap H locs) {ls : Array Slot} (hl : lv_has ls 2 [(0, .ref (ad 14 99)), (1, .ref (ad b1 99))]) : W p l e ({ frames := 2, cells := 0, slots := 0, locals := 47 } : Room) s m args below meth c H locs 0 0 (MQ below (wx_Q D ad rd ca A none σ') args s 0 0 A) (F0 m 0 ls []) := by
  obtain ⟨hx, hb, hml, hr, hts, hown, hlk, hC, hA⟩ := id B
  unfold f_X3_prepare at h
  refine lv_aload_n hx hb dX3_prepare_0 rfl (lv_at hl 0 rfl) ?_
  refine wx_get (own := RX3) hx hb hts i_X3_prepare_3 hown hC.1 Z (o := 14) (ci := 3) rfl (rfl : vwCl[3]? = some (RX3, TX3, 2)) 0 (by decide) (hts _ k_X3_prepare_w0) (fun _ h9 => h9) (f := 0) rfl rfl dX3_prepare_1 ?_
  refine lv_aload_n hx hb dX3_prepare_4 rfl (lv_at hl 0 rfl) ?_
  refine wx_get (own := RX3) hx hb hts i_X3_prepare_3 hown hC.1 Z (o := 14) (ci := 3) rfl (rfl : vwCl[3]? = some (RX3, TX3, 2)) 1 (by decide) (hts _ k_X3_prepare_w1) (fun _ h9 => h9) (f := 1) rfl rfl dX3_prepare_5 ?_
  obtain ⟨z8, ez8, hz8, iz8, h⟩ := wx_rR_ok h
  refine wx_bald hx hb hC.1 Z (o := 14) (k := 0) (n := 7) rfl rfl iz8 dX3_prepare_8 ez8 ?_
  refine lv_aload_n hx hb dX3_prepare_9 rfl (lv_at hl 1 rfl) ?_
  obtain ⟨v10, σ10, hc10, h⟩ := wx_b_ok h
  refine wx_call (va_runVN (As := [.ref (ad b1 99)]) (rest := []) ⟨hx, hb, hml, hown, hts⟩ (c_X0_takeOver l (D := D) (ad := ad) (rd := rd) (ca := ca) (A := A) (σ := σ) (o := z8) (b1 := b1) hz8 hb1 hc10) ⟨va_cnB 1 hts gX3_prepare_X0_takeOver_n22 rfl rfl rfl (hC.1.2.1 _ (List.mem_of_getElem? (i := 28) rfl)) (hts _ k_X3_prepare_w2) (by decide +kernel) ⟨Nat.le_of_ble_eq_true rfl, Nat.le_of_ble_eq_true rfl⟩, hts _ k_X3_prepare_w3, hts _ k_X3_prepare_w4⟩ (wx_preV hC Z hS hA (wx_sbo hz8 99) (rfl : vwCl[0]? = some (RX0, TX0, 13))) rfl rfl hl.1 rfl (lv_room (Nat.le_of_ble_eq_true rfl)) dX3_prepare_10 ⟨Nat.zero_le _, Nat.zero_le _⟩) hS (fun H locs Z hS => ?_)
  obtain ⟨-, rfl⟩ := wx_ret_ok h
  exact W.vret hx hb hr (fun t ht hW => ⟨rfl, by rw [ht]; exact Z, hS.F ht⟩) hS.2.2 dX3_prepare_13
set_option maxRecDepth 20000 in
theorem c_X3_prepare (l : Launch) {D : va_G} {ad : Nat → Nat → Nat} {rd : Nat → Nat} {ca : Nat → ClassId} {A : Nat → Prop} {σ : wx_St} {b1 : Nat}  (hb1 : b1 < 11)   {σ' : wx_St} (h : f_X3_prepare b1 σ = some ((), σ')) : wx_M l yX3_prepare wsX3_prepare 2 47 D ad rd ca A [.ref (ad 14 99), .ref (ad b1 99)] σ none σ' := by
  refine Met.ofW (cc := cX3_prepare) (maxL := 2) (ret := none) (by decide +kernel) rfl ?_
  intro p e s m args below meth c s₁ B0 hml hv
  obtain ⟨rfl, hC, Z, hA⟩ := hv
  have hl := lv_entry ([.ref (ad 14 99), .ref (ad b1 99)]) (n := 2) (Nat.le_of_ble_eq_true rfl)
  rw [lg_entry_eq]
  generalize (lg_sl ([.ref (ad 14 99), .ref (ad b1 99)]) ++ List.replicate (2 - (lg_sl ([.ref (ad 14 99), .ref (ad b1 99)])).length) Slot.unset).toArray = ls at hl ⊢
  exact b_X3_prepare_0 ⟨B0.exec, B0.bytes, hml, B0.returns, atoms_spec (ws := wsX3_prepare) B0.pre, findClass_of_methodNamed B0.named, B0.notSynchronized, hC, hA⟩ hb1  h Z va_S.rf hl
theorem i_X4_readBy_0 : ∀ w ∈ wsX00, w ∈ wsX4_readBy := by decide +kernel
theorem i_X4_readBy_4 : ∀ w ∈ wsX40, w ∈ wsX4_readBy := by decide +kernel
theorem k_X4_readBy_w0 : Cond.fieldLink RX4 12 "WarmProbes$Suspicion" "lone" "LWarmProbes$Lone;" ∈ wsX4_readBy := by decide +kernel
theorem k_X4_readBy_w1 : Cond.initialized RX1 ∈ wsX4_readBy := by decide +kernel
theorem k_X4_readBy_w2 : Cond.instanceMethod yX1_follow ∈ wsX4_readBy := by decide +kernel
theorem k_X4_readBy_w3 : Cond.selects RX1 yX1_follow yX1_follow ∈ wsX4_readBy := by decide +kernel
theorem k_X4_readBy_w4 : Cond.instanceMethod yX1_warmthBy ∈ wsX4_readBy := by decide +kernel
theorem k_X4_readBy_w5 : Cond.selects RX1 yX1_warmthBy yX1_warmthBy ∈ wsX4_readBy := by decide +kernel
theorem k_X4_readBy_w6 : Cond.initialized RX5 ∈ wsX4_readBy := by decide +kernel
theorem k_X4_readBy_w7 : Cond.static yX5_readOf ∈ wsX4_readBy := by decide +kernel
set_option maxRecDepth 20000 in
set_option maxHeartbeats 4000000 in
theorem m_X4_readBy_24 {b1 : Nat} {r : Int32} {σ' : wx_St}  {x2 : Int32} {x3 : Int32} {y0 : UInt32} {σ : wx_St} (h : f_X4_readBy_24 b1 x2 x3 y0 σ = some (r, σ')) : wx_n σ.2.2.2.2 ≤ wx_n σ'.2.2.2.2 := by
  unfold f_X4_readBy_24 at h
  obtain ⟨v24, hc24, h⟩ := wx_o_ok h
  obtain ⟨rfl, rfl⟩ := wx_ret_ok h
  exact Nat.le_refl _
set_option maxRecDepth 20000 in
set_option maxHeartbeats 4000000 in
theorem b_X4_readBy_24 (B : wx_B p s m args meth c cX4_readBy 4 (some .int) wsX4_readBy RX4 D ad ca A) {b1 : Nat}  (hb1 : b1 < 11) {r : Int32} {σ' : wx_St} {mc : Nat}  {x2 : Int32} {x3 : Int32} {y0 : UInt32} {σ : wx_St} {k : Nat} (hk : k + wx_n σ'.2.2.2.2 ≤ mc + wx_n σ.2.2.2.2)  (h : f_X4_readBy_24 b1 x2 x3 y0 σ = some (r, σ')) {rd : Nat → Nat} {H : Heap} {locs : List Loc} (Z : wx_Z D ad rd ca A σ H) (hS : va_S A s.heap H locs) {ls : Array Slot} (hl : lv_has ls 4 [(0, .ref (ad 12 99)), (1, .ref (ad b1 99)), (2, .int x2), (3, .int x3)]) : W p l e ({ frames := 3, cells := mc, slots := 6464 * mc, locals := 81 } : Room) s m args below meth c H locs k (6464 * k) (MQ below (wx_QA D ad ca A (some (.int r)) σ') args s mc (6464 * mc) A) (F0 m 24 ls [.float y0]) := by
  obtain ⟨hx, hb, hml, hr, hts, hown, hlk, hC, hA⟩ := id B
  have hm := m_X4_readBy_24 h
  unfold f_X4_readBy_24 at h
  obtain ⟨v24, hc24, h⟩ := wx_o_ok h
  refine wx_call (va_runSN (As := [.float y0]) (rest := []) ⟨hx, hb, hml, hown, hts⟩ (c_X5_readOf l (D := D) (ad := ad) (rd := rd) (ca := ca) (A := A) (σ := σ) hc24) ⟨va_cnB 1 hts gX4_readBy_X5_readOf_n74 rfl rfl rfl (hC.1.2.1 _ (List.mem_of_getElem? (i := 52) rfl)) (hts _ k_X4_readBy_w6) (by decide +kernel) ⟨Nat.le_of_ble_eq_true rfl, Nat.le_of_ble_eq_true rfl⟩, hts _ k_X4_readBy_w7, trivial⟩ (wx_preS hC Z hS hA) rfl rfl hl.1 rfl (lv_room (Nat.le_of_ble_eq_true rfl)) dX4_readBy_24 ⟨(by show k + 0 ≤ mc; omega), (by show 6464 * k + 0 ≤ 6464 * mc; omega)⟩) hS (fun H locs Z hS => ?_)
  obtain ⟨rfl, rfl⟩ := wx_ret_ok h
  refine W.widen (k := mc) (n := 6464 * mc) (by omega) (by omega) ?_
  exact W.iret hx hb hr (fun t ht hW => ⟨rfl, ⟨_, by rw [ht]; exact Z⟩, hS.F ht⟩) hS.2.2 dX4_readBy_27
set_option maxRecDepth 20000 in
set_option maxHeartbeats 4000000 in
theorem m_X4_readBy_0 {b1 : Nat} {r : Int32} {σ' : wx_St}  {x2 : Int32} {x3 : Int32} {σ : wx_St} (h : f_X4_readBy b1 x2 x3 σ = some (r, σ')) : wx_n σ.2.2.2.2 ≤ wx_n σ'.2.2.2.2 := by
  unfold f_X4_readBy at h
  obtain ⟨v8, σ8, hc8, h⟩ := wx_b_ok h
  refine Nat.le_trans (Nat.le_of_eq (congrArg wx_n (show σ8.2.2.2.2 = σ.2.2.2.2 from m_X1_follow_0 hc8)).symm) ?_
  obtain ⟨v21, σ21, hc21, h⟩ := wx_b_ok h
  refine Nat.le_trans (m_X1_warmthBy_0 hc21) ?_
  exact m_X4_readBy_24 h
set_option maxRecDepth 20000 in
set_option maxHeartbeats 4000000 in
theorem b_X4_readBy_0 (B : wx_B p s m args meth c cX4_readBy 4 (some .int) wsX4_readBy RX4 D ad ca A) {b1 : Nat}  (hb1 : b1 < 11) {r : Int32} {σ' : wx_St} {mc : Nat}  {x2 : Int32} {x3 : Int32} {σ : wx_St} {k : Nat} (hk : k + wx_n σ'.2.2.2.2 ≤ mc + wx_n σ.2.2.2.2)  (h : f_X4_readBy b1 x2 x3 σ = some (r, σ')) {rd : Nat → Nat} {H : Heap} {locs : List Loc} (Z : wx_Z D ad rd ca A σ H) (hS : va_S A s.heap H locs) {ls : Array Slot} (hl : lv_has ls 4 [(0, .ref (ad 12 99)), (1, .ref (ad b1 99)), (2, .int x2), (3, .int x3)]) : W p l e ({ frames := 3, cells := mc, slots := 6464 * mc, locals := 81 } : Room) s m args below meth c H locs k (6464 * k) (MQ below (wx_QA D ad ca A (some (.int r)) σ') args s mc (6464 * mc) A) (F0 m 0 ls []) := by
  obtain ⟨hx, hb, hml, hr, hts, hown, hlk, hC, hA⟩ := id B
  have hm := m_X4_readBy_0 h
  unfold f_X4_readBy at h
  refine lv_aload_n hx hb dX4_readBy_0 rfl (lv_at hl 0 rfl) ?_
  refine wx_get (own := RX4) hx hb hts i_X4_readBy_4 hown hC.1 Z (o := 12) (ci := 4) rfl (rfl : vwCl[4]? = some (RX4, TX4, 2)) 0 (by decide) (hts _ k_X4_readBy_w0) (fun _ h9 => h9) (f := 113) rfl rfl dX4_readBy_1 ?_
  refine lv_aload_n hx hb dX4_readBy_4 rfl (lv_at hl 1 rfl) ?_
  refine wx_getN (own := RX4) hx hb hts i_X4_readBy_0 hown hC.1 Z (o := b1) (ci := 0) (wx_sbo hb1 99) (rfl : vwCl[0]? = some (RX0, TX0, 13)) 0 (by decide) (wx_nst hC 2 rfl rfl) (fun _ h9 => h9) (f := 0) rfl rfl dX4_readBy_5 ?_
  obtain ⟨v8, σ8, hc8, h⟩ := wx_b_ok h
  refine wx_call (va_runVN (As := [.ref (ad b1 0)]) (rest := []) ⟨hx, hb, hml, hown, hts⟩ (c_X1_follow l (D := D) (ad := ad) (rd := rd) (ca := ca) (A := A) (σ := σ) (o1 := b1) (k1 := 0) (al := σ.2.2.2.2) (wx_sbo hb1 0) rfl hc8) ⟨va_cnB 1 hts gX4_readBy_X1_follow_n56 rfl rfl rfl (hC.1.2.1 _ (List.mem_of_getElem? (i := 49) rfl)) (hts _ k_X4_readBy_w1) (by decide +kernel) ⟨Nat.le_of_ble_eq_true rfl, Nat.le_of_ble_eq_true rfl⟩, hts _ k_X4_readBy_w2, hts _ k_X4_readBy_w3⟩ (wx_preV hC Z hS hA rfl (rfl : vwCl[1]? = some (RX1, TX1, 3))) rfl rfl hl.1 rfl (lv_room (Nat.le_of_ble_eq_true rfl)) dX4_readBy_8 ⟨(by show k + 0 ≤ mc; omega), (by show 6464 * k + 0 ≤ 6464 * mc; omega)⟩) hS (fun H locs Z hS => ?_)
  have hqσ8 := congrArg wx_n (show σ8.2.2.2.2 = σ.2.2.2.2 from m_X1_follow_0 hc8)
  rw [← hqσ8] at hk hm
  refine lv_aload_n hx hb dX4_readBy_11 rfl (lv_at hl 0 rfl) ?_
  refine wx_get (own := RX4) hx hb hts i_X4_readBy_4 hown hC.1 Z (o := 12) (ci := 4) rfl (rfl : vwCl[4]? = some (RX4, TX4, 2)) 0 (by decide) (hts _ k_X4_readBy_w0) (fun _ h9 => h9) (f := 113) rfl rfl dX4_readBy_12 ?_
  refine lv_iload_n hx hb dX4_readBy_15 rfl (lv_at hl 2 rfl) ?_
  refine lv_aload_n hx hb dX4_readBy_16 rfl (lv_at hl 1 rfl) ?_
  refine wx_getN (own := RX4) hx hb hts i_X4_readBy_0 hown hC.1 Z (o := b1) (ci := 0) (wx_sbo hb1 99) (rfl : vwCl[0]? = some (RX0, TX0, 13)) 6 (by decide) (wx_nst hC 10 rfl rfl) (fun _ h9 => h9) (f := 1) rfl rfl dX4_readBy_17 ?_
  refine lv_iload_n hx hb dX4_readBy_20 rfl (lv_at hl 3 rfl) ?_
  obtain ⟨v21, σ21, hc21, h⟩ := wx_b_ok h
  have m1 := m_X1_warmthBy_0 hc21
  have m2 := m_X4_readBy_24 h
  refine wx_callA (va_runVN (As := [.int x2, .int (σ8.2.2.1 b1 6), .int x3]) (rest := []) ⟨hx, hb, hml, hown, hts⟩ (c_X1_warmthBy l (D := D) (ad := ad) (rd := rd) (ca := ca) (A := A) (σ := σ8) hc21) ⟨va_cnB 3 hts gX4_readBy_X1_warmthBy_n70 rfl rfl rfl (hC.1.2.1 _ (List.mem_of_getElem? (i := 50) rfl)) (hts _ k_X4_readBy_w1) (by decide +kernel) ⟨Nat.le_of_ble_eq_true rfl, Nat.le_of_ble_eq_true rfl⟩, hts _ k_X4_readBy_w4, hts _ k_X4_readBy_w5⟩ (wx_preV hC Z hS hA rfl (rfl : vwCl[1]? = some (RX1, TX1, 3))) rfl rfl hl.1 rfl (lv_room (Nat.le_of_ble_eq_true rfl)) dX4_readBy_21 ⟨(by show k + (wx_n σ21.2.2.2.2 - wx_n σ8.2.2.2.2) ≤ mc; omega), (by show 6464 * k + 6464 * (wx_n σ21.2.2.2.2 - wx_n σ8.2.2.2.2) ≤ 6464 * mc; omega)⟩) hS (fun rd H locs Z hS => ?_)
  refine W.widen (k := k + (wx_n σ21.2.2.2.2 - wx_n σ8.2.2.2.2)) (n := 6464 * (k + (wx_n σ21.2.2.2.2 - wx_n σ8.2.2.2.2))) (Nat.le_refl _) (by omega) ?_
  exact b_X4_readBy_24 B hb1 (k := k + (wx_n σ21.2.2.2.2 - wx_n σ8.2.2.2.2)) (by omega) h Z hS (lv_sub hl [0, 1, 2, 3] rfl)
set_option maxRecDepth 20000 in
theorem c_X4_readBy (l : Launch) {D : va_G} {ad : Nat → Nat → Nat} {rd : Nat → Nat} {ca : Nat → ClassId} {A : Nat → Prop} {σ : wx_St} {b1 : Nat}  (hb1 : b1 < 11) {x2 : Int32} {x3 : Int32} {r : Int32} {σ' : wx_St} (h : f_X4_readBy b1 x2 x3 σ = some (r, σ')) : wx_MA l yX4_readBy wsX4_readBy 3 81 D ad rd ca A [.ref (ad 12 99), .ref (ad b1 99), .int x2, .int x3] σ (some (.int r)) σ' := by
  refine Met.ofW (cc := cX4_readBy) (maxL := 4) (ret := (some .int)) (by decide +kernel) rfl ?_
  intro p e s m args below meth c s₁ B0 hml hv
  obtain ⟨rfl, hC, Z, hA⟩ := hv
  have hl := lv_entry ([.ref (ad 12 99), .ref (ad b1 99), .int x2, .int x3]) (n := 4) (Nat.le_of_ble_eq_true rfl)
  rw [lg_entry_eq]
  generalize (lg_sl ([.ref (ad 12 99), .ref (ad b1 99), .int x2, .int x3]) ++ List.replicate (4 - (lg_sl ([.ref (ad 12 99), .ref (ad b1 99), .int x2, .int x3])).length) Slot.unset).toArray = ls at hl ⊢
  exact b_X4_readBy_0 ⟨B0.exec, B0.bytes, hml, B0.returns, atoms_spec (ws := wsX4_readBy) B0.pre, findClass_of_methodNamed B0.named, B0.notSynchronized, hC, hA⟩ hb1 (k := 0) (by have hm := m_X4_readBy_0 h; omega) h Z va_S.rf hl
theorem i_X5_cool_0 : ∀ w ∈ wsX00, w ∈ wsX5_cool := by decide +kernel
theorem i_X5_cool_5 : ∀ w ∈ wsX50, w ∈ wsX5_cool := by decide +kernel
theorem k_X5_cool_w0 : Cond.fieldLink RX5 29 "WarmProbes" "past" "LWarmProbes$Past;" ∈ wsX5_cool := by decide +kernel
theorem k_X5_cool_w1 : Cond.fieldLink RX5 10 "WarmProbes" "board" "LWarmProbes$Board;" ∈ wsX5_cool := by decide +kernel
theorem k_X5_cool_w2 : Cond.initialized RX3 ∈ wsX5_cool := by decide +kernel
theorem k_X5_cool_w3 : Cond.instanceMethod yX3_prepare ∈ wsX5_cool := by decide +kernel
theorem k_X5_cool_w4 : Cond.selects RX3 yX3_prepare yX3_prepare ∈ wsX5_cool := by decide +kernel
theorem k_X5_cool_w5 : Cond.initialized RX0 ∈ wsX5_cool := by decide +kernel
theorem k_X5_cool_w6 : Cond.instanceMethod yX0_beginRun ∈ wsX5_cool := by decide +kernel
theorem k_X5_cool_w7 : Cond.selects RX0 yX0_beginRun yX0_beginRun ∈ wsX5_cool := by decide +kernel
theorem k_X5_cool_w8 : Cond.instanceMethod yX3_kept ∈ wsX5_cool := by decide +kernel
theorem k_X5_cool_w9 : Cond.selects RX3 yX3_kept yX3_kept ∈ wsX5_cool := by decide +kernel
set_option maxRecDepth 20000 in
set_option maxHeartbeats 4000000 in
theorem b_X5_cool_0 (B : wx_B p s m args meth c cX5_cool 2 (some .int) wsX5_cool RX5 D ad ca A)    {r : Int32} {σ' : wx_St}   {σ : wx_St}  (h : f_X5_cool σ = some (r, σ')) {H : Heap} {locs : List Loc} (Z : wx_Z D ad rd ca A σ H) (hS : va_S A s.heap H locs) {ls : Array Slot} (hl : lv_has ls 2 [(0, .ref (ad 11 99))]) : W p l e ({ frames := 3, cells := 0, slots := 0, locals := 68 } : Room) s m args below meth c H locs 0 0 (MQ below (wx_Q D ad rd ca A (some (.int r)) σ') args s 0 0 A) (F0 m 0 ls []) := by
  obtain ⟨hx, hb, hml, hr, hts, hown, hlk, hC, hA⟩ := id B
  unfold f_X5_cool at h
  refine lv_aload_n hx hb dX5_cool_0 rfl (lv_at hl 0 rfl) ?_
  refine wx_get (own := RX5) hx hb hts i_X5_cool_5 hown hC.1 Z (o := 11) (ci := 5) rfl (rfl : vwCl[5]? = some (RX5, TX5, 7)) 3 (by decide) (hts _ k_X5_cool_w0) (fun _ h9 => h9) (f := 114) rfl rfl dX5_cool_1 ?_
  refine lv_aload_n hx hb dX5_cool_4 rfl (lv_at hl 0 rfl) ?_
  refine wx_get (own := RX5) hx hb hts i_X5_cool_5 hown hC.1 Z (o := 11) (ci := 5) rfl (rfl : vwCl[5]? = some (RX5, TX5, 7)) 0 (by decide) (hts _ k_X5_cool_w1) (fun _ h9 => h9) (f := 107) rfl rfl dX5_cool_5 ?_
  obtain ⟨v8, σ8, hc8, h⟩ := wx_b_ok h
  refine wx_call (va_runVN (As := [.ref (ad 7 99)]) (rest := []) ⟨hx, hb, hml, hown, hts⟩ (c_X3_prepare l (D := D) (ad := ad) (rd := rd) (ca := ca) (A := A) (σ := σ) (b1 := 7) (by decide : 7 < 11) hc8) ⟨va_cnB 1 hts gX5_cool_X3_prepare_n48 rfl rfl rfl (hC.1.2.1 _ (List.mem_of_getElem? (i := 27) rfl)) (hts _ k_X5_cool_w2) (by decide +kernel) ⟨Nat.le_of_ble_eq_true rfl, Nat.le_of_ble_eq_true rfl⟩, hts _ k_X5_cool_w3, hts _ k_X5_cool_w4⟩ (wx_preV hC Z hS hA rfl (rfl : vwCl[3]? = some (RX3, TX3, 2))) rfl rfl hl.1 rfl (lv_room (Nat.le_of_ble_eq_true rfl)) dX5_cool_8 ⟨Nat.zero_le _, Nat.zero_le _⟩) hS (fun H locs Z hS => ?_)
  refine lv_aload_n hx hb dX5_cool_11 rfl (lv_at hl 0 rfl) ?_
  refine wx_get (own := RX5) hx hb hts i_X5_cool_5 hown hC.1 Z (o := 11) (ci := 5) rfl (rfl : vwCl[5]? = some (RX5, TX5, 7)) 0 (by decide) (hts _ k_X5_cool_w1) (fun _ h9 => h9) (f := 107) rfl rfl dX5_cool_12 ?_
  refine wx_getN (own := RX5) hx hb hts i_X5_cool_0 hown hC.1 Z (o := 7) (ci := 0) rfl (rfl : vwCl[0]? = some (RX0, TX0, 13)) 6 (by decide) (wx_nst hC 9 rfl rfl) (fun _ h9 => h9) (f := 1) rfl rfl dX5_cool_15 ?_
  refine lv_istore_n (lv' := [(1, .int (σ8.2.2.1 7 6)), (0, .ref (ad 11 99))]) hx hb dX5_cool_18 rfl hl (by decide) rfl (fun ls hl => ?_)
  refine lv_aload_n hx hb dX5_cool_19 rfl (lv_at hl 1 rfl) ?_
  refine wx_get (own := RX5) hx hb hts i_X5_cool_5 hown hC.1 Z (o := 11) (ci := 5) rfl (rfl : vwCl[5]? = some (RX5, TX5, 7)) 0 (by decide) (hts _ k_X5_cool_w1) (fun _ h9 => h9) (f := 107) rfl rfl dX5_cool_20 ?_
  obtain ⟨v23, σ23, hc23, h⟩ := wx_b_ok h
  refine wx_call (va_runVN (As := []) (rest := []) ⟨hx, hb, hml, hown, hts⟩ (c_X0_beginRun l (D := D) (ad := ad) (rd := rd) (ca := ca) (A := A) (σ := σ8) (o := 7) (by decide : 7 < 11) hc23) ⟨va_cnB 0 hts gX5_cool_X0_beginRun_n77 rfl rfl rfl (hC.1.2.1 _ (List.mem_of_getElem? (i := 41) rfl)) (hts _ k_X5_cool_w5) (by decide +kernel) ⟨Nat.le_of_ble_eq_true rfl, Nat.le_of_ble_eq_true rfl⟩, hts _ k_X5_cool_w6, hts _ k_X5_cool_w7⟩ (wx_preV hC Z hS hA rfl (rfl : vwCl[0]? = some (RX0, TX0, 13))) rfl rfl hl.1 rfl (lv_room (Nat.le_of_ble_eq_true rfl)) dX5_cool_23 ⟨Nat.zero_le _, Nat.zero_le _⟩) hS (fun H locs Z hS => ?_)
  refine lv_aload_n hx hb dX5_cool_26 rfl (lv_at hl 1 rfl) ?_
  refine wx_get (own := RX5) hx hb hts i_X5_cool_5 hown hC.1 Z (o := 11) (ci := 5) rfl (rfl : vwCl[5]? = some (RX5, TX5, 7)) 3 (by decide) (hts _ k_X5_cool_w0) (fun _ h9 => h9) (f := 114) rfl rfl dX5_cool_27 ?_
  refine lv_iload_n hx hb dX5_cool_30 rfl (lv_at hl 0 rfl) ?_
  obtain ⟨v31, σ31, hc31, h⟩ := wx_b_ok h
  refine wx_call (va_runVN (As := [.int (σ8.2.2.1 7 6)]) (rest := []) ⟨hx, hb, hml, hown, hts⟩ (c_X3_kept l (D := D) (ad := ad) (rd := rd) (ca := ca) (A := A) (σ := σ23) hc31) ⟨va_cnB 1 hts gX5_cool_X3_kept_n56 rfl rfl rfl (hC.1.2.1 _ (List.mem_of_getElem? (i := 32) rfl)) (hts _ k_X5_cool_w2) (by decide +kernel) ⟨Nat.le_of_ble_eq_true rfl, Nat.le_of_ble_eq_true rfl⟩, hts _ k_X5_cool_w8, hts _ k_X5_cool_w9⟩ (wx_preV hC Z hS hA rfl (rfl : vwCl[3]? = some (RX3, TX3, 2))) rfl rfl hl.1 rfl (lv_room (Nat.le_of_ble_eq_true rfl)) dX5_cool_31 ⟨Nat.zero_le _, Nat.zero_le _⟩) hS (fun H locs Z hS => ?_)
  obtain ⟨rfl, rfl⟩ := wx_ret_ok h
  exact W.iret hx hb hr (fun t ht hW => ⟨rfl, by rw [ht]; exact Z, hS.F ht⟩) hS.2.2 dX5_cool_34
set_option maxRecDepth 20000 in
theorem c_X5_cool (l : Launch) {D : va_G} {ad : Nat → Nat → Nat} {rd : Nat → Nat} {ca : Nat → ClassId} {A : Nat → Prop} {σ : wx_St}     {r : Int32} {σ' : wx_St} (h : f_X5_cool σ = some (r, σ')) : wx_M l yX5_cool wsX5_cool 3 68 D ad rd ca A [.ref (ad 11 99)] σ (some (.int r)) σ' := by
  refine Met.ofW (cc := cX5_cool) (maxL := 2) (ret := (some .int)) (by decide +kernel) rfl ?_
  intro p e s m args below meth c s₁ B0 hml hv
  obtain ⟨rfl, hC, Z, hA⟩ := hv
  have hl := lv_entry ([.ref (ad 11 99)]) (n := 2) (Nat.le_of_ble_eq_true rfl)
  rw [lg_entry_eq]
  generalize (lg_sl ([.ref (ad 11 99)]) ++ List.replicate (2 - (lg_sl ([.ref (ad 11 99)])).length) Slot.unset).toArray = ls at hl ⊢
  exact b_X5_cool_0 ⟨B0.exec, B0.bytes, hml, B0.returns, atoms_spec (ws := wsX5_cool) B0.pre, findClass_of_methodNamed B0.named, B0.notSynchronized, hC, hA⟩   h Z va_S.rf hl
theorem i_X5_feed_5 : ∀ w ∈ wsX50, w ∈ wsX5_feed := by decide +kernel
theorem k_X5_feed_w0 : Cond.fieldLink RX5 29 "WarmProbes" "past" "LWarmProbes$Past;" ∈ wsX5_feed := by decide +kernel
theorem k_X5_feed_w1 : Cond.fieldLink RX5 10 "WarmProbes" "board" "LWarmProbes$Board;" ∈ wsX5_feed := by decide +kernel
theorem k_X5_feed_w2 : Cond.initialized RX3 ∈ wsX5_feed := by decide +kernel
theorem k_X5_feed_w3 : Cond.instanceMethod yX3_prepare ∈ wsX5_feed := by decide +kernel
theorem k_X5_feed_w4 : Cond.selects RX3 yX3_prepare yX3_prepare ∈ wsX5_feed := by decide +kernel
theorem k_X5_feed_w5 : Cond.initialized RX0 ∈ wsX5_feed := by decide +kernel
theorem k_X5_feed_w6 : Cond.instanceMethod yX0_turnPair ∈ wsX5_feed := by decide +kernel
theorem k_X5_feed_w7 : Cond.selects RX0 yX0_turnPair yX0_turnPair ∈ wsX5_feed := by decide +kernel
theorem k_X5_feed_w8 : Cond.instanceMethod yX3_kept ∈ wsX5_feed := by decide +kernel
theorem k_X5_feed_w9 : Cond.selects RX3 yX3_kept yX3_kept ∈ wsX5_feed := by decide +kernel
set_option maxRecDepth 20000 in
set_option maxHeartbeats 4000000 in
theorem b_X5_feed_0 (B : wx_B p s m args meth c cX5_feed 3 (some .int) wsX5_feed RX5 D ad ca A)    {r : Int32} {σ' : wx_St}  {x1 : Int32} {x2 : Int32} {σ : wx_St}  (h : f_X5_feed x1 x2 σ = some (r, σ')) {H : Heap} {locs : List Loc} (Z : wx_Z D ad rd ca A σ H) (hS : va_S A s.heap H locs) {ls : Array Slot} (hl : lv_has ls 3 [(0, .ref (ad 11 99)), (1, .int x1), (2, .int x2)]) : W p l e ({ frames := 3, cells := 0, slots := 0, locals := 68 } : Room) s m args below meth c H locs 0 0 (MQ below (wx_Q D ad rd ca A (some (.int r)) σ') args s 0 0 A) (F0 m 0 ls []) := by
  obtain ⟨hx, hb, hml, hr, hts, hown, hlk, hC, hA⟩ := id B
  unfold f_X5_feed at h
  refine lv_aload_n hx hb dX5_feed_0 rfl (lv_at hl 0 rfl) ?_
  refine wx_get (own := RX5) hx hb hts i_X5_feed_5 hown hC.1 Z (o := 11) (ci := 5) rfl (rfl : vwCl[5]? = some (RX5, TX5, 7)) 3 (by decide) (hts _ k_X5_feed_w0) (fun _ h9 => h9) (f := 114) rfl rfl dX5_feed_1 ?_
  refine lv_aload_n hx hb dX5_feed_4 rfl (lv_at hl 0 rfl) ?_
  refine wx_get (own := RX5) hx hb hts i_X5_feed_5 hown hC.1 Z (o := 11) (ci := 5) rfl (rfl : vwCl[5]? = some (RX5, TX5, 7)) 0 (by decide) (hts _ k_X5_feed_w1) (fun _ h9 => h9) (f := 107) rfl rfl dX5_feed_5 ?_
  obtain ⟨v8, σ8, hc8, h⟩ := wx_b_ok h
  refine wx_call (va_runVN (As := [.ref (ad 7 99)]) (rest := []) ⟨hx, hb, hml, hown, hts⟩ (c_X3_prepare l (D := D) (ad := ad) (rd := rd) (ca := ca) (A := A) (σ := σ) (b1 := 7) (by decide : 7 < 11) hc8) ⟨va_cnB 1 hts gX5_feed_X3_prepare_n48 rfl rfl rfl (hC.1.2.1 _ (List.mem_of_getElem? (i := 27) rfl)) (hts _ k_X5_feed_w2) (by decide +kernel) ⟨Nat.le_of_ble_eq_true rfl, Nat.le_of_ble_eq_true rfl⟩, hts _ k_X5_feed_w3, hts _ k_X5_feed_w4⟩ (wx_preV hC Z hS hA rfl (rfl : vwCl[3]? = some (RX3, TX3, 2))) rfl rfl hl.1 rfl (lv_room (Nat.le_of_ble_eq_true rfl)) dX5_feed_8 ⟨Nat.zero_le _, Nat.zero_le _⟩) hS (fun H locs Z hS => ?_)
  refine lv_aload_n hx hb dX5_feed_11 rfl (lv_at hl 0 rfl) ?_
  refine wx_get (own := RX5) hx hb hts i_X5_feed_5 hown hC.1 Z (o := 11) (ci := 5) rfl (rfl : vwCl[5]? = some (RX5, TX5, 7)) 3 (by decide) (hts _ k_X5_feed_w0) (fun _ h9 => h9) (f := 114) rfl rfl dX5_feed_12 ?_
  refine lv_aload_n hx hb dX5_feed_15 rfl (lv_at hl 0 rfl) ?_
  refine wx_get (own := RX5) hx hb hts i_X5_feed_5 hown hC.1 Z (o := 11) (ci := 5) rfl (rfl : vwCl[5]? = some (RX5, TX5, 7)) 0 (by decide) (hts _ k_X5_feed_w1) (fun _ h9 => h9) (f := 107) rfl rfl dX5_feed_16 ?_
  refine lv_iload_n hx hb dX5_feed_19 rfl (lv_at hl 1 rfl) ?_
  refine lv_iload_n hx hb dX5_feed_20 rfl (lv_at hl 2 rfl) ?_
  obtain ⟨v21, σ21, hc21, h⟩ := wx_b_ok h
  refine wx_call (va_runVN (As := [.int x1, .int x2]) (rest := [.ref (ad 14 99)]) ⟨hx, hb, hml, hown, hts⟩ (c_X0_turnPair l (D := D) (ad := ad) (rd := rd) (ca := ca) (A := A) (σ := σ8) (o := 7) (by decide : 7 < 11) hc21) ⟨va_cnB 2 hts gX5_feed_X0_turnPair_n70 rfl rfl rfl (hC.1.2.1 _ (List.mem_of_getElem? (i := 40) rfl)) (hts _ k_X5_feed_w5) (by decide +kernel) ⟨Nat.le_of_ble_eq_true rfl, Nat.le_of_ble_eq_true rfl⟩, hts _ k_X5_feed_w6, hts _ k_X5_feed_w7⟩ (wx_preV hC Z hS hA rfl (rfl : vwCl[0]? = some (RX0, TX0, 13))) rfl rfl hl.1 rfl (lv_room (Nat.le_of_ble_eq_true rfl)) dX5_feed_21 ⟨Nat.zero_le _, Nat.zero_le _⟩) hS (fun H locs Z hS => ?_)
  obtain ⟨v24, σ24, hc24, h⟩ := wx_b_ok h
  refine wx_call (va_runVN (As := [.int v21]) (rest := []) ⟨hx, hb, hml, hown, hts⟩ (c_X3_kept l (D := D) (ad := ad) (rd := rd) (ca := ca) (A := A) (σ := σ21) hc24) ⟨va_cnB 1 hts gX5_feed_X3_kept_n56 rfl rfl rfl (hC.1.2.1 _ (List.mem_of_getElem? (i := 32) rfl)) (hts _ k_X5_feed_w2) (by decide +kernel) ⟨Nat.le_of_ble_eq_true rfl, Nat.le_of_ble_eq_true rfl⟩, hts _ k_X5_feed_w8, hts _ k_X5_feed_w9⟩ (wx_preV hC Z hS hA rfl (rfl : vwCl[3]? = some (RX3, TX3, 2))) rfl rfl hl.1 rfl (lv_room (Nat.le_of_ble_eq_true rfl)) dX5_feed_24 ⟨Nat.zero_le _, Nat.zero_le _⟩) hS (fun H locs Z hS => ?_)
  obtain ⟨rfl, rfl⟩ := wx_ret_ok h
  exact W.iret hx hb hr (fun t ht hW => ⟨rfl, by rw [ht]; exact Z, hS.F ht⟩) hS.2.2 dX5_feed_27
set_option maxRecDepth 20000 in
theorem c_X5_feed (l : Launch) {D : va_G} {ad : Nat → Nat → Nat} {rd : Nat → Nat} {ca : Nat → ClassId} {A : Nat → Prop} {σ : wx_St}    {x1 : Int32} {x2 : Int32} {r : Int32} {σ' : wx_St} (h : f_X5_feed x1 x2 σ = some (r, σ')) : wx_M l yX5_feed wsX5_feed 3 68 D ad rd ca A [.ref (ad 11 99), .int x1, .int x2] σ (some (.int r)) σ' := by
  refine Met.ofW (cc := cX5_feed) (maxL := 3) (ret := (some .int)) (by decide +kernel) rfl ?_
  intro p e s m args below meth c s₁ B0 hml hv
  obtain ⟨rfl, hC, Z, hA⟩ := hv
  have hl := lv_entry ([.ref (ad 11 99), .int x1, .int x2]) (n := 3) (Nat.le_of_ble_eq_true rfl)
  rw [lg_entry_eq]
  generalize (lg_sl ([.ref (ad 11 99), .int x1, .int x2]) ++ List.replicate (3 - (lg_sl ([.ref (ad 11 99), .int x1, .int x2])).length) Slot.unset).toArray = ls at hl ⊢
  exact b_X5_feed_0 ⟨B0.exec, B0.bytes, hml, B0.returns, atoms_spec (ws := wsX5_feed) B0.pre, findClass_of_methodNamed B0.named, B0.notSynchronized, hC, hA⟩   h Z va_S.rf hl
theorem i_X5_mend_5 : ∀ w ∈ wsX50, w ∈ wsX5_mend := by decide +kernel
theorem k_X5_mend_w0 : Cond.fieldLink RX5 29 "WarmProbes" "past" "LWarmProbes$Past;" ∈ wsX5_mend := by decide +kernel
theorem k_X5_mend_w1 : Cond.fieldLink RX5 10 "WarmProbes" "board" "LWarmProbes$Board;" ∈ wsX5_mend := by decide +kernel
theorem k_X5_mend_w2 : Cond.initialized RX3 ∈ wsX5_mend := by decide +kernel
theorem k_X5_mend_w3 : Cond.instanceMethod yX3_prepare ∈ wsX5_mend := by decide +kernel
theorem k_X5_mend_w4 : Cond.selects RX3 yX3_prepare yX3_prepare ∈ wsX5_mend := by decide +kernel
theorem k_X5_mend_w5 : Cond.initialized RX0 ∈ wsX5_mend := by decide +kernel
theorem k_X5_mend_w6 : Cond.instanceMethod yX0_part ∈ wsX5_mend := by decide +kernel
theorem k_X5_mend_w7 : Cond.selects RX0 yX0_part yX0_part ∈ wsX5_mend := by decide +kernel
theorem k_X5_mend_w8 : Cond.instanceMethod yX3_kept ∈ wsX5_mend := by decide +kernel
theorem k_X5_mend_w9 : Cond.selects RX3 yX3_kept yX3_kept ∈ wsX5_mend := by decide +kernel
set_option maxRecDepth 20000 in
set_option maxHeartbeats 4000000 in
theorem b_X5_mend_0 (B : wx_B p s m args meth c cX5_mend 2 (some .int) wsX5_mend RX5 D ad ca A)    {r : Int32} {σ' : wx_St}  {x1 : Int32} {σ : wx_St}  (h : f_X5_mend x1 σ = some (r, σ')) {H : Heap} {locs : List Loc} (Z : wx_Z D ad rd ca A σ H) (hS : va_S A s.heap H locs) {ls : Array Slot} (hl : lv_has ls 2 [(0, .ref (ad 11 99)), (1, .int x1)]) : W p l e ({ frames := 3, cells := 0, slots := 0, locals := 68 } : Room) s m args below meth c H locs 0 0 (MQ below (wx_Q D ad rd ca A (some (.int r)) σ') args s 0 0 A) (F0 m 0 ls []) := by
  obtain ⟨hx, hb, hml, hr, hts, hown, hlk, hC, hA⟩ := id B
  unfold f_X5_mend at h
  refine lv_aload_n hx hb dX5_mend_0 rfl (lv_at hl 0 rfl) ?_
  refine wx_get (own := RX5) hx hb hts i_X5_mend_5 hown hC.1 Z (o := 11) (ci := 5) rfl (rfl : vwCl[5]? = some (RX5, TX5, 7)) 3 (by decide) (hts _ k_X5_mend_w0) (fun _ h9 => h9) (f := 114) rfl rfl dX5_mend_1 ?_
  refine lv_aload_n hx hb dX5_mend_4 rfl (lv_at hl 0 rfl) ?_
  refine wx_get (own := RX5) hx hb hts i_X5_mend_5 hown hC.1 Z (o := 11) (ci := 5) rfl (rfl : vwCl[5]? = some (RX5, TX5, 7)) 0 (by decide) (hts _ k_X5_mend_w1) (fun _ h9 => h9) (f := 107) rfl rfl dX5_mend_5 ?_
  obtain ⟨v8, σ8, hc8, h⟩ := wx_b_ok h
  refine wx_call (va_runVN (As := [.ref (ad 7 99)]) (rest := []) ⟨hx, hb, hml, hown, hts⟩ (c_X3_prepare l (D := D) (ad := ad) (rd := rd) (ca := ca) (A := A) (σ := σ) (b1 := 7) (by decide : 7 < 11) hc8) ⟨va_cnB 1 hts gX5_mend_X3_prepare_n48 rfl rfl rfl (hC.1.2.1 _ (List.mem_of_getElem? (i := 27) rfl)) (hts _ k_X5_mend_w2) (by decide +kernel) ⟨Nat.le_of_ble_eq_true rfl, Nat.le_of_ble_eq_true rfl⟩, hts _ k_X5_mend_w3, hts _ k_X5_mend_w4⟩ (wx_preV hC Z hS hA rfl (rfl : vwCl[3]? = some (RX3, TX3, 2))) rfl rfl hl.1 rfl (lv_room (Nat.le_of_ble_eq_true rfl)) dX5_mend_8 ⟨Nat.zero_le _, Nat.zero_le _⟩) hS (fun H locs Z hS => ?_)
  refine lv_aload_n hx hb dX5_mend_11 rfl (lv_at hl 0 rfl) ?_
  refine wx_get (own := RX5) hx hb hts i_X5_mend_5 hown hC.1 Z (o := 11) (ci := 5) rfl (rfl : vwCl[5]? = some (RX5, TX5, 7)) 3 (by decide) (hts _ k_X5_mend_w0) (fun _ h9 => h9) (f := 114) rfl rfl dX5_mend_12 ?_
  refine lv_aload_n hx hb dX5_mend_15 rfl (lv_at hl 0 rfl) ?_
  refine wx_get (own := RX5) hx hb hts i_X5_mend_5 hown hC.1 Z (o := 11) (ci := 5) rfl (rfl : vwCl[5]? = some (RX5, TX5, 7)) 0 (by decide) (hts _ k_X5_mend_w1) (fun _ h9 => h9) (f := 107) rfl rfl dX5_mend_16 ?_
  refine lv_iload_n hx hb dX5_mend_19 rfl (lv_at hl 1 rfl) ?_
  obtain ⟨v20, σ20, hc20, h⟩ := wx_b_ok h
  refine wx_call (va_runVN (As := [.int x1]) (rest := [.ref (ad 14 99)]) ⟨hx, hb, hml, hown, hts⟩ (c_X0_part l (D := D) (ad := ad) (rd := rd) (ca := ca) (A := A) (σ := σ8) (o := 7) (by decide : 7 < 11) hc20) ⟨va_cnB 1 hts gX5_mend_X0_part_n67 rfl rfl rfl (hC.1.2.1 _ (List.mem_of_getElem? (i := 39) rfl)) (hts _ k_X5_mend_w5) (by decide +kernel) ⟨Nat.le_of_ble_eq_true rfl, Nat.le_of_ble_eq_true rfl⟩, hts _ k_X5_mend_w6, hts _ k_X5_mend_w7⟩ (wx_preV hC Z hS hA rfl (rfl : vwCl[0]? = some (RX0, TX0, 13))) rfl rfl hl.1 rfl (lv_room (Nat.le_of_ble_eq_true rfl)) dX5_mend_20 ⟨Nat.zero_le _, Nat.zero_le _⟩) hS (fun H locs Z hS => ?_)
  obtain ⟨v23, σ23, hc23, h⟩ := wx_b_ok h
  refine wx_call (va_runVN (As := [.int v20]) (rest := []) ⟨hx, hb, hml, hown, hts⟩ (c_X3_kept l (D := D) (ad := ad) (rd := rd) (ca := ca) (A := A) (σ := σ20) hc23) ⟨va_cnB 1 hts gX5_mend_X3_kept_n56 rfl rfl rfl (hC.1.2.1 _ (List.mem_of_getElem? (i := 32) rfl)) (hts _ k_X5_mend_w2) (by decide +kernel) ⟨Nat.le_of_ble_eq_true rfl, Nat.le_of_ble_eq_true rfl⟩, hts _ k_X5_mend_w8, hts _ k_X5_mend_w9⟩ (wx_preV hC Z hS hA rfl (rfl : vwCl[3]? = some (RX3, TX3, 2))) rfl rfl hl.1 rfl (lv_room (Nat.le_of_ble_eq_true rfl)) dX5_mend_23 ⟨Nat.zero_le _, Nat.zero_le _⟩) hS (fun H locs Z hS => ?_)
  obtain ⟨rfl, rfl⟩ := wx_ret_ok h
  exact W.iret hx hb hr (fun t ht hW => ⟨rfl, by rw [ht]; exact Z, hS.F ht⟩) hS.2.2 dX5_mend_26
set_option maxRecDepth 20000 in
theorem c_X5_mend (l : Launch) {D : va_G} {ad : Nat → Nat → Nat} {rd : Nat → Nat} {ca : Nat → ClassId} {A : Nat → Prop} {σ : wx_St}    {x1 : Int32} {r : Int32} {σ' : wx_St} (h : f_X5_mend x1 σ = some (r, σ')) : wx_M l yX5_mend wsX5_mend 3 68 D ad rd ca A [.ref (ad 11 99), .int x1] σ (some (.int r)) σ' := by
  refine Met.ofW (cc := cX5_mend) (maxL := 2) (ret := (some .int)) (by decide +kernel) rfl ?_
  intro p e s m args below meth c s₁ B0 hml hv
  obtain ⟨rfl, hC, Z, hA⟩ := hv
  have hl := lv_entry ([.ref (ad 11 99), .int x1]) (n := 2) (Nat.le_of_ble_eq_true rfl)
  rw [lg_entry_eq]
  generalize (lg_sl ([.ref (ad 11 99), .int x1]) ++ List.replicate (2 - (lg_sl ([.ref (ad 11 99), .int x1])).length) Slot.unset).toArray = ls at hl ⊢
  exact b_X5_mend_0 ⟨B0.exec, B0.bytes, hml, B0.returns, atoms_spec (ws := wsX5_mend) B0.pre, findClass_of_methodNamed B0.named, B0.notSynchronized, hC, hA⟩   h Z va_S.rf hl
theorem i_X5_probe_5 : ∀ w ∈ wsX50, w ∈ wsX5_probe := by decide +kernel
theorem k_X5_probe_w0 : Cond.fieldLink RX5 29 "WarmProbes" "past" "LWarmProbes$Past;" ∈ wsX5_probe := by decide +kernel
theorem k_X5_probe_w1 : Cond.fieldLink RX5 10 "WarmProbes" "board" "LWarmProbes$Board;" ∈ wsX5_probe := by decide +kernel
theorem k_X5_probe_w2 : Cond.initialized RX3 ∈ wsX5_probe := by decide +kernel
theorem k_X5_probe_w3 : Cond.instanceMethod yX3_prepare ∈ wsX5_probe := by decide +kernel
theorem k_X5_probe_w4 : Cond.selects RX3 yX3_prepare yX3_prepare ∈ wsX5_probe := by decide +kernel
theorem k_X5_probe_w5 : Cond.initialized RX0 ∈ wsX5_probe := by decide +kernel
theorem k_X5_probe_w6 : Cond.instanceMethod yX0_measure ∈ wsX5_probe := by decide +kernel
theorem k_X5_probe_w7 : Cond.selects RX0 yX0_measure yX0_measure ∈ wsX5_probe := by decide +kernel
theorem k_X5_probe_w8 : Cond.instanceMethod yX3_kept ∈ wsX5_probe := by decide +kernel
theorem k_X5_probe_w9 : Cond.selects RX3 yX3_kept yX3_kept ∈ wsX5_probe := by decide +kernel
set_option maxRecDepth 20000 in
set_option maxHeartbeats 4000000 in
theorem b_X5_probe_0 (B : wx_B p s m args meth c cX5_probe 3 (some .int) wsX5_probe RX5 D ad ca A)    {r : Int32} {σ' : wx_St}  {x1 : Int32} {x2 : Int32} {σ : wx_St}  (h : f_X5_probe x1 x2 σ = some (r, σ')) {H : Heap} {locs : List Loc} (Z : wx_Z D ad rd ca A σ H) (hS : va_S A s.heap H locs) {ls : Array Slot} (hl : lv_has ls 3 [(0, .ref (ad 11 99)), (1, .int x1), (2, .int x2)]) : W p l e ({ frames := 3, cells := 0, slots := 0, locals := 68 } : Room) s m args below meth c H locs 0 0 (MQ below (wx_Q D ad rd ca A (some (.int r)) σ') args s 0 0 A) (F0 m 0 ls []) := by
  obtain ⟨hx, hb, hml, hr, hts, hown, hlk, hC, hA⟩ := id B
  unfold f_X5_probe at h
  refine lv_aload_n hx hb dX5_probe_0 rfl (lv_at hl 0 rfl) ?_
  refine wx_get (own := RX5) hx hb hts i_X5_probe_5 hown hC.1 Z (o := 11) (ci := 5) rfl (rfl : vwCl[5]? = some (RX5, TX5, 7)) 3 (by decide) (hts _ k_X5_probe_w0) (fun _ h9 => h9) (f := 114) rfl rfl dX5_probe_1 ?_
  refine lv_aload_n hx hb dX5_probe_4 rfl (lv_at hl 0 rfl) ?_
  refine wx_get (own := RX5) hx hb hts i_X5_probe_5 hown hC.1 Z (o := 11) (ci := 5) rfl (rfl : vwCl[5]? = some (RX5, TX5, 7)) 0 (by decide) (hts _ k_X5_probe_w1) (fun _ h9 => h9) (f := 107) rfl rfl dX5_probe_5 ?_
  obtain ⟨v8, σ8, hc8, h⟩ := wx_b_ok h
  refine wx_call (va_runVN (As := [.ref (ad 7 99)]) (rest := []) ⟨hx, hb, hml, hown, hts⟩ (c_X3_prepare l (D := D) (ad := ad) (rd := rd) (ca := ca) (A := A) (σ := σ) (b1 := 7) (by decide : 7 < 11) hc8) ⟨va_cnB 1 hts gX5_probe_X3_prepare_n48 rfl rfl rfl (hC.1.2.1 _ (List.mem_of_getElem? (i := 27) rfl)) (hts _ k_X5_probe_w2) (by decide +kernel) ⟨Nat.le_of_ble_eq_true rfl, Nat.le_of_ble_eq_true rfl⟩, hts _ k_X5_probe_w3, hts _ k_X5_probe_w4⟩ (wx_preV hC Z hS hA rfl (rfl : vwCl[3]? = some (RX3, TX3, 2))) rfl rfl hl.1 rfl (lv_room (Nat.le_of_ble_eq_true rfl)) dX5_probe_8 ⟨Nat.zero_le _, Nat.zero_le _⟩) hS (fun H locs Z hS => ?_)
  refine lv_aload_n hx hb dX5_probe_11 rfl (lv_at hl 0 rfl) ?_
  refine wx_get (own := RX5) hx hb hts i_X5_probe_5 hown hC.1 Z (o := 11) (ci := 5) rfl (rfl : vwCl[5]? = some (RX5, TX5, 7)) 3 (by decide) (hts _ k_X5_probe_w0) (fun _ h9 => h9) (f := 114) rfl rfl dX5_probe_12 ?_
  refine lv_aload_n hx hb dX5_probe_15 rfl (lv_at hl 0 rfl) ?_
  refine wx_get (own := RX5) hx hb hts i_X5_probe_5 hown hC.1 Z (o := 11) (ci := 5) rfl (rfl : vwCl[5]? = some (RX5, TX5, 7)) 0 (by decide) (hts _ k_X5_probe_w1) (fun _ h9 => h9) (f := 107) rfl rfl dX5_probe_16 ?_
  refine lv_iload_n hx hb dX5_probe_19 rfl (lv_at hl 1 rfl) ?_
  refine lv_iload_n hx hb dX5_probe_20 rfl (lv_at hl 2 rfl) ?_
  obtain ⟨v21, σ21, hc21, h⟩ := wx_b_ok h
  refine wx_call (va_runVN (As := [.int x1, .int x2]) (rest := [.ref (ad 14 99)]) ⟨hx, hb, hml, hown, hts⟩ (c_X0_measure l (D := D) (ad := ad) (rd := rd) (ca := ca) (A := A) (σ := σ8) (o := 7) (by decide : 7 < 11) hc21) ⟨va_cnB 2 hts gX5_probe_X0_measure_n83 rfl rfl rfl (hC.1.2.1 _ (List.mem_of_getElem? (i := 44) rfl)) (hts _ k_X5_probe_w5) (by decide +kernel) ⟨Nat.le_of_ble_eq_true rfl, Nat.le_of_ble_eq_true rfl⟩, hts _ k_X5_probe_w6, hts _ k_X5_probe_w7⟩ (wx_preV hC Z hS hA rfl (rfl : vwCl[0]? = some (RX0, TX0, 13))) rfl rfl hl.1 rfl (lv_room (Nat.le_of_ble_eq_true rfl)) dX5_probe_21 ⟨Nat.zero_le _, Nat.zero_le _⟩) hS (fun H locs Z hS => ?_)
  obtain ⟨v24, σ24, hc24, h⟩ := wx_b_ok h
  refine wx_call (va_runVN (As := [.int v21]) (rest := []) ⟨hx, hb, hml, hown, hts⟩ (c_X3_kept l (D := D) (ad := ad) (rd := rd) (ca := ca) (A := A) (σ := σ21) hc24) ⟨va_cnB 1 hts gX5_probe_X3_kept_n56 rfl rfl rfl (hC.1.2.1 _ (List.mem_of_getElem? (i := 32) rfl)) (hts _ k_X5_probe_w2) (by decide +kernel) ⟨Nat.le_of_ble_eq_true rfl, Nat.le_of_ble_eq_true rfl⟩, hts _ k_X5_probe_w8, hts _ k_X5_probe_w9⟩ (wx_preV hC Z hS hA rfl (rfl : vwCl[3]? = some (RX3, TX3, 2))) rfl rfl hl.1 rfl (lv_room (Nat.le_of_ble_eq_true rfl)) dX5_probe_24 ⟨Nat.zero_le _, Nat.zero_le _⟩) hS (fun H locs Z hS => ?_)
  obtain ⟨rfl, rfl⟩ := wx_ret_ok h
  exact W.iret hx hb hr (fun t ht hW => ⟨rfl, by rw [ht]; exact Z, hS.F ht⟩) hS.2.2 dX5_probe_27
set_option maxRecDepth 20000 in
theorem c_X5_probe (l : Launch) {D : va_G} {ad : Nat → Nat → Nat} {rd : Nat → Nat} {ca : Nat → ClassId} {A : Nat → Prop} {σ : wx_St}    {x1 : Int32} {x2 : Int32} {r : Int32} {σ' : wx_St} (h : f_X5_probe x1 x2 σ = some (r, σ')) : wx_M l yX5_probe wsX5_probe 3 68 D ad rd ca A [.ref (ad 11 99), .int x1, .int x2] σ (some (.int r)) σ' := by
  refine Met.ofW (cc := cX5_probe) (maxL := 3) (ret := (some .int)) (by decide +kernel) rfl ?_
  intro p e s m args below meth c s₁ B0 hml hv
  obtain ⟨rfl, hC, Z, hA⟩ := hv
  have hl := lv_entry ([.ref (ad 11 99), .int x1, .int x2]) (n := 3) (Nat.le_of_ble_eq_true rfl)
  rw [lg_entry_eq]
  generalize (lg_sl ([.ref (ad 11 99), .int x1, .int x2]) ++ List.replicate (3 - (lg_sl ([.ref (ad 11 99), .int x1, .int x2])).length) Slot.unset).toArray = ls at hl ⊢
  exact b_X5_probe_0 ⟨B0.exec, B0.bytes, hml, B0.returns, atoms_spec (ws := wsX5_probe) B0.pre, findClass_of_methodNamed B0.named, B0.notSynchronized, hC, hA⟩   h Z va_S.rf hl
theorem i_X5_set_5 : ∀ w ∈ wsX50, w ∈ wsX5_set := by decide +kernel
theorem k_X5_set_w0 : Cond.fieldLink RX5 29 "WarmProbes" "past" "LWarmProbes$Past;" ∈ wsX5_set := by decide +kernel
theorem k_X5_set_w1 : Cond.fieldLink RX5 10 "WarmProbes" "board" "LWarmProbes$Board;" ∈ wsX5_set := by decide +kernel
theorem k_X5_set_w2 : Cond.initialized RX3 ∈ wsX5_set := by decide +kernel
theorem k_X5_set_w3 : Cond.instanceMethod yX3_prepare ∈ wsX5_set := by decide +kernel
theorem k_X5_set_w4 : Cond.selects RX3 yX3_prepare yX3_prepare ∈ wsX5_set := by decide +kernel
theorem k_X5_set_w5 : Cond.initialized RX0 ∈ wsX5_set := by decide +kernel
theorem k_X5_set_w6 : Cond.instanceMethod yX0_change ∈ wsX5_set := by decide +kernel
theorem k_X5_set_w7 : Cond.selects RX0 yX0_change yX0_change ∈ wsX5_set := by decide +kernel
theorem k_X5_set_w8 : Cond.instanceMethod yX3_kept ∈ wsX5_set := by decide +kernel
theorem k_X5_set_w9 : Cond.selects RX3 yX3_kept yX3_kept ∈ wsX5_set := by decide +kernel
set_option maxRecDepth 20000 in
set_option maxHeartbeats 4000000 in
theorem b_X5_set_0 (B : wx_B p s m args meth c cX5_set 3 (some .int) wsX5_set RX5 D ad ca A)    {r : Int32} {σ' : wx_St}  {x1 : Int32} {x2 : Int32} {σ : wx_St}  (h : f_X5_set x1 x2 σ = some (r, σ')) {H : Heap} {locs : List Loc} (Z : wx_Z D ad rd ca A σ H) (hS : va_S A s.heap H locs) {ls : Array Slot} (hl : lv_has ls 3 [(0, .ref (ad 11 99)), (1, .int x1), (2, .int x2)]) : W p l e ({ frames := 3, cells := 0, slots := 0, locals := 68 } : Room) s m args below meth c H locs 0 0 (MQ below (wx_Q D ad rd ca A (some (.int r)) σ') args s 0 0 A) (F0 m 0 ls []) := by
  obtain ⟨hx, hb, hml, hr, hts, hown, hlk, hC, hA⟩ := id B
  unfold f_X5_set at h
  refine lv_aload_n hx hb dX5_set_0 rfl (lv_at hl 0 rfl) ?_
  refine wx_get (own := RX5) hx hb hts i_X5_set_5 hown hC.1 Z (o := 11) (ci := 5) rfl (rfl : vwCl[5]? = some (RX5, TX5, 7)) 3 (by decide) (hts _ k_X5_set_w0) (fun _ h9 => h9) (f := 114) rfl rfl dX5_set_1 ?_
  refine lv_aload_n hx hb dX5_set_4 rfl (lv_at hl 0 rfl) ?_
  refine wx_get (own := RX5) hx hb hts i_X5_set_5 hown hC.1 Z (o := 11) (ci := 5) rfl (rfl : vwCl[5]? = some (RX5, TX5, 7)) 0 (by decide) (hts _ k_X5_set_w1) (fun _ h9 => h9) (f := 107) rfl rfl dX5_set_5 ?_
  obtain ⟨v8, σ8, hc8, h⟩ := wx_b_ok h
  refine wx_call (va_runVN (As := [.ref (ad 7 99)]) (rest := []) ⟨hx, hb, hml, hown, hts⟩ (c_X3_prepare l (D := D) (ad := ad) (rd := rd) (ca := ca) (A := A) (σ := σ) (b1 := 7) (by decide : 7 < 11) hc8) ⟨va_cnB 1 hts gX5_set_X3_prepare_n48 rfl rfl rfl (hC.1.2.1 _ (List.mem_of_getElem? (i := 27) rfl)) (hts _ k_X5_set_w2) (by decide +kernel) ⟨Nat.le_of_ble_eq_true rfl, Nat.le_of_ble_eq_true rfl⟩, hts _ k_X5_set_w3, hts _ k_X5_set_w4⟩ (wx_preV hC Z hS hA rfl (rfl : vwCl[3]? = some (RX3, TX3, 2))) rfl rfl hl.1 rfl (lv_room (Nat.le_of_ble_eq_true rfl)) dX5_set_8 ⟨Nat.zero_le _, Nat.zero_le _⟩) hS (fun H locs Z hS => ?_)
  refine lv_aload_n hx hb dX5_set_11 rfl (lv_at hl 0 rfl) ?_
  refine wx_get (own := RX5) hx hb hts i_X5_set_5 hown hC.1 Z (o := 11) (ci := 5) rfl (rfl : vwCl[5]? = some (RX5, TX5, 7)) 3 (by decide) (hts _ k_X5_set_w0) (fun _ h9 => h9) (f := 114) rfl rfl dX5_set_12 ?_
  refine lv_aload_n hx hb dX5_set_15 rfl (lv_at hl 0 rfl) ?_
  refine wx_get (own := RX5) hx hb hts i_X5_set_5 hown hC.1 Z (o := 11) (ci := 5) rfl (rfl : vwCl[5]? = some (RX5, TX5, 7)) 0 (by decide) (hts _ k_X5_set_w1) (fun _ h9 => h9) (f := 107) rfl rfl dX5_set_16 ?_
  refine lv_iload_n hx hb dX5_set_19 rfl (lv_at hl 1 rfl) ?_
  refine lv_iload_n hx hb dX5_set_20 rfl (lv_at hl 2 rfl) ?_
  obtain ⟨v21, σ21, hc21, h⟩ := wx_b_ok h
  refine wx_call (va_runVN (As := [.int x1, .int x2]) (rest := [.ref (ad 14 99)]) ⟨hx, hb, hml, hown, hts⟩ (c_X0_change l (D := D) (ad := ad) (rd := rd) (ca := ca) (A := A) (σ := σ8) (o := 7) (by decide : 7 < 11) hc21) ⟨va_cnB 2 hts gX5_set_X0_change_n52 rfl rfl rfl (hC.1.2.1 _ (List.mem_of_getElem? (i := 29) rfl)) (hts _ k_X5_set_w5) (by decide +kernel) ⟨Nat.le_of_ble_eq_true rfl, Nat.le_of_ble_eq_true rfl⟩, hts _ k_X5_set_w6, hts _ k_X5_set_w7⟩ (wx_preV hC Z hS hA rfl (rfl : vwCl[0]? = some (RX0, TX0, 13))) rfl rfl hl.1 rfl (lv_room (Nat.le_of_ble_eq_true rfl)) dX5_set_21 ⟨Nat.zero_le _, Nat.zero_le _⟩) hS (fun H locs Z hS => ?_)
  obtain ⟨v24, σ24, hc24, h⟩ := wx_b_ok h
  refine wx_call (va_runVN (As := [.int v21]) (rest := []) ⟨hx, hb, hml, hown, hts⟩ (c_X3_kept l (D := D) (ad := ad) (rd := rd) (ca := ca) (A := A) (σ := σ21) hc24) ⟨va_cnB 1 hts gX5_set_X3_kept_n56 rfl rfl rfl (hC.1.2.1 _ (List.mem_of_getElem? (i := 32) rfl)) (hts _ k_X5_set_w2) (by decide +kernel) ⟨Nat.le_of_ble_eq_true rfl, Nat.le_of_ble_eq_true rfl⟩, hts _ k_X5_set_w8, hts _ k_X5_set_w9⟩ (wx_preV hC Z hS hA rfl (rfl : vwCl[3]? = some (RX3, TX3, 2))) rfl rfl hl.1 rfl (lv_room (Nat.le_of_ble_eq_true rfl)) dX5_set_24 ⟨Nat.zero_le _, Nat.zero_le _⟩) hS (fun H locs Z hS => ?_)
  obtain ⟨rfl, rfl⟩ := wx_ret_ok h
  exact W.iret hx hb hr (fun t ht hW => ⟨rfl, by rw [ht]; exact Z, hS.F ht⟩) hS.2.2 dX5_set_27
set_option maxRecDepth 20000 in
theorem c_X5_set (l : Launch) {D : va_G} {ad : Nat → Nat → Nat} {rd : Nat → Nat} {ca : Nat → ClassId} {A : Nat → Prop} {σ : wx_St}    {x1 : Int32} {x2 : Int32} {r : Int32} {σ' : wx_St} (h : f_X5_set x1 x2 σ = some (r, σ')) : wx_M l yX5_set wsX5_set 3 68 D ad rd ca A [.ref (ad 11 99), .int x1, .int x2] σ (some (.int r)) σ' := by
  refine Met.ofW (cc := cX5_set) (maxL := 3) (ret := (some .int)) (by decide +kernel) rfl ?_
  intro p e s m args below meth c s₁ B0 hml hv
  obtain ⟨rfl, hC, Z, hA⟩ := hv
  have hl := lv_entry ([.ref (ad 11 99), .int x1, .int x2]) (n := 3) (Nat.le_of_ble_eq_true rfl)
  rw [lg_entry_eq]
  generalize (lg_sl ([.ref (ad 11 99), .int x1, .int x2]) ++ List.replicate (3 - (lg_sl ([.ref (ad 11 99), .int x1, .int x2])).length) Slot.unset).toArray = ls at hl ⊢
  exact b_X5_set_0 ⟨B0.exec, B0.bytes, hml, B0.returns, atoms_spec (ws := wsX5_set) B0.pre, findClass_of_methodNamed B0.named, B0.notSynchronized, hC, hA⟩   h Z va_S.rf hl
theorem i_X5_touch_5 : ∀ w ∈ wsX50, w ∈ wsX5_touch := by decide +kernel
theorem k_X5_touch_w0 : Cond.fieldLink RX5 29 "WarmProbes" "past" "LWarmProbes$Past;" ∈ wsX5_touch := by decide +kernel
theorem k_X5_touch_w1 : Cond.fieldLink RX5 10 "WarmProbes" "board" "LWarmProbes$Board;" ∈ wsX5_touch := by decide +kernel
theorem k_X5_touch_w2 : Cond.initialized RX3 ∈ wsX5_touch := by decide +kernel
theorem k_X5_touch_w3 : Cond.instanceMethod yX3_prepare ∈ wsX5_touch := by decide +kernel
theorem k_X5_touch_w4 : Cond.selects RX3 yX3_prepare yX3_prepare ∈ wsX5_touch := by decide +kernel
theorem k_X5_touch_w5 : Cond.initialized RX0 ∈ wsX5_touch := by decide +kernel
theorem k_X5_touch_w6 : Cond.instanceMethod yX0_join ∈ wsX5_touch := by decide +kernel
theorem k_X5_touch_w7 : Cond.selects RX0 yX0_join yX0_join ∈ wsX5_touch := by decide +kernel
theorem k_X5_touch_w8 : Cond.instanceMethod yX3_kept ∈ wsX5_touch := by decide +kernel
theorem k_X5_touch_w9 : Cond.selects RX3 yX3_kept yX3_kept ∈ wsX5_touch := by decide +kernel
set_option maxRecDepth 20000 in
set_option maxHeartbeats 4000000 in
theorem b_X5_touch_0 (B : wx_B p s m args meth c cX5_touch 4 (some .int) wsX5_touch RX5 D ad ca A)    {r : Int32} {σ' : wx_St}  {x1 : Int32} {x2 : Int32} {x3 : Int32} {σ : wx_St}  (h : f_X5_touch x1 x2 x3 σ = some (r, σ')) {H : Heap} {locs : List Loc} (Z : wx_Z D ad rd ca A σ H) (hS : va_S A s.heap H locs) {ls : Array Slot} (hl : lv_has ls 4 [(0, .ref (ad 11 99)), (1, .int x1), (2, .int x2), (3, .int x3)]) : W p l e ({ frames := 3, cells := 0, slots := 0, locals := 69 } : Room) s m args below meth c H locs 0 0 (MQ below (wx_Q D ad rd ca A (some (.int r)) σ') args s 0 0 A) (F0 m 0 ls []) := by
  obtain ⟨hx, hb, hml, hr, hts, hown, hlk, hC, hA⟩ := id B
  unfold f_X5_touch at h
  refine lv_aload_n hx hb dX5_touch_0 rfl (lv_at hl 0 rfl) ?_
  refine wx_get (own := RX5) hx hb hts i_X5_touch_5 hown hC.1 Z (o := 11) (ci := 5) rfl (rfl : vwCl[5]? = some (RX5, TX5, 7)) 3 (by decide) (hts _ k_X5_touch_w0) (fun _ h9 => h9) (f := 114) rfl rfl dX5_touch_1 ?_
  refine lv_aload_n hx hb dX5_touch_4 rfl (lv_at hl 0 rfl) ?_
  refine wx_get (own := RX5) hx hb hts i_X5_touch_5 hown hC.1 Z (o := 11) (ci := 5) rfl (rfl : vwCl[5]? = some (RX5, TX5, 7)) 0 (by decide) (hts _ k_X5_touch_w1) (fun _ h9 => h9) (f := 107) rfl rfl dX5_touch_5 ?_
  obtain ⟨v8, σ8, hc8, h⟩ := wx_b_ok h
  refine wx_call (va_runVN (As := [.ref (ad 7 99)]) (rest := []) ⟨hx, hb, hml, hown, hts⟩ (c_X3_prepare l (D := D) (ad := ad) (rd := rd) (ca := ca) (A := A) (σ := σ) (b1 := 7) (by decide : 7 < 11) hc8) ⟨va_cnB 1 hts gX5_touch_X3_prepare_n48 rfl rfl rfl (hC.1.2.1 _ (List.mem_of_getElem? (i := 27) rfl)) (hts _ k_X5_touch_w2) (by decide +kernel) ⟨Nat.le_of_ble_eq_true rfl, Nat.le_of_ble_eq_true rfl⟩, hts _ k_X5_touch_w3, hts _ k_X5_touch_w4⟩ (wx_preV hC Z hS hA rfl (rfl : vwCl[3]? = some (RX3, TX3, 2))) rfl rfl hl.1 rfl (lv_room (Nat.le_of_ble_eq_true rfl)) dX5_touch_8 ⟨Nat.zero_le _, Nat.zero_le _⟩) hS (fun H locs Z hS => ?_)
  refine lv_aload_n hx hb dX5_touch_11 rfl (lv_at hl 0 rfl) ?_
  refine wx_get (own := RX5) hx hb hts i_X5_touch_5 hown hC.1 Z (o := 11) (ci := 5) rfl (rfl : vwCl[5]? = some (RX5, TX5, 7)) 3 (by decide) (hts _ k_X5_touch_w0) (fun _ h9 => h9) (f := 114) rfl rfl dX5_touch_12 ?_
  refine lv_aload_n hx hb dX5_touch_15 rfl (lv_at hl 0 rfl) ?_
  refine wx_get (own := RX5) hx hb hts i_X5_touch_5 hown hC.1 Z (o := 11) (ci := 5) rfl (rfl : vwCl[5]? = some (RX5, TX5, 7)) 0 (by decide) (hts _ k_X5_touch_w1) (fun _ h9 => h9) (f := 107) rfl rfl dX5_touch_16 ?_
  refine lv_iload_n hx hb dX5_touch_19 rfl (lv_at hl 1 rfl) ?_
  refine lv_iload_n hx hb dX5_touch_20 rfl (lv_at hl 2 rfl) ?_
  refine lv_iload_n hx hb dX5_touch_21 rfl (lv_at hl 3 rfl) ?_
  obtain ⟨v22, σ22, hc22, h⟩ := wx_b_ok h
  refine wx_call (va_runVN (As := [.int x1, .int x2, .int x3]) (rest := [.ref (ad 14 99)]) ⟨hx, hb, hml, hown, hts⟩ (c_X0_join l (D := D) (ad := ad) (rd := rd) (ca := ca) (A := A) (σ := σ8) (o := 7) (by decide : 7 < 11) hc22) ⟨va_cnB 3 hts gX5_touch_X0_join_n64 rfl rfl rfl (hC.1.2.1 _ (List.mem_of_getElem? (i := 37) rfl)) (hts _ k_X5_touch_w5) (by decide +kernel) ⟨Nat.le_of_ble_eq_true rfl, Nat.le_of_ble_eq_true rfl⟩, hts _ k_X5_touch_w6, hts _ k_X5_touch_w7⟩ (wx_preV hC Z hS hA rfl (rfl : vwCl[0]? = some (RX0, TX0, 13))) rfl rfl hl.1 rfl (lv_room (Nat.le_of_ble_eq_true rfl)) dX5_touch_22 ⟨Nat.zero_le _, Nat.zero_le _⟩) hS (fun H locs Z hS => ?_)
  obtain ⟨v25, σ25, hc25, h⟩ := wx_b_ok h
  refine wx_call (va_runVN (As := [.int v22]) (rest := []) ⟨hx, hb, hml, hown, hts⟩ (c_X3_kept l (D := D) (ad := ad) (rd := rd) (ca := ca) (A := A) (σ := σ22) hc25) ⟨va_cnB 1 hts gX5_touch_X3_kept_n56 rfl rfl rfl (hC.1.2.1 _ (List.mem_of_getElem? (i := 32) rfl)) (hts _ k_X5_touch_w2) (by decide +kernel) ⟨Nat.le_of_ble_eq_true rfl, Nat.le_of_ble_eq_true rfl⟩, hts _ k_X5_touch_w8, hts _ k_X5_touch_w9⟩ (wx_preV hC Z hS hA rfl (rfl : vwCl[3]? = some (RX3, TX3, 2))) rfl rfl hl.1 rfl (lv_room (Nat.le_of_ble_eq_true rfl)) dX5_touch_25 ⟨Nat.zero_le _, Nat.zero_le _⟩) hS (fun H locs Z hS => ?_)
  obtain ⟨rfl, rfl⟩ := wx_ret_ok h
  exact W.iret hx hb hr (fun t ht hW => ⟨rfl, by rw [ht]; exact Z, hS.F ht⟩) hS.2.2 dX5_touch_28
set_option maxRecDepth 20000 in
theorem c_X5_touch (l : Launch) {D : va_G} {ad : Nat → Nat → Nat} {rd : Nat → Nat} {ca : Nat → ClassId} {A : Nat → Prop} {σ : wx_St}    {x1 : Int32} {x2 : Int32} {x3 : Int32} {r : Int32} {σ' : wx_St} (h : f_X5_touch x1 x2 x3 σ = some (r, σ')) : wx_M l yX5_touch wsX5_touch 3 69 D ad rd ca A [.ref (ad 11 99), .int x1, .int x2, .int x3] σ (some (.int r)) σ' := by
  refine Met.ofW (cc := cX5_touch) (maxL := 4) (ret := (some .int)) (by decide +kernel) rfl ?_
  intro p e s m args below meth c s₁ B0 hml hv
  obtain ⟨rfl, hC, Z, hA⟩ := hv
  have hl := lv_entry ([.ref (ad 11 99), .int x1, .int x2, .int x3]) (n := 4) (Nat.le_of_ble_eq_true rfl)
  rw [lg_entry_eq]
  generalize (lg_sl ([.ref (ad 11 99), .int x1, .int x2, .int x3]) ++ List.replicate (4 - (lg_sl ([.ref (ad 11 99), .int x1, .int x2, .int x3])).length) Slot.unset).toArray = ls at hl ⊢
  exact b_X5_touch_0 ⟨B0.exec, B0.bytes, hml, B0.returns, atoms_spec (ws := wsX5_touch) B0.pre, findClass_of_methodNamed B0.named, B0.notSynchronized, hC, hA⟩   h Z va_S.rf hl
theorem i_X5_track_5 : ∀ w ∈ wsX50, w ∈ wsX5_track := by decide +kernel
theorem k_X5_track_w0 : Cond.fieldLink RX5 29 "WarmProbes" "past" "LWarmProbes$Past;" ∈ wsX5_track := by decide +kernel
theorem k_X5_track_w1 : Cond.fieldLink RX5 10 "WarmProbes" "board" "LWarmProbes$Board;" ∈ wsX5_track := by decide +kernel
theorem k_X5_track_w2 : Cond.initialized RX3 ∈ wsX5_track := by decide +kernel
theorem k_X5_track_w3 : Cond.instanceMethod yX3_prepare ∈ wsX5_track := by decide +kernel
theorem k_X5_track_w4 : Cond.selects RX3 yX3_prepare yX3_prepare ∈ wsX5_track := by decide +kernel
theorem k_X5_track_w5 : Cond.initialized RX0 ∈ wsX5_track := by decide +kernel
theorem k_X5_track_w6 : Cond.instanceMethod yX0_lay ∈ wsX5_track := by decide +kernel
theorem k_X5_track_w7 : Cond.selects RX0 yX0_lay yX0_lay ∈ wsX5_track := by decide +kernel
theorem k_X5_track_w8 : Cond.instanceMethod yX3_kept ∈ wsX5_track := by decide +kernel
theorem k_X5_track_w9 : Cond.selects RX3 yX3_kept yX3_kept ∈ wsX5_track := by decide +kernel
set_option maxRecDepth 20000 in
set_option maxHeartbeats 4000000 in
theorem b_X5_track_0 (B : wx_B p s m args meth c cX5_track 4 (some .int) wsX5_track RX5 D ad ca A)    {r : Int32} {σ' : wx_St}  {x1 : Int32} {x2 : Int32} {x3 : Int32} {σ : wx_St}  (h : f_X5_track x1 x2 x3 σ = some (r, σ')) {H : Heap} {locs : List Loc} (Z : wx_Z D ad rd ca A σ H) (hS : va_S A s.heap H locs) {ls : Array Slot} (hl : lv_has ls 4 [(0, .ref (ad 11 99)), (1, .int x1), (2, .int x2), (3, .int x3)]) : W p l e ({ frames := 4, cells := 0, slots := 0, locals := 90 } : Room) s m args below meth c H locs 0 0 (MQ below (wx_Q D ad rd ca A (some (.int r)) σ') args s 0 0 A) (F0 m 0 ls []) := by
  obtain ⟨hx, hb, hml, hr, hts, hown, hlk, hC, hA⟩ := id B
  unfold f_X5_track at h
  refine lv_aload_n hx hb dX5_track_0 rfl (lv_at hl 0 rfl) ?_
  refine wx_get (own := RX5) hx hb hts i_X5_track_5 hown hC.1 Z (o := 11) (ci := 5) rfl (rfl : vwCl[5]? = some (RX5, TX5, 7)) 3 (by decide) (hts _ k_X5_track_w0) (fun _ h9 => h9) (f := 114) rfl rfl dX5_track_1 ?_
  refine lv_aload_n hx hb dX5_track_4 rfl (lv_at hl 0 rfl) ?_
  refine wx_get (own := RX5) hx hb hts i_X5_track_5 hown hC.1 Z (o := 11) (ci := 5) rfl (rfl : vwCl[5]? = some (RX5, TX5, 7)) 0 (by decide) (hts _ k_X5_track_w1) (fun _ h9 => h9) (f := 107) rfl rfl dX5_track_5 ?_
  obtain ⟨v8, σ8, hc8, h⟩ := wx_b_ok h
  refine wx_call (va_runVN (As := [.ref (ad 7 99)]) (rest := []) ⟨hx, hb, hml, hown, hts⟩ (c_X3_prepare l (D := D) (ad := ad) (rd := rd) (ca := ca) (A := A) (σ := σ) (b1 := 7) (by decide : 7 < 11) hc8) ⟨va_cnB 1 hts gX5_track_X3_prepare_n48 rfl rfl rfl (hC.1.2.1 _ (List.mem_of_getElem? (i := 27) rfl)) (hts _ k_X5_track_w2) (by decide +kernel) ⟨Nat.le_of_ble_eq_true rfl, Nat.le_of_ble_eq_true rfl⟩, hts _ k_X5_track_w3, hts _ k_X5_track_w4⟩ (wx_preV hC Z hS hA rfl (rfl : vwCl[3]? = some (RX3, TX3, 2))) rfl rfl hl.1 rfl (lv_room (Nat.le_of_ble_eq_true rfl)) dX5_track_8 ⟨Nat.zero_le _, Nat.zero_le _⟩) hS (fun H locs Z hS => ?_)
  refine lv_aload_n hx hb dX5_track_11 rfl (lv_at hl 0 rfl) ?_
  refine wx_get (own := RX5) hx hb hts i_X5_track_5 hown hC.1 Z (o := 11) (ci := 5) rfl (rfl : vwCl[5]? = some (RX5, TX5, 7)) 3 (by decide) (hts _ k_X5_track_w0) (fun _ h9 => h9) (f := 114) rfl rfl dX5_track_12 ?_
  refine lv_aload_n hx hb dX5_track_15 rfl (lv_at hl 0 rfl) ?_
  refine wx_get (own := RX5) hx hb hts i_X5_track_5 hown hC.1 Z (o := 11) (ci := 5) rfl (rfl : vwCl[5]? = some (RX5, TX5, 7)) 0 (by decide) (hts _ k_X5_track_w1) (fun _ h9 => h9) (f := 107) rfl rfl dX5_track_16 ?_
  refine lv_iload_n hx hb dX5_track_19 rfl (lv_at hl 1 rfl) ?_
  refine lv_iload_n hx hb dX5_track_20 rfl (lv_at hl 2 rfl) ?_
  refine lv_iload_n hx hb dX5_track_21 rfl (lv_at hl 3 rfl) ?_
  obtain ⟨v22, σ22, hc22, h⟩ := wx_b_ok h
  refine wx_call (va_runVN (As := [.int x1, .int x2, .int x3]) (rest := [.ref (ad 14 99)]) ⟨hx, hb, hml, hown, hts⟩ (c_X0_lay l (D := D) (ad := ad) (rd := rd) (ca := ca) (A := A) (σ := σ8) (o := 7) (by decide : 7 < 11) hc22) ⟨va_cnB 3 hts gX5_track_X0_lay_n60 rfl rfl rfl (hC.1.2.1 _ (List.mem_of_getElem? (i := 33) rfl)) (hts _ k_X5_track_w5) (by decide +kernel) ⟨Nat.le_of_ble_eq_true rfl, Nat.le_of_ble_eq_true rfl⟩, hts _ k_X5_track_w6, hts _ k_X5_track_w7⟩ (wx_preV hC Z hS hA rfl (rfl : vwCl[0]? = some (RX0, TX0, 13))) rfl rfl hl.1 rfl (lv_room (Nat.le_of_ble_eq_true rfl)) dX5_track_22 ⟨Nat.zero_le _, Nat.zero_le _⟩) hS (fun H locs Z hS => ?_)
  obtain ⟨v25, σ25, hc25, h⟩ := wx_b_ok h
  refine wx_call (va_runVN (As := [.int v22]) (rest := []) ⟨hx, hb, hml, hown, hts⟩ (c_X3_kept l (D := D) (ad := ad) (rd := rd) (ca := ca) (A := A) (σ := σ22) hc25) ⟨va_cnB 1 hts gX5_track_X3_kept_n56 rfl rfl rfl (hC.1.2.1 _ (List.mem_of_getElem? (i := 32) rfl)) (hts _ k_X5_track_w2) (by decide +kernel) ⟨Nat.le_of_ble_eq_true rfl, Nat.le_of_ble_eq_true rfl⟩, hts _ k_X5_track_w8, hts _ k_X5_track_w9⟩ (wx_preV hC Z hS hA rfl (rfl : vwCl[3]? = some (RX3, TX3, 2))) rfl rfl hl.1 rfl (lv_room (Nat.le_of_ble_eq_true rfl)) dX5_track_25 ⟨Nat.zero_le _, Nat.zero_le _⟩) hS (fun H locs Z hS => ?_)
  obtain ⟨rfl, rfl⟩ := wx_ret_ok h
  exact W.iret hx hb hr (fun t ht hW => ⟨rfl, by rw [ht]; exact Z, hS.F ht⟩) hS.2.2 dX5_track_28
set_option maxRecDepth 20000 in
theorem c_X5_track (l : Launch) {D : va_G} {ad : Nat → Nat → Nat} {rd : Nat → Nat} {ca : Nat → ClassId} {A : Nat → Prop} {σ : wx_St}    {x1 : Int32} {x2 : Int32} {x3 : Int32} {r : Int32} {σ' : wx_St} (h : f_X5_track x1 x2 x3 σ = some (r, σ')) : wx_M l yX5_track wsX5_track 4 90 D ad rd ca A [.ref (ad 11 99), .int x1, .int x2, .int x3] σ (some (.int r)) σ' := by
  refine Met.ofW (cc := cX5_track) (maxL := 4) (ret := (some .int)) (by decide +kernel) rfl ?_
  intro p e s m args below meth c s₁ B0 hml hv
  obtain ⟨rfl, hC, Z, hA⟩ := hv
  have hl := lv_entry ([.ref (ad 11 99), .int x1, .int x2, .int x3]) (n := 4) (Nat.le_of_ble_eq_true rfl)
  rw [lg_entry_eq]
  generalize (lg_sl ([.ref (ad 11 99), .int x1, .int x2, .int x3]) ++ List.replicate (4 - (lg_sl ([.ref (ad 11 99), .int x1, .int x2, .int x3])).length) Slot.unset).toArray = ls at hl ⊢
  exact b_X5_track_0 ⟨B0.exec, B0.bytes, hml, B0.returns, atoms_spec (ws := wsX5_track) B0.pre, findClass_of_methodNamed B0.named, B0.notSynchronized, hC, hA⟩   h Z va_S.rf hl
theorem i_X5_warm_5 : ∀ w ∈ wsX50, w ∈ wsX5_warm := by decide +kernel
theorem k_X5_warm_w0 : Cond.fieldLink RX5 29 "WarmProbes" "past" "LWarmProbes$Past;" ∈ wsX5_warm := by decide +kernel
theorem k_X5_warm_w1 : Cond.fieldLink RX5 10 "WarmProbes" "board" "LWarmProbes$Board;" ∈ wsX5_warm := by decide +kernel
theorem k_X5_warm_w2 : Cond.initialized RX3 ∈ wsX5_warm := by decide +kernel
theorem k_X5_warm_w3 : Cond.instanceMethod yX3_prepare ∈ wsX5_warm := by decide +kernel
theorem k_X5_warm_w4 : Cond.selects RX3 yX3_prepare yX3_prepare ∈ wsX5_warm := by decide +kernel
theorem k_X5_warm_w5 : Cond.initialized RX0 ∈ wsX5_warm := by decide +kernel
theorem k_X5_warm_w6 : Cond.instanceMethod yX0_letPass ∈ wsX5_warm := by decide +kernel
theorem k_X5_warm_w7 : Cond.selects RX0 yX0_letPass yX0_letPass ∈ wsX5_warm := by decide +kernel
theorem k_X5_warm_w8 : Cond.instanceMethod yX3_kept ∈ wsX5_warm := by decide +kernel
theorem k_X5_warm_w9 : Cond.selects RX3 yX3_kept yX3_kept ∈ wsX5_warm := by decide +kernel
set_option maxRecDepth 20000 in
set_option maxHeartbeats 4000000 in
theorem b_X5_warm_0 (B : wx_B p s m args meth c cX5_warm 2 (some .int) wsX5_warm RX5 D ad ca A)    {r : Int32} {σ' : wx_St}  {x1 : Int32} {σ : wx_St}  (h : f_X5_warm x1 σ = some (r, σ')) {H : Heap} {locs : List Loc} (Z : wx_Z D ad rd ca A σ H) (hS : va_S A s.heap H locs) {ls : Array Slot} (hl : lv_has ls 2 [(0, .ref (ad 11 99)), (1, .int x1)]) : W p l e ({ frames := 4, cells := 0, slots := 0, locals := 102 } : Room) s m args below meth c H locs 0 0 (MQ below (wx_Q D ad rd ca A (some (.int r)) σ') args s 0 0 A) (F0 m 0 ls []) := by
  obtain ⟨hx, hb, hml, hr, hts, hown, hlk, hC, hA⟩ := id B
  unfold f_X5_warm at h
  refine lv_aload_n hx hb dX5_warm_0 rfl (lv_at hl 0 rfl) ?_
  refine wx_get (own := RX5) hx hb hts i_X5_warm_5 hown hC.1 Z (o := 11) (ci := 5) rfl (rfl : vwCl[5]? = some (RX5, TX5, 7)) 3 (by decide) (hts _ k_X5_warm_w0) (fun _ h9 => h9) (f := 114) rfl rfl dX5_warm_1 ?_
  refine lv_aload_n hx hb dX5_warm_4 rfl (lv_at hl 0 rfl) ?_
  refine wx_get (own := RX5) hx hb hts i_X5_warm_5 hown hC.1 Z (o := 11) (ci := 5) rfl (rfl : vwCl[5]? = some (RX5, TX5, 7)) 0 (by decide) (hts _ k_X5_warm_w1) (fun _ h9 => h9) (f := 107) rfl rfl dX5_warm_5 ?_
  obtain ⟨v8, σ8, hc8, h⟩ := wx_b_ok h
  refine wx_call (va_runVN (As := [.ref (ad 7 99)]) (rest := []) ⟨hx, hb, hml, hown, hts⟩ (c_X3_prepare l (D := D) (ad := ad) (rd := rd) (ca := ca) (A := A) (σ := σ) (b1 := 7) (by decide : 7 < 11) hc8) ⟨va_cnB 1 hts gX5_warm_X3_prepare_n48 rfl rfl rfl (hC.1.2.1 _ (List.mem_of_getElem? (i := 27) rfl)) (hts _ k_X5_warm_w2) (by decide +kernel) ⟨Nat.le_of_ble_eq_true rfl, Nat.le_of_ble_eq_true rfl⟩, hts _ k_X5_warm_w3, hts _ k_X5_warm_w4⟩ (wx_preV hC Z hS hA rfl (rfl : vwCl[3]? = some (RX3, TX3, 2))) rfl rfl hl.1 rfl (lv_room (Nat.le_of_ble_eq_true rfl)) dX5_warm_8 ⟨Nat.zero_le _, Nat.zero_le _⟩) hS (fun H locs Z hS => ?_)
  refine lv_aload_n hx hb dX5_warm_11 rfl (lv_at hl 0 rfl) ?_
  refine wx_get (own := RX5) hx hb hts i_X5_warm_5 hown hC.1 Z (o := 11) (ci := 5) rfl (rfl : vwCl[5]? = some (RX5, TX5, 7)) 3 (by decide) (hts _ k_X5_warm_w0) (fun _ h9 => h9) (f := 114) rfl rfl dX5_warm_12 ?_
  refine lv_aload_n hx hb dX5_warm_15 rfl (lv_at hl 0 rfl) ?_
  refine wx_get (own := RX5) hx hb hts i_X5_warm_5 hown hC.1 Z (o := 11) (ci := 5) rfl (rfl : vwCl[5]? = some (RX5, TX5, 7)) 0 (by decide) (hts _ k_X5_warm_w1) (fun _ h9 => h9) (f := 107) rfl rfl dX5_warm_16 ?_
  refine lv_iload_n hx hb dX5_warm_19 rfl (lv_at hl 1 rfl) ?_
  obtain ⟨v20, σ20, hc20, h⟩ := wx_b_ok h
  refine wx_call (va_runVN (As := [.int x1]) (rest := [.ref (ad 14 99)]) ⟨hx, hb, hml, hown, hts⟩ (c_X0_letPass l (D := D) (ad := ad) (rd := rd) (ca := ca) (A := A) (σ := σ8) (o := 7) (by decide : 7 < 11) hc20) ⟨va_cnB 1 hts gX5_warm_X0_letPass_n80 rfl rfl rfl (hC.1.2.1 _ (List.mem_of_getElem? (i := 42) rfl)) (hts _ k_X5_warm_w5) (by decide +kernel) ⟨Nat.le_of_ble_eq_true rfl, Nat.le_of_ble_eq_true rfl⟩, hts _ k_X5_warm_w6, hts _ k_X5_warm_w7⟩ (wx_preV hC Z hS hA rfl (rfl : vwCl[0]? = some (RX0, TX0, 13))) rfl rfl hl.1 rfl (lv_room (Nat.le_of_ble_eq_true rfl)) dX5_warm_20 ⟨Nat.zero_le _, Nat.zero_le _⟩) hS (fun H locs Z hS => ?_)
  obtain ⟨v23, σ23, hc23, h⟩ := wx_b_ok h
  refine wx_call (va_runVN (As := [.int v20]) (rest := []) ⟨hx, hb, hml, hown, hts⟩ (c_X3_kept l (D := D) (ad := ad) (rd := rd) (ca := ca) (A := A) (σ := σ20) hc23) ⟨va_cnB 1 hts gX5_warm_X3_kept_n56 rfl rfl rfl (hC.1.2.1 _ (List.mem_of_getElem? (i := 32) rfl)) (hts _ k_X5_warm_w2) (by decide +kernel) ⟨Nat.le_of_ble_eq_true rfl, Nat.le_of_ble_eq_true rfl⟩, hts _ k_X5_warm_w8, hts _ k_X5_warm_w9⟩ (wx_preV hC Z hS hA rfl (rfl : vwCl[3]? = some (RX3, TX3, 2))) rfl rfl hl.1 rfl (lv_room (Nat.le_of_ble_eq_true rfl)) dX5_warm_23 ⟨Nat.zero_le _, Nat.zero_le _⟩) hS (fun H locs Z hS => ?_)
  obtain ⟨rfl, rfl⟩ := wx_ret_ok h
  exact W.iret hx hb hr (fun t ht hW => ⟨rfl, by rw [ht]; exact Z, hS.F ht⟩) hS.2.2 dX5_warm_26
set_option maxRecDepth 20000 in
theorem c_X5_warm (l : Launch) {D : va_G} {ad : Nat → Nat → Nat} {rd : Nat → Nat} {ca : Nat → ClassId} {A : Nat → Prop} {σ : wx_St}    {x1 : Int32} {r : Int32} {σ' : wx_St} (h : f_X5_warm x1 σ = some (r, σ')) : wx_M l yX5_warm wsX5_warm 4 102 D ad rd ca A [.ref (ad 11 99), .int x1] σ (some (.int r)) σ' := by
  refine Met.ofW (cc := cX5_warm) (maxL := 2) (ret := (some .int)) (by decide +kernel) rfl ?_
  intro p e s m args below meth c s₁ B0 hml hv
  obtain ⟨rfl, hC, Z, hA⟩ := hv
  have hl := lv_entry ([.ref (ad 11 99), .int x1]) (n := 2) (Nat.le_of_ble_eq_true rfl)
  rw [lg_entry_eq]
  generalize (lg_sl ([.ref (ad 11 99), .int x1]) ++ List.replicate (2 - (lg_sl ([.ref (ad 11 99), .int x1])).length) Slot.unset).toArray = ls at hl ⊢
  exact b_X5_warm_0 ⟨B0.exec, B0.bytes, hml, B0.returns, atoms_spec (ws := wsX5_warm) B0.pre, findClass_of_methodNamed B0.named, B0.notSynchronized, hC, hA⟩   h Z va_S.rf hl
theorem i_X5_wouldRead_5 : ∀ w ∈ wsX50, w ∈ wsX5_wouldRead := by decide +kernel
theorem k_X5_wouldRead_w0 : Cond.fieldLink RX5 10 "WarmProbes" "board" "LWarmProbes$Board;" ∈ wsX5_wouldRead := by decide +kernel
theorem k_X5_wouldRead_w1 : Cond.initialized RX0 ∈ wsX5_wouldRead := by decide +kernel
theorem k_X5_wouldRead_w2 : Cond.instanceMethod yX0_isSuspect ∈ wsX5_wouldRead := by decide +kernel
theorem k_X5_wouldRead_w3 : Cond.selects RX0 yX0_isSuspect yX0_isSuspect ∈ wsX5_wouldRead := by decide +kernel
theorem k_X5_wouldRead_w4 : Cond.fieldLink RX5 22 "WarmProbes" "suspicion" "LWarmProbes$Suspicion;" ∈ wsX5_wouldRead := by decide +kernel
theorem k_X5_wouldRead_w5 : Cond.initialized RX4 ∈ wsX5_wouldRead := by decide +kernel
theorem k_X5_wouldRead_w6 : Cond.instanceMethod yX4_readBy ∈ wsX5_wouldRead := by decide +kernel
theorem k_X5_wouldRead_w7 : Cond.selects RX4 yX4_readBy yX4_readBy ∈ wsX5_wouldRead := by decide +kernel
set_option maxRecDepth 20000 in
set_option maxHeartbeats 4000000 in
theorem m_X5_wouldRead_37  {r : Int32} {σ' : wx_St}  {x1 : Int32} {x2 : Int32} {x3 : Int32} {x4 : Int32} {x5 : Int32} {x6 : Int32} {σ : wx_St} (h : f_X5_wouldRead_37 x1 x2 x3 x4 x5 x6 σ = some (r, σ')) : wx_n σ.2.2.2.2 ≤ wx_n σ'.2.2.2.2 := by
  unfold f_X5_wouldRead_37 at h
  obtain ⟨rfl, rfl⟩ := wx_ret_ok h
  exact Nat.le_refl _
set_option maxRecDepth 20000 in
set_option maxHeartbeats 4000000 in
theorem b_X5_wouldRead_37 (B : wx_B p s m args meth c cX5_wouldRead 7 (some .int) wsX5_wouldRead RX5 D ad ca A)    {r : Int32} {σ' : wx_St} {mc : Nat}  {x1 : Int32} {x2 : Int32} {x3 : Int32} {x4 : Int32} {x5 : Int32} {x6 : Int32} {σ : wx_St} {k : Nat} (hk : k + wx_n σ'.2.2.2.2 ≤ mc + wx_n σ.2.2.2.2)  (h : f_X5_wouldRead_37 x1 x2 x3 x4 x5 x6 σ = some (r, σ')) {rd : Nat → Nat} {H : Heap} {locs : List Loc} (Z : wx_Z D ad rd ca A σ H) (hS : va_S A s.heap H locs) {ls : Array Slot} (hl : lv_has ls 7 [(0, .ref (ad 11 99)), (1, .int x1), (2, .int x2), (3, .int x3), (4, .int x4), (5, .int x5), (6, .int x6)]) : W p l e ({ frames := 4, cells := mc, slots := 6464 * mc, locals := 104 } : Room) s m args below meth c H locs k (6464 * k) (MQ below (wx_QA D ad ca A (some (.int r)) σ') args s mc (6464 * mc) A) (F0 m 37 ls []) := by
  obtain ⟨hx, hb, hml, hr, hts, hown, hlk, hC, hA⟩ := id B
  have hm := m_X5_wouldRead_37 h
  unfold f_X5_wouldRead_37 at h
  refine lv_iconst (v := (-1)) hx hb dX5_wouldRead_37 (by decide) ?_
  obtain ⟨rfl, rfl⟩ := wx_ret_ok h
  refine W.widen (k := mc) (n := 6464 * mc) (by omega) (by omega) ?_
  exact W.iret hx hb hr (fun t ht hW => ⟨rfl, ⟨_, by rw [ht]; exact Z⟩, hS.F ht⟩) hS.2.2 dX5_wouldRead_38
set_option maxRecDepth 20000 in
set_option maxHeartbeats 4000000 in
theorem m_X5_wouldRead_54  {r : Int32} {σ' : wx_St}  {x1 : Int32} {x2 : Int32} {x3 : Int32} {x4 : Int32} {x5 : Int32} {x6 : Int32} {y0 : Int32} {σ : wx_St} (h : f_X5_wouldRead_54 x1 x2 x3 x4 x5 x6 y0 σ = some (r, σ')) : wx_n σ.2.2.2.2 ≤ wx_n σ'.2.2.2.2 := by
  unfold f_X5_wouldRead_54 at h
  obtain ⟨rfl, rfl⟩ := wx_ret_ok h
  exact Nat.le_refl _
set_option maxRecDepth 20000 in
set_option maxHeartbeats 4000000 in
theorem b_X5_wouldRead_54 (B : wx_B p s m args meth c cX5_wouldRead 7 (some .int) wsX5_wouldRead RX5 D ad ca A)    {r : Int32} {σ' : wx_St} {mc : Nat}  {x1 : Int32} {x2 : Int32} {x3 : Int32} {x4 : Int32} {x5 : Int32} {x6 : Int32} {y0 : Int32} {σ : wx_St} {k : Nat} (hk : k + wx_n σ'.2.2.2.2 ≤ mc + wx_n σ.2.2.2.2)  (h : f_X5_wouldRead_54 x1 x2 x3 x4 x5 x6 y0 σ = some (r, σ')) {rd : Nat → Nat} {H : Heap} {locs : List Loc} (Z : wx_Z D ad rd ca A σ H) (hS : va_S A s.heap H locs) {ls : Array Slot} (hl : lv_has ls 7 [(0, .ref (ad 11 99)), (1, .int x1), (2, .int x2), (3, .int x3), (4, .int x4), (5, .int x5), (6, .int x6)]) : W p l e ({ frames := 4, cells := mc, slots := 6464 * mc, locals := 104 } : Room) s m args below meth c H locs k (6464 * k) (MQ below (wx_QA D ad ca A (some (.int r)) σ') args s mc (6464 * mc) A) (F0 m 54 ls [.int y0]) := by
  obtain ⟨hx, hb, hml, hr, hts, hown, hlk, hC, hA⟩ := id B
  have hm := m_X5_wouldRead_54 h
  unfold f_X5_wouldRead_54 at h
  obtain ⟨rfl, rfl⟩ := wx_ret_ok h
  refine W.widen (k := mc) (n := 6464 * mc) (by omega) (by omega) ?_
  exact W.iret hx hb hr (fun t ht hW => ⟨rfl, ⟨_, by rw [ht]; exact Z⟩, hS.F ht⟩) hS.2.2 dX5_wouldRead_54
set_option maxRecDepth 20000 in
set_option maxHeartbeats 4000000 in
theorem m_X5_wouldRead_0  {r : Int32} {σ' : wx_St}  {x1 : Int32} {x2 : Int32} {x3 : Int32} {x4 : Int32} {σ : wx_St} (h : f_X5_wouldRead x1 x2 x3 x4 σ = some (r, σ')) : wx_n σ.2.2.2.2 ≤ wx_n σ'.2.2.2.2 := by
  unfold f_X5_wouldRead at h
  obtain ⟨v2, hc2, h⟩ := wx_o_ok h
  obtain ⟨v10, hc10, h⟩ := wx_o_ok h
  by_cases c17 : v2 < 0
  · replace h := wx_ift c17 h
    exact m_X5_wouldRead_37 h
  · replace h := wx_iff c17 h
    by_cases c22 : v10 < 0
    · replace h := wx_ift c22 h
      exact m_X5_wouldRead_37 h
    · replace h := wx_iff c22 h
      obtain ⟨v31, hc31, h⟩ := wx_o_ok h
      by_cases c34 : v31 = 0
      · replace h := wx_ift c34 h
        exact m_X5_wouldRead_37 h
      · replace h := wx_iff c34 h
        obtain ⟨v51, σ51, hc51, h⟩ := wx_b_ok h
        refine Nat.le_trans (m_X4_readBy_0 hc51) ?_
        exact m_X5_wouldRead_54 h
set_option maxRecDepth 20000 in
set_option maxHeartbeats 4000000 in
theorem b_X5_wouldRead_0 (B : wx_B p s m args meth c cX5_wouldRead 7 (some .int) wsX5_wouldRead RX5 D ad ca A)    {r : Int32} {σ' : wx_St} {mc : Nat}  {x1 : Int32} {x2 : Int32} {x3 : Int32} {x4 : Int32} {σ : wx_St} {k : Nat} (hk : k + wx_n σ'.2.2.2.2 ≤ mc + wx_n σ.2.2.2.2)  (h : f_X5_wouldRead x1 x2 x3 x4 σ = some (r, σ')) {rd : Nat → Nat} {H : Heap} {locs : List Loc} (Z : wx_Z D ad rd ca A σ H) (hS : va_S A s.heap H locs) {ls : Array Slot} (hl : lv_has ls 7 [(0, .ref (ad 11 99)), (1, .int x1), (2, .int x2), (3, .int x3), (4, .int x4)]) : W p l e ({ frames := 4, cells := mc, slots := 6464 * mc, locals := 104 } : Room) s m args below meth c H locs k (6464 * k) (MQ below (wx_QA D ad ca A (some (.int r)) σ') args s mc (6464 * mc) A) (F0 m 0 ls []) := by
  obtain ⟨hx, hb, hml, hr, hts, hown, hlk, hC, hA⟩ := id B
  have hm := m_X5_wouldRead_0 h
  unfold f_X5_wouldRead at h
  refine lv_iload_n hx hb dX5_wouldRead_0 rfl (lv_at hl 1 rfl) ?_
  refine lv_iload_n hx hb dX5_wouldRead_1 rfl (lv_at hl 2 rfl) ?_
  obtain ⟨v2, hc2, h⟩ := wx_o_ok h
  refine wx_call (va_runS (As := [.int x1, .int x2]) (rest := []) ⟨hx, hb, hml, hown, hts⟩ (c_X5_placeOf l (D := D) (ad := ad) (rd := rd) (ca := ca) (A := A) (σ := σ) hc2) (va_cwS 2 hts gX5_wouldRead_X5_placeOf rfl rfl rfl (by decide +kernel) ⟨Nat.le_of_ble_eq_true rfl, Nat.le_of_ble_eq_true rfl⟩) (wx_preS hC Z hS hA) rfl rfl hl.1 rfl (lv_room (Nat.le_of_ble_eq_true rfl)) dX5_wouldRead_2 ⟨(by show k + 0 ≤ mc; omega), (by show 6464 * k + 0 ≤ 6464 * mc; omega)⟩) hS (fun H locs Z hS => ?_)
  refine lv_istore (lv' := [(5, .int v2), (0, .ref (ad 11 99)), (1, .int x1), (2, .int x2), (3, .int x3), (4, .int x4)]) hx hb dX5_wouldRead_5 hl (by decide) rfl (fun ls hl => ?_)
  refine lv_iload_n hx hb dX5_wouldRead_7 rfl (lv_at hl 4 rfl) ?_
  refine lv_iload hx hb dX5_wouldRead_8 (lv_at hl 5 rfl) ?_
  obtain ⟨v10, hc10, h⟩ := wx_o_ok h
  refine wx_call (va_runS (As := [.int x3, .int x4]) (rest := []) ⟨hx, hb, hml, hown, hts⟩ (c_X5_placeOf l (D := D) (ad := ad) (rd := rd) (ca := ca) (A := A) (σ := σ) hc10) (va_cwS 2 hts gX5_wouldRead_X5_placeOf rfl rfl rfl (by decide +kernel) ⟨Nat.le_of_ble_eq_true rfl, Nat.le_of_ble_eq_true rfl⟩) (wx_preS hC Z hS hA) rfl rfl hl.1 rfl (lv_room (Nat.le_of_ble_eq_true rfl)) dX5_wouldRead_10 ⟨(by show k + 0 ≤ mc; omega), (by show 6464 * k + 0 ≤ 6464 * mc; omega)⟩) hS (fun H locs Z hS => ?_)
  refine lv_istore (lv' := [(6, .int v10), (5, .int v2), (0, .ref (ad 11 99)), (1, .int x1), (2, .int x2), (3, .int x3), (4, .int x4)]) hx hb dX5_wouldRead_13 hl (by decide) rfl (fun ls hl => ?_)
  refine lv_iload hx hb dX5_wouldRead_15 (lv_at hl 1 rfl) ?_
  refine lv_if_lt (tgt := 37) hx hb dX5_wouldRead_17 (by decide) (fun c17 => ?_) (fun c17 => ?_)
  · replace h := wx_ift c17 h
    exact b_X5_wouldRead_37 B (k := k) hk h Z hS (lv_sub hl [2, 3, 4, 5, 6, 1, 0] rfl)
  · replace h := wx_iff c17 h
    refine lv_iload hx hb dX5_wouldRead_20 (lv_at hl 0 rfl) ?_
    refine lv_if_lt (tgt := 37) hx hb dX5_wouldRead_22 (by decide) (fun c22 => ?_) (fun c22 => ?_)
    · replace h := wx_ift c22 h
      exact b_X5_wouldRead_37 B (k := k) hk h Z hS (lv_sub hl [2, 3, 4, 5, 6, 1, 0] rfl)
    · replace h := wx_iff c22 h
      refine lv_aload_n hx hb dX5_wouldRead_25 rfl (lv_at hl 2 rfl) ?_
      refine wx_get (own := RX5) hx hb hts i_X5_wouldRead_5 hown hC.1 Z (o := 11) (ci := 5) rfl (rfl : vwCl[5]? = some (RX5, TX5, 7)) 0 (by decide) (hts _ k_X5_wouldRead_w0) (fun _ h9 => h9) (f := 107) rfl rfl dX5_wouldRead_26 ?_
      refine lv_iload hx hb dX5_wouldRead_29 (lv_at hl 0 rfl) ?_
      obtain ⟨v31, hc31, h⟩ := wx_o_ok h
      refine wx_call (va_runVN (As := [.int v10]) (rest := []) ⟨hx, hb, hml, hown, hts⟩ (c_X0_isSuspect l (D := D) (ad := ad) (rd := rd) (ca := ca) (A := A) (σ := σ) (o := 7) (by decide : 7 < 11) hc31) ⟨va_cnB 1 hts gX5_wouldRead_X0_isSuspect_n104 rfl rfl rfl (hC.1.2.1 _ (List.mem_of_getElem? (i := 46) rfl)) (hts _ k_X5_wouldRead_w1) (by decide +kernel) ⟨Nat.le_of_ble_eq_true rfl, Nat.le_of_ble_eq_true rfl⟩, hts _ k_X5_wouldRead_w2, hts _ k_X5_wouldRead_w3⟩ (wx_preV hC Z hS hA rfl (rfl : vwCl[0]? = some (RX0, TX0, 13))) rfl rfl hl.1 rfl (lv_room (Nat.le_of_ble_eq_true rfl)) dX5_wouldRead_31 ⟨(by show k + 0 ≤ mc; omega), (by show 6464 * k + 0 ≤ 6464 * mc; omega)⟩) hS (fun H locs Z hS => ?_)
      refine lv_if_ne (tgt := 39) hx hb dX5_wouldRead_34 (by decide) (fun c34 => ?_) (fun c34 => ?_)
      · replace h := wx_iff c34 h
        refine lv_aload_n hx hb dX5_wouldRead_39 rfl (lv_at hl 2 rfl) ?_
        refine wx_get (own := RX5) hx hb hts i_X5_wouldRead_5 hown hC.1 Z (o := 11) (ci := 5) rfl (rfl : vwCl[5]? = some (RX5, TX5, 7)) 2 (by decide) (hts _ k_X5_wouldRead_w4) (fun _ h9 => h9) (f := 112) rfl rfl dX5_wouldRead_40 ?_
        refine lv_aload_n hx hb dX5_wouldRead_43 rfl (lv_at hl 2 rfl) ?_
        refine wx_get (own := RX5) hx hb hts i_X5_wouldRead_5 hown hC.1 Z (o := 11) (ci := 5) rfl (rfl : vwCl[5]? = some (RX5, TX5, 7)) 0 (by decide) (hts _ k_X5_wouldRead_w0) (fun _ h9 => h9) (f := 107) rfl rfl dX5_wouldRead_44 ?_
        refine lv_iload hx hb dX5_wouldRead_47 (lv_at hl 0 rfl) ?_
        refine lv_iload hx hb dX5_wouldRead_49 (lv_at hl 1 rfl) ?_
        obtain ⟨v51, σ51, hc51, h⟩ := wx_b_ok h
        have m1 := m_X4_readBy_0 hc51
        have m2 := m_X5_wouldRead_54 h
        refine wx_callA (va_runVN (As := [.ref (ad 7 99), .int v10, .int v2]) (rest := []) ⟨hx, hb, hml, hown, hts⟩ (c_X4_readBy l (D := D) (ad := ad) (rd := rd) (ca := ca) (A := A) (σ := σ) (b1 := 7) (by decide : 7 < 11) hc51) ⟨va_cnB 3 hts gX5_wouldRead_X4_readBy_n213 rfl rfl rfl (hC.1.2.1 _ (List.mem_of_getElem? (i := 66) rfl)) (hts _ k_X5_wouldRead_w5) (by decide +kernel) ⟨Nat.le_of_ble_eq_true rfl, Nat.le_of_ble_eq_true rfl⟩, hts _ k_X5_wouldRead_w6, hts _ k_X5_wouldRead_w7⟩ (wx_preV hC Z hS hA rfl (rfl : vwCl[4]? = some (RX4, TX4, 2))) rfl rfl hl.1 rfl (lv_room (Nat.le_of_ble_eq_true rfl)) dX5_wouldRead_51 ⟨(by show k + (wx_n σ51.2.2.2.2 - wx_n σ.2.2.2.2) ≤ mc; omega), (by show 6464 * k + 6464 * (wx_n σ51.2.2.2.2 - wx_n σ.2.2.2.2) ≤ 6464 * mc; omega)⟩) hS (fun rd H locs Z hS => ?_)
        refine W.widen (k := k + (wx_n σ51.2.2.2.2 - wx_n σ.2.2.2.2)) (n := 6464 * (k + (wx_n σ51.2.2.2.2 - wx_n σ.2.2.2.2))) (Nat.le_refl _) (by omega) ?_
        exact b_X5_wouldRead_54 B (k := k + (wx_n σ51.2.2.2.2 - wx_n σ.2.2.2.2)) (by omega) h Z hS (lv_sub hl [2, 3, 4, 5, 6, 1, 0] rfl)
      · replace h := wx_ift c34 h
        exact b_X5_wouldRead_37 B (k := k) hk h Z hS (lv_sub hl [2, 3, 4, 5, 6, 1, 0] rfl)
set_option maxRecDepth 20000 in
theorem c_X5_wouldRead (l : Launch) {D : va_G} {ad : Nat → Nat → Nat} {rd : Nat → Nat} {ca : Nat → ClassId} {A : Nat → Prop} {σ : wx_St}    {x1 : Int32} {x2 : Int32} {x3 : Int32} {x4 : Int32} {r : Int32} {σ' : wx_St} (h : f_X5_wouldRead x1 x2 x3 x4 σ = some (r, σ')) : wx_MA l yX5_wouldRead wsX5_wouldRead 4 104 D ad rd ca A [.ref (ad 11 99), .int x1, .int x2, .int x3, .int x4] σ (some (.int r)) σ' := by
  refine Met.ofW (cc := cX5_wouldRead) (maxL := 7) (ret := (some .int)) (by decide +kernel) rfl ?_
  intro p e s m args below meth c s₁ B0 hml hv
  obtain ⟨rfl, hC, Z, hA⟩ := hv
  have hl := lv_entry ([.ref (ad 11 99), .int x1, .int x2, .int x3, .int x4]) (n := 7) (Nat.le_of_ble_eq_true rfl)
  rw [lg_entry_eq]
  generalize (lg_sl ([.ref (ad 11 99), .int x1, .int x2, .int x3, .int x4]) ++ List.replicate (7 - (lg_sl ([.ref (ad 11 99), .int x1, .int x2, .int x3, .int x4])).length) Slot.unset).toArray = ls at hl ⊢
  exact b_X5_wouldRead_0 ⟨B0.exec, B0.bytes, hml, B0.returns, atoms_spec (ws := wsX5_wouldRead) B0.pre, findClass_of_methodNamed B0.named, B0.notSynchronized, hC, hA⟩  (k := 0) (by have hm := m_X5_wouldRead_0 h; omega) h Z va_S.rf hl
