def f_X6_coolsThought_2   : Nat → Int32 → wx_St → Option (Unit × wx_St)
  | 0, _, _ => none
  | n + 1, x1, σ =>
  if 64 ≤ x1 then
    some ((), σ)
   else
    wx_w (wx_sF σ 16 10 (Int32.toNatClampNeg x1) FP.fconst0) 64 x1 (fun σ14 => (f_X6_coolsThought_2 n) (x1 + 1) σ14)
def f_X6_coolsThought    (σ : wx_St) : Option (Unit × wx_St) :=
  f_X6_coolsThought_2 2000 0 σ
def f_X6_readingPart   (x1 : Int32) (x2 : Int32) (σ : wx_St) : Option Int32 :=
  wx_rI σ 16 0 109 ((85 + (3 * x1)) + x2) (fun v12 => some v12)
def f_X6_isFed_22   (x1 : Int32) (x2 : Int32) (y0 : Int32) (σ : wx_St) : Option Int32 :=
  wx_z y0 (some y0)
def f_X6_isFed   (x1 : Int32) (x2 : Int32) (σ : wx_St) : Option Int32 :=
  wx_rI σ 16 0 109 (71 + x1) (fun v8 => if ((v8 >>> (x2 &&& 31)) &&& 1) = 1 then
    f_X6_isFed_22 x1 x2 1 σ
   else
    f_X6_isFed_22 x1 x2 0 σ)
def f_X6_netAt   (x1 : Int32) (σ : wx_St) : Option Int32 :=
  wx_rI σ 16 0 109 (7 + x1) (fun v8 => some v8)
def f_X6_touchPart   (x1 : Int32) (x2 : Int32) (σ : wx_St) : Option Int32 :=
  wx_rI σ 16 0 109 ((79 + (2 * x1)) + x2) (fun v12 => some v12)
def f_X6_isLive   (x1 : Int32) (σ : wx_St) : Option Int32 :=
  wx_o (f_X6_touchPart x1 0 σ) (fun v5 => wx_o (f_X6_netAt v5 σ) (fun v8 => wx_o (f_X6_touchPart x1 1 σ) (fun v14 => wx_o (f_X6_isFed v8 v14 σ) (fun v17 => wx_z v17 (some v17)))))
def f_X6_touchAt_30  (K5 : Int32 → Int32 → Int32 → wx_St → Option Int32) (x1 : Int32) (x2 : Int32) (x3 : Int32) (y0 : Int32) (σ : wx_St) : Option Int32 :=
  K5 x1 y0 (x3 + 1) σ
def f_X6_touchAt_5   : Nat → Int32 → Int32 → Int32 → wx_St → Option Int32
  | 0, _, _, _, _ => none
  | n + 1, x1, x2, x3, σ =>
  wx_rI σ 16 0 109 5 (fun v11 => if v11 ≤ x3 then
    some x2
   else
    wx_o (f_X6_touchPart x3 0 σ) (fun v18 => if v18 = x1 then
      f_X6_touchAt_30 (f_X6_touchAt_5 n) x1 x2 x3 x3 σ
     else
      f_X6_touchAt_30 (f_X6_touchAt_5 n) x1 x2 x3 x2 σ))
def f_X6_touchAt   (x1 : Int32) (σ : wx_St) : Option Int32 :=
  f_X6_touchAt_5 2000 x1 (-6) 0 σ
def f_X6_isWarmed_16   (x1 : Int32) (x2 : Int32) (y0 : Int32) (σ : wx_St) : Option Int32 :=
  wx_z y0 (some y0)
def f_X6_isWarmed_42   (x1 : Int32) (x2 : Int32) (x3 : Int32) (y0 : Int32) (σ : wx_St) : Option Int32 :=
  wx_z y0 (some y0)
def f_X6_isWarmed_41   (x1 : Int32) (x2 : Int32) (x3 : Int32) (σ : wx_St) : Option Int32 :=
  f_X6_isWarmed_42 x1 x2 x3 0 σ
def f_X6_isWarmed   (x1 : Int32) (x2 : Int32) (σ : wx_St) : Option Int32 :=
  if x2 = (-6) then
    wx_o (f_X6_touchAt x1 σ) (fun v19 => if v19 = (-6) then
      f_X6_isWarmed_41 x1 x2 v19 σ
     else
      wx_o (f_X6_isLive v19 σ) (fun v31 => if v31 = 0 then
        f_X6_isWarmed_41 x1 x2 v19 σ
       else
        f_X6_isWarmed_42 x1 x2 v19 1 σ))
   else
    if x1 = x2 then
      f_X6_isWarmed_16 x1 x2 1 σ
     else
      f_X6_isWarmed_16 x1 x2 0 σ
def f_X6_movesWarmth_3 (o0 : Nat) (k0 : Nat) (n0 : Nat) (o2 : Nat) (k2 : Nat) (n2 : Nat)  : Nat → Int32 → Int32 → Int32 → wx_St → Option (Unit × wx_St)
  | 0, _, _, _, _ => none
  | n + 1, x1, x3, x4, σ =>
  if 64 ≤ x4 then
    some ((), σ)
   else
    wx_rF σ o0 k0 n0 (x1 + x4) (fun v20 => wx_w (wx_sF σ o2 k2 (Int32.toNatClampNeg (x3 + x4)) v20) n2 (x3 + x4) (fun σ21 => (f_X6_movesWarmth_3 o0 k0 n0 o2 k2 n2 n) x1 x3 (x4 + 1) σ21))
def f_X6_movesWarmth (o0 : Nat) (k0 : Nat) (n0 : Nat) (o2 : Nat) (k2 : Nat) (n2 : Nat)  (x1 : Int32) (x3 : Int32) (σ : wx_St) : Option (Unit × wx_St) :=
  f_X6_movesWarmth_3 o0 k0 n0 o2 k2 n2 2000 x1 x3 0 σ
def f_X6_within_15   (x0 : Int32) (x1 : Int32) (x2 : Int32) (y0 : Int32) : Option Int32 :=
  wx_z y0 (some y0)
def f_X6_within_14   (x0 : Int32) (x1 : Int32) (x2 : Int32) : Option Int32 :=
  f_X6_within_15 x0 x1 x2 0
def f_X6_within   (x0 : Int32) (x1 : Int32) (x2 : Int32) : Option Int32 :=
  if x0 < x1 then
    f_X6_within_14 x0 x1 x2
   else
    if x2 < x0 then
      f_X6_within_14 x0 x1 x2
     else
      f_X6_within_15 x0 x1 x2 1
def f_X6_isOnSide   (x0 : Int32) : Option Int32 :=
  wx_o (f_X6_within x0 0 7) (fun v4 => wx_z v4 (some v4))
def f_X6_isPlace_19   (x0 : Int32) (x1 : Int32) (y0 : Int32) : Option Int32 :=
  wx_z y0 (some y0)
def f_X6_isPlace_18   (x0 : Int32) (x1 : Int32) : Option Int32 :=
  f_X6_isPlace_19 x0 x1 0
def f_X6_isPlace   (x0 : Int32) (x1 : Int32) : Option Int32 :=
  wx_o (f_X6_isOnSide x0) (fun v1 => if v1 = 0 then
    f_X6_isPlace_18 x0 x1
   else
    wx_o (f_X6_isOnSide x1) (fun v8 => if v8 = 0 then
      f_X6_isPlace_18 x0 x1
     else
      f_X6_isPlace_19 x0 x1 1))
def f_X6_placeOf   (x0 : Int32) (x1 : Int32) : Option Int32 :=
  some ((8 * x0) + x1)
def f_X6_neighbour_67   (x0 : Int32) (x1 : Int32) (x2 : Int32) (x3 : Int32) (y0 : Int32) : Option Int32 :=
  some y0
def f_X6_neighbour_47   (x0 : Int32) (x1 : Int32) (x2 : Int32) (y0 : Int32) (y1 : Int32) : Option Int32 :=
  wx_o (f_X6_isPlace x2 (y0 + y1)) (fun v51 => if v51 = 0 then
    f_X6_neighbour_67 x0 x1 x2 (y0 + y1) (-6)
   else
    wx_o (f_X6_placeOf x2 (y0 + y1)) (fun v59 => f_X6_neighbour_67 x0 x1 x2 (y0 + y1) v59))
def f_X6_neighbour_22   (x0 : Int32) (x1 : Int32) (y0 : Int32) (y1 : Int32) : Option Int32 :=
  if x1 = 2 then
    f_X6_neighbour_47 x0 x1 (y0 + y1) (x0 - x0 / 8 * 8) (-1)
   else
    if x1 = 3 then
      f_X6_neighbour_47 x0 x1 (y0 + y1) (x0 - x0 / 8 * 8) 1
     else
      f_X6_neighbour_47 x0 x1 (y0 + y1) (x0 - x0 / 8 * 8) 0
def f_X6_neighbour   (x0 : Int32) (x1 : Int32) : Option Int32 :=
  if x1 = 0 then
    f_X6_neighbour_22 x0 x1 (x0 / 8) (-1)
   else
    if x1 = 1 then
      f_X6_neighbour_22 x0 x1 (x0 / 8) 1
     else
      f_X6_neighbour_22 x0 x1 (x0 / 8) 0
def f_X6_steps_67  (K2 : Int32 → Int32 → wx_St → Option (Unit × wx_St)) (K21 : Int32 → Int32 → UInt32 → UInt32 → Int32 → wx_St → Option (Unit × wx_St)) (x1 : Int32) (x2 : Int32) (x3 : UInt32) (x4 : UInt32) (x5 : Int32) (x6 : Int32) (σ : wx_St) : Option (Unit × wx_St) :=
  K21 x1 x2 x3 x4 (x5 + 1) σ
def f_X6_steps_122  (K2 : Int32 → Int32 → wx_St → Option (Unit × wx_St)) (x1 : Int32) (x2 : Int32) (x3 : UInt32) (x4 : UInt32) (x5 : UInt32) (y1 : Int32) (y2 : UInt32) (σ : wx_St) : Option (Unit × wx_St) :=
  wx_w (wx_sF σ 16 11 (Int32.toNatClampNeg y1) y2) 64 y1 (fun σ122 => K2 x1 (x2 + 1) σ122)
def f_X6_steps_21  (K2 : Int32 → Int32 → wx_St → Option (Unit × wx_St)) : Nat → Int32 → Int32 → UInt32 → UInt32 → Int32 → wx_St → Option (Unit × wx_St)
  | 0, _, _, _, _, _, _ => none
  | n + 1, x1, x2, x3, x4, x5, σ =>
  if 4 ≤ x5 then
    wx_f (FP.fadd x3 x4) (fun v76 => wx_rI σ 16 0 109 1 (fun v84 => wx_f (FP.fmul v76 (FP.i2f (100 - v84))) (fun v87 => wx_f (FP.fdiv v87 (1120403456 : UInt32)) (fun v90 => wx_o (f_X6_isWarmed x2 x1 σ) (fun v101 => if v101 = 0 then
      f_X6_steps_122 K2 x1 x2 x3 x4 v90 x2 v90 σ
     else
      wx_rI σ 16 0 109 2 (fun v114 => wx_f (FP.fadd v90 (FP.i2f v114)) (fun v116 => f_X6_steps_122 K2 x1 x2 x3 x4 v90 x2 v116 σ)))))))
   else
    wx_o (f_X6_neighbour x2 x5) (fun v30 => if v30 = (-6) then
      f_X6_steps_67 K2 (f_X6_steps_21 K2 n) x1 x2 x3 x4 x5 v30 σ
     else
      wx_rF σ 16 10 64 v30 (fun v50 => wx_f (FP.fsub v50 x3) (fun v52 => wx_rI σ 16 0 109 0 (fun v58 => wx_f (FP.fmul v52 (FP.i2f v58)) (fun v60 => wx_f (FP.fdiv v60 (1120403456 : UInt32)) (fun v63 => wx_f (FP.fadd x4 v63) (fun v64 => f_X6_steps_67 K2 (f_X6_steps_21 K2 n) x1 x2 x3 v64 x5 v30 σ)))))))
def f_X6_steps_2   : Nat → Int32 → Int32 → wx_St → Option (Unit × wx_St)
  | 0, _, _, _ => none
  | n + 1, x1, x2, σ =>
  if 64 ≤ x2 then
    wx_b (f_X6_movesWarmth 16 11 64 16 10 64 0 0 σ) (fun v139 σ139 => some ((), σ139))
   else
    wx_rF σ 16 10 64 x2 (fun v13 => f_X6_steps_21 (f_X6_steps_2 n) 2000 x1 x2 v13 FP.fconst0 0 σ)
def f_X6_steps   (x1 : Int32) (σ : wx_St) : Option (Unit × wx_St) :=
  f_X6_steps_2 2000 x1 0 σ
def f_X6_findMade_57  (K6 : Int32 → Int32 → wx_St → Option (Unit × wx_St)) (K14 : Int32 → Int32 → Int32 → wx_St → Option (Unit × wx_St)) (x1 : Int32) (x2 : Int32) (x3 : Int32) (σ : wx_St) : Option (Unit × wx_St) :=
  K14 x1 x2 (x3 + 1) σ
def f_X6_findMade_78  (K6 : Int32 → Int32 → wx_St → Option (Unit × wx_St)) (x1 : Int32) (x2 : Int32) (x3 : Int32) (σ : wx_St) : Option (Unit × wx_St) :=
  K6 x1 (x2 + 1) σ
def f_X6_findMade_14  (K6 : Int32 → Int32 → wx_St → Option (Unit × wx_St)) : Nat → Int32 → Int32 → Int32 → wx_St → Option (Unit × wx_St)
  | 0, _, _, _, _ => none
  | n + 1, x1, x2, x3, σ =>
  wx_rI σ 16 0 109 6 (fun v21 => if v21 ≤ x3 then
    wx_rI σ 16 0 109 4 (fun v69 => if v69 ≤ x2 then
      f_X6_findMade_78 K6 x1 x2 x3 σ
     else
      wx_b (f_X6_steps x1 σ) (fun v75 σ75 => f_X6_findMade_78 K6 x1 x2 x3 σ75))
   else
    wx_o (f_X6_readingPart x3 2 σ) (fun v28 => if v28 = x2 then
      wx_o (f_X6_readingPart x3 0 σ) (fun v52 => wx_rF σ 16 10 64 v52 (fun v55 => wx_w (wx_sF σ 16 12 (Int32.toNatClampNeg ((8 * x1) + x3)) v55) 512 ((8 * x1) + x3) (fun σ56 => f_X6_findMade_57 K6 (f_X6_findMade_14 K6 n) x1 x2 x3 σ56)))
     else
      f_X6_findMade_57 K6 (f_X6_findMade_14 K6 n) x1 x2 x3 σ))
def f_X6_findMade_6   : Nat → Int32 → Int32 → wx_St → Option (Unit × wx_St)
  | 0, _, _, _ => none
  | n + 1, x1, x2, σ =>
  if 100 < x2 then
    some ((), σ)
   else
    f_X6_findMade_14 (f_X6_findMade_6 n) 2000 x1 x2 0 σ
def f_X6_findMade   (x1 : Int32) (σ : wx_St) : Option (Unit × wx_St) :=
  wx_b (f_X6_coolsThought σ) (fun v1 σ1 => f_X6_findMade_6 2000 x1 0 σ1)
def f_X6_readOf   (x0 : UInt32) : Option Int32 :=
  wx_f (FP.fmul x0 (1092616192 : UInt32)) (fun v3 => some (FP.f2i v3))
def f_X6_fits   (x1 : UInt32) (x2 : Int32) (σ : wx_St) : Option Int32 :=
  wx_o (f_X6_readOf x1) (fun v1 => wx_o (f_X6_readingPart x2 1 σ) (fun v7 => wx_rI σ 16 0 109 3 (fun v18 => wx_rI σ 16 0 109 3 (fun v25 => wx_o (f_X6_within (v1 - v7) (-v18) v25) (fun v26 => wx_z v26 (some v26))))))
def f_X6_fitsAlone_43  (K4 : Int32 → Int32 → Int32 → wx_St → Option Int32) (x1 : Int32) (x2 : Int32) (x3 : Int32) (y0 : Int32) (σ : wx_St) : Option Int32 :=
  K4 x1 y0 (x3 + 1) σ
def f_X6_fitsAlone_42  (K4 : Int32 → Int32 → Int32 → wx_St → Option Int32) (x1 : Int32) (x2 : Int32) (x3 : Int32) (σ : wx_St) : Option Int32 :=
  f_X6_fitsAlone_43 K4 x1 x2 x3 0 σ
def f_X6_fitsAlone_4   : Nat → Int32 → Int32 → Int32 → wx_St → Option Int32
  | 0, _, _, _, _ => none
  | n + 1, x1, x2, x3, σ =>
  wx_rI σ 16 0 109 6 (fun v11 => if v11 ≤ x3 then
    wx_z x2 (some x2)
   else
    if x2 = 0 then
      f_X6_fitsAlone_42 (f_X6_fitsAlone_4 n) x1 x2 x3 σ
     else
      wx_rF σ 16 12 512 ((8 * x1) + x3) (fun v30 => wx_o (f_X6_fits v30 x3 σ) (fun v32 => if v32 = 0 then
        f_X6_fitsAlone_42 (f_X6_fitsAlone_4 n) x1 x2 x3 σ
       else
        f_X6_fitsAlone_43 (f_X6_fitsAlone_4 n) x1 x2 x3 1 σ)))
def f_X6_fitsAlone   (x1 : Int32) (σ : wx_St) : Option Int32 :=
  f_X6_fitsAlone_4 2000 x1 1 0 σ
def f_X6_isSuspect_81  (K4 : Int32 → Int32 → Int32 → wx_St → Option Int32) (x1 : Int32) (x2 : Int32) (x3 : Int32) (x4 : Int32) (y0 : Int32) (σ : wx_St) : Option Int32 :=
  K4 x1 y0 (x3 + 1) σ
def f_X6_isSuspect_76  (K4 : Int32 → Int32 → Int32 → wx_St → Option Int32) (x1 : Int32) (x2 : Int32) (x3 : Int32) (x4 : Int32) (σ : wx_St) : Option Int32 :=
  f_X6_isSuspect_81 K4 x1 x2 x3 x4 1 σ
def f_X6_isSuspect_80  (K4 : Int32 → Int32 → Int32 → wx_St → Option Int32) (x1 : Int32) (x2 : Int32) (x3 : Int32) (x4 : Int32) (σ : wx_St) : Option Int32 :=
  f_X6_isSuspect_81 K4 x1 x2 x3 x4 0 σ
def f_X6_isSuspect_4   : Nat → Int32 → Int32 → Int32 → wx_St → Option Int32
  | 0, _, _, _, _ => none
  | n + 1, x1, x2, x3, σ =>
  if 4 ≤ x3 then
    wx_z x2 (some x2)
   else
    wx_o (f_X6_neighbour x1 x3) (fun v11 => if x2 = 0 then
      if v11 = (-6) then
        f_X6_isSuspect_80 (f_X6_isSuspect_4 n) x1 x2 x3 v11 σ
       else
        wx_o (f_X6_netAt x1 σ) (fun v29 => if v29 ≤ 0 then
          f_X6_isSuspect_80 (f_X6_isSuspect_4 n) x1 x2 x3 v11 σ
         else
          wx_o (f_X6_netAt v11 σ) (fun v38 => if v38 ≤ 0 then
            f_X6_isSuspect_80 (f_X6_isSuspect_4 n) x1 x2 x3 v11 σ
           else
            wx_o (f_X6_netAt v11 σ) (fun v47 => wx_o (f_X6_netAt x1 σ) (fun v52 => if v47 = v52 then
              f_X6_isSuspect_80 (f_X6_isSuspect_4 n) x1 x2 x3 v11 σ
             else
              wx_o (f_X6_netAt x1 σ) (fun v61 => wx_o (f_X6_netAt v11 σ) (fun v67 => wx_o (f_X6_isFed v61 v67 σ) (fun v70 => if v70 = 0 then
                f_X6_isSuspect_80 (f_X6_isSuspect_4 n) x1 x2 x3 v11 σ
               else
                f_X6_isSuspect_76 (f_X6_isSuspect_4 n) x1 x2 x3 v11 σ)))))))
     else
      f_X6_isSuspect_76 (f_X6_isSuspect_4 n) x1 x2 x3 v11 σ)
def f_X6_isSuspect   (x1 : Int32) (σ : wx_St) : Option Int32 :=
  f_X6_isSuspect_4 2000 x1 0 0 σ
def f_X6_findSuspects_70  (K2 : Int32 → wx_St → Option (Unit × wx_St)) (x1 : Int32) (y1 : Int32) (y2 : Int32) (σ : wx_St) : Option (Unit × wx_St) :=
  wx_w (wx_sI σ 16 14 (Int32.toNatClampNeg y1) y2) 64 y1 (fun σ70 => wx_w (wx_sI σ70 16 15 (Int32.toNatClampNeg x1) 0) 64 x1 (fun σ77 => K2 (x1 + 1) σ77))
def f_X6_findSuspects_69  (K2 : Int32 → wx_St → Option (Unit × wx_St)) (x1 : Int32) (y1 : Int32) (σ : wx_St) : Option (Unit × wx_St) :=
  f_X6_findSuspects_70 K2 x1 y1 0 σ
def f_X6_findSuspects_42  (K2 : Int32 → wx_St → Option (Unit × wx_St)) (x1 : Int32) (σ : wx_St) : Option (Unit × wx_St) :=
  wx_rI σ 16 13 64 x1 (fun v52 => if v52 = 1 then
    wx_o (f_X6_fitsAlone x1 σ) (fun v59 => if v59 = 0 then
      f_X6_findSuspects_69 K2 x1 x1 σ
     else
      f_X6_findSuspects_70 K2 x1 x1 1 σ)
   else
    f_X6_findSuspects_69 K2 x1 x1 σ)
def f_X6_findSuspects_26  (K2 : Int32 → wx_St → Option (Unit × wx_St)) (x1 : Int32) (y1 : Int32) (y2 : Int32) (σ : wx_St) : Option (Unit × wx_St) :=
  wx_w (wx_sI σ 16 13 (Int32.toNatClampNeg y1) y2) 64 y1 (fun σ26 => wx_rI σ26 16 13 64 x1 (fun v32 => if v32 = 1 then
    wx_b (f_X6_findMade x1 σ26) (fun v39 σ39 => f_X6_findSuspects_42 K2 x1 σ39)
   else
    f_X6_findSuspects_42 K2 x1 σ26))
def f_X6_findSuspects_2   : Nat → Int32 → wx_St → Option (Unit × wx_St)
  | 0, _, _ => none
  | n + 1, x1, σ =>
  if 64 ≤ x1 then
    some ((), σ)
   else
    wx_o (f_X6_isSuspect x1 σ) (fun v15 => if v15 = 0 then
      f_X6_findSuspects_26 (f_X6_findSuspects_2 n) x1 x1 0 σ
     else
      f_X6_findSuspects_26 (f_X6_findSuspects_2 n) x1 x1 1 σ)
def f_X6_findSuspects    (σ : wx_St) : Option (Unit × wx_St) :=
  f_X6_findSuspects_2 2000 0 σ
def f_X6_fitsBoth_60  (K5 : Int32 → Int32 → Int32 → Int32 → wx_St → Option Int32) (x1 : Int32) (x2 : Int32) (x3 : Int32) (x4 : Int32) (y0 : Int32) (σ : wx_St) : Option Int32 :=
  K5 x1 x2 y0 (x4 + 1) σ
def f_X6_fitsBoth_59  (K5 : Int32 → Int32 → Int32 → Int32 → wx_St → Option Int32) (x1 : Int32) (x2 : Int32) (x3 : Int32) (x4 : Int32) (σ : wx_St) : Option Int32 :=
  f_X6_fitsBoth_60 K5 x1 x2 x3 x4 0 σ
def f_X6_fitsBoth_5   : Nat → Int32 → Int32 → Int32 → Int32 → wx_St → Option Int32
  | 0, _, _, _, _, _ => none
  | n + 1, x1, x2, x3, x4, σ =>
  wx_rI σ 16 0 109 6 (fun v13 => if v13 ≤ x4 then
    wx_z x3 (some x3)
   else
    if x3 = 0 then
      f_X6_fitsBoth_59 (f_X6_fitsBoth_5 n) x1 x2 x3 x4 σ
     else
      wx_rF σ 16 12 512 ((8 * x1) + x4) (fun v33 => wx_rF σ 16 12 512 ((8 * x2) + x4) (fun v45 => wx_f (FP.fadd v33 v45) (fun v46 => wx_o (f_X6_fits v46 x4 σ) (fun v49 => if v49 = 0 then
        f_X6_fitsBoth_59 (f_X6_fitsBoth_5 n) x1 x2 x3 x4 σ
       else
        f_X6_fitsBoth_60 (f_X6_fitsBoth_5 n) x1 x2 x3 x4 1 σ)))))
def f_X6_fitsBoth   (x1 : Int32) (x2 : Int32) (σ : wx_St) : Option Int32 :=
  f_X6_fitsBoth_5 2000 x1 x2 1 0 σ
def f_X6_findPairs_80  (K11 : Int32 → wx_St → Option (Unit × wx_St)) (K21 : Int32 → Int32 → wx_St → Option (Unit × wx_St)) (x1 : Int32) (x2 : Int32) (σ : wx_St) : Option (Unit × wx_St) :=
  K21 x1 (x2 + 1) σ
def f_X6_findPairs_21  (K11 : Int32 → wx_St → Option (Unit × wx_St)) : Nat → Int32 → Int32 → wx_St → Option (Unit × wx_St)
  | 0, _, _, _ => none
  | n + 1, x1, x2, σ =>
  if 64 ≤ x2 then
    K11 (x1 + 1) σ
   else
    wx_rI σ 16 13 64 x1 (fun v32 => if v32 = 1 then
      wx_rI σ 16 13 64 x2 (fun v42 => if v42 = 1 then
        wx_o (f_X6_fitsBoth x1 x2 σ) (fun v50 => if v50 = 0 then
          f_X6_findPairs_80 K11 (f_X6_findPairs_21 K11 n) x1 x2 σ
         else
          wx_l (wx_sS σ 16 16 ((σ.2.2.1 16 16) + 1)) (fun σ63 => wx_w (wx_sI σ63 16 15 (Int32.toNatClampNeg x1) 1) 64 x1 (fun σ72 => wx_w (wx_sI σ72 16 15 (Int32.toNatClampNeg x2) 1) 64 x2 (fun σ79 => f_X6_findPairs_80 K11 (f_X6_findPairs_21 K11 n) x1 x2 σ79))))
       else
        f_X6_findPairs_80 K11 (f_X6_findPairs_21 K11 n) x1 x2 σ)
     else
      f_X6_findPairs_80 K11 (f_X6_findPairs_21 K11 n) x1 x2 σ)
def f_X6_findPairs_11   : Nat → Int32 → wx_St → Option (Unit × wx_St)
  | 0, _, _ => none
  | n + 1, x1, σ =>
  if 64 ≤ x1 then
    some ((), σ)
   else
    f_X6_findPairs_21 (f_X6_findPairs_11 n) 2000 x1 (x1 + 1) σ
def f_X6_findPairs    (σ : wx_St) : Option (Unit × wx_St) :=
  wx_b (f_X6_findSuspects σ) (fun v1 σ1 => wx_l (wx_sS σ1 16 16 0) (fun σ6 => f_X6_findPairs_11 2000 0 σ6))
def f_X6_at_103   (x1 : Int32) (x2 : Int32) (x3 : Int32) (x4 : Int32) (y0 : Int32) (σ : wx_St) : Option (Int32 × wx_St) :=
  some (y0, σ)
def f_X6_at   (x1 : Int32) (x2 : Int32) (x3 : Int32) (σ : wx_St) : Option (Int32 × wx_St) :=
  wx_o (f_X6_isPlace x1 x2) (fun v2 => if v2 = 0 then
    some ((-1), σ)
   else
    wx_o (f_X6_placeOf x1 x2) (fun v12 => if x3 = 0 then
      wx_o (f_X6_netAt v12 σ) (fun v63 => some (v63, σ))
     else
      if x3 = 1 then
        wx_rF σ 16 1 64 v12 (fun v73 => wx_o (f_Jxf58ca_floatToIntBits_5c35a v73) (fun v74 => some (v74, σ)))
       else
        if x3 = 2 then
          wx_rF σ 16 1 64 v12 (fun v84 => wx_o (f_X6_readOf v84) (fun v85 => some (v85, σ)))
         else
          if x3 = 3 then
            wx_o (f_X6_isSuspect v12 σ) (fun v92 => if v92 = 0 then
              f_X6_at_103 x1 x2 x3 v12 0 σ
             else
              f_X6_at_103 x1 x2 x3 v12 1 σ)
           else
            if x3 = 4 then
              wx_b (f_X6_findSuspects σ) (fun v105 σ105 => wx_rI σ105 16 14 64 v12 (fun v114 => some (v114, σ105)))
             else
              if x3 = 5 then
                wx_b (f_X6_findPairs σ) (fun v117 σ117 => wx_rI σ117 16 15 64 v12 (fun v126 => some (v126, σ117)))
               else
                if x3 = 6 then
                  wx_o (f_X6_touchAt v12 σ) (fun v131 => some (v131, σ))
                 else
                  some ((-2), σ)))
def f_X6_beginsRun_18   : Nat → Int32 → wx_St → Option (Unit × wx_St)
  | 0, _, _ => none
  | n + 1, x1, σ =>
  if 109 ≤ x1 then
    wx_b (f_X6_coolsThought σ) (fun v38 σ38 => wx_b (f_X6_movesWarmth 16 10 64 16 1 64 0 0 σ38) (fun v51 σ51 => some ((), σ51)))
   else
    wx_w (wx_sI σ 16 0 (Int32.toNatClampNeg x1) 0) 109 x1 (fun σ30 => (f_X6_beginsRun_18 n) (x1 + 1) σ30)
def f_X6_beginsRun    (σ : wx_St) : Option (Unit × wx_St) :=
  wx_w (wx_sI σ 16 0 (Int32.toNatClampNeg 4) 0) 109 4 (fun σ6 => wx_w (wx_sI σ6 16 0 (Int32.toNatClampNeg 6) 0) 109 6 (fun σ14 => f_X6_beginsRun_18 2000 85 σ14))
def f_X6_singlesMany_8   : Nat → Int32 → Int32 → wx_St → Option (Int32 × wx_St)
  | 0, _, _, _ => none
  | n + 1, x1, x2, σ =>
  if 64 ≤ x2 then
    some (x1, σ)
   else
    wx_rI σ 16 14 64 x2 (fun v20 => (f_X6_singlesMany_8 n) (x1 + v20) (x2 + 1) σ)
def f_X6_singlesMany    (σ : wx_St) : Option (Int32 × wx_St) :=
  wx_b (f_X6_findSuspects σ) (fun v1 σ1 => f_X6_singlesMany_8 2000 0 0 σ1)
def f_X6_thinks_6   : Nat → Int32 → Int32 → Int32 → wx_St → Option (Unit × wx_St)
  | 0, _, _, _, _ => none
  | n + 1, x1, x2, x3, σ =>
  if x2 ≤ x3 then
    some ((), σ)
   else
    wx_b (f_X6_steps x1 σ) (fun v13 σ13 => (f_X6_thinks_6 n) x1 x2 (x3 + 1) σ13)
def f_X6_thinks   (x1 : Int32) (x2 : Int32) (σ : wx_St) : Option (Unit × wx_St) :=
  wx_b (f_X6_coolsThought σ) (fun v1 σ1 => f_X6_thinks_6 2000 x1 x2 0 σ1)
def f_X6_unlikeAt_82  (K4 : Int32 → Int32 → Int32 → wx_St → Option Int32) (K30 : Int32 → Int32 → Int32 → Int32 → Int32 → wx_St → Option Int32) (x1 : Int32) (x2 : Int32) (x3 : Int32) (x4 : Int32) (x5 : Int32) (y0 : Int32) (σ : wx_St) : Option Int32 :=
  K30 x1 x2 x3 y0 (x5 + 1) σ
def f_X6_unlikeAt_77  (K4 : Int32 → Int32 → Int32 → wx_St → Option Int32) (K30 : Int32 → Int32 → Int32 → Int32 → Int32 → wx_St → Option Int32) (x1 : Int32) (x2 : Int32) (x3 : Int32) (x4 : Int32) (x5 : Int32) (σ : wx_St) : Option Int32 :=
  f_X6_unlikeAt_82 K4 K30 x1 x2 x3 x4 x5 1 σ
def f_X6_unlikeAt_101  (K4 : Int32 → Int32 → Int32 → wx_St → Option Int32) (x1 : Int32) (x2 : Int32) (x3 : Int32) (x4 : Int32) (x5 : Int32) (y0 : Int32) (y1 : Int32) (σ : wx_St) : Option Int32 :=
  K4 x1 (y0 + y1) (x3 + 1) σ
def f_X6_unlikeAt_90  (K4 : Int32 → Int32 → Int32 → wx_St → Option Int32) (x1 : Int32) (x2 : Int32) (x3 : Int32) (x4 : Int32) (x5 : Int32) (σ : wx_St) : Option Int32 :=
  if x4 = 0 then
    f_X6_unlikeAt_101 K4 x1 x2 x3 x4 x5 x2 0 σ
   else
    f_X6_unlikeAt_101 K4 x1 x2 x3 x4 x5 x2 1 σ
def f_X6_unlikeAt_30  (K4 : Int32 → Int32 → Int32 → wx_St → Option Int32) : Nat → Int32 → Int32 → Int32 → Int32 → Int32 → wx_St → Option Int32
  | 0, _, _, _, _, _, _ => none
  | n + 1, x1, x2, x3, x4, x5, σ =>
  if x3 ≤ x5 then
    f_X6_unlikeAt_90 K4 x1 x2 x3 x4 x5 σ
   else
    if x4 = 0 then
      f_X6_unlikeAt_90 K4 x1 x2 x3 x4 x5 σ
     else
      wx_rI σ 16 14 64 x5 (fun v47 => if v47 = 0 then
        f_X6_unlikeAt_77 K4 (f_X6_unlikeAt_30 K4 n) x1 x2 x3 x4 x5 σ
       else
        wx_rI σ 16 17 4096 ((64 * x5) + x1) (fun v62 => wx_rI σ 16 17 4096 ((64 * x3) + x1) (fun v73 => if v62 = v73 then
          f_X6_unlikeAt_82 K4 (f_X6_unlikeAt_30 K4 n) x1 x2 x3 x4 x5 0 σ
         else
          f_X6_unlikeAt_77 K4 (f_X6_unlikeAt_30 K4 n) x1 x2 x3 x4 x5 σ)))
def f_X6_unlikeAt_25  (K4 : Int32 → Int32 → Int32 → wx_St → Option Int32) (x1 : Int32) (x2 : Int32) (x3 : Int32) (y0 : Int32) (σ : wx_St) : Option Int32 :=
  f_X6_unlikeAt_30 K4 2000 x1 x2 x3 y0 0 σ
def f_X6_unlikeAt_4   : Nat → Int32 → Int32 → Int32 → wx_St → Option Int32
  | 0, _, _, _, _ => none
  | n + 1, x1, x2, x3, σ =>
  if 64 ≤ x3 then
    some x2
   else
    wx_rI σ 16 14 64 x3 (fun v15 => if v15 = 1 then
      f_X6_unlikeAt_25 (f_X6_unlikeAt_4 n) x1 x2 x3 1 σ
     else
      f_X6_unlikeAt_25 (f_X6_unlikeAt_4 n) x1 x2 x3 0 σ)
def f_X6_unlikeAt   (x1 : Int32) (σ : wx_St) : Option Int32 :=
  f_X6_unlikeAt_4 2000 x1 0 0 σ
def f_X6_bestProbe_86  (K25 : Int32 → Int32 → wx_St → Option (Int32 × wx_St)) (x1 : Int32) (x2 : Int32) (σ : wx_St) : Option (Int32 × wx_St) :=
  K25 x1 (x2 + 1) σ
def f_X6_bestProbe_54  (K25 : Int32 → Int32 → wx_St → Option (Int32 × wx_St)) : Nat → Int32 → Int32 → Int32 → wx_St → Option (Int32 × wx_St)
  | 0, _, _, _, _ => none
  | n + 1, x1, x2, x3, σ =>
  if 64 ≤ x3 then
    f_X6_bestProbe_86 K25 x1 x2 σ
   else
    wx_rF σ 16 10 64 x3 (fun v75 => wx_o (f_X6_readOf v75) (fun v76 => wx_w (wx_sI σ 16 17 (Int32.toNatClampNeg ((64 * x2) + x3)) v76) 4096 ((64 * x2) + x3) (fun σ79 => (f_X6_bestProbe_54 K25 n) x1 x2 (x3 + 1) σ79)))
def f_X6_bestProbe_148  (K99 : Int32 → Int32 → wx_St → Option (Int32 × wx_St)) (x1 : Int32) (x2 : Int32) (x3 : Int32) (y1 : Int32) (σ : wx_St) : Option (Int32 × wx_St) :=
  wx_l (wx_sS σ 16 19 y1) (fun σ148 => K99 x1 (x2 + 1) σ148)
def f_X6_bestProbe_128  (K99 : Int32 → Int32 → wx_St → Option (Int32 × wx_St)) (x1 : Int32) (x2 : Int32) (x3 : Int32) (y1 : Int32) (σ : wx_St) : Option (Int32 × wx_St) :=
  wx_l (wx_sS σ 16 18 y1) (fun σ128 => if x3 ≤ (σ128.2.2.1 16 19) then
    f_X6_bestProbe_148 K99 x1 x2 x3 (σ128.2.2.1 16 19) σ128
   else
    f_X6_bestProbe_148 K99 x1 x2 x3 x3 σ128)
def f_X6_bestProbe_172   (x1 : Int32) (x2 : Int32) (y0 : Int32) (σ : wx_St) : Option (Int32 × wx_St) :=
  some (y0, σ)
def f_X6_bestProbe_99   : Nat → Int32 → Int32 → wx_St → Option (Int32 × wx_St)
  | 0, _, _, _ => none
  | n + 1, x1, x2, σ =>
  if 64 ≤ x2 then
    if x1 = 0 then
      f_X6_bestProbe_172 x1 x2 (σ.2.2.1 16 18) σ
     else
      f_X6_bestProbe_172 x1 x2 (σ.2.2.1 16 19) σ
   else
    wx_o (f_X6_unlikeAt x2 σ) (fun v107 => if v107 ≤ (σ.2.2.1 16 19) then
      f_X6_bestProbe_128 (f_X6_bestProbe_99 n) x1 x2 v107 (σ.2.2.1 16 18) σ
     else
      f_X6_bestProbe_128 (f_X6_bestProbe_99 n) x1 x2 v107 x2 σ)
def f_X6_bestProbe_25   : Nat → Int32 → Int32 → wx_St → Option (Int32 × wx_St)
  | 0, _, _, _ => none
  | n + 1, x1, x2, σ =>
  if 64 ≤ x2 then
    wx_l (wx_sS σ 16 19 0) (fun σ94 => f_X6_bestProbe_99 2000 x1 0 σ94)
   else
    wx_rI σ 16 14 64 x2 (fun v36 => if v36 = 1 then
      wx_rI σ 16 0 109 4 (fun v48 => wx_b (f_X6_thinks x2 v48 σ) (fun v49 σ49 => f_X6_bestProbe_54 (f_X6_bestProbe_25 n) 2000 x1 x2 0 σ49))
     else
      f_X6_bestProbe_86 (f_X6_bestProbe_25 n) x1 x2 σ)
def f_X6_bestProbe   (x1 : Int32) (σ : wx_St) : Option (Int32 × wx_St) :=
  wx_o (f_X6_within x1 0 1) (fun v3 => if v3 = 0 then
    some ((-2), σ)
   else
    wx_b (f_X6_singlesMany σ) (fun v13 σ13 => if 2 ≤ v13 then
      f_X6_bestProbe_25 2000 x1 0 σ13
     else
      some ((-6), σ13)))
def f_X6_feeds_48   (x1 : Int32) (x2 : Int32) (y0 : Int32) (σ : wx_St) : Option (Int32 × wx_St) :=
  some (y0, σ)
def f_X6_feeds   (x1 : Int32) (x2 : Int32) (σ : wx_St) : Option (Int32 × wx_St) :=
  wx_rI σ 16 0 109 (71 + x1) (fun v9 => wx_w (wx_sI σ 16 0 (Int32.toNatClampNeg (71 + x1)) (v9 ^^^ (1 <<< (x2 &&& 31)))) 109 (71 + x1) (fun σ14 => wx_rI σ14 16 0 109 (71 + x2) (fun v24 => wx_w (wx_sI σ14 16 0 (Int32.toNatClampNeg (71 + x2)) (v24 ^^^ (1 <<< (x1 &&& 31)))) 109 (71 + x2) (fun σ29 => wx_b (f_X6_beginsRun σ29) (fun v31 σ31 => wx_o (f_X6_isFed x1 x2 σ31) (fun v37 => if v37 = 0 then
    f_X6_feeds_48 x1 x2 0 σ31
   else
    f_X6_feeds_48 x1 x2 1 σ31))))))
def f_X6_mends_64   : Nat → Int32 → Int32 → wx_St → Option (Int32 × wx_St)
  | 0, _, _, _ => none
  | n + 1, x1, x2, σ =>
  if 85 ≤ x2 then
    wx_b (f_X6_beginsRun σ) (fun v84 σ84 => wx_rI σ84 16 0 109 5 (fun v92 => some (v92, σ84)))
   else
    wx_w (wx_sI σ 16 0 (Int32.toNatClampNeg x2) 0) 109 x2 (fun σ76 => (f_X6_mends_64 n) x1 (x2 + 1) σ76)
def f_X6_mends_17   : Nat → Int32 → Int32 → wx_St → Option (Int32 × wx_St)
  | 0, _, _, _ => none
  | n + 1, x1, x2, σ =>
  wx_rI σ 16 0 109 5 (fun v26 => if (79 + (2 * v26)) ≤ x2 then
    wx_rI σ 16 0 109 5 (fun v60 => f_X6_mends_64 2000 x1 (79 + (2 * v60)) σ)
   else
    wx_rI σ 16 0 109 (x2 + 2) (fun v44 => wx_w (wx_sI σ 16 0 (Int32.toNatClampNeg x2) v44) 109 x2 (fun σ45 => (f_X6_mends_17 n) x1 (x2 + 1) σ45)))
def f_X6_mends   (x1 : Int32) (σ : wx_St) : Option (Int32 × wx_St) :=
  wx_rI σ 16 0 109 5 (fun v6 => wx_w (wx_sI σ 16 0 (Int32.toNatClampNeg 5) (v6 - 1)) 109 5 (fun σ9 => f_X6_mends_17 2000 x1 (79 + (2 * x1)) σ9))
def f_X6_probes   (x1 : Int32) (x2 : Int32) (σ : wx_St) : Option (Int32 × wx_St) :=
  wx_rI σ 16 0 109 6 (fun v9 => wx_o (f_X6_placeOf x1 x2) (fun v22 => wx_w (wx_sI σ 16 0 (Int32.toNatClampNeg ((85 + (3 * v9)) + 0)) v22) 109 ((85 + (3 * v9)) + 0) (fun σ25 => wx_o (f_X6_placeOf x1 x2) (fun v39 => wx_rF σ25 16 1 64 v39 (fun v42 => wx_o (f_X6_readOf v42) (fun v43 => wx_w (wx_sI σ25 16 0 (Int32.toNatClampNeg ((85 + (3 * v9)) + 1)) v43) 109 ((85 + (3 * v9)) + 1) (fun σ46 => wx_rI σ46 16 0 109 4 (fun v59 => wx_w (wx_sI σ46 16 0 (Int32.toNatClampNeg ((85 + (3 * v9)) + 2)) v59) 109 ((85 + (3 * v9)) + 2) (fun σ60 => wx_rI σ60 16 0 109 6 (fun v68 => wx_w (wx_sI σ60 16 0 (Int32.toNatClampNeg 6) (v68 + 1)) 109 6 (fun σ71 => wx_rI σ71 16 0 109 ((85 + (3 * v9)) + 1) (fun v79 => some (v79, σ71)))))))))))))
def f_X6_touches   (x1 : Int32) (x2 : Int32) (x3 : Int32) (σ : wx_St) : Option (Int32 × wx_St) :=
  wx_rI σ 16 0 109 5 (fun v5 => wx_o (f_X6_placeOf x1 x2) (fun v23 => wx_w (wx_sI σ 16 0 (Int32.toNatClampNeg ((79 + (2 * v5)) + 0)) v23) 109 ((79 + (2 * v5)) + 0) (fun σ26 => wx_w (wx_sI σ26 16 0 (Int32.toNatClampNeg ((79 + (2 * v5)) + 1)) x3) 109 ((79 + (2 * v5)) + 1) (fun σ41 => wx_rI σ41 16 0 109 5 (fun v48 => wx_w (wx_sI σ41 16 0 (Int32.toNatClampNeg 5) (v48 + 1)) 109 5 (fun σ51 => wx_b (f_X6_beginsRun σ51) (fun v53 σ53 => some (v5, σ53))))))))
def f_X6_tracks   (x1 : Int32) (x2 : Int32) (x3 : Int32) (σ : wx_St) : Option (Int32 × wx_St) :=
  wx_o (f_X6_placeOf x1 x2) (fun v2 => wx_o (f_X6_netAt v2 σ) (fun v10 => wx_w (wx_sI σ 16 0 (Int32.toNatClampNeg (7 + v2)) x3) 109 (7 + v2) (fun σ25 => wx_b (f_X6_beginsRun σ25) (fun v27 σ27 => some (v10, σ27)))))
def f_X6_warms_15   : Nat → Int32 → Int32 → wx_St → Option (Int32 × wx_St)
  | 0, _, _, _ => none
  | n + 1, x1, x2, σ =>
  if x1 ≤ x2 then
    wx_b (f_X6_movesWarmth 16 10 64 16 1 64 0 0 σ) (fun v42 σ42 => wx_rI σ42 16 0 109 4 (fun v51 => wx_w (wx_sI σ42 16 0 (Int32.toNatClampNeg 4) (v51 + x1)) 109 4 (fun σ54 => wx_rI σ54 16 0 109 4 (fun v60 => some (v60, σ54)))))
   else
    wx_b (f_X6_steps (-6) σ) (fun v23 σ23 => (f_X6_warms_15 n) x1 (x2 + 1) σ23)
def f_X6_warms   (x1 : Int32) (σ : wx_St) : Option (Int32 × wx_St) :=
  wx_b (f_X6_movesWarmth 16 1 64 16 10 64 0 0 σ) (fun v10 σ10 => f_X6_warms_15 2000 x1 0 σ10)
def f_X6_does_134   (x1 : Int32) (σ : wx_St) : Option (Unit × wx_St) :=
  some ((), σ)
def f_X6_does   (x1 : Int32) (σ : wx_St) : Option (Unit × wx_St) :=
  if (σ.2.2.1 16 21) = 102 then
    wx_b (f_X6_feeds (σ.2.2.1 16 22) x1 σ) (fun v79 σ79 => f_X6_does_134 x1 σ79)
   else
    if (σ.2.2.1 16 21) = 109 then
      wx_b (f_X6_mends x1 σ) (fun v105 σ105 => f_X6_does_134 x1 σ105)
     else
      if (σ.2.2.1 16 21) = 115 then
        wx_b (f_X6_touches (σ.2.2.1 16 22) (σ.2.2.1 16 23) x1 σ) (fun v96 σ96 => f_X6_does_134 x1 σ96)
       else
        if (σ.2.2.1 16 21) = 116 then
          wx_b (f_X6_tracks (σ.2.2.1 16 22) (σ.2.2.1 16 23) x1 σ) (fun v66 σ66 => f_X6_does_134 x1 σ66)
         else
          if (σ.2.2.1 16 21) = 119 then
            wx_b (f_X6_warms x1 σ) (fun v114 σ114 => f_X6_does_134 x1 σ114)
           else
            wx_b (f_X6_probes (σ.2.2.1 16 22) (σ.2.2.1 16 23) σ) (fun v130 σ130 => f_X6_does_134 x1 σ130)
def f_X6_character_18   (x1 : Int32) (y0 : Int32) (σ : wx_St) : Option Int32 :=
  some y0
def f_X6_character   (x1 : Int32) (σ : wx_St) : Option Int32 :=
  if (σ.2.2.1 16 9) ≤ x1 then
    f_X6_character_18 x1 (-1) σ
   else
    wx_rI σ 16 8 80 x1 (fun v13 => f_X6_character_18 x1 v13 σ)
def f_X6_isNext_32   (x1 : Int32) (x2 : Int32) (y1 : Int32) (y2 : Int32) (σ : wx_St) : Option (Int32 × wx_St) :=
  wx_l (wx_sS σ 16 20 (y1 + y2)) (fun σ33 => wx_z x2 (some (x2, σ33)))
def f_X6_isNext_17   (x1 : Int32) (y0 : Int32) (σ : wx_St) : Option (Int32 × wx_St) :=
  if y0 = 0 then
    f_X6_isNext_32 x1 y0 (σ.2.2.1 16 20) 0 σ
   else
    f_X6_isNext_32 x1 y0 (σ.2.2.1 16 20) 1 σ
def f_X6_isNext   (x1 : Int32) (σ : wx_St) : Option (Int32 × wx_St) :=
  wx_o (f_X6_character (σ.2.2.1 16 20) σ) (fun v5 => if v5 = x1 then
    f_X6_isNext_17 x1 1 σ
   else
    f_X6_isNext_17 x1 0 σ)
def f_X6_isDigit    (σ : wx_St) : Option Int32 :=
  wx_o (f_X6_character (σ.2.2.1 16 20) σ) (fun v5 => wx_o (f_X6_within v5 48 57) (fun v12 => wx_z v12 (some v12)))
def f_X6_readsDigit    (σ : wx_St) : Option (Int32 × wx_St) :=
  wx_o (f_X6_isDigit σ) (fun v1 => if v1 = 0 then
    some (0, σ)
   else
    wx_o (f_X6_character (σ.2.2.1 16 20) σ) (fun v15 => wx_l (wx_sS σ 16 24 (v15 - 48)) (fun σ21 => wx_l (wx_sS σ21 16 20 ((σ21.2.2.1 16 20) + 1)) (fun σ31 => some (1, σ31)))))
def f_X6_readsNumber_56    (σ : wx_St) : Option (Int32 × wx_St) :=
  some (1, σ)
def f_X6_readsNumber    (σ : wx_St) : Option (Int32 × wx_St) :=
  wx_b (f_X6_readsDigit σ) (fun v1 σ1 => if v1 = 0 then
    some (0, σ1)
   else
    if (σ1.2.2.1 16 24) ≤ 0 then
      f_X6_readsNumber_56 σ1
     else
      wx_o (f_X6_isDigit σ1) (fun v17 => if v17 = 0 then
        f_X6_readsNumber_56 σ1
       else
        wx_o (f_X6_character (σ1.2.2.1 16 20) σ1) (fun v36 => wx_l (wx_sS σ1 16 24 (((10 * (σ1.2.2.1 16 24)) + v36) - 48)) (fun σ43 => wx_l (wx_sS σ43 16 20 ((σ43.2.2.1 16 20) + 1)) (fun σ53 => f_X6_readsNumber_56 σ53)))))
def f_X6_isColumn    (σ : wx_St) : Option Int32 :=
  wx_o (f_X6_character (σ.2.2.1 16 20) σ) (fun v5 => wx_o (f_X6_within v5 97 104) (fun v12 => wx_z v12 (some v12)))
def f_X6_readsPlace    (σ : wx_St) : Option (Int32 × wx_St) :=
  wx_o (f_X6_isColumn σ) (fun v1 => if v1 = 0 then
    some (0, σ)
   else
    wx_o (f_X6_character (σ.2.2.1 16 20) σ) (fun v15 => wx_l (wx_sS σ 16 23 (v15 - 97)) (fun σ21 => wx_l (wx_sS σ21 16 20 ((σ21.2.2.1 16 20) + 1)) (fun σ31 => wx_b (f_X6_readsDigit σ31) (fun v35 σ35 => wx_l (wx_sS σ35 16 22 (σ35.2.2.1 16 24)) (fun σ44 => wx_z v35 (some (v35, σ44))))))))
def f_X6_readsOrder_146   (x1 : Int32) (y0 : Int32) (σ : wx_St) : Option (Int32 × wx_St) :=
  wx_z y0 (some (y0, σ))
def f_X6_readsOrder_145   (x1 : Int32) (σ : wx_St) : Option (Int32 × wx_St) :=
  f_X6_readsOrder_146 x1 0 σ
def f_X6_readsOrder_175   (y0 : Int32) (σ : wx_St) : Option (Int32 × wx_St) :=
  wx_z y0 (some (y0, σ))
def f_X6_readsOrder_174    (σ : wx_St) : Option (Int32 × wx_St) :=
  f_X6_readsOrder_175 0 σ
def f_X6_readsOrder    (σ : wx_St) : Option (Int32 × wx_St) :=
  wx_o (f_X6_character (σ.2.2.1 16 20) σ) (fun v6 => wx_l (wx_sS σ 16 21 v6) (fun σ9 => wx_l (wx_sS σ9 16 20 ((σ9.2.2.1 16 20) + 1)) (fun σ19 => if (σ19.2.2.1 16 21) = 102 then
    wx_b (f_X6_readsDigit σ19) (fun v118 σ118 => wx_l (wx_sS σ118 16 22 (σ118.2.2.1 16 24)) (fun σ127 => if v118 = 0 then
      f_X6_readsOrder_145 v118 σ127
     else
      wx_b (f_X6_readsDigit σ127) (fun v135 σ135 => if v135 = 0 then
        f_X6_readsOrder_145 v118 σ135
       else
        f_X6_readsOrder_146 v118 1 σ135)))
   else
    if (σ19.2.2.1 16 21) = 103 then
      wx_l (wx_sS σ19 16 20 ((σ19.2.2.1 16 20) - 1)) (fun σ193 => some (0, σ193))
     else
      if (σ19.2.2.1 16 21) = 104 then
        wx_l (wx_sS σ19 16 20 ((σ19.2.2.1 16 20) - 1)) (fun σ193 => some (0, σ193))
       else
        if (σ19.2.2.1 16 21) = 105 then
          wx_l (wx_sS σ19 16 20 ((σ19.2.2.1 16 20) - 1)) (fun σ193 => some (0, σ193))
         else
          if (σ19.2.2.1 16 21) = 106 then
            wx_l (wx_sS σ19 16 20 ((σ19.2.2.1 16 20) - 1)) (fun σ193 => some (0, σ193))
           else
            if (σ19.2.2.1 16 21) = 107 then
              wx_l (wx_sS σ19 16 20 ((σ19.2.2.1 16 20) - 1)) (fun σ193 => some (0, σ193))
             else
              if (σ19.2.2.1 16 21) = 108 then
                wx_l (wx_sS σ19 16 20 ((σ19.2.2.1 16 20) - 1)) (fun σ193 => some (0, σ193))
               else
                if (σ19.2.2.1 16 21) = 109 then
                  wx_b (f_X6_readsDigit σ19) (fun v113 σ113 => wx_z v113 (some (v113, σ113)))
                 else
                  if (σ19.2.2.1 16 21) = 110 then
                    wx_l (wx_sS σ19 16 20 ((σ19.2.2.1 16 20) - 1)) (fun σ193 => some (0, σ193))
                   else
                    if (σ19.2.2.1 16 21) = 111 then
                      wx_l (wx_sS σ19 16 20 ((σ19.2.2.1 16 20) - 1)) (fun σ193 => some (0, σ193))
                     else
                      if (σ19.2.2.1 16 21) = 112 then
                        wx_b (f_X6_readsPlace σ19) (fun v182 σ182 => wx_z v182 (some (v182, σ182)))
                       else
                        if (σ19.2.2.1 16 21) = 113 then
                          wx_l (wx_sS σ19 16 20 ((σ19.2.2.1 16 20) - 1)) (fun σ193 => some (0, σ193))
                         else
                          if (σ19.2.2.1 16 21) = 114 then
                            wx_l (wx_sS σ19 16 20 ((σ19.2.2.1 16 20) - 1)) (fun σ193 => some (0, σ193))
                           else
                            if (σ19.2.2.1 16 21) = 115 then
                              wx_b (f_X6_readsPlace σ19) (fun v148 σ148 => if v148 = 0 then
                                f_X6_readsOrder_174 σ148
                               else
                                wx_b (f_X6_isNext 61 σ148) (fun v157 σ157 => if v157 = 0 then
                                  f_X6_readsOrder_174 σ157
                                 else
                                  wx_b (f_X6_readsDigit σ157) (fun v164 σ164 => if v164 = 0 then
                                    f_X6_readsOrder_174 σ164
                                   else
                                    f_X6_readsOrder_175 1 σ164)))
                             else
                              if (σ19.2.2.1 16 21) = 116 then
                                wx_b (f_X6_readsDigit σ19) (fun v113 σ113 => wx_z v113 (some (v113, σ113)))
                               else
                                if (σ19.2.2.1 16 21) = 117 then
                                  wx_l (wx_sS σ19 16 20 ((σ19.2.2.1 16 20) - 1)) (fun σ193 => some (0, σ193))
                                 else
                                  if (σ19.2.2.1 16 21) = 118 then
                                    wx_l (wx_sS σ19 16 20 ((σ19.2.2.1 16 20) - 1)) (fun σ193 => some (0, σ193))
                                   else
                                    if (σ19.2.2.1 16 21) = 119 then
                                      wx_b (f_X6_readsNumber σ19) (fun v177 σ177 => wx_z v177 (some (v177, σ177)))
                                     else
                                      wx_l (wx_sS σ19 16 20 ((σ19.2.2.1 16 20) - 1)) (fun σ193 => some (0, σ193)))))
def f_X6_readsPlaces_24   (x1 : Int32) (σ : wx_St) : Option (Int32 × wx_St) :=
  wx_z x1 (some (x1, σ))
def f_X6_readsPlaces_5   : Nat → Int32 → wx_St → Option (Int32 × wx_St)
  | 0, _, _ => none
  | n + 1, x1, σ =>
  if x1 = 0 then
    f_X6_readsPlaces_24 x1 σ
   else
    wx_o (f_X6_isColumn σ) (fun v10 => if v10 = 0 then
      f_X6_readsPlaces_24 x1 σ
     else
      wx_b (f_X6_readsPlace σ) (fun v17 σ17 => (f_X6_readsPlaces_5 n) v17 σ17))
def f_X6_readsPlaces    (σ : wx_St) : Option (Int32 × wx_St) :=
  wx_b (f_X6_readsPlace σ) (fun v1 σ1 => f_X6_readsPlaces_5 2000 v1 σ1)
def f_X6_findFault_28    (σ : wx_St) : Option (Int32 × wx_St) :=
  some ((σ.2.2.1 16 20), σ)
def f_X6_findFault_33  (K5 : wx_St → Option (Int32 × wx_St))  (σ : wx_St) : Option (Int32 × wx_St) :=
  if (σ.2.2.1 16 20) = (σ.2.2.1 16 9) then
    some ((-6), σ)
   else
    wx_b (f_X6_isNext 59 σ) (fun v50 σ50 => if v50 = 0 then
      some ((σ50.2.2.1 16 20), σ50)
     else
      K5 σ50)
def f_X6_findFault_5   : Nat → wx_St → Option (Int32 × wx_St)
  | 0, _ => none
  | n + 1, σ =>
  wx_b (f_X6_readsOrder σ) (fun v6 σ6 => if v6 = 0 then
    f_X6_findFault_28 σ6
   else
    if (σ6.2.2.1 16 21) = 116 then
      wx_b (f_X6_readsPlaces σ6) (fun v22 σ22 => if v22 = 0 then
        f_X6_findFault_28 σ22
       else
        f_X6_findFault_33 (f_X6_findFault_5 n) σ22)
     else
      f_X6_findFault_33 (f_X6_findFault_5 n) σ6)
def f_X6_findFault    (σ : wx_St) : Option (Int32 × wx_St) :=
  wx_l (wx_sS σ 16 20 0) (fun σ2 => f_X6_findFault_5 2000 σ2)
def f_X6_moves_3 (o0 : Nat) (k0 : Nat) (n0 : Nat) (o2 : Nat) (k2 : Nat) (n2 : Nat)  : Nat → Int32 → Int32 → Int32 → wx_St → Option (Unit × wx_St)
  | 0, _, _, _, _ => none
  | n + 1, x1, x3, x4, σ =>
  if 109 ≤ x4 then
    some ((), σ)
   else
    wx_rI σ o0 k0 n0 (x1 + x4) (fun v20 => wx_w (wx_sI σ o2 k2 (Int32.toNatClampNeg (x3 + x4)) v20) n2 (x3 + x4) (fun σ21 => (f_X6_moves_3 o0 k0 n0 o2 k2 n2 n) x1 x3 (x4 + 1) σ21))
def f_X6_moves (o0 : Nat) (k0 : Nat) (n0 : Nat) (o2 : Nat) (k2 : Nat) (n2 : Nat)  (x1 : Int32) (x3 : Int32) (σ : wx_St) : Option (Unit × wx_St) :=
  f_X6_moves_3 o0 k0 n0 o2 k2 n2 2000 x1 x3 0 σ
def f_X6_record_79    (σ : wx_St) : Option (Unit × wx_St) :=
  wx_b (f_X6_moves 16 0 109 16 2 654 0 ((σ.2.2.1 16 4) * 109) σ) (fun v95 σ95 => wx_b (f_X6_movesWarmth 16 1 64 16 3 384 0 ((σ95.2.2.1 16 4) * 64) σ95) (fun v114 σ114 => wx_l (wx_sS σ114 16 4 ((σ114.2.2.1 16 4) + 1)) (fun σ124 => some ((), σ124))))
def f_X6_record_41   : Nat → Int32 → wx_St → Option (Unit × wx_St)
  | 0, _, _ => none
  | n + 1, x1, σ =>
  if 320 ≤ x1 then
    wx_l (wx_sS σ 16 4 ((σ.2.2.1 16 4) - 1)) (fun σ76 => f_X6_record_79 σ76)
   else
    wx_rF σ 16 3 384 (x1 + 64) (fun v61 => wx_w (wx_sF σ 16 3 (Int32.toNatClampNeg x1) v61) 384 x1 (fun σ62 => (f_X6_record_41 n) (x1 + 1) σ62))
def f_X6_record_11   : Nat → Int32 → wx_St → Option (Unit × wx_St)
  | 0, _, _ => none
  | n + 1, x1, σ =>
  if 545 ≤ x1 then
    f_X6_record_41 2000 0 σ
   else
    wx_rI σ 16 2 654 (x1 + 109) (fun v31 => wx_w (wx_sI σ 16 2 (Int32.toNatClampNeg x1) v31) 654 x1 (fun σ32 => (f_X6_record_11 n) (x1 + 1) σ32))
def f_X6_record    (σ : wx_St) : Option (Unit × wx_St) :=
  if (σ.2.2.1 16 4) = 6 then
    f_X6_record_11 2000 0 σ
   else
    f_X6_record_79 σ
def f_X6_isTouch   (x1 : Int32) (σ : wx_St) : Option Int32 :=
  wx_rI σ 16 0 109 5 (fun v7 => wx_o (f_X6_within x1 0 (v7 - 1)) (fun v10 => wx_z v10 (some v10)))
def f_X6_isNet   (x0 : Int32) : Option Int32 :=
  wx_o (f_X6_within x0 1 7) (fun v4 => wx_z v4 (some v4))
def f_X6_whyNotFed_29   (x0 : Int32) (x1 : Int32) (y0 : Int32) : Option Int32 :=
  some y0
def f_X6_whyNotFed_14   (x0 : Int32) (x1 : Int32) : Option Int32 :=
  f_X6_whyNotFed_29 x0 x1 (-1)
def f_X6_whyNotFed   (x0 : Int32) (x1 : Int32) : Option Int32 :=
  wx_o (f_X6_isNet x0) (fun v1 => if v1 = 0 then
    f_X6_whyNotFed_14 x0 x1
   else
    wx_o (f_X6_isNet x1) (fun v8 => if v8 = 0 then
      f_X6_whyNotFed_14 x0 x1
     else
      if x0 = x1 then
        f_X6_whyNotFed_29 x0 x1 (-2)
       else
        f_X6_whyNotFed_29 x0 x1 0))
def f_X6_whyNotProbed_30   (x1 : Int32) (x2 : Int32) (y0 : Int32) (σ : wx_St) : Option Int32 :=
  some y0
def f_X6_whyNotProbed   (x1 : Int32) (x2 : Int32) (σ : wx_St) : Option Int32 :=
  wx_o (f_X6_isPlace x1 x2) (fun v2 => if v2 = 0 then
    f_X6_whyNotProbed_30 x1 x2 (-1) σ
   else
    wx_rI σ 16 0 109 6 (fun v18 => if v18 = 8 then
      f_X6_whyNotProbed_30 x1 x2 (-4) σ
     else
      f_X6_whyNotProbed_30 x1 x2 0 σ))
def f_X6_hasNeighbourOf_45  (K5 : Int32 → Int32 → Int32 → Int32 → wx_St → Option Int32) (x1 : Int32) (x2 : Int32) (x3 : Int32) (x4 : Int32) (x5 : Int32) (y0 : Int32) (σ : wx_St) : Option Int32 :=
  K5 x1 x2 y0 (x4 + 1) σ
def f_X6_hasNeighbourOf_40  (K5 : Int32 → Int32 → Int32 → Int32 → wx_St → Option Int32) (x1 : Int32) (x2 : Int32) (x3 : Int32) (x4 : Int32) (x5 : Int32) (σ : wx_St) : Option Int32 :=
  f_X6_hasNeighbourOf_45 K5 x1 x2 x3 x4 x5 1 σ
def f_X6_hasNeighbourOf_44  (K5 : Int32 → Int32 → Int32 → Int32 → wx_St → Option Int32) (x1 : Int32) (x2 : Int32) (x3 : Int32) (x4 : Int32) (x5 : Int32) (σ : wx_St) : Option Int32 :=
  f_X6_hasNeighbourOf_45 K5 x1 x2 x3 x4 x5 0 σ
def f_X6_hasNeighbourOf_5   : Nat → Int32 → Int32 → Int32 → Int32 → wx_St → Option Int32
  | 0, _, _, _, _, _ => none
  | n + 1, x1, x2, x3, x4, σ =>
  if 4 ≤ x4 then
    wx_z x3 (some x3)
   else
    wx_o (f_X6_neighbour x1 x4) (fun v14 => if x3 = 0 then
      if v14 = (-6) then
        f_X6_hasNeighbourOf_44 (f_X6_hasNeighbourOf_5 n) x1 x2 x3 x4 v14 σ
       else
        wx_o (f_X6_netAt v14 σ) (fun v33 => if v33 = x2 then
          f_X6_hasNeighbourOf_40 (f_X6_hasNeighbourOf_5 n) x1 x2 x3 x4 v14 σ
         else
          f_X6_hasNeighbourOf_44 (f_X6_hasNeighbourOf_5 n) x1 x2 x3 x4 v14 σ)
     else
      f_X6_hasNeighbourOf_40 (f_X6_hasNeighbourOf_5 n) x1 x2 x3 x4 v14 σ)
def f_X6_hasNeighbourOf   (x1 : Int32) (x2 : Int32) (σ : wx_St) : Option Int32 :=
  f_X6_hasNeighbourOf_5 2000 x1 x2 0 0 σ
def f_X6_whyNotTouched_67   (x1 : Int32) (x2 : Int32) (x3 : Int32) (x4 : Int32) (σ : wx_St) : Option Int32 :=
  some (-5)
def f_X6_whyNotTouched_86   (x1 : Int32) (x2 : Int32) (x3 : Int32) (x4 : Int32) (y0 : Int32) (σ : wx_St) : Option Int32 :=
  some y0
def f_X6_whyNotTouched   (x1 : Int32) (x2 : Int32) (x3 : Int32) (σ : wx_St) : Option Int32 :=
  wx_o (f_X6_isPlace x1 x2) (fun v2 => if v2 = 0 then
    some (-1)
   else
    wx_o (f_X6_isNet x3) (fun v11 => if v11 = 0 then
      some (-2)
     else
      wx_o (f_X6_placeOf x1 x2) (fun v22 => wx_o (f_X6_netAt v22 σ) (fun v30 => if v30 = 0 then
        f_X6_whyNotTouched_67 x1 x2 x3 v22 σ
       else
        wx_o (f_X6_netAt v22 σ) (fun v39 => if v39 = x3 then
          f_X6_whyNotTouched_67 x1 x2 x3 v22 σ
         else
          wx_o (f_X6_touchAt v22 σ) (fun v49 => if v49 = (-6) then
            wx_o (f_X6_hasNeighbourOf v22 x3 σ) (fun v61 => if v61 = 0 then
              f_X6_whyNotTouched_67 x1 x2 x3 v22 σ
             else
              wx_rI σ 16 0 109 5 (fun v75 => if v75 = 3 then
                f_X6_whyNotTouched_86 x1 x2 x3 v22 (-4) σ
               else
                f_X6_whyNotTouched_86 x1 x2 x3 v22 0 σ))
           else
            f_X6_whyNotTouched_67 x1 x2 x3 v22 σ))))))
def f_X6_whyNotTracked_119  (K51 : Int32 → Int32 → Int32 → Int32 → Int32 → Int32 → wx_St → Option Int32) (x1 : Int32) (x2 : Int32) (x3 : Int32) (x4 : Int32) (x5 : Int32) (x6 : Int32) (x7 : Int32) (x8 : Int32) (y0 : Int32) (σ : wx_St) : Option Int32 :=
  K51 x1 x2 x3 x4 y0 (x6 + 1) σ
def f_X6_whyNotTracked_114  (K51 : Int32 → Int32 → Int32 → Int32 → Int32 → Int32 → wx_St → Option Int32) (x1 : Int32) (x2 : Int32) (x3 : Int32) (x4 : Int32) (x5 : Int32) (x6 : Int32) (x7 : Int32) (x8 : Int32) (σ : wx_St) : Option Int32 :=
  f_X6_whyNotTracked_119 K51 x1 x2 x3 x4 x5 x6 x7 x8 1 σ
def f_X6_whyNotTracked_118  (K51 : Int32 → Int32 → Int32 → Int32 → Int32 → Int32 → wx_St → Option Int32) (x1 : Int32) (x2 : Int32) (x3 : Int32) (x4 : Int32) (x5 : Int32) (x6 : Int32) (x7 : Int32) (x8 : Int32) (σ : wx_St) : Option Int32 :=
  f_X6_whyNotTracked_119 K51 x1 x2 x3 x4 x5 x6 x7 x8 0 σ
def f_X6_whyNotTracked_84  (K51 : Int32 → Int32 → Int32 → Int32 → Int32 → Int32 → wx_St → Option Int32) (x1 : Int32) (x2 : Int32) (x3 : Int32) (x4 : Int32) (x5 : Int32) (x6 : Int32) (x7 : Int32) (y0 : Int32) (σ : wx_St) : Option Int32 :=
  if x5 = 0 then
    if y0 = (-6) then
      f_X6_whyNotTracked_118 K51 x1 x2 x3 x4 x5 x6 x7 y0 σ
     else
      wx_o (f_X6_touchPart y0 1 σ) (fun v102 => wx_o (f_X6_netAt x4 σ) (fun v108 => if v102 = v108 then
        f_X6_whyNotTracked_114 K51 x1 x2 x3 x4 x5 x6 x7 y0 σ
       else
        f_X6_whyNotTracked_118 K51 x1 x2 x3 x4 x5 x6 x7 y0 σ))
   else
    f_X6_whyNotTracked_114 K51 x1 x2 x3 x4 x5 x6 x7 y0 σ
def f_X6_whyNotTracked_138   (x1 : Int32) (x2 : Int32) (x3 : Int32) (x4 : Int32) (x5 : Int32) (x6 : Int32) (y0 : Int32) (σ : wx_St) : Option Int32 :=
  some y0
def f_X6_whyNotTracked_51   : Nat → Int32 → Int32 → Int32 → Int32 → Int32 → Int32 → wx_St → Option Int32
  | 0, _, _, _, _, _, _, _ => none
  | n + 1, x1, x2, x3, x4, x5, x6, σ =>
  if 4 ≤ x6 then
    if x5 = 0 then
      f_X6_whyNotTracked_138 x1 x2 x3 x4 x5 x6 0 σ
     else
      f_X6_whyNotTracked_138 x1 x2 x3 x4 x5 x6 (-5) σ
   else
    wx_o (f_X6_neighbour x4 x6) (fun v61 => if v61 = (-6) then
      f_X6_whyNotTracked_84 (f_X6_whyNotTracked_51 n) x1 x2 x3 x4 x5 x6 v61 (-6) σ
     else
      wx_o (f_X6_touchAt v61 σ) (fun v81 => f_X6_whyNotTracked_84 (f_X6_whyNotTracked_51 n) x1 x2 x3 x4 x5 x6 v61 v81 σ))
def f_X6_whyNotTracked_46   (x1 : Int32) (x2 : Int32) (x3 : Int32) (x4 : Int32) (y0 : Int32) (σ : wx_St) : Option Int32 :=
  f_X6_whyNotTracked_51 2000 x1 x2 x3 x4 y0 0 σ
def f_X6_whyNotTracked   (x1 : Int32) (x2 : Int32) (x3 : Int32) (σ : wx_St) : Option Int32 :=
  wx_o (f_X6_isPlace x1 x2) (fun v2 => if v2 = 0 then
    some (-1)
   else
    wx_o (f_X6_within x3 0 7) (fun v14 => if v14 = 0 then
      some (-2)
     else
      wx_o (f_X6_placeOf x1 x2) (fun v25 => wx_o (f_X6_touchAt v25 σ) (fun v33 => if v33 = (-6) then
        f_X6_whyNotTracked_46 x1 x2 x3 v25 0 σ
       else
        f_X6_whyNotTracked_46 x1 x2 x3 v25 1 σ))))
def f_X6_whyNotWarmed_34   (x1 : Int32) (y0 : Int32) (σ : wx_St) : Option Int32 :=
  some y0
def f_X6_whyNotWarmed   (x1 : Int32) (σ : wx_St) : Option Int32 :=
  wx_o (f_X6_within x1 1 50) (fun v4 => if v4 = 0 then
    f_X6_whyNotWarmed_34 x1 (-2) σ
   else
    wx_rI σ 16 0 109 4 (fun v20 => if (v20 + x1) ≤ 100 then
      f_X6_whyNotWarmed_34 x1 0 σ
     else
      f_X6_whyNotWarmed_34 x1 (-5) σ))
def f_X6_whyNotDone_106   (x1 : Int32) (y0 : Int32) (σ : wx_St) : Option Int32 :=
  some y0
def f_X6_whyNotDone   (x1 : Int32) (σ : wx_St) : Option Int32 :=
  if (σ.2.2.1 16 21) = 102 then
    wx_o (f_X6_whyNotFed (σ.2.2.1 16 22) x1) (fun v75 => some v75)
   else
    if (σ.2.2.1 16 21) = 109 then
      wx_o (f_X6_isTouch x1 σ) (fun v95 => if v95 = 0 then
        f_X6_whyNotDone_106 x1 (-1) σ
       else
        f_X6_whyNotDone_106 x1 0 σ)
     else
      if (σ.2.2.1 16 21) = 115 then
        wx_o (f_X6_whyNotTouched (σ.2.2.1 16 22) (σ.2.2.1 16 23) x1 σ) (fun v89 => some v89)
       else
        if (σ.2.2.1 16 21) = 116 then
          wx_o (f_X6_whyNotTracked (σ.2.2.1 16 22) (σ.2.2.1 16 23) x1 σ) (fun v66 => some v66)
         else
          if (σ.2.2.1 16 21) = 119 then
            wx_o (f_X6_whyNotWarmed x1 σ) (fun v109 => some v109)
           else
            wx_o (f_X6_whyNotProbed (σ.2.2.1 16 22) (σ.2.2.1 16 23) σ) (fun v122 => some v122)
def f_X6_carryOut_118  (K25 : Int32 → Int32 → wx_St → Option (Int32 × wx_St)) (x1 : Int32) (x2 : Int32) (x3 : Int32) (x4 : Int32) (σ : wx_St) : Option (Int32 × wx_St) :=
  wx_b (f_X6_isNext 59 σ) (fun v121 σ121 => K25 x1 x2 σ121)
def f_X6_carryOut_102  (K25 : Int32 → Int32 → wx_St → Option (Int32 × wx_St)) (K66 : Int32 → Int32 → Int32 → Int32 → wx_St → Option (Int32 × wx_St)) (x1 : Int32) (x2 : Int32) (x3 : Int32) (x4 : Int32) (σ : wx_St) : Option (Int32 × wx_St) :=
  if x2 = 0 then
    f_X6_carryOut_118 K25 x1 x2 x3 x4 σ
   else
    if x4 = 0 then
      f_X6_carryOut_118 K25 x1 x2 x3 x4 σ
     else
      wx_o (f_X6_isColumn σ) (fun v112 => if v112 = 0 then
        f_X6_carryOut_118 K25 x1 x2 x3 x4 σ
       else
        K66 x1 x2 x3 x4 σ)
def f_X6_carryOut_89  (K25 : Int32 → Int32 → wx_St → Option (Int32 × wx_St)) (K66 : Int32 → Int32 → Int32 → Int32 → wx_St → Option (Int32 × wx_St)) (x1 : Int32) (x2 : Int32) (x3 : Int32) (x4 : Int32) (y0 : Int32) (σ : wx_St) : Option (Int32 × wx_St) :=
  if y0 = 0 then
    f_X6_carryOut_102 K25 K66 x1 y0 x3 x4 σ
   else
    wx_b (f_X6_does x3 σ) (fun v96 σ96 => f_X6_carryOut_102 K25 K66 (x1 + 1) y0 x3 x4 σ96)
def f_X6_carryOut_76  (K25 : Int32 → Int32 → wx_St → Option (Int32 × wx_St)) (K66 : Int32 → Int32 → Int32 → Int32 → wx_St → Option (Int32 × wx_St)) (x1 : Int32) (x2 : Int32) (x3 : Int32) (x4 : Int32) (σ : wx_St) : Option (Int32 × wx_St) :=
  wx_o (f_X6_whyNotDone x3 σ) (fun v78 => if v78 = 0 then
    f_X6_carryOut_89 K25 K66 x1 x2 x3 x4 1 σ
   else
    f_X6_carryOut_89 K25 K66 x1 x2 x3 x4 0 σ)
def f_X6_carryOut_66  (K25 : Int32 → Int32 → wx_St → Option (Int32 × wx_St)) : Nat → Int32 → Int32 → Int32 → Int32 → wx_St → Option (Int32 × wx_St)
  | 0, _, _, _, _, _ => none
  | n + 1, x1, x2, x3, x4, σ =>
  if x4 = 0 then
    f_X6_carryOut_76 K25 (f_X6_carryOut_66 K25 n) x1 x2 x3 x4 σ
   else
    wx_b (f_X6_readsPlace σ) (fun v72 σ72 => f_X6_carryOut_76 K25 (f_X6_carryOut_66 K25 n) x1 x2 x3 x4 σ72)
def f_X6_carryOut_64  (K25 : Int32 → Int32 → wx_St → Option (Int32 × wx_St)) (x1 : Int32) (x2 : Int32) (x3 : Int32) (y0 : Int32) (σ : wx_St) : Option (Int32 × wx_St) :=
  f_X6_carryOut_66 K25 2000 x1 x2 x3 y0 σ
def f_X6_carryOut_128   (x1 : Int32) (x2 : Int32) (σ : wx_St) : Option (Int32 × wx_St) :=
  wx_l (wx_sS σ 16 9 0) (fun σ130 => some (x1, σ130))
def f_X6_carryOut_25   : Nat → Int32 → Int32 → wx_St → Option (Int32 × wx_St)
  | 0, _, _, _ => none
  | n + 1, x1, x2, σ =>
  if x2 = 0 then
    f_X6_carryOut_128 x1 x2 σ
   else
    if (σ.2.2.1 16 9) ≤ (σ.2.2.1 16 20) then
      f_X6_carryOut_128 x1 x2 σ
     else
      wx_b (f_X6_readsOrder σ) (fun v41 σ41 => if (σ41.2.2.1 16 21) = 116 then
        f_X6_carryOut_64 (f_X6_carryOut_25 n) x1 x2 (σ41.2.2.1 16 24) 1 σ41
       else
        f_X6_carryOut_64 (f_X6_carryOut_25 n) x1 x2 (σ41.2.2.1 16 24) 0 σ41)
def f_X6_carryOut    (σ : wx_St) : Option (Int32 × wx_St) :=
  wx_b (f_X6_findFault σ) (fun v1 σ1 => if v1 = (-6) then
    wx_b (f_X6_record σ1) (fun v13 σ13 => wx_l (wx_sS σ13 16 20 0) (fun σ20 => f_X6_carryOut_25 2000 0 1 σ20))
   else
    some ((-3), σ1))
def f_X6_cool    (σ : wx_St) : Option (Int32 × wx_St) :=
  wx_b (f_X6_record σ) (fun v1 σ1 => wx_rI σ1 16 0 109 4 (fun v9 => wx_b (f_X6_beginsRun σ1) (fun v12 σ12 => some (v9, σ12))))
def f_X6_liveMany_28  (K4 : Int32 → Int32 → wx_St → Option Int32) (x1 : Int32) (x2 : Int32) (y0 : Int32) (y1 : Int32) (σ : wx_St) : Option Int32 :=
  K4 (y0 + y1) (x2 + 1) σ
def f_X6_liveMany_4   : Nat → Int32 → Int32 → wx_St → Option Int32
  | 0, _, _, _ => none
  | n + 1, x1, x2, σ =>
  wx_rI σ 16 0 109 5 (fun v10 => if v10 ≤ x2 then
    some x1
   else
    wx_o (f_X6_isLive x2 σ) (fun v17 => if v17 = 0 then
      f_X6_liveMany_28 (f_X6_liveMany_4 n) x1 x2 x1 0 σ
     else
      f_X6_liveMany_28 (f_X6_liveMany_4 n) x1 x2 x1 1 σ))
def f_X6_liveMany    (σ : wx_St) : Option Int32 :=
  f_X6_liveMany_4 2000 0 0 σ
def f_X6_pairsMany    (σ : wx_St) : Option (Int32 × wx_St) :=
  wx_b (f_X6_findPairs σ) (fun v1 σ1 => some ((σ1.2.2.1 16 16), σ1))
def f_X6_suspectsMany_24  (K4 : Int32 → Int32 → wx_St → Option Int32) (x1 : Int32) (x2 : Int32) (y0 : Int32) (y1 : Int32) (σ : wx_St) : Option Int32 :=
  K4 (y0 + y1) (x2 + 1) σ
def f_X6_suspectsMany_4   : Nat → Int32 → Int32 → wx_St → Option Int32
  | 0, _, _, _ => none
  | n + 1, x1, x2, σ =>
  if 64 ≤ x2 then
    some x1
   else
    wx_o (f_X6_isSuspect x2 σ) (fun v13 => if v13 = 0 then
      f_X6_suspectsMany_24 (f_X6_suspectsMany_4 n) x1 x2 x1 0 σ
     else
      f_X6_suspectsMany_24 (f_X6_suspectsMany_4 n) x1 x2 x1 1 σ)
def f_X6_suspectsMany    (σ : wx_St) : Option Int32 :=
  f_X6_suspectsMany_4 2000 0 0 σ
def f_X6_tracksMany_24  (K4 : Int32 → Int32 → wx_St → Option Int32) (x1 : Int32) (x2 : Int32) (y0 : Int32) (y1 : Int32) (σ : wx_St) : Option Int32 :=
  K4 (y0 + y1) (x2 + 1) σ
def f_X6_tracksMany_4   : Nat → Int32 → Int32 → wx_St → Option Int32
  | 0, _, _, _ => none
  | n + 1, x1, x2, σ =>
  if 64 ≤ x2 then
    some x1
   else
    wx_o (f_X6_netAt x2 σ) (fun v13 => if v13 ≤ 0 then
      f_X6_tracksMany_24 (f_X6_tracksMany_4 n) x1 x2 x1 0 σ
     else
      f_X6_tracksMany_24 (f_X6_tracksMany_4 n) x1 x2 x1 1 σ)
def f_X6_tracksMany    (σ : wx_St) : Option Int32 :=
  f_X6_tracksMany_4 2000 0 0 σ
def f_X6_warmest_31  (K4 : Int32 → Int32 → wx_St → Option Int32) (x1 : Int32) (x2 : Int32) (y0 : Int32) (σ : wx_St) : Option Int32 :=
  K4 y0 (x2 + 1) σ
def f_X6_warmest_4   : Nat → Int32 → Int32 → wx_St → Option Int32
  | 0, _, _, _ => none
  | n + 1, x1, x2, σ =>
  if 64 ≤ x2 then
    some x1
   else
    wx_rF σ 16 1 64 x2 (fun v15 => wx_rF σ 16 1 64 x1 (fun v21 => if (Op.cmpValue (FP.fcmp v15 v21) .l) ≤ 0 then
      f_X6_warmest_31 (f_X6_warmest_4 n) x1 x2 x1 σ
     else
      f_X6_warmest_31 (f_X6_warmest_4 n) x1 x2 x2 σ))
def f_X6_warmest    (σ : wx_St) : Option Int32 :=
  f_X6_warmest_4 2000 0 1 σ
def f_X6_count   (x1 : Int32) (σ : wx_St) : Option (Int32 × wx_St) :=
  if x1 = 0 then
    wx_rI σ 16 0 109 4 (fun v81 => some (v81, σ))
   else
    if x1 = 1 then
      wx_rI σ 16 0 109 5 (fun v88 => some (v88, σ))
     else
      if x1 = 2 then
        wx_o (f_X6_liveMany σ) (fun v91 => some (v91, σ))
       else
        if x1 = 3 then
          wx_rI σ 16 0 109 6 (fun v101 => some (v101, σ))
         else
          if x1 = 4 then
            wx_o (f_X6_tracksMany σ) (fun v104 => some (v104, σ))
           else
            if x1 = 5 then
              wx_o (f_X6_suspectsMany σ) (fun v109 => some (v109, σ))
             else
              if x1 = 6 then
                wx_b (f_X6_singlesMany σ) (fun v114 σ114 => some (v114, σ114))
               else
                if x1 = 7 then
                  wx_b (f_X6_pairsMany σ) (fun v119 σ119 => some (v119, σ119))
                 else
                  if x1 = 8 then
                    wx_o (f_X6_warmest σ) (fun v124 => some (v124, σ))
                   else
                    if x1 = 9 then
                      wx_rI σ 16 0 109 0 (fun v133 => some (v133, σ))
                     else
                      if x1 = 10 then
                        wx_rI σ 16 0 109 1 (fun v140 => some (v140, σ))
                       else
                        if x1 = 11 then
                          wx_rI σ 16 0 109 2 (fun v147 => some (v147, σ))
                         else
                          if x1 = 12 then
                            wx_rI σ 16 0 109 3 (fun v154 => some (v154, σ))
                           else
                            if x1 = 13 then
                              some ((σ.2.2.1 16 9), σ)
                             else
                              if x1 = 14 then
                                some ((σ.2.2.1 16 4), σ)
                               else
                                some ((-2), σ)
def f_X6_fault    (σ : wx_St) : Option (Int32 × wx_St) :=
  wx_b (f_X6_findFault σ) (fun v1 σ1 => some (v1, σ1))
def f_X6_feed   (x1 : Int32) (x2 : Int32) (σ : wx_St) : Option (Int32 × wx_St) :=
  wx_o (f_X6_whyNotFed x1 x2) (fun v2 => if 0 ≤ v2 then
    wx_b (f_X6_record σ) (fun v13 σ13 => wx_b (f_X6_feeds x1 x2 σ13) (fun v19 σ19 => some (v19, σ19)))
   else
    some (v2, σ))
def f_X6_mean_4   : Nat → UInt64 → Int32 → wx_St → Option Int64
  | 0, _, _, _ => none
  | n + 1, x1, x3, σ =>
  if 64 ≤ x3 then
    wx_d (FP.ddiv x1 (4634204016564240384 : UInt64)) (fun v30 => wx_o (f_Jxe99ae_doubleToLongBits_ccdee v30) (fun v31 => some v31))
   else
    wx_rF σ 16 1 64 x3 (fun v16 => wx_d (FP.f2d v16) (fun v17 => wx_d (FP.dadd x1 v17) (fun v18 => (f_X6_mean_4 n) v18 (x3 + 1) σ)))
def f_X6_mean    (σ : wx_St) : Option Int64 :=
  f_X6_mean_4 2000 FP.dconst0 0 σ
def f_X6_mend   (x1 : Int32) (σ : wx_St) : Option (Int32 × wx_St) :=
  wx_o (f_X6_isTouch x1 σ) (fun v2 => if v2 = 0 then
    some ((-1), σ)
   else
    wx_b (f_X6_record σ) (fun v11 σ11 => wx_b (f_X6_mends x1 σ11) (fun v16 σ16 => some (v16, σ16))))
def f_X6_most_21   (x0 : Int32) (y0 : Int32) : Option Int32 :=
  some y0
def f_X6_most   (x0 : Int32) : Option Int32 :=
  if x0 = 0 then
    f_X6_most_21 x0 24
   else
    if x0 = 1 then
      f_X6_most_21 x0 50
     else
      f_X6_most_21 x0 99
def f_X6_ofNet_49  (K17 : Int32 → Int32 → Int32 → UInt32 → Int32 → wx_St → Option Int32) (x1 : Int32) (x2 : Int32) (x3 : Int32) (x4 : UInt32) (x5 : Int32) (σ : wx_St) : Option Int32 :=
  K17 x1 x2 x3 x4 (x5 + 1) σ
def f_X6_ofNet_95   (x1 : Int32) (x2 : Int32) (x3 : Int32) (x4 : UInt32) (x5 : Int32) (y0 : Int32) (σ : wx_St) : Option Int32 :=
  some y0
def f_X6_ofNet_17   : Nat → Int32 → Int32 → Int32 → UInt32 → Int32 → wx_St → Option Int32
  | 0, _, _, _, _, _, _ => none
  | n + 1, x1, x2, x3, x4, x5, σ =>
  if 64 ≤ x5 then
    if x2 = 0 then
      f_X6_ofNet_95 x1 x2 x3 x4 x5 x3 σ
     else
      if x2 = 1 then
        wx_rI σ 16 0 109 (71 + x1) (fun v76 => f_X6_ofNet_95 x1 x2 x3 x4 x5 v76 σ)
       else
        if x2 = 2 then
          wx_o (f_Jxf58ca_floatToIntBits_5c35a x4) (fun v87 => f_X6_ofNet_95 x1 x2 x3 x4 x5 v87 σ)
         else
          f_X6_ofNet_95 x1 x2 x3 x4 x5 (-2) σ
   else
    wx_o (f_X6_netAt x5 σ) (fun v27 => if v27 = x1 then
      wx_rF σ 16 1 64 x5 (fun v45 => wx_f (FP.fadd x4 v45) (fun v46 => f_X6_ofNet_49 (f_X6_ofNet_17 n) x1 x2 (x3 + 1) v46 x5 σ))
     else
      f_X6_ofNet_49 (f_X6_ofNet_17 n) x1 x2 x3 x4 x5 σ)
def f_X6_ofNet   (x1 : Int32) (x2 : Int32) (σ : wx_St) : Option Int32 :=
  wx_o (f_X6_isNet x1) (fun v1 => if v1 = 0 then
    some (-1)
   else
    f_X6_ofNet_17 2000 x1 x2 0 FP.fconst0 0 σ)
def f_X6_ofTouch_78   (x1 : Int32) (x2 : Int32) (y0 : Int32) (σ : wx_St) : Option Int32 :=
  some y0
def f_X6_ofTouch   (x1 : Int32) (x2 : Int32) (σ : wx_St) : Option Int32 :=
  wx_o (f_X6_isTouch x1 σ) (fun v2 => if v2 = 0 then
    some (-1)
   else
    if x2 = 0 then
      wx_o (f_X6_touchPart x1 0 σ) (fun v43 => some v43)
     else
      if x2 = 1 then
        wx_o (f_X6_touchPart x1 0 σ) (fun v51 => wx_o (f_X6_netAt v51 σ) (fun v54 => some v54))
       else
        if x2 = 2 then
          wx_o (f_X6_touchPart x1 1 σ) (fun v61 => some v61)
         else
          if x2 = 3 then
            wx_o (f_X6_isLive x1 σ) (fun v67 => if v67 = 0 then
              f_X6_ofTouch_78 x1 x2 0 σ
             else
              f_X6_ofTouch_78 x1 x2 1 σ)
           else
            some (-2))
def f_X6_probe   (x1 : Int32) (x2 : Int32) (σ : wx_St) : Option (Int32 × wx_St) :=
  wx_o (f_X6_whyNotProbed x1 x2 σ) (fun v3 => if 0 ≤ v3 then
    wx_b (f_X6_record σ) (fun v14 σ14 => wx_b (f_X6_probes x1 x2 σ14) (fun v20 σ20 => some (v20, σ20)))
   else
    some (v3, σ))
def f_X6_put_52  (K8 : Int64 → Int32 → Int64 → Int32 → wx_St → Option (Int32 × wx_St)) (x1 : Int64) (x3 : Int32) (x4 : Int64) (x6 : Int32) (y0 : Int32) (σ : wx_St) : Option (Int32 × wx_St) :=
  K8 x1 (x3 + 1) ((x4.toUInt64 >>> ((8 : Int32).toInt64.toUInt64 &&& Int64.toUInt64 63)).toInt64) y0 σ
def f_X6_put_51  (K8 : Int64 → Int32 → Int64 → Int32 → wx_St → Option (Int32 × wx_St)) (x1 : Int64) (x3 : Int32) (x4 : Int64) (x6 : Int32) (σ : wx_St) : Option (Int32 × wx_St) :=
  f_X6_put_52 K8 x1 x3 x4 x6 0 σ
def f_X6_put_83   (x1 : Int64) (x3 : Int32) (x4 : Int64) (x6 : Int32) (σ : wx_St) : Option (Int32 × wx_St) :=
  some ((-2), σ)
def f_X6_put_105   : Nat → Int64 → Int32 → Int64 → Int32 → Int32 → wx_St → Option (Int32 × wx_St)
  | 0, _, _, _, _, _, _ => none
  | n + 1, x1, x3, x4, x6, x7, σ =>
  if x7 < 0 then
    some ((σ.2.2.1 16 9), σ)
   else
    wx_w (wx_sI σ 16 8 (Int32.toNatClampNeg (σ.2.2.1 16 9)) ((((x1.toUInt64 >>> ((8 * x7).toInt64.toUInt64 &&& Int64.toUInt64 63)).toInt64) &&& (255 : Int64)).toInt32)) 80 (σ.2.2.1 16 9) (fun σ130 => wx_l (wx_sS σ130 16 9 ((σ130.2.2.1 16 9) + 1)) (fun σ138 => (f_X6_put_105 n) x1 x3 x4 x6 (x7 + (-1)) σ138))
def f_X6_put_67   (x1 : Int64) (x3 : Int32) (x4 : Int64) (x6 : Int32) (σ : wx_St) : Option (Int32 × wx_St) :=
  if x3 = 0 then
    f_X6_put_83 x1 x3 x4 x6 σ
   else
    if x6 = 0 then
      f_X6_put_83 x1 x3 x4 x6 σ
     else
      if (lg_cmp x4 (0 : Int64)) = 0 then
        if ((σ.2.2.1 16 9) + x3) ≤ 80 then
          f_X6_put_105 2000 x1 x3 x4 x6 (x3 - 1) σ
         else
          some ((-4), σ)
       else
        f_X6_put_83 x1 x3 x4 x6 σ
def f_X6_put_8   : Nat → Int64 → Int32 → Int64 → Int32 → wx_St → Option (Int32 × wx_St)
  | 0, _, _, _, _, _ => none
  | n + 1, x1, x3, x4, x6, σ =>
  if 8 ≤ x3 then
    f_X6_put_67 x1 x3 x4 x6 σ
   else
    if (lg_cmp (x4 &&& (255 : Int64)) (0 : Int64)) = 0 then
      f_X6_put_67 x1 x3 x4 x6 σ
     else
      if x6 = 0 then
        f_X6_put_51 (f_X6_put_8 n) x1 x3 x4 x6 σ
       else
        wx_o (f_X6_within ((x4 &&& (255 : Int64)).toInt32) 33 126) (fun v41 => if v41 = 0 then
          f_X6_put_51 (f_X6_put_8 n) x1 x3 x4 x6 σ
         else
          f_X6_put_52 (f_X6_put_8 n) x1 x3 x4 x6 1 σ)
def f_X6_put   (x1 : Int64) (σ : wx_St) : Option (Int32 × wx_St) :=
  f_X6_put_8 2000 x1 0 x1 1 σ
def f_X6_reading_39   (x1 : Int32) (x2 : Int32) (y0 : Int32) (σ : wx_St) : Option Int32 :=
  some y0
def f_X6_reading   (x1 : Int32) (x2 : Int32) (σ : wx_St) : Option Int32 :=
  wx_rI σ 16 0 109 6 (fun v8 => wx_o (f_X6_within x1 0 (v8 - 1)) (fun v11 => if v11 = 0 then
    some (-1)
   else
    wx_o (f_X6_within x2 0 2) (fun v22 => if v22 = 0 then
      f_X6_reading_39 x1 x2 (-2) σ
     else
      wx_o (f_X6_readingPart x1 x2 σ) (fun v31 => f_X6_reading_39 x1 x2 v31 σ))))
def f_X6_readsIn_47   : Nat → Int32 → Int32 → Int32 → Int32 → Int32 → wx_St → Option (Int32 × wx_St)
  | 0, _, _, _, _, _, _ => none
  | n + 1, x1, x2, x3, x4, x5, σ =>
  if 200 < x5 then
    some ((-6), σ)
   else
    wx_rF σ 16 10 64 x4 (fun v61 => wx_o (f_X6_readOf v61) (fun v62 => if v62 < x3 then
      wx_b (f_X6_steps (-6) σ) (fun v75 σ75 => (f_X6_readsIn_47 n) x1 x2 x3 x4 (x5 + 1) σ75)
     else
      some (x5, σ)))
def f_X6_readsIn   (x1 : Int32) (x2 : Int32) (x3 : Int32) (σ : wx_St) : Option (Int32 × wx_St) :=
  wx_o (f_X6_isPlace x1 x2) (fun v2 => if v2 = 0 then
    some ((-1), σ)
   else
    wx_o (f_X6_within x3 1 9999) (fun v15 => if v15 = 0 then
      some ((-2), σ)
     else
      wx_b (f_X6_movesWarmth 16 1 64 16 10 64 0 0 σ) (fun v34 σ34 => wx_o (f_X6_placeOf x1 x2) (fun v39 => f_X6_readsIn_47 2000 x1 x2 x3 v39 0 σ34))))
def f_X6_restore   (x1 : Int32) (σ : wx_St) : Option (Int32 × wx_St) :=
  wx_o (f_X6_within x1 0 1) (fun v3 => if v3 = 0 then
    some ((-2), σ)
   else
    wx_rI σ 16 7 2 x1 (fun v17 => if v17 = 0 then
      some ((-5), σ)
     else
      wx_b (f_X6_record σ) (fun v25 σ25 => wx_b (f_X6_moves 16 5 218 16 0 109 (109 * x1) 0 σ25) (fun v41 σ41 => wx_b (f_X6_movesWarmth 16 6 128 16 1 64 (64 * x1) 0 σ41) (fun v57 σ57 => wx_rI σ57 16 0 109 5 (fun v65 => some (v65, σ57)))))))
def f_X6_row_88  (K30 : Int32 → Int32 → Int32 → Int32 → wx_St → Option (Int32 × wx_St)) (x1 : Int32) (x2 : Int32) (x3 : Int32) (x4 : Int32) (x5 : Int32) (y0 : Int32) (σ : wx_St) : Option (Int32 × wx_St) :=
  K30 x1 x2 (x3 ||| (y0 <<< (x4 &&& 31))) (x4 + 1) σ
def f_X6_row_30   : Nat → Int32 → Int32 → Int32 → Int32 → wx_St → Option (Int32 × wx_St)
  | 0, _, _, _, _, _ => none
  | n + 1, x1, x2, x3, x4, σ =>
  if 8 ≤ x4 then
    some (x3, σ)
   else
    wx_o (f_X6_placeOf x1 x4) (fun v40 => if x2 = 0 then
      wx_o (f_X6_netAt v40 σ) (fun v52 => if v52 ≤ 0 then
        f_X6_row_88 (f_X6_row_30 n) x1 x2 x3 x4 v40 0 σ
       else
        f_X6_row_88 (f_X6_row_30 n) x1 x2 x3 x4 v40 1 σ)
     else
      if x2 = 1 then
        wx_rI σ 16 13 64 v40 (fun v77 => f_X6_row_88 (f_X6_row_30 n) x1 x2 x3 x4 v40 v77 σ)
       else
        wx_rI σ 16 14 64 v40 (fun v87 => f_X6_row_88 (f_X6_row_30 n) x1 x2 x3 x4 v40 v87 σ))
def f_X6_row   (x1 : Int32) (x2 : Int32) (σ : wx_St) : Option (Int32 × wx_St) :=
  wx_o (f_X6_isOnSide x1) (fun v1 => if v1 = 0 then
    some ((-1), σ)
   else
    wx_o (f_X6_within x2 0 2) (fun v12 => if v12 = 0 then
      some ((-2), σ)
     else
      wx_b (f_X6_findSuspects σ) (fun v22 σ22 => f_X6_row_30 2000 x1 x2 0 0 σ22)))
def f_X6_save   (x1 : Int32) (σ : wx_St) : Option (Int32 × wx_St) :=
  wx_o (f_X6_within x1 0 1) (fun v3 => if v3 = 0 then
    some ((-2), σ)
   else
    wx_b (f_X6_moves 16 0 109 16 5 218 0 (109 * x1) σ) (fun v25 σ25 => wx_b (f_X6_movesWarmth 16 1 64 16 6 128 0 (64 * x1) σ25) (fun v41 σ41 => wx_w (wx_sI σ41 16 7 (Int32.toNatClampNeg x1) 1) 2 x1 (fun σ50 => wx_rI σ50 16 0 109 5 (fun v56 => some (v56, σ50))))))
def f_X6_set_30   (x1 : Int32) (x2 : Int32) (σ : wx_St) : Option (Int32 × wx_St) :=
  some ((-2), σ)
def f_X6_set_60   (x1 : Int32) (x2 : Int32) (x3 : Int32) (σ : wx_St) : Option (Int32 × wx_St) :=
  some (x3, σ)
def f_X6_set_20   (x1 : Int32) (x2 : Int32) (y0 : Int32) (y1 : Int32) (σ : wx_St) : Option (Int32 × wx_St) :=
  wx_o (f_X6_most x1) (fun v21 => wx_o (f_X6_within y0 y1 v21) (fun v24 => if v24 = 0 then
    f_X6_set_30 x1 x2 σ
   else
    wx_b (f_X6_record σ) (fun v34 σ34 => wx_rI σ34 16 0 109 x1 (fun v42 => wx_w (wx_sI σ34 16 0 (Int32.toNatClampNeg x1) x2) 109 x1 (fun σ50 => if x1 = 3 then
      f_X6_set_60 x1 x2 v42 σ50
     else
      wx_b (f_X6_beginsRun σ50) (fun v57 σ57 => f_X6_set_60 x1 x2 v42 σ57))))))
def f_X6_set   (x1 : Int32) (x2 : Int32) (σ : wx_St) : Option (Int32 × wx_St) :=
  wx_o (f_X6_within x1 0 3) (fun v3 => if v3 = 0 then
    f_X6_set_30 x1 x2 σ
   else
    if x1 = 2 then
      f_X6_set_20 x1 x2 x2 1 σ
     else
      f_X6_set_20 x1 x2 x2 0 σ)
def f_X6_touch   (x1 : Int32) (x2 : Int32) (x3 : Int32) (σ : wx_St) : Option (Int32 × wx_St) :=
  wx_o (f_X6_whyNotTouched x1 x2 x3 σ) (fun v4 => if 0 ≤ v4 then
    wx_b (f_X6_record σ) (fun v18 σ18 => wx_b (f_X6_touches x1 x2 x3 σ18) (fun v25 σ25 => some (v25, σ25)))
   else
    some (v4, σ))
def f_X6_track   (x1 : Int32) (x2 : Int32) (x3 : Int32) (σ : wx_St) : Option (Int32 × wx_St) :=
  wx_o (f_X6_whyNotTracked x1 x2 x3 σ) (fun v4 => if 0 ≤ v4 then
    wx_b (f_X6_record σ) (fun v18 σ18 => wx_b (f_X6_tracks x1 x2 x3 σ18) (fun v25 σ25 => some (v25, σ25)))
   else
    some (v4, σ))
def f_X6_undo    (σ : wx_St) : Option (Int32 × wx_St) :=
  if (σ.2.2.1 16 4) = 0 then
    some ((-5), σ)
   else
    wx_l (wx_sS σ 16 4 ((σ.2.2.1 16 4) - 1)) (fun σ17 => wx_b (f_X6_moves 16 2 654 16 0 109 ((σ17.2.2.1 16 4) * 109) 0 σ17) (fun v36 σ36 => wx_b (f_X6_movesWarmth 16 3 384 16 1 64 ((σ36.2.2.1 16 4) * 64) 0 σ36) (fun v55 σ55 => some ((σ55.2.2.1 16 4), σ55))))
def f_X6_warm   (x1 : Int32) (σ : wx_St) : Option (Int32 × wx_St) :=
  wx_o (f_X6_whyNotWarmed x1 σ) (fun v2 => if 0 ≤ v2 then
    wx_b (f_X6_record σ) (fun v13 σ13 => wx_b (f_X6_warms x1 σ13) (fun v18 σ18 => some (v18, σ18)))
   else
    some (v2, σ))
def f_X6_wipe    (σ : wx_St) : Option (Int32 × wx_St) :=
  wx_l (wx_sS σ 16 9 0) (fun σ7 => some ((σ.2.2.1 16 9), σ7))
def f_X6_wouldRead_30   (x1 : Int32) (x2 : Int32) (x3 : Int32) (x4 : Int32) (σ : wx_St) : Option (Int32 × wx_St) :=
  some ((-1), σ)
def f_X6_wouldRead   (x1 : Int32) (x2 : Int32) (x3 : Int32) (x4 : Int32) (σ : wx_St) : Option (Int32 × wx_St) :=
  wx_o (f_X6_isPlace x1 x2) (fun v2 => if v2 = 0 then
    f_X6_wouldRead_30 x1 x2 x3 x4 σ
   else
    wx_o (f_X6_isPlace x3 x4) (fun v11 => if v11 = 0 then
      f_X6_wouldRead_30 x1 x2 x3 x4 σ
     else
      wx_o (f_X6_placeOf x3 x4) (fun v21 => wx_o (f_X6_isSuspect v21 σ) (fun v24 => if v24 = 0 then
        f_X6_wouldRead_30 x1 x2 x3 x4 σ
       else
        wx_o (f_X6_placeOf x3 x4) (fun v36 => wx_rI σ 16 0 109 4 (fun v44 => wx_b (f_X6_thinks v36 v44 σ) (fun v45 σ45 => wx_o (f_X6_placeOf x1 x2) (fun v54 => wx_rF σ45 16 10 64 v54 (fun v57 => wx_o (f_X6_readOf v57) (fun v58 => some (v58, σ45)))))))))))
variable {p : Program} {l : Launch} {e : Env} {s : State} {m : MethodId} {args : Array Value} {below : List Frame} {meth : Method} {c : Code} {D : va_G} {ad : Nat → Nat → Nat} {rd : Nat → Nat} {ca : Nat → ClassId} {A : Nat → Prop}
theorem i_X6_coolsThought_6 : ∀ w ∈ wsX60, w ∈ wsX6_coolsThought := by decide +kernel
theorem k_X6_coolsThought_w0 : Cond.fieldLink RX6 35 "WarmProbesModel" "thought" "[F" ∈ wsX6_coolsThought := by decide +kernel
set_option maxRecDepth 20000 in
set_option maxHeartbeats 4000000 in
theorem b_X6_coolsThought_2 (B : wx_B p s m args meth c cX6_coolsThought 2 none wsX6_coolsThought RX6 D ad ca A)     {σ' : wx_St}   :
    ∀ {n : Nat} {x1 : Int32} {σ : wx_St}  (h : f_X6_coolsThought_2 n x1 σ = some ((), σ')) {H : Heap} {locs : List Loc} (Z : wx_Z D ad rd ca A σ H) (hS : va_S A s.heap H locs) {ls : Array Slot} (hl : lv_has ls 2 [(0, .ref (ad 16 99)), (1, .int x1)]), W p l e ({ frames := 0, cells := 0, slots := 0, locals := 0 } : Room) s m args below meth c H locs 0 0 (MQ below (wx_Q D ad rd ca A none σ') args s 0 0 A) (F0 m 2 ls []) := by
  obtain ⟨hx, hb, hml, hr, hts, hown, hlk, hC, hA⟩ := id B
  intro n
  induction n with
  | zero => intro x1 σ  h H locs Z hS ls hl; exact wx_no h
  | succ n ih =>
    intro x1 σ  h H locs Z hS ls hl
    rw [f_X6_coolsThought_2] at h
    refine lv_iload_n hx hb dX6_coolsThought_2 rfl (lv_at hl 1 rfl) ?_
    refine lv_bipush (v := 64) hx hb dX6_coolsThought_3 (by decide) ?_
    refine lv_icmp_ge (tgt := 21) hx hb dX6_coolsThought_5 (by decide) (fun c5 => ?_) (fun c5 => ?_)
    · replace h := wx_ift c5 h
      obtain ⟨-, rfl⟩ := wx_ret_ok h
      exact W.vret hx hb hr (fun t ht hW => ⟨rfl, by rw [ht]; exact Z, hS.F ht⟩) hS.2.2 dX6_coolsThought_21
    · replace h := wx_iff c5 h
      refine lv_aload_n hx hb dX6_coolsThought_8 rfl (lv_at hl 0 rfl) ?_
      refine wx_get (own := RX6) hx hb hts i_X6_coolsThought_6 hown hC.1 Z (o := 16) (ci := 6) rfl (rfl : vwCl[6]? = some (RX6, TX6, 25)) 10 (by decide) (hts _ k_X6_coolsThought_w0) (fun _ h9 => h9) (f := 0) rfl rfl dX6_coolsThought_9 ?_
      refine lv_iload_n hx hb dX6_coolsThought_12 rfl (lv_at hl 1 rfl) ?_
      refine lv_fconst0 hx hb dX6_coolsThought_13 ?_
      obtain ⟨σ14, e14, i14, h⟩ := wx_w_ok h
      refine wx_fast hx hb hC.1 Z hS (o := 16) (k := 10) (n := 64) rfl rfl i14 dX6_coolsThought_14 e14 (fun H locs Z hS => ?_)
      refine lv_iinc (v := x1 + 1) (lv' := [(1, .int (x1 + 1)), (0, .ref (ad 16 99))]) hx hb dX6_coolsThought_15 hl (k := 1) rfl rfl (by decide) rfl (fun ls hl => ?_)
      refine lv_goto (tgt := 2) hx hb dX6_coolsThought_18 (by decide) ?_
      exact ih h Z hS (lv_sub hl [1, 0] rfl)
set_option maxRecDepth 20000 in
set_option maxHeartbeats 4000000 in
theorem b_X6_coolsThought_0 (B : wx_B p s m args meth c cX6_coolsThought 2 none wsX6_coolsThought RX6 D ad ca A)     {σ' : wx_St}   {σ : wx_St}  (h : f_X6_coolsThought σ = some ((), σ')) {H : Heap} {locs : List Loc} (Z : wx_Z D ad rd ca A σ H) (hS : va_S A s.heap H locs) {ls : Array Slot} (hl : lv_has ls 2 [(0, .ref (ad 16 99))]) : W p l e ({ frames := 0, cells := 0, slots := 0, locals := 0 } : Room) s m args below meth c H locs 0 0 (MQ below (wx_Q D ad rd ca A none σ') args s 0 0 A) (F0 m 0 ls []) := by
  obtain ⟨hx, hb, hml, hr, hts, hown, hlk, hC, hA⟩ := id B
  unfold f_X6_coolsThought at h
  refine lv_iconst (v := 0) hx hb dX6_coolsThought_0 (by decide) ?_
  refine lv_istore_n (lv' := [(1, .int 0), (0, .ref (ad 16 99))]) hx hb dX6_coolsThought_1 rfl hl (by decide) rfl (fun ls hl => ?_)
  exact b_X6_coolsThought_2 B h Z hS (lv_sub hl [1, 0] rfl)
set_option maxRecDepth 20000 in
theorem c_X6_coolsThought (l : Launch) {D : va_G} {ad : Nat → Nat → Nat} {rd : Nat → Nat} {ca : Nat → ClassId} {A : Nat → Prop} {σ : wx_St}      {σ' : wx_St} (h : f_X6_coolsThought σ = some ((), σ')) : wx_M l yX6_coolsThought wsX6_coolsThought 0 0 D ad rd ca A [.ref (ad 16 99)] σ none σ' := by
  refine Met.ofW (cc := cX6_coolsThought) (maxL := 2) (ret := none) (by decide +kernel) rfl ?_
  intro p e s m args below meth c s₁ B0 hml hv
  obtain ⟨rfl, hC, Z, hA⟩ := hv
  have hl := lv_entry ([.ref (ad 16 99)]) (n := 2) (Nat.le_of_ble_eq_true rfl)
  rw [lg_entry_eq]
  generalize (lg_sl ([.ref (ad 16 99)]) ++ List.replicate (2 - (lg_sl ([.ref (ad 16 99)])).length) Slot.unset).toArray = ls at hl ⊢
  exact b_X6_coolsThought_0 ⟨B0.exec, B0.bytes, hml, B0.returns, atoms_spec (ws := wsX6_coolsThought) B0.pre, findClass_of_methodNamed B0.named, B0.notSynchronized, hC, hA⟩   h Z va_S.rf hl
theorem i_X6_readingPart_6 : ∀ w ∈ wsX60, w ∈ wsX6_readingPart := by decide +kernel
theorem k_X6_readingPart_w0 : Cond.fieldLink RX6 7 "WarmProbesModel" "state" "[I" ∈ wsX6_readingPart := by decide +kernel
set_option maxRecDepth 20000 in
set_option maxHeartbeats 4000000 in
theorem b_X6_readingPart_0 (B : wx_B p s m args meth c cX6_readingPart 3 (some .int) wsX6_readingPart RX6 D ad ca A)    {r : Int32} {σ : wx_St}  {x1 : Int32} {x2 : Int32}   (h : f_X6_readingPart x1 x2 σ = some r) {H : Heap} {locs : List Loc} (Z : wx_Z D ad rd ca A σ H) (hS : va_S A s.heap H locs) {ls : Array Slot} (hl : lv_has ls 3 [(0, .ref (ad 16 99)), (1, .int x1), (2, .int x2)]) : W p l e ({ frames := 0, cells := 0, slots := 0, locals := 0 } : Room) s m args below meth c H locs 0 0 (MQ below (wx_Q D ad rd ca A (some (.int r)) σ) args s 0 0 A) (F0 m 0 ls []) := by
  obtain ⟨hx, hb, hml, hr, hts, hown, hlk, hC, hA⟩ := id B
  unfold f_X6_readingPart at h
  refine lv_aload_n hx hb dX6_readingPart_0 rfl (lv_at hl 0 rfl) ?_
  refine wx_get (own := RX6) hx hb hts i_X6_readingPart_6 hown hC.1 Z (o := 16) (ci := 6) rfl (rfl : vwCl[6]? = some (RX6, TX6, 25)) 0 (by decide) (hts _ k_X6_readingPart_w0) (fun _ h9 => h9) (f := 0) rfl rfl dX6_readingPart_1 ?_
  refine lv_bipush (v := 85) hx hb dX6_readingPart_4 (by decide) ?_
  refine lv_iconst (v := 3) hx hb dX6_readingPart_6 (by decide) ?_
  refine lv_iload_n hx hb dX6_readingPart_7 rfl (lv_at hl 1 rfl) ?_
  refine lv_imul hx hb dX6_readingPart_8 ?_
  refine lv_iadd hx hb dX6_readingPart_9 ?_
  refine lv_iload_n hx hb dX6_readingPart_10 rfl (lv_at hl 2 rfl) ?_
  refine lv_iadd hx hb dX6_readingPart_11 ?_
  obtain ⟨v12, ev12, iv12, h⟩ := wx_rI_ok h
  refine wx_iald hx hb hC.1 Z (o := 16) (k := 0) (n := 109) rfl rfl iv12 dX6_readingPart_12 ev12 ?_
  obtain rfl := Option.some.inj h
  exact W.iret hx hb hr (fun t ht hW => ⟨rfl, by rw [ht]; exact Z, hS.F ht⟩) hS.2.2 dX6_readingPart_13
set_option maxRecDepth 20000 in
theorem c_X6_readingPart (l : Launch) {D : va_G} {ad : Nat → Nat → Nat} {rd : Nat → Nat} {ca : Nat → ClassId} {A : Nat → Prop} {σ : wx_St}    {x1 : Int32} {x2 : Int32} {r : Int32} (h : f_X6_readingPart x1 x2 σ = some r) : wx_M l yX6_readingPart wsX6_readingPart 0 0 D ad rd ca A [.ref (ad 16 99), .int x1, .int x2] σ (some (.int r)) σ := by
  refine Met.ofW (cc := cX6_readingPart) (maxL := 3) (ret := (some .int)) (by decide +kernel) rfl ?_
  intro p e s m args below meth c s₁ B0 hml hv
  obtain ⟨rfl, hC, Z, hA⟩ := hv
  have hl := lv_entry ([.ref (ad 16 99), .int x1, .int x2]) (n := 3) (Nat.le_of_ble_eq_true rfl)
  rw [lg_entry_eq]
  generalize (lg_sl ([.ref (ad 16 99), .int x1, .int x2]) ++ List.replicate (3 - (lg_sl ([.ref (ad 16 99), .int x1, .int x2])).length) Slot.unset).toArray = ls at hl ⊢
  exact b_X6_readingPart_0 ⟨B0.exec, B0.bytes, hml, B0.returns, atoms_spec (ws := wsX6_readingPart) B0.pre, findClass_of_methodNamed B0.named, B0.notSynchronized, hC, hA⟩   h Z va_S.rf hl
theorem i_X6_isFed_6 : ∀ w ∈ wsX60, w ∈ wsX6_isFed := by decide +kernel
theorem k_X6_isFed_w0 : Cond.fieldLink RX6 7 "WarmProbesModel" "state" "[I" ∈ wsX6_isFed := by decide +kernel
set_option maxRecDepth 20000 in
set_option maxHeartbeats 4000000 in
theorem b_X6_isFed_22 (B : wx_B p s m args meth c cX6_isFed 3 (some .boolean) wsX6_isFed RX6 D ad ca A)    {r : Int32} {σ : wx_St}  {x1 : Int32} {x2 : Int32} {y0 : Int32}   (h : f_X6_isFed_22 x1 x2 y0 σ = some r) {H : Heap} {locs : List Loc} (Z : wx_Z D ad rd ca A σ H) (hS : va_S A s.heap H locs) {ls : Array Slot} (hl : lv_has ls 3 [(0, .ref (ad 16 99)), (1, .int x1), (2, .int x2)]) : W p l e ({ frames := 0, cells := 0, slots := 0, locals := 0 } : Room) s m args below meth c H locs 0 0 (MQ below (wx_Q D ad rd ca A (some (.int r)) σ) args s 0 0 A) (F0 m 22 ls [.int y0]) := by
  obtain ⟨hx, hb, hml, hr, hts, hown, hlk, hC, hA⟩ := id B
  unfold f_X6_isFed_22 at h
  obtain ⟨hz, h⟩ := wx_z_ok h
  obtain rfl := Option.some.inj h
  exact W.zret hx hb hr (wx_nb hz) (fun t ht hW => ⟨rfl, by rw [ht]; exact Z, hS.F ht⟩) hS.2.2 dX6_isFed_22
set_option maxRecDepth 20000 in
set_option maxHeartbeats 4000000 in
theorem b_X6_isFed_0 (B : wx_B p s m args meth c cX6_isFed 3 (some .boolean) wsX6_isFed RX6 D ad ca A)    {r : Int32} {σ : wx_St}  {x1 : Int32} {x2 : Int32}   (h : f_X6_isFed x1 x2 σ = some r) {H : Heap} {locs : List Loc} (Z : wx_Z D ad rd ca A σ H) (hS : va_S A s.heap H locs) {ls : Array Slot} (hl : lv_has ls 3 [(0, .ref (ad 16 99)), (1, .int x1), (2, .int x2)]) : W p l e ({ frames := 0, cells := 0, slots := 0, locals := 0 } : Room) s m args below meth c H locs 0 0 (MQ below (wx_Q D ad rd ca A (some (.int r)) σ) args s 0 0 A) (F0 m 0 ls []) := by
  obtain ⟨hx, hb, hml, hr, hts, hown, hlk, hC, hA⟩ := id B
  unfold f_X6_isFed at h
  refine lv_aload_n hx hb dX6_isFed_0 rfl (lv_at hl 0 rfl) ?_
  refine wx_get (own := RX6) hx hb hts i_X6_isFed_6 hown hC.1 Z (o := 16) (ci := 6) rfl (rfl : vwCl[6]? = some (RX6, TX6, 25)) 0 (by decide) (hts _ k_X6_isFed_w0) (fun _ h9 => h9) (f := 0) rfl rfl dX6_isFed_1 ?_
  refine lv_bipush (v := 71) hx hb dX6_isFed_4 (by decide) ?_
  refine lv_iload_n hx hb dX6_isFed_6 rfl (lv_at hl 1 rfl) ?_
  refine lv_iadd hx hb dX6_isFed_7 ?_
  obtain ⟨v8, ev8, iv8, h⟩ := wx_rI_ok h
  refine wx_iald hx hb hC.1 Z (o := 16) (k := 0) (n := 109) rfl rfl iv8 dX6_isFed_8 ev8 ?_
  refine lv_iload_n hx hb dX6_isFed_9 rfl (lv_at hl 2 rfl) ?_
  refine lv_ishr hx hb dX6_isFed_10 ?_
  refine lv_iconst (v := 1) hx hb dX6_isFed_11 (by decide) ?_
  refine lv_iand hx hb dX6_isFed_12 ?_
  refine lv_iconst (v := 1) hx hb dX6_isFed_13 (by decide) ?_
  refine lv_icmp_ne (tgt := 21) hx hb dX6_isFed_14 (by decide) (fun c14 => ?_) (fun c14 => ?_)
  · replace h := wx_iff c14 h
    refine lv_iconst (v := 0) hx hb dX6_isFed_21 (by decide) ?_
    exact b_X6_isFed_22 B h Z hS (lv_sub hl [0, 1, 2] rfl)
  · replace h := wx_ift c14 h
    refine lv_iconst (v := 1) hx hb dX6_isFed_17 (by decide) ?_
    refine lv_goto (tgt := 22) hx hb dX6_isFed_18 (by decide) ?_
    exact b_X6_isFed_22 B h Z hS (lv_sub hl [0, 1, 2] rfl)
set_option maxRecDepth 20000 in
theorem c_X6_isFed (l : Launch) {D : va_G} {ad : Nat → Nat → Nat} {rd : Nat → Nat} {ca : Nat → ClassId} {A : Nat → Prop} {σ : wx_St}    {x1 : Int32} {x2 : Int32} {r : Int32} (h : f_X6_isFed x1 x2 σ = some r) : wx_M l yX6_isFed wsX6_isFed 0 0 D ad rd ca A [.ref (ad 16 99), .int x1, .int x2] σ (some (.int r)) σ := by
  refine Met.ofW (cc := cX6_isFed) (maxL := 3) (ret := (some .boolean)) (by decide +kernel) rfl ?_
  intro p e s m args below meth c s₁ B0 hml hv
  obtain ⟨rfl, hC, Z, hA⟩ := hv
  have hl := lv_entry ([.ref (ad 16 99), .int x1, .int x2]) (n := 3) (Nat.le_of_ble_eq_true rfl)
  rw [lg_entry_eq]
  generalize (lg_sl ([.ref (ad 16 99), .int x1, .int x2]) ++ List.replicate (3 - (lg_sl ([.ref (ad 16 99), .int x1, .int x2])).length) Slot.unset).toArray = ls at hl ⊢
  exact b_X6_isFed_0 ⟨B0.exec, B0.bytes, hml, B0.returns, atoms_spec (ws := wsX6_isFed) B0.pre, findClass_of_methodNamed B0.named, B0.notSynchronized, hC, hA⟩   h Z va_S.rf hl
theorem i_X6_netAt_6 : ∀ w ∈ wsX60, w ∈ wsX6_netAt := by decide +kernel
theorem k_X6_netAt_w0 : Cond.fieldLink RX6 7 "WarmProbesModel" "state" "[I" ∈ wsX6_netAt := by decide +kernel
set_option maxRecDepth 20000 in
set_option maxHeartbeats 4000000 in
theorem b_X6_netAt_0 (B : wx_B p s m args meth c cX6_netAt 2 (some .int) wsX6_netAt RX6 D ad ca A)    {r : Int32} {σ : wx_St}  {x1 : Int32}   (h : f_X6_netAt x1 σ = some r) {H : Heap} {locs : List Loc} (Z : wx_Z D ad rd ca A σ H) (hS : va_S A s.heap H locs) {ls : Array Slot} (hl : lv_has ls 2 [(0, .ref (ad 16 99)), (1, .int x1)]) : W p l e ({ frames := 0, cells := 0, slots := 0, locals := 0 } : Room) s m args below meth c H locs 0 0 (MQ below (wx_Q D ad rd ca A (some (.int r)) σ) args s 0 0 A) (F0 m 0 ls []) := by
  obtain ⟨hx, hb, hml, hr, hts, hown, hlk, hC, hA⟩ := id B
  unfold f_X6_netAt at h
  refine lv_aload_n hx hb dX6_netAt_0 rfl (lv_at hl 0 rfl) ?_
  refine wx_get (own := RX6) hx hb hts i_X6_netAt_6 hown hC.1 Z (o := 16) (ci := 6) rfl (rfl : vwCl[6]? = some (RX6, TX6, 25)) 0 (by decide) (hts _ k_X6_netAt_w0) (fun _ h9 => h9) (f := 0) rfl rfl dX6_netAt_1 ?_
  refine lv_bipush (v := 7) hx hb dX6_netAt_4 (by decide) ?_
  refine lv_iload_n hx hb dX6_netAt_6 rfl (lv_at hl 1 rfl) ?_
  refine lv_iadd hx hb dX6_netAt_7 ?_
  obtain ⟨v8, ev8, iv8, h⟩ := wx_rI_ok h
  refine wx_iald hx hb hC.1 Z (o := 16) (k := 0) (n := 109) rfl rfl iv8 dX6_netAt_8 ev8 ?_
  obtain rfl := Option.some.inj h
  exact W.iret hx hb hr (fun t ht hW => ⟨rfl, by rw [ht]; exact Z, hS.F ht⟩) hS.2.2 dX6_netAt_9
set_option maxRecDepth 20000 in
theorem c_X6_netAt (l : Launch) {D : va_G} {ad : Nat → Nat → Nat} {rd : Nat → Nat} {ca : Nat → ClassId} {A : Nat → Prop} {σ : wx_St}    {x1 : Int32} {r : Int32} (h : f_X6_netAt x1 σ = some r) : wx_M l yX6_netAt wsX6_netAt 0 0 D ad rd ca A [.ref (ad 16 99), .int x1] σ (some (.int r)) σ := by
  refine Met.ofW (cc := cX6_netAt) (maxL := 2) (ret := (some .int)) (by decide +kernel) rfl ?_
  intro p e s m args below meth c s₁ B0 hml hv
  obtain ⟨rfl, hC, Z, hA⟩ := hv
  have hl := lv_entry ([.ref (ad 16 99), .int x1]) (n := 2) (Nat.le_of_ble_eq_true rfl)
  rw [lg_entry_eq]
  generalize (lg_sl ([.ref (ad 16 99), .int x1]) ++ List.replicate (2 - (lg_sl ([.ref (ad 16 99), .int x1])).length) Slot.unset).toArray = ls at hl ⊢
  exact b_X6_netAt_0 ⟨B0.exec, B0.bytes, hml, B0.returns, atoms_spec (ws := wsX6_netAt) B0.pre, findClass_of_methodNamed B0.named, B0.notSynchronized, hC, hA⟩   h Z va_S.rf hl
theorem i_X6_touchPart_6 : ∀ w ∈ wsX60, w ∈ wsX6_touchPart := by decide +kernel
theorem k_X6_touchPart_w0 : Cond.fieldLink RX6 7 "WarmProbesModel" "state" "[I" ∈ wsX6_touchPart := by decide +kernel
set_option maxRecDepth 20000 in
set_option maxHeartbeats 4000000 in
theorem b_X6_touchPart_0 (B : wx_B p s m args meth c cX6_touchPart 3 (some .int) wsX6_touchPart RX6 D ad ca A)    {r : Int32} {σ : wx_St}  {x1 : Int32} {x2 : Int32}   (h : f_X6_touchPart x1 x2 σ = some r) {H : Heap} {locs : List Loc} (Z : wx_Z D ad rd ca A σ H) (hS : va_S A s.heap H locs) {ls : Array Slot} (hl : lv_has ls 3 [(0, .ref (ad 16 99)), (1, .int x1), (2, .int x2)]) : W p l e ({ frames := 0, cells := 0, slots := 0, locals := 0 } : Room) s m args below meth c H locs 0 0 (MQ below (wx_Q D ad rd ca A (some (.int r)) σ) args s 0 0 A) (F0 m 0 ls []) := by
  obtain ⟨hx, hb, hml, hr, hts, hown, hlk, hC, hA⟩ := id B
  unfold f_X6_touchPart at h
  refine lv_aload_n hx hb dX6_touchPart_0 rfl (lv_at hl 0 rfl) ?_
  refine wx_get (own := RX6) hx hb hts i_X6_touchPart_6 hown hC.1 Z (o := 16) (ci := 6) rfl (rfl : vwCl[6]? = some (RX6, TX6, 25)) 0 (by decide) (hts _ k_X6_touchPart_w0) (fun _ h9 => h9) (f := 0) rfl rfl dX6_touchPart_1 ?_
  refine lv_bipush (v := 79) hx hb dX6_touchPart_4 (by decide) ?_
  refine lv_iconst (v := 2) hx hb dX6_touchPart_6 (by decide) ?_
  refine lv_iload_n hx hb dX6_touchPart_7 rfl (lv_at hl 1 rfl) ?_
  refine lv_imul hx hb dX6_touchPart_8 ?_
  refine lv_iadd hx hb dX6_touchPart_9 ?_
  refine lv_iload_n hx hb dX6_touchPart_10 rfl (lv_at hl 2 rfl) ?_
  refine lv_iadd hx hb dX6_touchPart_11 ?_
  obtain ⟨v12, ev12, iv12, h⟩ := wx_rI_ok h
  refine wx_iald hx hb hC.1 Z (o := 16) (k := 0) (n := 109) rfl rfl iv12 dX6_touchPart_12 ev12 ?_
  obtain rfl := Option.some.inj h
  exact W.iret hx hb hr (fun t ht hW => ⟨rfl, by rw [ht]; exact Z, hS.F ht⟩) hS.2.2 dX6_touchPart_13
set_option maxRecDepth 20000 in
theorem c_X6_touchPart (l : Launch) {D : va_G} {ad : Nat → Nat → Nat} {rd : Nat → Nat} {ca : Nat → ClassId} {A : Nat → Prop} {σ : wx_St}    {x1 : Int32} {x2 : Int32} {r : Int32} (h : f_X6_touchPart x1 x2 σ = some r) : wx_M l yX6_touchPart wsX6_touchPart 0 0 D ad rd ca A [.ref (ad 16 99), .int x1, .int x2] σ (some (.int r)) σ := by
  refine Met.ofW (cc := cX6_touchPart) (maxL := 3) (ret := (some .int)) (by decide +kernel) rfl ?_
  intro p e s m args below meth c s₁ B0 hml hv
  obtain ⟨rfl, hC, Z, hA⟩ := hv
  have hl := lv_entry ([.ref (ad 16 99), .int x1, .int x2]) (n := 3) (Nat.le_of_ble_eq_true rfl)
  rw [lg_entry_eq]
  generalize (lg_sl ([.ref (ad 16 99), .int x1, .int x2]) ++ List.replicate (3 - (lg_sl ([.ref (ad 16 99), .int x1, .int x2])).length) Slot.unset).toArray = ls at hl ⊢
  exact b_X6_touchPart_0 ⟨B0.exec, B0.bytes, hml, B0.returns, atoms_spec (ws := wsX6_touchPart) B0.pre, findClass_of_methodNamed B0.named, B0.notSynchronized, hC, hA⟩   h Z va_S.rf hl
set_option maxRecDepth 20000 in
set_option maxHeartbeats 4000000 in
theorem b_X6_isLive_0 (B : wx_B p s m args meth c cX6_isLive 2 (some .boolean) wsX6_isLive RX6 D ad ca A)    {r : Int32} {σ : wx_St}  {x1 : Int32}   (h : f_X6_isLive x1 σ = some r) {H : Heap} {locs : List Loc} (Z : wx_Z D ad rd ca A σ H) (hS : va_S A s.heap H locs) {ls : Array Slot} (hl : lv_has ls 2 [(0, .ref (ad 16 99)), (1, .int x1)]) : W p l e ({ frames := 1, cells := 0, slots := 0, locals := 22 } : Room) s m args below meth c H locs 0 0 (MQ below (wx_Q D ad rd ca A (some (.int r)) σ) args s 0 0 A) (F0 m 0 ls []) := by
  obtain ⟨hx, hb, hml, hr, hts, hown, hlk, hC, hA⟩ := id B
  unfold f_X6_isLive at h
  refine lv_aload_n hx hb dX6_isLive_0 rfl (lv_at hl 0 rfl) ?_
  refine lv_aload_n hx hb dX6_isLive_1 rfl (lv_at hl 0 rfl) ?_
  refine lv_aload_n hx hb dX6_isLive_2 rfl (lv_at hl 0 rfl) ?_
  refine lv_iload_n hx hb dX6_isLive_3 rfl (lv_at hl 1 rfl) ?_
  refine lv_iconst (v := 0) hx hb dX6_isLive_4 (by decide) ?_
  obtain ⟨v5, hc5, h⟩ := wx_o_ok h
  refine wx_call (va_runV (As := [.int x1, .int 0]) (rest := [.ref (ad 16 99), .ref (ad 16 99)]) ⟨hx, hb, hml, hown, hts⟩ (c_X6_touchPart l (D := D) (ad := ad) (rd := rd) (ca := ca) (A := A) (σ := σ) hc5) (cwV 2 hts gX6_isLive_X6_touchPart rfl rfl rfl (by decide +kernel) ⟨Nat.le_of_ble_eq_true rfl, Nat.le_of_ble_eq_true rfl⟩) (wx_preV hC Z hS hA rfl (rfl : vwCl[6]? = some (RX6, TX6, 25))) rfl rfl hl.1 rfl (lv_room (Nat.le_of_ble_eq_true rfl)) dX6_isLive_5 ⟨Nat.zero_le _, Nat.zero_le _⟩) hS (fun H locs Z hS => ?_)
  obtain ⟨v8, hc8, h⟩ := wx_o_ok h
  refine wx_call (va_runV (As := [.int v5]) (rest := [.ref (ad 16 99)]) ⟨hx, hb, hml, hown, hts⟩ (c_X6_netAt l (D := D) (ad := ad) (rd := rd) (ca := ca) (A := A) (σ := σ) hc8) (cwV 1 hts gX6_isLive_X6_netAt rfl rfl rfl (by decide +kernel) ⟨Nat.le_of_ble_eq_true rfl, Nat.le_of_ble_eq_true rfl⟩) (wx_preV hC Z hS hA rfl (rfl : vwCl[6]? = some (RX6, TX6, 25))) rfl rfl hl.1 rfl (lv_room (Nat.le_of_ble_eq_true rfl)) dX6_isLive_8 ⟨Nat.zero_le _, Nat.zero_le _⟩) hS (fun H locs Z hS => ?_)
  refine lv_aload_n hx hb dX6_isLive_11 rfl (lv_at hl 0 rfl) ?_
  refine lv_iload_n hx hb dX6_isLive_12 rfl (lv_at hl 1 rfl) ?_
  refine lv_iconst (v := 1) hx hb dX6_isLive_13 (by decide) ?_
  obtain ⟨v14, hc14, h⟩ := wx_o_ok h
  refine wx_call (va_runV (As := [.int x1, .int 1]) (rest := [.int v8, .ref (ad 16 99)]) ⟨hx, hb, hml, hown, hts⟩ (c_X6_touchPart l (D := D) (ad := ad) (rd := rd) (ca := ca) (A := A) (σ := σ) hc14) (cwV 2 hts gX6_isLive_X6_touchPart rfl rfl rfl (by decide +kernel) ⟨Nat.le_of_ble_eq_true rfl, Nat.le_of_ble_eq_true rfl⟩) (wx_preV hC Z hS hA rfl (rfl : vwCl[6]? = some (RX6, TX6, 25))) rfl rfl hl.1 rfl (lv_room (Nat.le_of_ble_eq_true rfl)) dX6_isLive_14 ⟨Nat.zero_le _, Nat.zero_le _⟩) hS (fun H locs Z hS => ?_)
  obtain ⟨v17, hc17, h⟩ := wx_o_ok h
  refine wx_call (va_runV (As := [.int v8, .int v14]) (rest := []) ⟨hx, hb, hml, hown, hts⟩ (c_X6_isFed l (D := D) (ad := ad) (rd := rd) (ca := ca) (A := A) (σ := σ) hc17) (cwV 2 hts gX6_isLive_X6_isFed rfl rfl rfl (by decide +kernel) ⟨Nat.le_of_ble_eq_true rfl, Nat.le_of_ble_eq_true rfl⟩) (wx_preV hC Z hS hA rfl (rfl : vwCl[6]? = some (RX6, TX6, 25))) rfl rfl hl.1 rfl (lv_room (Nat.le_of_ble_eq_true rfl)) dX6_isLive_17 ⟨Nat.zero_le _, Nat.zero_le _⟩) hS (fun H locs Z hS => ?_)
  obtain ⟨hz, h⟩ := wx_z_ok h
  obtain rfl := Option.some.inj h
  exact W.zret hx hb hr (wx_nb hz) (fun t ht hW => ⟨rfl, by rw [ht]; exact Z, hS.F ht⟩) hS.2.2 dX6_isLive_20
set_option maxRecDepth 20000 in
theorem c_X6_isLive (l : Launch) {D : va_G} {ad : Nat → Nat → Nat} {rd : Nat → Nat} {ca : Nat → ClassId} {A : Nat → Prop} {σ : wx_St}    {x1 : Int32} {r : Int32} (h : f_X6_isLive x1 σ = some r) : wx_M l yX6_isLive wsX6_isLive 1 22 D ad rd ca A [.ref (ad 16 99), .int x1] σ (some (.int r)) σ := by
  refine Met.ofW (cc := cX6_isLive) (maxL := 2) (ret := (some .boolean)) (by decide +kernel) rfl ?_
  intro p e s m args below meth c s₁ B0 hml hv
  obtain ⟨rfl, hC, Z, hA⟩ := hv
  have hl := lv_entry ([.ref (ad 16 99), .int x1]) (n := 2) (Nat.le_of_ble_eq_true rfl)
  rw [lg_entry_eq]
  generalize (lg_sl ([.ref (ad 16 99), .int x1]) ++ List.replicate (2 - (lg_sl ([.ref (ad 16 99), .int x1])).length) Slot.unset).toArray = ls at hl ⊢
  exact b_X6_isLive_0 ⟨B0.exec, B0.bytes, hml, B0.returns, atoms_spec (ws := wsX6_isLive) B0.pre, findClass_of_methodNamed B0.named, B0.notSynchronized, hC, hA⟩   h Z va_S.rf hl
theorem i_X6_touchAt_6 : ∀ w ∈ wsX60, w ∈ wsX6_touchAt := by decide +kernel
theorem k_X6_touchAt_w0 : Cond.fieldLink RX6 7 "WarmProbesModel" "state" "[I" ∈ wsX6_touchAt := by decide +kernel
set_option maxRecDepth 20000 in
set_option maxHeartbeats 4000000 in
theorem b_X6_touchAt_30 (B : wx_B p s m args meth c cX6_touchAt 4 (some .int) wsX6_touchAt RX6 D ad ca A)    {r : Int32} {σ : wx_St} {K5 : Int32 → Int32 → Int32 → wx_St → Option Int32} (hK5 : ∀ {x1 : Int32} {x2 : Int32} {x3 : Int32}   (h : K5 x1 x2 x3 σ = some r) {H : Heap} {locs : List Loc} (Z : wx_Z D ad rd ca A σ H) (hS : va_S A s.heap H locs) {ls : Array Slot} (hl : lv_has ls 4 [(0, .ref (ad 16 99)), (1, .int x1), (2, .int x2), (3, .int x3)]), W p l e ({ frames := 1, cells := 0, slots := 0, locals := 22 } : Room) s m args below meth c H locs 0 0 (MQ below (wx_Q D ad rd ca A (some (.int r)) σ) args s 0 0 A) (F0 m 5 ls [])) {x1 : Int32} {x2 : Int32} {x3 : Int32} {y0 : Int32}   (h : f_X6_touchAt_30 K5 x1 x2 x3 y0 σ = some r) {H : Heap} {locs : List Loc} (Z : wx_Z D ad rd ca A σ H) (hS : va_S A s.heap H locs) {ls : Array Slot} (hl : lv_has ls 4 [(0, .ref (ad 16 99)), (1, .int x1), (2, .int x2), (3, .int x3)]) : W p l e ({ frames := 1, cells := 0, slots := 0, locals := 22 } : Room) s m args below meth c H locs 0 0 (MQ below (wx_Q D ad rd ca A (some (.int r)) σ) args s 0 0 A) (F0 m 30 ls [.int y0]) := by
  obtain ⟨hx, hb, hml, hr, hts, hown, hlk, hC, hA⟩ := id B
  unfold f_X6_touchAt_30 at h
  refine lv_istore_n (lv' := [(2, .int y0), (0, .ref (ad 16 99)), (1, .int x1), (3, .int x3)]) hx hb dX6_touchAt_30 rfl hl (by decide) rfl (fun ls hl => ?_)
  refine lv_iinc (v := x3 + 1) (lv' := [(3, .int (x3 + 1)), (2, .int y0), (0, .ref (ad 16 99)), (1, .int x1)]) hx hb dX6_touchAt_31 hl (k := 3) rfl rfl (by decide) rfl (fun ls hl => ?_)
  refine lv_goto (tgt := 5) hx hb dX6_touchAt_34 (by decide) ?_
  exact hK5 h Z hS (lv_sub hl [2, 3, 1, 0] rfl)
set_option maxRecDepth 20000 in
set_option maxHeartbeats 4000000 in
theorem b_X6_touchAt_5 (B : wx_B p s m args meth c cX6_touchAt 4 (some .int) wsX6_touchAt RX6 D ad ca A)    {r : Int32} {σ : wx_St}   :
    ∀ {n : Nat} {x1 : Int32} {x2 : Int32} {x3 : Int32}   (h : f_X6_touchAt_5 n x1 x2 x3 σ = some r) {H : Heap} {locs : List Loc} (Z : wx_Z D ad rd ca A σ H) (hS : va_S A s.heap H locs) {ls : Array Slot} (hl : lv_has ls 4 [(0, .ref (ad 16 99)), (1, .int x1), (2, .int x2), (3, .int x3)]), W p l e ({ frames := 1, cells := 0, slots := 0, locals := 22 } : Room) s m args below meth c H locs 0 0 (MQ below (wx_Q D ad rd ca A (some (.int r)) σ) args s 0 0 A) (F0 m 5 ls []) := by
  obtain ⟨hx, hb, hml, hr, hts, hown, hlk, hC, hA⟩ := id B
  intro n
  induction n with
  | zero => intro x1 x2 x3   h H locs Z hS ls hl; exact wx_no h
  | succ n ih =>
    intro x1 x2 x3   h H locs Z hS ls hl
    rw [f_X6_touchAt_5] at h
    refine lv_iload_n hx hb dX6_touchAt_5 rfl (lv_at hl 3 rfl) ?_
    refine lv_aload_n hx hb dX6_touchAt_6 rfl (lv_at hl 0 rfl) ?_
    refine wx_get (own := RX6) hx hb hts i_X6_touchAt_6 hown hC.1 Z (o := 16) (ci := 6) rfl (rfl : vwCl[6]? = some (RX6, TX6, 25)) 0 (by decide) (hts _ k_X6_touchAt_w0) (fun _ h9 => h9) (f := 0) rfl rfl dX6_touchAt_7 ?_
    refine lv_iconst (v := 5) hx hb dX6_touchAt_10 (by decide) ?_
    obtain ⟨v11, ev11, iv11, h⟩ := wx_rI_ok h
    refine wx_iald hx hb hC.1 Z (o := 16) (k := 0) (n := 109) rfl rfl iv11 dX6_touchAt_11 ev11 ?_
    refine lv_icmp_ge (tgt := 37) hx hb dX6_touchAt_12 (by decide) (fun c12 => ?_) (fun c12 => ?_)
    · replace h := wx_ift c12 h
      refine lv_iload_n hx hb dX6_touchAt_37 rfl (lv_at hl 2 rfl) ?_
      obtain rfl := Option.some.inj h
      exact W.iret hx hb hr (fun t ht hW => ⟨rfl, by rw [ht]; exact Z, hS.F ht⟩) hS.2.2 dX6_touchAt_38
    · replace h := wx_iff c12 h
      refine lv_aload_n hx hb dX6_touchAt_15 rfl (lv_at hl 0 rfl) ?_
      refine lv_iload_n hx hb dX6_touchAt_16 rfl (lv_at hl 3 rfl) ?_
      refine lv_iconst (v := 0) hx hb dX6_touchAt_17 (by decide) ?_
      obtain ⟨v18, hc18, h⟩ := wx_o_ok h
      refine wx_call (va_runV (As := [.int x3, .int 0]) (rest := []) ⟨hx, hb, hml, hown, hts⟩ (c_X6_touchPart l (D := D) (ad := ad) (rd := rd) (ca := ca) (A := A) (σ := σ) hc18) (cwV 2 hts gX6_touchAt_X6_touchPart rfl rfl rfl (by decide +kernel) ⟨Nat.le_of_ble_eq_true rfl, Nat.le_of_ble_eq_true rfl⟩) (wx_preV hC Z hS hA rfl (rfl : vwCl[6]? = some (RX6, TX6, 25))) rfl rfl hl.1 rfl (lv_room (Nat.le_of_ble_eq_true rfl)) dX6_touchAt_18 ⟨Nat.zero_le _, Nat.zero_le _⟩) hS (fun H locs Z hS => ?_)
      refine lv_iload_n hx hb dX6_touchAt_21 rfl (lv_at hl 1 rfl) ?_
      refine lv_icmp_ne (tgt := 29) hx hb dX6_touchAt_22 (by decide) (fun c22 => ?_) (fun c22 => ?_)
      · replace h := wx_iff c22 h
        refine lv_iload_n hx hb dX6_touchAt_29 rfl (lv_at hl 2 rfl) ?_
        exact b_X6_touchAt_30 B (K5 := (f_X6_touchAt_5 n)) @ih h Z hS (lv_sub hl [0, 1, 2, 3] rfl)
      · replace h := wx_ift c22 h
        refine lv_iload_n hx hb dX6_touchAt_25 rfl (lv_at hl 3 rfl) ?_
        refine lv_goto (tgt := 30) hx hb dX6_touchAt_26 (by decide) ?_
        exact b_X6_touchAt_30 B (K5 := (f_X6_touchAt_5 n)) @ih h Z hS (lv_sub hl [0, 1, 2, 3] rfl)
set_option maxRecDepth 20000 in
set_option maxHeartbeats 4000000 in
theorem b_X6_touchAt_0 (B : wx_B p s m args meth c cX6_touchAt 4 (some .int) wsX6_touchAt RX6 D ad ca A)    {r : Int32} {σ : wx_St}  {x1 : Int32}   (h : f_X6_touchAt x1 σ = some r) {H : Heap} {locs : List Loc} (Z : wx_Z D ad rd ca A σ H) (hS : va_S A s.heap H locs) {ls : Array Slot} (hl : lv_has ls 4 [(0, .ref (ad 16 99)), (1, .int x1)]) : W p l e ({ frames := 1, cells := 0, slots := 0, locals := 22 } : Room) s m args below meth c H locs 0 0 (MQ below (wx_Q D ad rd ca A (some (.int r)) σ) args s 0 0 A) (F0 m 0 ls []) := by
  obtain ⟨hx, hb, hml, hr, hts, hown, hlk, hC, hA⟩ := id B
  unfold f_X6_touchAt at h
  refine lv_bipush (v := (-6)) hx hb dX6_touchAt_0 (by decide) ?_
  refine lv_istore_n (lv' := [(2, .int (-6)), (0, .ref (ad 16 99)), (1, .int x1)]) hx hb dX6_touchAt_2 rfl hl (by decide) rfl (fun ls hl => ?_)
  refine lv_iconst (v := 0) hx hb dX6_touchAt_3 (by decide) ?_
  refine lv_istore_n (lv' := [(3, .int 0), (2, .int (-6)), (0, .ref (ad 16 99)), (1, .int x1)]) hx hb dX6_touchAt_4 rfl hl (by decide) rfl (fun ls hl => ?_)
  exact b_X6_touchAt_5 B h Z hS (lv_sub hl [2, 3, 1, 0] rfl)
set_option maxRecDepth 20000 in
theorem c_X6_touchAt (l : Launch) {D : va_G} {ad : Nat → Nat → Nat} {rd : Nat → Nat} {ca : Nat → ClassId} {A : Nat → Prop} {σ : wx_St}    {x1 : Int32} {r : Int32} (h : f_X6_touchAt x1 σ = some r) : wx_M l yX6_touchAt wsX6_touchAt 1 22 D ad rd ca A [.ref (ad 16 99), .int x1] σ (some (.int r)) σ := by
  refine Met.ofW (cc := cX6_touchAt) (maxL := 4) (ret := (some .int)) (by decide +kernel) rfl ?_
  intro p e s m args below meth c s₁ B0 hml hv
  obtain ⟨rfl, hC, Z, hA⟩ := hv
  have hl := lv_entry ([.ref (ad 16 99), .int x1]) (n := 4) (Nat.le_of_ble_eq_true rfl)
  rw [lg_entry_eq]
  generalize (lg_sl ([.ref (ad 16 99), .int x1]) ++ List.replicate (4 - (lg_sl ([.ref (ad 16 99), .int x1])).length) Slot.unset).toArray = ls at hl ⊢
  exact b_X6_touchAt_0 ⟨B0.exec, B0.bytes, hml, B0.returns, atoms_spec (ws := wsX6_touchAt) B0.pre, findClass_of_methodNamed B0.named, B0.notSynchronized, hC, hA⟩   h Z va_S.rf hl
set_option maxRecDepth 20000 in
set_option maxHeartbeats 4000000 in
theorem b_X6_isWarmed_16 (B : wx_B p s m args meth c cX6_isWarmed 4 (some .boolean) wsX6_isWarmed RX6 D ad ca A)    {r : Int32} {σ : wx_St}  {x1 : Int32} {x2 : Int32} {y0 : Int32}   (h : f_X6_isWarmed_16 x1 x2 y0 σ = some r) {H : Heap} {locs : List Loc} (Z : wx_Z D ad rd ca A σ H) (hS : va_S A s.heap H locs) {ls : Array Slot} (hl : lv_has ls 4 [(0, .ref (ad 16 99)), (1, .int x1), (2, .int x2)]) : W p l e ({ frames := 2, cells := 0, slots := 0, locals := 45 } : Room) s m args below meth c H locs 0 0 (MQ below (wx_Q D ad rd ca A (some (.int r)) σ) args s 0 0 A) (F0 m 16 ls [.int y0]) := by
  obtain ⟨hx, hb, hml, hr, hts, hown, hlk, hC, hA⟩ := id B
  unfold f_X6_isWarmed_16 at h
  obtain ⟨hz, h⟩ := wx_z_ok h
  obtain rfl := Option.some.inj h
  exact W.zret hx hb hr (wx_nb hz) (fun t ht hW => ⟨rfl, by rw [ht]; exact Z, hS.F ht⟩) hS.2.2 dX6_isWarmed_16
set_option maxRecDepth 20000 in
set_option maxHeartbeats 4000000 in
theorem b_X6_isWarmed_42 (B : wx_B p s m args meth c cX6_isWarmed 4 (some .boolean) wsX6_isWarmed RX6 D ad ca A)    {r : Int32} {σ : wx_St}  {x1 : Int32} {x2 : Int32} {x3 : Int32} {y0 : Int32}   (h : f_X6_isWarmed_42 x1 x2 x3 y0 σ = some r) {H : Heap} {locs : List Loc} (Z : wx_Z D ad rd ca A σ H) (hS : va_S A s.heap H locs) {ls : Array Slot} (hl : lv_has ls 4 [(0, .ref (ad 16 99)), (1, .int x1), (2, .int x2), (3, .int x3)]) : W p l e ({ frames := 2, cells := 0, slots := 0, locals := 45 } : Room) s m args below meth c H locs 0 0 (MQ below (wx_Q D ad rd ca A (some (.int r)) σ) args s 0 0 A) (F0 m 42 ls [.int y0]) := by
  obtain ⟨hx, hb, hml, hr, hts, hown, hlk, hC, hA⟩ := id B
  unfold f_X6_isWarmed_42 at h
  obtain ⟨hz, h⟩ := wx_z_ok h
  obtain rfl := Option.some.inj h
  exact W.zret hx hb hr (wx_nb hz) (fun t ht hW => ⟨rfl, by rw [ht]; exact Z, hS.F ht⟩) hS.2.2 dX6_isWarmed_42
set_option maxRecDepth 20000 in
set_option maxHeartbeats 4000000 in
theorem b_X6_isWarmed_41 (B : wx_B p s m args meth c cX6_isWarmed 4 (some .boolean) wsX6_isWarmed RX6 D ad ca A)    {r : Int32} {σ : wx_St}  {x1 : Int32} {x2 : Int32} {x3 : Int32}   (h : f_X6_isWarmed_41 x1 x2 x3 σ = some r) {H : Heap} {locs : List Loc} (Z : wx_Z D ad rd ca A σ H) (hS : va_S A s.heap H locs) {ls : Array Slot} (hl : lv_has ls 4 [(0, .ref (ad 16 99)), (1, .int x1), (2, .int x2), (3, .int x3)]) : W p l e ({ frames := 2, cells := 0, slots := 0, locals := 45 } : Room) s m args below meth c H locs 0 0 (MQ below (wx_Q D ad rd ca A (some (.int r)) σ) args s 0 0 A) (F0 m 41 ls []) := by
  obtain ⟨hx, hb, hml, hr, hts, hown, hlk, hC, hA⟩ := id B
  unfold f_X6_isWarmed_41 at h
  refine lv_iconst (v := 0) hx hb dX6_isWarmed_41 (by decide) ?_
  exact b_X6_isWarmed_42 B h Z hS (lv_sub hl [0, 1, 2, 3] rfl)
set_option maxRecDepth 20000 in
set_option maxHeartbeats 4000000 in
theorem b_X6_isWarmed_0 (B : wx_B p s m args meth c cX6_isWarmed 4 (some .boolean) wsX6_isWarmed RX6 D ad ca A)    {r : Int32} {σ : wx_St}  {x1 : Int32} {x2 : Int32}   (h : f_X6_isWarmed x1 x2 σ = some r) {H : Heap} {locs : List Loc} (Z : wx_Z D ad rd ca A σ H) (hS : va_S A s.heap H locs) {ls : Array Slot} (hl : lv_has ls 4 [(0, .ref (ad 16 99)), (1, .int x1), (2, .int x2)]) : W p l e ({ frames := 2, cells := 0, slots := 0, locals := 45 } : Room) s m args below meth c H locs 0 0 (MQ below (wx_Q D ad rd ca A (some (.int r)) σ) args s 0 0 A) (F0 m 0 ls []) := by
  obtain ⟨hx, hb, hml, hr, hts, hown, hlk, hC, hA⟩ := id B
  unfold f_X6_isWarmed at h
  refine lv_iload_n hx hb dX6_isWarmed_0 rfl (lv_at hl 2 rfl) ?_
  refine lv_bipush (v := (-6)) hx hb dX6_isWarmed_1 (by decide) ?_
  refine lv_icmp_eq (tgt := 17) hx hb dX6_isWarmed_3 (by decide) (fun c3 => ?_) (fun c3 => ?_)
  · replace h := wx_ift c3 h
    refine lv_aload_n hx hb dX6_isWarmed_17 rfl (lv_at hl 0 rfl) ?_
    refine lv_iload_n hx hb dX6_isWarmed_18 rfl (lv_at hl 1 rfl) ?_
    obtain ⟨v19, hc19, h⟩ := wx_o_ok h
    refine wx_call (va_runV (As := [.int x1]) (rest := []) ⟨hx, hb, hml, hown, hts⟩ (c_X6_touchAt l (D := D) (ad := ad) (rd := rd) (ca := ca) (A := A) (σ := σ) hc19) (cwV 1 hts gX6_isWarmed_X6_touchAt rfl rfl rfl (by decide +kernel) ⟨Nat.le_of_ble_eq_true rfl, Nat.le_of_ble_eq_true rfl⟩) (wx_preV hC Z hS hA rfl (rfl : vwCl[6]? = some (RX6, TX6, 25))) rfl rfl hl.1 rfl (lv_room (Nat.le_of_ble_eq_true rfl)) dX6_isWarmed_19 ⟨Nat.zero_le _, Nat.zero_le _⟩) hS (fun H locs Z hS => ?_)
    refine lv_istore_n (lv' := [(3, .int v19), (0, .ref (ad 16 99)), (1, .int x1), (2, .int x2)]) hx hb dX6_isWarmed_22 rfl hl (by decide) rfl (fun ls hl => ?_)
    refine lv_iload_n hx hb dX6_isWarmed_23 rfl (lv_at hl 0 rfl) ?_
    refine lv_bipush (v := (-6)) hx hb dX6_isWarmed_24 (by decide) ?_
    refine lv_icmp_eq (tgt := 41) hx hb dX6_isWarmed_26 (by decide) (fun c26 => ?_) (fun c26 => ?_)
    · replace h := wx_ift c26 h
      exact b_X6_isWarmed_41 B h Z hS (lv_sub hl [1, 2, 3, 0] rfl)
    · replace h := wx_iff c26 h
      refine lv_aload_n hx hb dX6_isWarmed_29 rfl (lv_at hl 1 rfl) ?_
      refine lv_iload_n hx hb dX6_isWarmed_30 rfl (lv_at hl 0 rfl) ?_
      obtain ⟨v31, hc31, h⟩ := wx_o_ok h
      refine wx_call (va_runV (As := [.int v19]) (rest := []) ⟨hx, hb, hml, hown, hts⟩ (c_X6_isLive l (D := D) (ad := ad) (rd := rd) (ca := ca) (A := A) (σ := σ) hc31) (cwV 1 hts gX6_isWarmed_X6_isLive rfl rfl rfl (by decide +kernel) ⟨Nat.le_of_ble_eq_true rfl, Nat.le_of_ble_eq_true rfl⟩) (wx_preV hC Z hS hA rfl (rfl : vwCl[6]? = some (RX6, TX6, 25))) rfl rfl hl.1 rfl (lv_room (Nat.le_of_ble_eq_true rfl)) dX6_isWarmed_31 ⟨Nat.zero_le _, Nat.zero_le _⟩) hS (fun H locs Z hS => ?_)
      refine lv_if_eq (tgt := 41) hx hb dX6_isWarmed_34 (by decide) (fun c34 => ?_) (fun c34 => ?_)
      · replace h := wx_ift c34 h
        exact b_X6_isWarmed_41 B h Z hS (lv_sub hl [1, 2, 3, 0] rfl)
      · replace h := wx_iff c34 h
        refine lv_iconst (v := 1) hx hb dX6_isWarmed_37 (by decide) ?_
        refine lv_goto (tgt := 42) hx hb dX6_isWarmed_38 (by decide) ?_
        exact b_X6_isWarmed_42 B h Z hS (lv_sub hl [1, 2, 3, 0] rfl)
  · replace h := wx_iff c3 h
    refine lv_iload_n hx hb dX6_isWarmed_6 rfl (lv_at hl 1 rfl) ?_
    refine lv_iload_n hx hb dX6_isWarmed_7 rfl (lv_at hl 2 rfl) ?_
    refine lv_icmp_ne (tgt := 15) hx hb dX6_isWarmed_8 (by decide) (fun c8 => ?_) (fun c8 => ?_)
    · replace h := wx_iff c8 h
      refine lv_iconst (v := 0) hx hb dX6_isWarmed_15 (by decide) ?_
      exact b_X6_isWarmed_16 B h Z hS (lv_sub hl [0, 1, 2] rfl)
    · replace h := wx_ift c8 h
      refine lv_iconst (v := 1) hx hb dX6_isWarmed_11 (by decide) ?_
      refine lv_goto (tgt := 16) hx hb dX6_isWarmed_12 (by decide) ?_
      exact b_X6_isWarmed_16 B h Z hS (lv_sub hl [0, 1, 2] rfl)
set_option maxRecDepth 20000 in
theorem c_X6_isWarmed (l : Launch) {D : va_G} {ad : Nat → Nat → Nat} {rd : Nat → Nat} {ca : Nat → ClassId} {A : Nat → Prop} {σ : wx_St}    {x1 : Int32} {x2 : Int32} {r : Int32} (h : f_X6_isWarmed x1 x2 σ = some r) : wx_M l yX6_isWarmed wsX6_isWarmed 2 45 D ad rd ca A [.ref (ad 16 99), .int x1, .int x2] σ (some (.int r)) σ := by
  refine Met.ofW (cc := cX6_isWarmed) (maxL := 4) (ret := (some .boolean)) (by decide +kernel) rfl ?_
  intro p e s m args below meth c s₁ B0 hml hv
  obtain ⟨rfl, hC, Z, hA⟩ := hv
  have hl := lv_entry ([.ref (ad 16 99), .int x1, .int x2]) (n := 4) (Nat.le_of_ble_eq_true rfl)
  rw [lg_entry_eq]
  generalize (lg_sl ([.ref (ad 16 99), .int x1, .int x2]) ++ List.replicate (4 - (lg_sl ([.ref (ad 16 99), .int x1, .int x2])).length) Slot.unset).toArray = ls at hl ⊢
  exact b_X6_isWarmed_0 ⟨B0.exec, B0.bytes, hml, B0.returns, atoms_spec (ws := wsX6_isWarmed) B0.pre, findClass_of_methodNamed B0.named, B0.notSynchronized, hC, hA⟩   h Z va_S.rf hl
set_option maxRecDepth 20000 in
set_option maxHeartbeats 4000000 in
theorem b_X6_movesWarmth_3 (B : wx_B p s m args meth c cX6_movesWarmth 5 none wsX6_movesWarmth RX6 D ad ca A) {o0 : Nat} {k0 : Nat} {n0 : Nat} {o2 : Nat} {k2 : Nat} {n2 : Nat} {al : Nat → Bool} (hs0 : wx_sh al o0 k0 = (2, n0)) (hs2 : wx_sh al o2 k2 = (2, n2))  {σ' : wx_St}   :
    ∀ {n : Nat} {x1 : Int32} {x3 : Int32} {x4 : Int32} {σ : wx_St}  (h : f_X6_movesWarmth_3 o0 k0 n0 o2 k2 n2 n x1 x3 x4 σ = some ((), σ')) {H : Heap} {locs : List Loc} (Z : wx_Z D ad rd ca A σ H) (hS : va_S A s.heap H locs) {ls : Array Slot} (hl : lv_has ls 5 [(0, .ref (wx_ad ad rd o0 k0)), (1, .int x1), (2, .ref (wx_ad ad rd o2 k2)), (3, .int x3), (4, .int x4)]) (hal : σ.2.2.2.2 = al), W p l e ({ frames := 0, cells := 0, slots := 0, locals := 0 } : Room) s m args below meth c H locs 0 0 (MQ below (wx_Q D ad rd ca A none σ') args s 0 0 A) (F0 m 3 ls []) := by
  obtain ⟨hx, hb, hml, hr, hts, hown, hlk, hC, hA⟩ := id B
  intro n
  induction n with
  | zero => intro x1 x3 x4 σ  h H locs Z hS ls hl hal; exact wx_no h
  | succ n ih =>
    intro x1 x3 x4 σ  h H locs Z hS ls hl hal
    rw [f_X6_movesWarmth_3] at h
    refine lv_iload hx hb dX6_movesWarmth_3 (lv_at hl 4 rfl) ?_
    refine lv_bipush (v := 64) hx hb dX6_movesWarmth_5 (by decide) ?_
    refine lv_icmp_ge (tgt := 28) hx hb dX6_movesWarmth_7 (by decide) (fun c7 => ?_) (fun c7 => ?_)
    · replace h := wx_ift c7 h
      obtain ⟨-, rfl⟩ := wx_ret_ok h
      exact W.vret hx hb hr (fun t ht hW => ⟨rfl, by rw [ht]; exact Z, hS.F ht⟩) hS.2.2 dX6_movesWarmth_28
    · replace h := wx_iff c7 h
      refine lv_aload_n hx hb dX6_movesWarmth_10 rfl (lv_at hl 2 rfl) ?_
      refine lv_iload_n hx hb dX6_movesWarmth_11 rfl (lv_at hl 3 rfl) ?_
      refine lv_iload hx hb dX6_movesWarmth_12 (lv_at hl 4 rfl) ?_
      refine lv_iadd hx hb dX6_movesWarmth_14 ?_
      refine lv_aload_n hx hb dX6_movesWarmth_15 rfl (lv_at hl 0 rfl) ?_
      refine lv_iload_n hx hb dX6_movesWarmth_16 rfl (lv_at hl 1 rfl) ?_
      refine lv_iload hx hb dX6_movesWarmth_17 (lv_at hl 4 rfl) ?_
      refine lv_iadd hx hb dX6_movesWarmth_19 ?_
      obtain ⟨v20, ev20, iv20, h⟩ := wx_rF_ok h
      refine wx_fald hx hb hC.1 Z (o := o0) (k := k0) (n := n0) (wx_hal hal hs0) rfl iv20 dX6_movesWarmth_20 ev20 ?_
      obtain ⟨σ21, e21, i21, h⟩ := wx_w_ok h
      refine wx_fast hx hb hC.1 Z hS (o := o2) (k := k2) (n := n2) (wx_hal hal hs2) rfl i21 dX6_movesWarmth_21 e21 (fun H locs Z hS => ?_)
      replace hal := (show σ21.2.2.2.2 = σ.2.2.2.2 from (congrArg (fun z : wx_St => z.2.2.2.2) e21).trans rfl).trans hal
      refine lv_iinc (v := x4 + 1) (lv' := [(4, .int (x4 + 1)), (0, .ref (wx_ad ad rd o0 k0)), (1, .int x1), (2, .ref (wx_ad ad rd o2 k2)), (3, .int x3)]) hx hb dX6_movesWarmth_22 hl (k := 4) rfl rfl (by decide) rfl (fun ls hl => ?_)
      refine lv_goto (tgt := 3) hx hb dX6_movesWarmth_25 (by decide) ?_
      exact ih h Z hS (lv_sub hl [1, 2, 3, 4, 0] rfl) hal
set_option maxRecDepth 20000 in
set_option maxHeartbeats 4000000 in
theorem b_X6_movesWarmth_0 (B : wx_B p s m args meth c cX6_movesWarmth 5 none wsX6_movesWarmth RX6 D ad ca A) {o0 : Nat} {k0 : Nat} {n0 : Nat} {o2 : Nat} {k2 : Nat} {n2 : Nat} {al : Nat → Bool} (hs0 : wx_sh al o0 k0 = (2, n0)) (hs2 : wx_sh al o2 k2 = (2, n2))  {σ' : wx_St}  {x1 : Int32} {x3 : Int32} {σ : wx_St}  (h : f_X6_movesWarmth o0 k0 n0 o2 k2 n2 x1 x3 σ = some ((), σ')) {H : Heap} {locs : List Loc} (Z : wx_Z D ad rd ca A σ H) (hS : va_S A s.heap H locs) {ls : Array Slot} (hl : lv_has ls 5 [(0, .ref (wx_ad ad rd o0 k0)), (1, .int x1), (2, .ref (wx_ad ad rd o2 k2)), (3, .int x3)]) (hal : σ.2.2.2.2 = al) : W p l e ({ frames := 0, cells := 0, slots := 0, locals := 0 } : Room) s m args below meth c H locs 0 0 (MQ below (wx_Q D ad rd ca A none σ') args s 0 0 A) (F0 m 0 ls []) := by
  obtain ⟨hx, hb, hml, hr, hts, hown, hlk, hC, hA⟩ := id B
  unfold f_X6_movesWarmth at h
  refine lv_iconst (v := 0) hx hb dX6_movesWarmth_0 (by decide) ?_
  refine lv_istore (lv' := [(4, .int 0), (0, .ref (wx_ad ad rd o0 k0)), (1, .int x1), (2, .ref (wx_ad ad rd o2 k2)), (3, .int x3)]) hx hb dX6_movesWarmth_1 hl (by decide) rfl (fun ls hl => ?_)
  exact b_X6_movesWarmth_3 B hs0 hs2 h Z hS (lv_sub hl [1, 2, 3, 4, 0] rfl) hal
set_option maxRecDepth 20000 in
theorem c_X6_movesWarmth (l : Launch) {D : va_G} {ad : Nat → Nat → Nat} {rd : Nat → Nat} {ca : Nat → ClassId} {A : Nat → Prop} {σ : wx_St} {o0 : Nat} {k0 : Nat} {n0 : Nat} {o2 : Nat} {k2 : Nat} {n2 : Nat} {al : Nat → Bool} (hs0 : wx_sh al o0 k0 = (2, n0)) (hs2 : wx_sh al o2 k2 = (2, n2)) (hal : σ.2.2.2.2 = al) {x1 : Int32} {x3 : Int32}  {σ' : wx_St} (h : f_X6_movesWarmth o0 k0 n0 o2 k2 n2 x1 x3 σ = some ((), σ')) : wx_M l yX6_movesWarmth wsX6_movesWarmth 0 0 D ad rd ca A [.ref (wx_ad ad rd o0 k0), .int x1, .ref (wx_ad ad rd o2 k2), .int x3] σ none σ' := by
  refine Met.ofW (cc := cX6_movesWarmth) (maxL := 5) (ret := none) (by decide +kernel) rfl ?_
  intro p e s m args below meth c s₁ B0 hml hv
  obtain ⟨rfl, hC, Z, hA⟩ := hv
  have hl := lv_entry ([.ref (wx_ad ad rd o0 k0), .int x1, .ref (wx_ad ad rd o2 k2), .int x3]) (n := 5) (Nat.le_of_ble_eq_true rfl)
  rw [lg_entry_eq]
  generalize (lg_sl ([.ref (wx_ad ad rd o0 k0), .int x1, .ref (wx_ad ad rd o2 k2), .int x3]) ++ List.replicate (5 - (lg_sl ([.ref (wx_ad ad rd o0 k0), .int x1, .ref (wx_ad ad rd o2 k2), .int x3])).length) Slot.unset).toArray = ls at hl ⊢
  exact b_X6_movesWarmth_0 ⟨B0.exec, B0.bytes, hml, B0.returns, atoms_spec (ws := wsX6_movesWarmth) B0.pre, findClass_of_methodNamed B0.named, B0.notSynchronized, hC, hA⟩ hs0 hs2  h Z va_S.rf hl hal
set_option maxRecDepth 20000 in
set_option maxHeartbeats 4000000 in
theorem b_X6_within_15 (B : wx_B p s m args meth c cX6_within 3 (some .boolean) wsX6_within RX6 D ad ca A)    {r : Int32} {σ : wx_St}  {x0 : Int32} {x1 : Int32} {x2 : Int32} {y0 : Int32}   (h : f_X6_within_15 x0 x1 x2 y0 = some r) {H : Heap} {locs : List Loc} (Z : wx_Z D ad rd ca A σ H) (hS : va_S A s.heap H locs) {ls : Array Slot} (hl : lv_has ls 3 [(0, .int x0), (1, .int x1), (2, .int x2)]) : W p l e ({ frames := 0, cells := 0, slots := 0, locals := 0 } : Room) s m args below meth c H locs 0 0 (MQ below (wx_Q D ad rd ca A (some (.int r)) σ) args s 0 0 A) (F0 m 15 ls [.int y0]) := by
  obtain ⟨hx, hb, hml, hr, hts, hown, hlk, hC, hA⟩ := id B
  unfold f_X6_within_15 at h
  obtain ⟨hz, h⟩ := wx_z_ok h
  obtain rfl := Option.some.inj h
  exact W.zret hx hb hr (wx_nb hz) (fun t ht hW => ⟨rfl, by rw [ht]; exact Z, hS.F ht⟩) hS.2.2 dX6_within_15
set_option maxRecDepth 20000 in
set_option maxHeartbeats 4000000 in
theorem b_X6_within_14 (B : wx_B p s m args meth c cX6_within 3 (some .boolean) wsX6_within RX6 D ad ca A)    {r : Int32} {σ : wx_St}  {x0 : Int32} {x1 : Int32} {x2 : Int32}   (h : f_X6_within_14 x0 x1 x2 = some r) {H : Heap} {locs : List Loc} (Z : wx_Z D ad rd ca A σ H) (hS : va_S A s.heap H locs) {ls : Array Slot} (hl : lv_has ls 3 [(0, .int x0), (1, .int x1), (2, .int x2)]) : W p l e ({ frames := 0, cells := 0, slots := 0, locals := 0 } : Room) s m args below meth c H locs 0 0 (MQ below (wx_Q D ad rd ca A (some (.int r)) σ) args s 0 0 A) (F0 m 14 ls []) := by
  obtain ⟨hx, hb, hml, hr, hts, hown, hlk, hC, hA⟩ := id B
  unfold f_X6_within_14 at h
  refine lv_iconst (v := 0) hx hb dX6_within_14 (by decide) ?_
  exact b_X6_within_15 B h Z hS (lv_sub hl [0, 1, 2] rfl)
set_option maxRecDepth 20000 in
set_option maxHeartbeats 4000000 in
theorem b_X6_within_0 (B : wx_B p s m args meth c cX6_within 3 (some .boolean) wsX6_within RX6 D ad ca A)    {r : Int32} {σ : wx_St}  {x0 : Int32} {x1 : Int32} {x2 : Int32}   (h : f_X6_within x0 x1 x2 = some r) {H : Heap} {locs : List Loc} (Z : wx_Z D ad rd ca A σ H) (hS : va_S A s.heap H locs) {ls : Array Slot} (hl : lv_has ls 3 [(0, .int x0), (1, .int x1), (2, .int x2)]) : W p l e ({ frames := 0, cells := 0, slots := 0, locals := 0 } : Room) s m args below meth c H locs 0 0 (MQ below (wx_Q D ad rd ca A (some (.int r)) σ) args s 0 0 A) (F0 m 0 ls []) := by
  obtain ⟨hx, hb, hml, hr, hts, hown, hlk, hC, hA⟩ := id B
  unfold f_X6_within at h
  refine lv_iload_n hx hb dX6_within_0 rfl (lv_at hl 0 rfl) ?_
  refine lv_iload_n hx hb dX6_within_1 rfl (lv_at hl 1 rfl) ?_
  refine lv_icmp_lt (tgt := 14) hx hb dX6_within_2 (by decide) (fun c2 => ?_) (fun c2 => ?_)
  · replace h := wx_ift c2 h
    exact b_X6_within_14 B h Z hS (lv_sub hl [0, 1, 2] rfl)
  · replace h := wx_iff c2 h
    refine lv_iload_n hx hb dX6_within_5 rfl (lv_at hl 0 rfl) ?_
    refine lv_iload_n hx hb dX6_within_6 rfl (lv_at hl 2 rfl) ?_
    refine lv_icmp_gt (tgt := 14) hx hb dX6_within_7 (by decide) (fun c7 => ?_) (fun c7 => ?_)
    · replace h := wx_ift c7 h
      exact b_X6_within_14 B h Z hS (lv_sub hl [0, 1, 2] rfl)
    · replace h := wx_iff c7 h
      refine lv_iconst (v := 1) hx hb dX6_within_10 (by decide) ?_
      refine lv_goto (tgt := 15) hx hb dX6_within_11 (by decide) ?_
      exact b_X6_within_15 B h Z hS (lv_sub hl [0, 1, 2] rfl)
set_option maxRecDepth 20000 in
theorem c_X6_within (l : Launch) {D : va_G} {ad : Nat → Nat → Nat} {rd : Nat → Nat} {ca : Nat → ClassId} {A : Nat → Prop} {σ : wx_St}    {x0 : Int32} {x1 : Int32} {x2 : Int32} {r : Int32} (h : f_X6_within x0 x1 x2 = some r) : wx_M l yX6_within wsX6_within 0 0 D ad rd ca A [.int x0, .int x1, .int x2] σ (some (.int r)) σ := by
  refine Met.ofW (cc := cX6_within) (maxL := 3) (ret := (some .boolean)) (by decide +kernel) rfl ?_
  intro p e s m args below meth c s₁ B0 hml hv
  obtain ⟨rfl, hC, Z, hA⟩ := hv
  have hl := lv_entry ([.int x0, .int x1, .int x2]) (n := 3) (Nat.le_of_ble_eq_true rfl)
  rw [lg_entry_eq]
  generalize (lg_sl ([.int x0, .int x1, .int x2]) ++ List.replicate (3 - (lg_sl ([.int x0, .int x1, .int x2])).length) Slot.unset).toArray = ls at hl ⊢
  exact b_X6_within_0 ⟨B0.exec, B0.bytes, hml, B0.returns, atoms_spec (ws := wsX6_within) B0.pre, findClass_of_methodNamed B0.named, B0.notSynchronized, hC, hA⟩   h Z va_S.rf hl
set_option maxRecDepth 20000 in
set_option maxHeartbeats 4000000 in
theorem b_X6_isOnSide_0 (B : wx_B p s m args meth c cX6_isOnSide 1 (some .boolean) wsX6_isOnSide RX6 D ad ca A)    {r : Int32} {σ : wx_St}  {x0 : Int32}   (h : f_X6_isOnSide x0 = some r) {H : Heap} {locs : List Loc} (Z : wx_Z D ad rd ca A σ H) (hS : va_S A s.heap H locs) {ls : Array Slot} (hl : lv_has ls 1 [(0, .int x0)]) : W p l e ({ frames := 1, cells := 0, slots := 0, locals := 22 } : Room) s m args below meth c H locs 0 0 (MQ below (wx_Q D ad rd ca A (some (.int r)) σ) args s 0 0 A) (F0 m 0 ls []) := by
  obtain ⟨hx, hb, hml, hr, hts, hown, hlk, hC, hA⟩ := id B
  unfold f_X6_isOnSide at h
  refine lv_iload_n hx hb dX6_isOnSide_0 rfl (lv_at hl 0 rfl) ?_
  refine lv_iconst (v := 0) hx hb dX6_isOnSide_1 (by decide) ?_
  refine lv_bipush (v := 7) hx hb dX6_isOnSide_2 (by decide) ?_
  obtain ⟨v4, hc4, h⟩ := wx_o_ok h
  refine wx_call (va_runS (As := [.int x0, .int 0, .int 7]) (rest := []) ⟨hx, hb, hml, hown, hts⟩ (c_X6_within l (D := D) (ad := ad) (rd := rd) (ca := ca) (A := A) (σ := σ) hc4) (va_cwS 3 hts gX6_isOnSide_X6_within rfl rfl rfl (by decide +kernel) ⟨Nat.le_of_ble_eq_true rfl, Nat.le_of_ble_eq_true rfl⟩) (wx_preS hC Z hS hA) rfl rfl hl.1 rfl (lv_room (Nat.le_of_ble_eq_true rfl)) dX6_isOnSide_4 ⟨Nat.zero_le _, Nat.zero_le _⟩) hS (fun H locs Z hS => ?_)
  obtain ⟨hz, h⟩ := wx_z_ok h
  obtain rfl := Option.some.inj h
  exact W.zret hx hb hr (wx_nb hz) (fun t ht hW => ⟨rfl, by rw [ht]; exact Z, hS.F ht⟩) hS.2.2 dX6_isOnSide_7
set_option maxRecDepth 20000 in
theorem c_X6_isOnSide (l : Launch) {D : va_G} {ad : Nat → Nat → Nat} {rd : Nat → Nat} {ca : Nat → ClassId} {A : Nat → Prop} {σ : wx_St}    {x0 : Int32} {r : Int32} (h : f_X6_isOnSide x0 = some r) : wx_M l yX6_isOnSide wsX6_isOnSide 1 22 D ad rd ca A [.int x0] σ (some (.int r)) σ := by
  refine Met.ofW (cc := cX6_isOnSide) (maxL := 1) (ret := (some .boolean)) (by decide +kernel) rfl ?_
  intro p e s m args below meth c s₁ B0 hml hv
  obtain ⟨rfl, hC, Z, hA⟩ := hv
  have hl := lv_entry ([.int x0]) (n := 1) (Nat.le_of_ble_eq_true rfl)
  rw [lg_entry_eq]
  generalize (lg_sl ([.int x0]) ++ List.replicate (1 - (lg_sl ([.int x0])).length) Slot.unset).toArray = ls at hl ⊢
  exact b_X6_isOnSide_0 ⟨B0.exec, B0.bytes, hml, B0.returns, atoms_spec (ws := wsX6_isOnSide) B0.pre, findClass_of_methodNamed B0.named, B0.notSynchronized, hC, hA⟩   h Z va_S.rf hl
set_option maxRecDepth 20000 in
set_option maxHeartbeats 4000000 in
theorem b_X6_isPlace_19 (B : wx_B p s m args meth c cX6_isPlace 2 (some .boolean) wsX6_isPlace RX6 D ad ca A)    {r : Int32} {σ : wx_St}  {x0 : Int32} {x1 : Int32} {y0 : Int32}   (h : f_X6_isPlace_19 x0 x1 y0 = some r) {H : Heap} {locs : List Loc} (Z : wx_Z D ad rd ca A σ H) (hS : va_S A s.heap H locs) {ls : Array Slot} (hl : lv_has ls 2 [(0, .int x0), (1, .int x1)]) : W p l e ({ frames := 2, cells := 0, slots := 0, locals := 42 } : Room) s m args below meth c H locs 0 0 (MQ below (wx_Q D ad rd ca A (some (.int r)) σ) args s 0 0 A) (F0 m 19 ls [.int y0]) := by
  obtain ⟨hx, hb, hml, hr, hts, hown, hlk, hC, hA⟩ := id B
  unfold f_X6_isPlace_19 at h
  obtain ⟨hz, h⟩ := wx_z_ok h
  obtain rfl := Option.some.inj h
  exact W.zret hx hb hr (wx_nb hz) (fun t ht hW => ⟨rfl, by rw [ht]; exact Z, hS.F ht⟩) hS.2.2 dX6_isPlace_19
set_option maxRecDepth 20000 in
set_option maxHeartbeats 4000000 in
theorem b_X6_isPlace_18 (B : wx_B p s m args meth c cX6_isPlace 2 (some .boolean) wsX6_isPlace RX6 D ad ca A)    {r : Int32} {σ : wx_St}  {x0 : Int32} {x1 : Int32}   (h : f_X6_isPlace_18 x0 x1 = some r) {H : Heap} {locs : List Loc} (Z : wx_Z D ad rd ca A σ H) (hS : va_S A s.heap H locs) {ls : Array Slot} (hl : lv_has ls 2 [(0, .int x0), (1, .int x1)]) : W p l e ({ frames := 2, cells := 0, slots := 0, locals := 42 } : Room) s m args below meth c H locs 0 0 (MQ below (wx_Q D ad rd ca A (some (.int r)) σ) args s 0 0 A) (F0 m 18 ls []) := by
  obtain ⟨hx, hb, hml, hr, hts, hown, hlk, hC, hA⟩ := id B
  unfold f_X6_isPlace_18 at h
  refine lv_iconst (v := 0) hx hb dX6_isPlace_18 (by decide) ?_
  exact b_X6_isPlace_19 B h Z hS (lv_sub hl [0, 1] rfl)
set_option maxRecDepth 20000 in
set_option maxHeartbeats 4000000 in
theorem b_X6_isPlace_0 (B : wx_B p s m args meth c cX6_isPlace 2 (some .boolean) wsX6_isPlace RX6 D ad ca A)    {r : Int32} {σ : wx_St}  {x0 : Int32} {x1 : Int32}   (h : f_X6_isPlace x0 x1 = some r) {H : Heap} {locs : List Loc} (Z : wx_Z D ad rd ca A σ H) (hS : va_S A s.heap H locs) {ls : Array Slot} (hl : lv_has ls 2 [(0, .int x0), (1, .int x1)]) : W p l e ({ frames := 2, cells := 0, slots := 0, locals := 42 } : Room) s m args below meth c H locs 0 0 (MQ below (wx_Q D ad rd ca A (some (.int r)) σ) args s 0 0 A) (F0 m 0 ls []) := by
  obtain ⟨hx, hb, hml, hr, hts, hown, hlk, hC, hA⟩ := id B
  unfold f_X6_isPlace at h
  refine lv_iload_n hx hb dX6_isPlace_0 rfl (lv_at hl 0 rfl) ?_
  obtain ⟨v1, hc1, h⟩ := wx_o_ok h
  refine wx_call (va_runS (As := [.int x0]) (rest := []) ⟨hx, hb, hml, hown, hts⟩ (c_X6_isOnSide l (D := D) (ad := ad) (rd := rd) (ca := ca) (A := A) (σ := σ) hc1) (va_cwS 1 hts gX6_isPlace_X6_isOnSide rfl rfl rfl (by decide +kernel) ⟨Nat.le_of_ble_eq_true rfl, Nat.le_of_ble_eq_true rfl⟩) (wx_preS hC Z hS hA) rfl rfl hl.1 rfl (lv_room (Nat.le_of_ble_eq_true rfl)) dX6_isPlace_1 ⟨Nat.zero_le _, Nat.zero_le _⟩) hS (fun H locs Z hS => ?_)
  refine lv_if_eq (tgt := 18) hx hb dX6_isPlace_4 (by decide) (fun c4 => ?_) (fun c4 => ?_)
  · replace h := wx_ift c4 h
    exact b_X6_isPlace_18 B h Z hS (lv_sub hl [0, 1] rfl)
  · replace h := wx_iff c4 h
    refine lv_iload_n hx hb dX6_isPlace_7 rfl (lv_at hl 1 rfl) ?_
    obtain ⟨v8, hc8, h⟩ := wx_o_ok h
    refine wx_call (va_runS (As := [.int x1]) (rest := []) ⟨hx, hb, hml, hown, hts⟩ (c_X6_isOnSide l (D := D) (ad := ad) (rd := rd) (ca := ca) (A := A) (σ := σ) hc8) (va_cwS 1 hts gX6_isPlace_X6_isOnSide rfl rfl rfl (by decide +kernel) ⟨Nat.le_of_ble_eq_true rfl, Nat.le_of_ble_eq_true rfl⟩) (wx_preS hC Z hS hA) rfl rfl hl.1 rfl (lv_room (Nat.le_of_ble_eq_true rfl)) dX6_isPlace_8 ⟨Nat.zero_le _, Nat.zero_le _⟩) hS (fun H locs Z hS => ?_)
    refine lv_if_eq (tgt := 18) hx hb dX6_isPlace_11 (by decide) (fun c11 => ?_) (fun c11 => ?_)
    · replace h := wx_ift c11 h
      exact b_X6_isPlace_18 B h Z hS (lv_sub hl [0, 1] rfl)
    · replace h := wx_iff c11 h
      refine lv_iconst (v := 1) hx hb dX6_isPlace_14 (by decide) ?_
      refine lv_goto (tgt := 19) hx hb dX6_isPlace_15 (by decide) ?_
      exact b_X6_isPlace_19 B h Z hS (lv_sub hl [0, 1] rfl)
set_option maxRecDepth 20000 in
theorem c_X6_isPlace (l : Launch) {D : va_G} {ad : Nat → Nat → Nat} {rd : Nat → Nat} {ca : Nat → ClassId} {A : Nat → Prop} {σ : wx_St}    {x0 : Int32} {x1 : Int32} {r : Int32} (h : f_X6_isPlace x0 x1 = some r) : wx_M l yX6_isPlace wsX6_isPlace 2 42 D ad rd ca A [.int x0, .int x1] σ (some (.int r)) σ := by
  refine Met.ofW (cc := cX6_isPlace) (maxL := 2) (ret := (some .boolean)) (by decide +kernel) rfl ?_
  intro p e s m args below meth c s₁ B0 hml hv
  obtain ⟨rfl, hC, Z, hA⟩ := hv
  have hl := lv_entry ([.int x0, .int x1]) (n := 2) (Nat.le_of_ble_eq_true rfl)
  rw [lg_entry_eq]
  generalize (lg_sl ([.int x0, .int x1]) ++ List.replicate (2 - (lg_sl ([.int x0, .int x1])).length) Slot.unset).toArray = ls at hl ⊢
  exact b_X6_isPlace_0 ⟨B0.exec, B0.bytes, hml, B0.returns, atoms_spec (ws := wsX6_isPlace) B0.pre, findClass_of_methodNamed B0.named, B0.notSynchronized, hC, hA⟩   h Z va_S.rf hl
set_option maxRecDepth 20000 in
set_option maxHeartbeats 4000000 in
theorem b_X6_placeOf_0 (B : wx_B p s m args meth c cX6_placeOf 2 (some .int) wsX6_placeOf RX6 D ad ca A)    {r : Int32} {σ : wx_St}  {x0 : Int32} {x1 : Int32}   (h : f_X6_placeOf x0 x1 = some r) {H : Heap} {locs : List Loc} (Z : wx_Z D ad rd ca A σ H) (hS : va_S A s.heap H locs) {ls : Array Slot} (hl : lv_has ls 2 [(0, .int x0), (1, .int x1)]) : W p l e ({ frames := 0, cells := 0, slots := 0, locals := 0 } : Room) s m args below meth c H locs 0 0 (MQ below (wx_Q D ad rd ca A (some (.int r)) σ) args s 0 0 A) (F0 m 0 ls []) := by
  obtain ⟨hx, hb, hml, hr, hts, hown, hlk, hC, hA⟩ := id B
  unfold f_X6_placeOf at h
  refine lv_bipush (v := 8) hx hb dX6_placeOf_0 (by decide) ?_
  refine lv_iload_n hx hb dX6_placeOf_2 rfl (lv_at hl 0 rfl) ?_
  refine lv_imul hx hb dX6_placeOf_3 ?_
  refine lv_iload_n hx hb dX6_placeOf_4 rfl (lv_at hl 1 rfl) ?_
  refine lv_iadd hx hb dX6_placeOf_5 ?_
  obtain rfl := Option.some.inj h
  exact W.iret hx hb hr (fun t ht hW => ⟨rfl, by rw [ht]; exact Z, hS.F ht⟩) hS.2.2 dX6_placeOf_6
set_option maxRecDepth 20000 in
theorem c_X6_placeOf (l : Launch) {D : va_G} {ad : Nat → Nat → Nat} {rd : Nat → Nat} {ca : Nat → ClassId} {A : Nat → Prop} {σ : wx_St}    {x0 : Int32} {x1 : Int32} {r : Int32} (h : f_X6_placeOf x0 x1 = some r) : wx_M l yX6_placeOf wsX6_placeOf 0 0 D ad rd ca A [.int x0, .int x1] σ (some (.int r)) σ := by
  refine Met.ofW (cc := cX6_placeOf) (maxL := 2) (ret := (some .int)) (by decide +kernel) rfl ?_
  intro p e s m args below meth c s₁ B0 hml hv
  obtain ⟨rfl, hC, Z, hA⟩ := hv
  have hl := lv_entry ([.int x0, .int x1]) (n := 2) (Nat.le_of_ble_eq_true rfl)
  rw [lg_entry_eq]
  generalize (lg_sl ([.int x0, .int x1]) ++ List.replicate (2 - (lg_sl ([.int x0, .int x1])).length) Slot.unset).toArray = ls at hl ⊢
  exact b_X6_placeOf_0 ⟨B0.exec, B0.bytes, hml, B0.returns, atoms_spec (ws := wsX6_placeOf) B0.pre, findClass_of_methodNamed B0.named, B0.notSynchronized, hC, hA⟩   h Z va_S.rf hl
set_option maxRecDepth 20000 in
set_option maxHeartbeats 4000000 in
theorem b_X6_neighbour_67 (B : wx_B p s m args meth c cX6_neighbour 4 (some .int) wsX6_neighbour RX6 D ad ca A)    {r : Int32} {σ : wx_St}  {x0 : Int32} {x1 : Int32} {x2 : Int32} {x3 : Int32} {y0 : Int32}   (h : f_X6_neighbour_67 x0 x1 x2 x3 y0 = some r) {H : Heap} {locs : List Loc} (Z : wx_Z D ad rd ca A σ H) (hS : va_S A s.heap H locs) {ls : Array Slot} (hl : lv_has ls 4 [(0, .int x0), (1, .int x1), (2, .int x2), (3, .int x3)]) : W p l e ({ frames := 3, cells := 0, slots := 0, locals := 63 } : Room) s m args below meth c H locs 0 0 (MQ below (wx_Q D ad rd ca A (some (.int r)) σ) args s 0 0 A) (F0 m 67 ls [.int y0]) := by
  obtain ⟨hx, hb, hml, hr, hts, hown, hlk, hC, hA⟩ := id B
  unfold f_X6_neighbour_67 at h
  obtain rfl := Option.some.inj h
  exact W.iret hx hb hr (fun t ht hW => ⟨rfl, by rw [ht]; exact Z, hS.F ht⟩) hS.2.2 dX6_neighbour_67
set_option maxRecDepth 20000 in
set_option maxHeartbeats 4000000 in
theorem b_X6_neighbour_47 (B : wx_B p s m args meth c cX6_neighbour 4 (some .int) wsX6_neighbour RX6 D ad ca A)    {r : Int32} {σ : wx_St}  {x0 : Int32} {x1 : Int32} {x2 : Int32} {y0 : Int32} {y1 : Int32}   (h : f_X6_neighbour_47 x0 x1 x2 y0 y1 = some r) {H : Heap} {locs : List Loc} (Z : wx_Z D ad rd ca A σ H) (hS : va_S A s.heap H locs) {ls : Array Slot} (hl : lv_has ls 4 [(0, .int x0), (1, .int x1), (2, .int x2)]) : W p l e ({ frames := 3, cells := 0, slots := 0, locals := 63 } : Room) s m args below meth c H locs 0 0 (MQ below (wx_Q D ad rd ca A (some (.int r)) σ) args s 0 0 A) (F0 m 47 ls [.int y1, .int y0]) := by
  obtain ⟨hx, hb, hml, hr, hts, hown, hlk, hC, hA⟩ := id B
  unfold f_X6_neighbour_47 at h
  refine lv_iadd hx hb dX6_neighbour_47 ?_
  refine lv_istore_n (lv' := [(3, .int (y0 + y1)), (0, .int x0), (1, .int x1), (2, .int x2)]) hx hb dX6_neighbour_48 rfl hl (by decide) rfl (fun ls hl => ?_)
  refine lv_iload_n hx hb dX6_neighbour_49 rfl (lv_at hl 3 rfl) ?_
  refine lv_iload_n hx hb dX6_neighbour_50 rfl (lv_at hl 0 rfl) ?_
  obtain ⟨v51, hc51, h⟩ := wx_o_ok h
  refine wx_call (va_runS (As := [.int x2, .int (y0 + y1)]) (rest := []) ⟨hx, hb, hml, hown, hts⟩ (c_X6_isPlace l (D := D) (ad := ad) (rd := rd) (ca := ca) (A := A) (σ := σ) hc51) (va_cwS 2 hts gX6_neighbour_X6_isPlace rfl rfl rfl (by decide +kernel) ⟨Nat.le_of_ble_eq_true rfl, Nat.le_of_ble_eq_true rfl⟩) (wx_preS hC Z hS hA) rfl rfl hl.1 rfl (lv_room (Nat.le_of_ble_eq_true rfl)) dX6_neighbour_51 ⟨Nat.zero_le _, Nat.zero_le _⟩) hS (fun H locs Z hS => ?_)
  refine lv_if_eq (tgt := 65) hx hb dX6_neighbour_54 (by decide) (fun c54 => ?_) (fun c54 => ?_)
  · replace h := wx_ift c54 h
    refine lv_bipush (v := (-6)) hx hb dX6_neighbour_65 (by decide) ?_
    exact b_X6_neighbour_67 B h Z hS (lv_sub hl [1, 2, 3, 0] rfl)
  · replace h := wx_iff c54 h
    refine lv_iload_n hx hb dX6_neighbour_57 rfl (lv_at hl 3 rfl) ?_
    refine lv_iload_n hx hb dX6_neighbour_58 rfl (lv_at hl 0 rfl) ?_
    obtain ⟨v59, hc59, h⟩ := wx_o_ok h
    refine wx_call (va_runS (As := [.int x2, .int (y0 + y1)]) (rest := []) ⟨hx, hb, hml, hown, hts⟩ (c_X6_placeOf l (D := D) (ad := ad) (rd := rd) (ca := ca) (A := A) (σ := σ) hc59) (va_cwS 2 hts gX6_neighbour_X6_placeOf rfl rfl rfl (by decide +kernel) ⟨Nat.le_of_ble_eq_true rfl, Nat.le_of_ble_eq_true rfl⟩) (wx_preS hC Z hS hA) rfl rfl hl.1 rfl (lv_room (Nat.le_of_ble_eq_true rfl)) dX6_neighbour_59 ⟨Nat.zero_le _, Nat.zero_le _⟩) hS (fun H locs Z hS => ?_)
    refine lv_goto (tgt := 67) hx hb dX6_neighbour_62 (by decide) ?_
    exact b_X6_neighbour_67 B h Z hS (lv_sub hl [1, 2, 3, 0] rfl)
set_option maxRecDepth 20000 in
set_option maxHeartbeats 4000000 in
theorem b_X6_neighbour_22 (B : wx_B p s m args meth c cX6_neighbour 4 (some .int) wsX6_neighbour RX6 D ad ca A)    {r : Int32} {σ : wx_St}  {x0 : Int32} {x1 : Int32} {y0 : Int32} {y1 : Int32}   (h : f_X6_neighbour_22 x0 x1 y0 y1 = some r) {H : Heap} {locs : List Loc} (Z : wx_Z D ad rd ca A σ H) (hS : va_S A s.heap H locs) {ls : Array Slot} (hl : lv_has ls 4 [(0, .int x0), (1, .int x1)]) : W p l e ({ frames := 3, cells := 0, slots := 0, locals := 63 } : Room) s m args below meth c H locs 0 0 (MQ below (wx_Q D ad rd ca A (some (.int r)) σ) args s 0 0 A) (F0 m 22 ls [.int y1, .int y0]) := by
  obtain ⟨hx, hb, hml, hr, hts, hown, hlk, hC, hA⟩ := id B
  unfold f_X6_neighbour_22 at h
  refine lv_iadd hx hb dX6_neighbour_22 ?_
  refine lv_istore_n (lv' := [(2, .int (y0 + y1)), (0, .int x0), (1, .int x1)]) hx hb dX6_neighbour_23 rfl hl (by decide) rfl (fun ls hl => ?_)
  refine lv_iload_n hx hb dX6_neighbour_24 rfl (lv_at hl 1 rfl) ?_
  refine lv_bipush (v := 8) hx hb dX6_neighbour_25 (by decide) ?_
  refine lv_irem hx hb dX6_neighbour_27 (by decide) ?_
  refine lv_iload_n hx hb dX6_neighbour_28 rfl (lv_at hl 2 rfl) ?_
  refine lv_iconst (v := 2) hx hb dX6_neighbour_29 (by decide) ?_
  refine lv_icmp_ne (tgt := 37) hx hb dX6_neighbour_30 (by decide) (fun c30 => ?_) (fun c30 => ?_)
  · replace h := wx_iff c30 h
    refine lv_iload_n hx hb dX6_neighbour_37 rfl (lv_at hl 2 rfl) ?_
    refine lv_iconst (v := 3) hx hb dX6_neighbour_38 (by decide) ?_
    refine lv_icmp_ne (tgt := 46) hx hb dX6_neighbour_39 (by decide) (fun c39 => ?_) (fun c39 => ?_)
    · replace h := wx_iff c39 h
      refine lv_iconst (v := 0) hx hb dX6_neighbour_46 (by decide) ?_
      exact b_X6_neighbour_47 B h Z hS (lv_sub hl [1, 2, 0] rfl)
    · replace h := wx_ift c39 h
      refine lv_iconst (v := 1) hx hb dX6_neighbour_42 (by decide) ?_
      refine lv_goto (tgt := 47) hx hb dX6_neighbour_43 (by decide) ?_
      exact b_X6_neighbour_47 B h Z hS (lv_sub hl [1, 2, 0] rfl)
  · replace h := wx_ift c30 h
    refine lv_iconst (v := (-1)) hx hb dX6_neighbour_33 (by decide) ?_
    refine lv_goto (tgt := 47) hx hb dX6_neighbour_34 (by decide) ?_
    exact b_X6_neighbour_47 B h Z hS (lv_sub hl [1, 2, 0] rfl)
set_option maxRecDepth 20000 in
set_option maxHeartbeats 4000000 in
theorem b_X6_neighbour_0 (B : wx_B p s m args meth c cX6_neighbour 4 (some .int) wsX6_neighbour RX6 D ad ca A)    {r : Int32} {σ : wx_St}  {x0 : Int32} {x1 : Int32}   (h : f_X6_neighbour x0 x1 = some r) {H : Heap} {locs : List Loc} (Z : wx_Z D ad rd ca A σ H) (hS : va_S A s.heap H locs) {ls : Array Slot} (hl : lv_has ls 4 [(0, .int x0), (1, .int x1)]) : W p l e ({ frames := 3, cells := 0, slots := 0, locals := 63 } : Room) s m args below meth c H locs 0 0 (MQ below (wx_Q D ad rd ca A (some (.int r)) σ) args s 0 0 A) (F0 m 0 ls []) := by
  obtain ⟨hx, hb, hml, hr, hts, hown, hlk, hC, hA⟩ := id B
  unfold f_X6_neighbour at h
  refine lv_iload_n hx hb dX6_neighbour_0 rfl (lv_at hl 0 rfl) ?_
  refine lv_bipush (v := 8) hx hb dX6_neighbour_1 (by decide) ?_
  refine lv_idiv hx hb dX6_neighbour_3 (by decide) ?_
  refine lv_iload_n hx hb dX6_neighbour_4 rfl (lv_at hl 1 rfl) ?_
  refine lv_if_ne (tgt := 12) hx hb dX6_neighbour_5 (by decide) (fun c5 => ?_) (fun c5 => ?_)
  · replace h := wx_iff c5 h
    refine lv_iload_n hx hb dX6_neighbour_12 rfl (lv_at hl 1 rfl) ?_
    refine lv_iconst (v := 1) hx hb dX6_neighbour_13 (by decide) ?_
    refine lv_icmp_ne (tgt := 21) hx hb dX6_neighbour_14 (by decide) (fun c14 => ?_) (fun c14 => ?_)
    · replace h := wx_iff c14 h
      refine lv_iconst (v := 0) hx hb dX6_neighbour_21 (by decide) ?_
      exact b_X6_neighbour_22 B h Z hS (lv_sub hl [0, 1] rfl)
    · replace h := wx_ift c14 h
      refine lv_iconst (v := 1) hx hb dX6_neighbour_17 (by decide) ?_
      refine lv_goto (tgt := 22) hx hb dX6_neighbour_18 (by decide) ?_
      exact b_X6_neighbour_22 B h Z hS (lv_sub hl [0, 1] rfl)
  · replace h := wx_ift c5 h
    refine lv_iconst (v := (-1)) hx hb dX6_neighbour_8 (by decide) ?_
    refine lv_goto (tgt := 22) hx hb dX6_neighbour_9 (by decide) ?_
    exact b_X6_neighbour_22 B h Z hS (lv_sub hl [0, 1] rfl)
set_option maxRecDepth 20000 in
theorem c_X6_neighbour (l : Launch) {D : va_G} {ad : Nat → Nat → Nat} {rd : Nat → Nat} {ca : Nat → ClassId} {A : Nat → Prop} {σ : wx_St}    {x0 : Int32} {x1 : Int32} {r : Int32} (h : f_X6_neighbour x0 x1 = some r) : wx_M l yX6_neighbour wsX6_neighbour 3 63 D ad rd ca A [.int x0, .int x1] σ (some (.int r)) σ := by
  refine Met.ofW (cc := cX6_neighbour) (maxL := 4) (ret := (some .int)) (by decide +kernel) rfl ?_
  intro p e s m args below meth c s₁ B0 hml hv
  obtain ⟨rfl, hC, Z, hA⟩ := hv
  have hl := lv_entry ([.int x0, .int x1]) (n := 4) (Nat.le_of_ble_eq_true rfl)
  rw [lg_entry_eq]
  generalize (lg_sl ([.int x0, .int x1]) ++ List.replicate (4 - (lg_sl ([.int x0, .int x1])).length) Slot.unset).toArray = ls at hl ⊢
  exact b_X6_neighbour_0 ⟨B0.exec, B0.bytes, hml, B0.returns, atoms_spec (ws := wsX6_neighbour) B0.pre, findClass_of_methodNamed B0.named, B0.notSynchronized, hC, hA⟩   h Z va_S.rf hl
theorem i_X6_steps_6 : ∀ w ∈ wsX60, w ∈ wsX6_steps := by decide +kernel
theorem k_X6_steps_w0 : Cond.fieldLink RX6 38 "WarmProbesModel" "next" "[F" ∈ wsX6_steps := by decide +kernel
theorem k_X6_steps_w1 : Cond.fieldLink RX6 35 "WarmProbesModel" "thought" "[F" ∈ wsX6_steps := by decide +kernel
theorem k_X6_steps_w2 : Cond.fieldLink RX6 7 "WarmProbesModel" "state" "[I" ∈ wsX6_steps := by decide +kernel
theorem k_X6_steps_w3 : Cond.constantFloat RX6 103 (1120403456) ∈ wsX6_steps := by decide +kernel
set_option maxRecDepth 20000 in
set_option maxHeartbeats 4000000 in
theorem b_X6_steps_67 (B : wx_B p s m args meth c cX6_steps 7 none wsX6_steps RX6 D ad ca A)     {σ' : wx_St} {K2 : Int32 → Int32 → wx_St → Option (Unit × wx_St)} (hK2 : ∀ {x1 : Int32} {x2 : Int32} {σ : wx_St}  (h : K2 x1 x2 σ = some ((), σ')) {H : Heap} {locs : List Loc} (Z : wx_Z D ad rd ca A σ H) (hS : va_S A s.heap H locs) {ls : Array Slot} (hl : lv_has ls 7 [(0, .ref (ad 16 99)), (1, .int x1), (2, .int x2)]), W p l e ({ frames := 4, cells := 0, slots := 0, locals := 86 } : Room) s m args below meth c H locs 0 0 (MQ below (wx_Q D ad rd ca A none σ') args s 0 0 A) (F0 m 2 ls [])) {K21 : Int32 → Int32 → UInt32 → UInt32 → Int32 → wx_St → Option (Unit × wx_St)} (hK21 : ∀ {x1 : Int32} {x2 : Int32} {x3 : UInt32} {x4 : UInt32} {x5 : Int32} {σ : wx_St}  (h : K21 x1 x2 x3 x4 x5 σ = some ((), σ')) {H : Heap} {locs : List Loc} (Z : wx_Z D ad rd ca A σ H) (hS : va_S A s.heap H locs) {ls : Array Slot} (hl : lv_has ls 7 [(0, .ref (ad 16 99)), (1, .int x1), (2, .int x2), (3, .float x3), (4, .float x4), (5, .int x5)]), W p l e ({ frames := 4, cells := 0, slots := 0, locals := 86 } : Room) s m args below meth c H locs 0 0 (MQ below (wx_Q D ad rd ca A none σ') args s 0 0 A) (F0 m 21 ls [])) {x1 : Int32} {x2 : Int32} {x3 : UInt32} {x4 : UInt32} {x5 : Int32} {x6 : Int32} {σ : wx_St}  (h : f_X6_steps_67 K2 K21 x1 x2 x3 x4 x5 x6 σ = some ((), σ')) {H : Heap} {locs : List Loc} (Z : wx_Z D ad rd ca A σ H) (hS : va_S A s.heap H locs) {ls : Array Slot} (hl : lv_has ls 7 [(0, .ref (ad 16 99)), (1, .int x1), (2, .int x2), (3, .float x3), (4, .float x4), (5, .int x5), (6, .int x6)]) : W p l e ({ frames := 4, cells := 0, slots := 0, locals := 86 } : Room) s m args below meth c H locs 0 0 (MQ below (wx_Q D ad rd ca A none σ') args s 0 0 A) (F0 m 67 ls []) := by
  obtain ⟨hx, hb, hml, hr, hts, hown, hlk, hC, hA⟩ := id B
  unfold f_X6_steps_67 at h
  refine lv_iinc (v := x5 + 1) (lv' := [(5, .int (x5 + 1)), (0, .ref (ad 16 99)), (1, .int x1), (2, .int x2), (3, .float x3), (4, .float x4), (6, .int x6)]) hx hb dX6_steps_67 hl (k := 5) rfl rfl (by decide) rfl (fun ls hl => ?_)
  refine lv_goto (tgt := 21) hx hb dX6_steps_70 (by decide) ?_
  exact hK21 h Z hS (lv_sub hl [1, 2, 3, 4, 5, 0] rfl)
set_option maxRecDepth 20000 in
set_option maxHeartbeats 4000000 in
theorem b_X6_steps_122 (B : wx_B p s m args meth c cX6_steps 7 none wsX6_steps RX6 D ad ca A)     {σ' : wx_St} {K2 : Int32 → Int32 → wx_St → Option (Unit × wx_St)} (hK2 : ∀ {x1 : Int32} {x2 : Int32} {σ : wx_St}  (h : K2 x1 x2 σ = some ((), σ')) {H : Heap} {locs : List Loc} (Z : wx_Z D ad rd ca A σ H) (hS : va_S A s.heap H locs) {ls : Array Slot} (hl : lv_has ls 7 [(0, .ref (ad 16 99)), (1, .int x1), (2, .int x2)]), W p l e ({ frames := 4, cells := 0, slots := 0, locals := 86 } : Room) s m args below meth c H locs 0 0 (MQ below (wx_Q D ad rd ca A none σ') args s 0 0 A) (F0 m 2 ls [])) {x1 : Int32} {x2 : Int32} {x3 : UInt32} {x4 : UInt32} {x5 : UInt32} {y1 : Int32} {y2 : UInt32} {σ : wx_St}  (h : f_X6_steps_122 K2 x1 x2 x3 x4 x5 y1 y2 σ = some ((), σ')) {H : Heap} {locs : List Loc} (Z : wx_Z D ad rd ca A σ H) (hS : va_S A s.heap H locs) {ls : Array Slot} (hl : lv_has ls 7 [(0, .ref (ad 16 99)), (1, .int x1), (2, .int x2), (3, .float x3), (4, .float x4), (5, .float x5)]) : W p l e ({ frames := 4, cells := 0, slots := 0, locals := 86 } : Room) s m args below meth c H locs 0 0 (MQ below (wx_Q D ad rd ca A none σ') args s 0 0 A) (F0 m 122 ls [.float y2, .int y1, .ref (ad 16 11)]) := by
  obtain ⟨hx, hb, hml, hr, hts, hown, hlk, hC, hA⟩ := id B
  unfold f_X6_steps_122 at h
  obtain ⟨σ122, e122, i122, h⟩ := wx_w_ok h
  refine wx_fast hx hb hC.1 Z hS (o := 16) (k := 11) (n := 64) rfl rfl i122 dX6_steps_122 e122 (fun H locs Z hS => ?_)
  refine lv_iinc (v := x2 + 1) (lv' := [(2, .int (x2 + 1)), (0, .ref (ad 16 99)), (1, .int x1), (3, .float x3), (4, .float x4), (5, .float x5)]) hx hb dX6_steps_123 hl (k := 2) rfl rfl (by decide) rfl (fun ls hl => ?_)
  refine lv_goto (tgt := 2) hx hb dX6_steps_126 (by decide) ?_
  exact hK2 h Z hS (lv_sub hl [1, 2, 0] rfl)
set_option maxRecDepth 20000 in
set_option maxHeartbeats 4000000 in
theorem b_X6_steps_21 (B : wx_B p s m args meth c cX6_steps 7 none wsX6_steps RX6 D ad ca A)     {σ' : wx_St} {K2 : Int32 → Int32 → wx_St → Option (Unit × wx_St)} (hK2 : ∀ {x1 : Int32} {x2 : Int32} {σ : wx_St}  (h : K2 x1 x2 σ = some ((), σ')) {H : Heap} {locs : List Loc} (Z : wx_Z D ad rd ca A σ H) (hS : va_S A s.heap H locs) {ls : Array Slot} (hl : lv_has ls 7 [(0, .ref (ad 16 99)), (1, .int x1), (2, .int x2)]), W p l e ({ frames := 4, cells := 0, slots := 0, locals := 86 } : Room) s m args below meth c H locs 0 0 (MQ below (wx_Q D ad rd ca A none σ') args s 0 0 A) (F0 m 2 ls []))  :
    ∀ {n : Nat} {x1 : Int32} {x2 : Int32} {x3 : UInt32} {x4 : UInt32} {x5 : Int32} {σ : wx_St}  (h : f_X6_steps_21 K2 n x1 x2 x3 x4 x5 σ = some ((), σ')) {H : Heap} {locs : List Loc} (Z : wx_Z D ad rd ca A σ H) (hS : va_S A s.heap H locs) {ls : Array Slot} (hl : lv_has ls 7 [(0, .ref (ad 16 99)), (1, .int x1), (2, .int x2), (3, .float x3), (4, .float x4), (5, .int x5)]), W p l e ({ frames := 4, cells := 0, slots := 0, locals := 86 } : Room) s m args below meth c H locs 0 0 (MQ below (wx_Q D ad rd ca A none σ') args s 0 0 A) (F0 m 21 ls []) := by
  obtain ⟨hx, hb, hml, hr, hts, hown, hlk, hC, hA⟩ := id B
  intro n
  induction n with
  | zero => intro x1 x2 x3 x4 x5 σ  h H locs Z hS ls hl; exact wx_no h
  | succ n ih =>
    intro x1 x2 x3 x4 x5 σ  h H locs Z hS ls hl
    rw [f_X6_steps_21] at h
    refine lv_iload hx hb dX6_steps_21 (lv_at hl 5 rfl) ?_
    refine lv_iconst (v := 4) hx hb dX6_steps_23 (by decide) ?_
    refine lv_icmp_ge (tgt := 73) hx hb dX6_steps_24 (by decide) (fun c24 => ?_) (fun c24 => ?_)
    · replace h := wx_ift c24 h
      refine lv_fload_n hx hb dX6_steps_73 rfl (lv_at hl 3 rfl) ?_
      refine lv_fload hx hb dX6_steps_74 (lv_at hl 4 rfl) ?_
      obtain ⟨v76, ev76, nv76, h⟩ := wx_f_ok h
      refine wx_fadd hx hb dX6_steps_76 ev76 nv76 ?_
      refine lv_bipush (v := 100) hx hb dX6_steps_77 (by decide) ?_
      refine lv_aload_n hx hb dX6_steps_79 rfl (lv_at hl 0 rfl) ?_
      refine wx_get (own := RX6) hx hb hts i_X6_steps_6 hown hC.1 Z (o := 16) (ci := 6) rfl (rfl : vwCl[6]? = some (RX6, TX6, 25)) 0 (by decide) (hts _ k_X6_steps_w2) (fun _ h9 => h9) (f := 0) rfl rfl dX6_steps_80 ?_
      refine lv_iconst (v := 1) hx hb dX6_steps_83 (by decide) ?_
      obtain ⟨v84, ev84, iv84, h⟩ := wx_rI_ok h
      refine wx_iald hx hb hC.1 Z (o := 16) (k := 0) (n := 109) rfl rfl iv84 dX6_steps_84 ev84 ?_
      refine lv_isub hx hb dX6_steps_85 ?_
      refine lv_i2f hx hb dX6_steps_86 ?_
      obtain ⟨v87, ev87, nv87, h⟩ := wx_f_ok h
      refine wx_fmul hx hb dX6_steps_87 ev87 nv87 ?_
      refine lv_ldcf hx hb hown (hts _ k_X6_steps_w3) dX6_steps_88 ?_
      obtain ⟨v90, ev90, nv90, h⟩ := wx_f_ok h
      refine wx_fdiv hx hb dX6_steps_90 ev90 nv90 ?_
      refine lv_fstore (lv' := [(5, .float v90), (0, .ref (ad 16 99)), (1, .int x1), (2, .int x2), (3, .float x3), (4, .float x4)]) hx hb dX6_steps_91 hl (by decide) rfl (fun ls hl => ?_)
      refine lv_aload_n hx hb dX6_steps_93 rfl (lv_at hl 1 rfl) ?_
      refine wx_get (own := RX6) hx hb hts i_X6_steps_6 hown hC.1 Z (o := 16) (ci := 6) rfl (rfl : vwCl[6]? = some (RX6, TX6, 25)) 11 (by decide) (hts _ k_X6_steps_w0) (fun _ h9 => h9) (f := 0) rfl rfl dX6_steps_94 ?_
      refine lv_iload_n hx hb dX6_steps_97 rfl (lv_at hl 3 rfl) ?_
      refine lv_aload_n hx hb dX6_steps_98 rfl (lv_at hl 1 rfl) ?_
      refine lv_iload_n hx hb dX6_steps_99 rfl (lv_at hl 3 rfl) ?_
      refine lv_iload_n hx hb dX6_steps_100 rfl (lv_at hl 2 rfl) ?_
      obtain ⟨v101, hc101, h⟩ := wx_o_ok h
      refine wx_call (va_runV (As := [.int x2, .int x1]) (rest := [.int x2, .ref (ad 16 11)]) ⟨hx, hb, hml, hown, hts⟩ (c_X6_isWarmed l (D := D) (ad := ad) (rd := rd) (ca := ca) (A := A) (σ := σ) hc101) (cwV 2 hts gX6_steps_X6_isWarmed rfl rfl rfl (by decide +kernel) ⟨Nat.le_of_ble_eq_true rfl, Nat.le_of_ble_eq_true rfl⟩) (wx_preV hC Z hS hA rfl (rfl : vwCl[6]? = some (RX6, TX6, 25))) rfl rfl hl.1 rfl (lv_room (Nat.le_of_ble_eq_true rfl)) dX6_steps_101 ⟨Nat.zero_le _, Nat.zero_le _⟩) hS (fun H locs Z hS => ?_)
      refine lv_if_eq (tgt := 120) hx hb dX6_steps_104 (by decide) (fun c104 => ?_) (fun c104 => ?_)
      · replace h := wx_ift c104 h
        refine lv_fload hx hb dX6_steps_120 (lv_at hl 0 rfl) ?_
        exact b_X6_steps_122 B (K2 := K2) @hK2 h Z hS (lv_sub hl [1, 2, 3, 4, 5, 0] rfl)
      · replace h := wx_iff c104 h
        refine lv_fload hx hb dX6_steps_107 (lv_at hl 0 rfl) ?_
        refine lv_aload_n hx hb dX6_steps_109 rfl (lv_at hl 1 rfl) ?_
        refine wx_get (own := RX6) hx hb hts i_X6_steps_6 hown hC.1 Z (o := 16) (ci := 6) rfl (rfl : vwCl[6]? = some (RX6, TX6, 25)) 0 (by decide) (hts _ k_X6_steps_w2) (fun _ h9 => h9) (f := 0) rfl rfl dX6_steps_110 ?_
        refine lv_iconst (v := 2) hx hb dX6_steps_113 (by decide) ?_
        obtain ⟨v114, ev114, iv114, h⟩ := wx_rI_ok h
        refine wx_iald hx hb hC.1 Z (o := 16) (k := 0) (n := 109) rfl rfl iv114 dX6_steps_114 ev114 ?_
        refine lv_i2f hx hb dX6_steps_115 ?_
        obtain ⟨v116, ev116, nv116, h⟩ := wx_f_ok h
        refine wx_fadd hx hb dX6_steps_116 ev116 nv116 ?_
        refine lv_goto (tgt := 122) hx hb dX6_steps_117 (by decide) ?_
        exact b_X6_steps_122 B (K2 := K2) @hK2 h Z hS (lv_sub hl [1, 2, 3, 4, 5, 0] rfl)
    · replace h := wx_iff c24 h
      refine lv_iload_n hx hb dX6_steps_27 rfl (lv_at hl 2 rfl) ?_
      refine lv_iload hx hb dX6_steps_28 (lv_at hl 5 rfl) ?_
      obtain ⟨v30, hc30, h⟩ := wx_o_ok h
      refine wx_call (va_runS (As := [.int x2, .int x5]) (rest := []) ⟨hx, hb, hml, hown, hts⟩ (c_X6_neighbour l (D := D) (ad := ad) (rd := rd) (ca := ca) (A := A) (σ := σ) hc30) (va_cwS 2 hts gX6_steps_X6_neighbour rfl rfl rfl (by decide +kernel) ⟨Nat.le_of_ble_eq_true rfl, Nat.le_of_ble_eq_true rfl⟩) (wx_preS hC Z hS hA) rfl rfl hl.1 rfl (lv_room (Nat.le_of_ble_eq_true rfl)) dX6_steps_30 ⟨Nat.zero_le _, Nat.zero_le _⟩) hS (fun H locs Z hS => ?_)
      refine lv_istore (lv' := [(6, .int v30), (0, .ref (ad 16 99)), (1, .int x1), (2, .int x2), (3, .float x3), (4, .float x4), (5, .int x5)]) hx hb dX6_steps_33 hl (by decide) rfl (fun ls hl => ?_)
      refine lv_iload hx hb dX6_steps_35 (lv_at hl 0 rfl) ?_
      refine lv_bipush (v := (-6)) hx hb dX6_steps_37 (by decide) ?_
      refine lv_icmp_eq (tgt := 67) hx hb dX6_steps_39 (by decide) (fun c39 => ?_) (fun c39 => ?_)
      · replace h := wx_ift c39 h
        exact b_X6_steps_67 B (K2 := K2) @hK2 (K21 := (f_X6_steps_21 K2 n)) @ih h Z hS (lv_sub hl [1, 2, 3, 4, 5, 6, 0] rfl)
      · replace h := wx_iff c39 h
        refine lv_fload hx hb dX6_steps_42 (lv_at hl 5 rfl) ?_
        refine lv_aload_n hx hb dX6_steps_44 rfl (lv_at hl 1 rfl) ?_
        refine wx_get (own := RX6) hx hb hts i_X6_steps_6 hown hC.1 Z (o := 16) (ci := 6) rfl (rfl : vwCl[6]? = some (RX6, TX6, 25)) 10 (by decide) (hts _ k_X6_steps_w1) (fun _ h9 => h9) (f := 0) rfl rfl dX6_steps_45 ?_
        refine lv_iload hx hb dX6_steps_48 (lv_at hl 0 rfl) ?_
        obtain ⟨v50, ev50, iv50, h⟩ := wx_rF_ok h
        refine wx_fald hx hb hC.1 Z (o := 16) (k := 10) (n := 64) rfl rfl iv50 dX6_steps_50 ev50 ?_
        refine lv_fload_n hx hb dX6_steps_51 rfl (lv_at hl 4 rfl) ?_
        obtain ⟨v52, ev52, nv52, h⟩ := wx_f_ok h
        refine wx_fsub hx hb dX6_steps_52 ev52 nv52 ?_
        refine lv_aload_n hx hb dX6_steps_53 rfl (lv_at hl 1 rfl) ?_
        refine wx_get (own := RX6) hx hb hts i_X6_steps_6 hown hC.1 Z (o := 16) (ci := 6) rfl (rfl : vwCl[6]? = some (RX6, TX6, 25)) 0 (by decide) (hts _ k_X6_steps_w2) (fun _ h9 => h9) (f := 0) rfl rfl dX6_steps_54 ?_
        refine lv_iconst (v := 0) hx hb dX6_steps_57 (by decide) ?_
        obtain ⟨v58, ev58, iv58, h⟩ := wx_rI_ok h
        refine wx_iald hx hb hC.1 Z (o := 16) (k := 0) (n := 109) rfl rfl iv58 dX6_steps_58 ev58 ?_
        refine lv_i2f hx hb dX6_steps_59 ?_
        obtain ⟨v60, ev60, nv60, h⟩ := wx_f_ok h
        refine wx_fmul hx hb dX6_steps_60 ev60 nv60 ?_
        refine lv_ldcf hx hb hown (hts _ k_X6_steps_w3) dX6_steps_61 ?_
        obtain ⟨v63, ev63, nv63, h⟩ := wx_f_ok h
        refine wx_fdiv hx hb dX6_steps_63 ev63 nv63 ?_
        obtain ⟨v64, ev64, nv64, h⟩ := wx_f_ok h
        refine wx_fadd hx hb dX6_steps_64 ev64 nv64 ?_
        refine lv_fstore (lv' := [(4, .float v64), (6, .int v30), (0, .ref (ad 16 99)), (1, .int x1), (2, .int x2), (3, .float x3), (5, .int x5)]) hx hb dX6_steps_65 hl (by decide) rfl (fun ls hl => ?_)
        exact b_X6_steps_67 B (K2 := K2) @hK2 (K21 := (f_X6_steps_21 K2 n)) @ih h Z hS (lv_sub hl [2, 3, 4, 5, 0, 6, 1] rfl)
set_option maxRecDepth 20000 in
set_option maxHeartbeats 4000000 in
theorem b_X6_steps_2 (B : wx_B p s m args meth c cX6_steps 7 none wsX6_steps RX6 D ad ca A)     {σ' : wx_St}   :
    ∀ {n : Nat} {x1 : Int32} {x2 : Int32} {σ : wx_St}  (h : f_X6_steps_2 n x1 x2 σ = some ((), σ')) {H : Heap} {locs : List Loc} (Z : wx_Z D ad rd ca A σ H) (hS : va_S A s.heap H locs) {ls : Array Slot} (hl : lv_has ls 7 [(0, .ref (ad 16 99)), (1, .int x1), (2, .int x2)]), W p l e ({ frames := 4, cells := 0, slots := 0, locals := 86 } : Room) s m args below meth c H locs 0 0 (MQ below (wx_Q D ad rd ca A none σ') args s 0 0 A) (F0 m 2 ls []) := by
  obtain ⟨hx, hb, hml, hr, hts, hown, hlk, hC, hA⟩ := id B
  intro n
  induction n with
  | zero => intro x1 x2 σ  h H locs Z hS ls hl; exact wx_no h
  | succ n ih =>
    intro x1 x2 σ  h H locs Z hS ls hl
    rw [f_X6_steps_2] at h
    refine lv_iload_n hx hb dX6_steps_2 rfl (lv_at hl 2 rfl) ?_
    refine lv_bipush (v := 64) hx hb dX6_steps_3 (by decide) ?_
    refine lv_icmp_ge (tgt := 129) hx hb dX6_steps_5 (by decide) (fun c5 => ?_) (fun c5 => ?_)
    · replace h := wx_ift c5 h
      refine lv_aload_n hx hb dX6_steps_129 rfl (lv_at hl 0 rfl) ?_
      refine wx_get (own := RX6) hx hb hts i_X6_steps_6 hown hC.1 Z (o := 16) (ci := 6) rfl (rfl : vwCl[6]? = some (RX6, TX6, 25)) 11 (by decide) (hts _ k_X6_steps_w0) (fun _ h9 => h9) (f := 0) rfl rfl dX6_steps_130 ?_
      refine lv_iconst (v := 0) hx hb dX6_steps_133 (by decide) ?_
      refine lv_aload_n hx hb dX6_steps_134 rfl (lv_at hl 0 rfl) ?_
      refine wx_get (own := RX6) hx hb hts i_X6_steps_6 hown hC.1 Z (o := 16) (ci := 6) rfl (rfl : vwCl[6]? = some (RX6, TX6, 25)) 10 (by decide) (hts _ k_X6_steps_w1) (fun _ h9 => h9) (f := 0) rfl rfl dX6_steps_135 ?_
      refine lv_iconst (v := 0) hx hb dX6_steps_138 (by decide) ?_
      obtain ⟨v139, σ139, hc139, h⟩ := wx_b_ok h
      refine wx_call (va_runS (As := [.ref (ad 16 11), .int 0, .ref (ad 16 10), .int 0]) (rest := []) ⟨hx, hb, hml, hown, hts⟩ (c_X6_movesWarmth l (D := D) (ad := ad) (rd := rd) (ca := ca) (A := A) (σ := σ) (o0 := 16) (k0 := 11) (n0 := 64) (o2 := 16) (k2 := 10) (n2 := 64) (al := σ.2.2.2.2) rfl rfl rfl hc139) (va_cwS 4 hts gX6_steps_X6_movesWarmth rfl rfl rfl (by decide +kernel) ⟨Nat.le_of_ble_eq_true rfl, Nat.le_of_ble_eq_true rfl⟩) (wx_preS hC Z hS hA) rfl rfl hl.1 rfl (lv_room (Nat.le_of_ble_eq_true rfl)) dX6_steps_139 ⟨Nat.zero_le _, Nat.zero_le _⟩) hS (fun H locs Z hS => ?_)
      obtain ⟨-, rfl⟩ := wx_ret_ok h
      exact W.vret hx hb hr (fun t ht hW => ⟨rfl, by rw [ht]; exact Z, hS.F ht⟩) hS.2.2 dX6_steps_142
    · replace h := wx_iff c5 h
      refine lv_aload_n hx hb dX6_steps_8 rfl (lv_at hl 0 rfl) ?_
      refine wx_get (own := RX6) hx hb hts i_X6_steps_6 hown hC.1 Z (o := 16) (ci := 6) rfl (rfl : vwCl[6]? = some (RX6, TX6, 25)) 10 (by decide) (hts _ k_X6_steps_w1) (fun _ h9 => h9) (f := 0) rfl rfl dX6_steps_9 ?_
      refine lv_iload_n hx hb dX6_steps_12 rfl (lv_at hl 2 rfl) ?_
      obtain ⟨v13, ev13, iv13, h⟩ := wx_rF_ok h
      refine wx_fald hx hb hC.1 Z (o := 16) (k := 10) (n := 64) rfl rfl iv13 dX6_steps_13 ev13 ?_
      refine lv_fstore_n (lv' := [(3, .float v13), (0, .ref (ad 16 99)), (1, .int x1), (2, .int x2)]) hx hb dX6_steps_14 rfl hl (by decide) rfl (fun ls hl => ?_)
      refine lv_fconst0 hx hb dX6_steps_15 ?_
      refine lv_fstore (lv' := [(4, .float FP.fconst0), (3, .float v13), (0, .ref (ad 16 99)), (1, .int x1), (2, .int x2)]) hx hb dX6_steps_16 hl (by decide) rfl (fun ls hl => ?_)
      refine lv_iconst (v := 0) hx hb dX6_steps_18 (by decide) ?_
      refine lv_istore (lv' := [(5, .int 0), (4, .float FP.fconst0), (3, .float v13), (0, .ref (ad 16 99)), (1, .int x1), (2, .int x2)]) hx hb dX6_steps_19 hl (by decide) rfl (fun ls hl => ?_)
      exact b_X6_steps_21 B (K2 := (f_X6_steps_2 n)) @ih h Z hS (lv_sub hl [3, 4, 5, 2, 1, 0] rfl)
set_option maxRecDepth 20000 in
set_option maxHeartbeats 4000000 in
theorem b_X6_steps_0 (B : wx_B p s m args meth c cX6_steps 7 none wsX6_steps RX6 D ad ca A)     {σ' : wx_St}  {x1 : Int32} {σ : wx_St}  (h : f_X6_steps x1 σ = some ((), σ')) {H : Heap} {locs : List Loc} (Z : wx_Z D ad rd ca A σ H) (hS : va_S A s.heap H locs) {ls : Array Slot} (hl : lv_has ls 7 [(0, .ref (ad 16 99)), (1, .int x1)]) : W p l e ({ frames := 4, cells := 0, slots := 0, locals := 86 } : Room) s m args below meth c H locs 0 0 (MQ below (wx_Q D ad rd ca A none σ') args s 0 0 A) (F0 m 0 ls []) := by
  obtain ⟨hx, hb, hml, hr, hts, hown, hlk, hC, hA⟩ := id B
  unfold f_X6_steps at h
  refine lv_iconst (v := 0) hx hb dX6_steps_0 (by decide) ?_
  refine lv_istore_n (lv' := [(2, .int 0), (0, .ref (ad 16 99)), (1, .int x1)]) hx hb dX6_steps_1 rfl hl (by decide) rfl (fun ls hl => ?_)
  exact b_X6_steps_2 B h Z hS (lv_sub hl [1, 2, 0] rfl)
set_option maxRecDepth 20000 in
theorem c_X6_steps (l : Launch) {D : va_G} {ad : Nat → Nat → Nat} {rd : Nat → Nat} {ca : Nat → ClassId} {A : Nat → Prop} {σ : wx_St}    {x1 : Int32}  {σ' : wx_St} (h : f_X6_steps x1 σ = some ((), σ')) : wx_M l yX6_steps wsX6_steps 4 86 D ad rd ca A [.ref (ad 16 99), .int x1] σ none σ' := by
  refine Met.ofW (cc := cX6_steps) (maxL := 7) (ret := none) (by decide +kernel) rfl ?_
  intro p e s m args below meth c s₁ B0 hml hv
  obtain ⟨rfl, hC, Z, hA⟩ := hv
  have hl := lv_entry ([.ref (ad 16 99), .int x1]) (n := 7) (Nat.le_of_ble_eq_true rfl)
  rw [lg_entry_eq]
  generalize (lg_sl ([.ref (ad 16 99), .int x1]) ++ List.replicate (7 - (lg_sl ([.ref (ad 16 99), .int x1])).length) Slot.unset).toArray = ls at hl ⊢
  exact b_X6_steps_0 ⟨B0.exec, B0.bytes, hml, B0.returns, atoms_spec (ws := wsX6_steps) B0.pre, findClass_of_methodNamed B0.named, B0.notSynchronized, hC, hA⟩   h Z va_S.rf hl
theorem i_X6_findMade_6 : ∀ w ∈ wsX60, w ∈ wsX6_findMade := by decide +kernel
theorem k_X6_findMade_w0 : Cond.fieldLink RX6 7 "WarmProbesModel" "state" "[I" ∈ wsX6_findMade := by decide +kernel
theorem k_X6_findMade_w1 : Cond.fieldLink RX6 41 "WarmProbesModel" "made" "[F" ∈ wsX6_findMade := by decide +kernel
theorem k_X6_findMade_w2 : Cond.fieldLink RX6 35 "WarmProbesModel" "thought" "[F" ∈ wsX6_findMade := by decide +kernel
set_option maxRecDepth 20000 in
set_option maxHeartbeats 4000000 in
theorem b_X6_findMade_57 (B : wx_B p s m args meth c cX6_findMade 4 none wsX6_findMade RX6 D ad ca A)     {σ' : wx_St} {K6 : Int32 → Int32 → wx_St → Option (Unit × wx_St)} (hK6 : ∀ {x1 : Int32} {x2 : Int32} {σ : wx_St}  (h : K6 x1 x2 σ = some ((), σ')) {H : Heap} {locs : List Loc} (Z : wx_Z D ad rd ca A σ H) (hS : va_S A s.heap H locs) {ls : Array Slot} (hl : lv_has ls 4 [(0, .ref (ad 16 99)), (1, .int x1), (2, .int x2)]), W p l e ({ frames := 5, cells := 0, slots := 0, locals := 112 } : Room) s m args below meth c H locs 0 0 (MQ below (wx_Q D ad rd ca A none σ') args s 0 0 A) (F0 m 6 ls [])) {K14 : Int32 → Int32 → Int32 → wx_St → Option (Unit × wx_St)} (hK14 : ∀ {x1 : Int32} {x2 : Int32} {x3 : Int32} {σ : wx_St}  (h : K14 x1 x2 x3 σ = some ((), σ')) {H : Heap} {locs : List Loc} (Z : wx_Z D ad rd ca A σ H) (hS : va_S A s.heap H locs) {ls : Array Slot} (hl : lv_has ls 4 [(0, .ref (ad 16 99)), (1, .int x1), (2, .int x2), (3, .int x3)]), W p l e ({ frames := 5, cells := 0, slots := 0, locals := 112 } : Room) s m args below meth c H locs 0 0 (MQ below (wx_Q D ad rd ca A none σ') args s 0 0 A) (F0 m 14 ls [])) {x1 : Int32} {x2 : Int32} {x3 : Int32} {σ : wx_St}  (h : f_X6_findMade_57 K6 K14 x1 x2 x3 σ = some ((), σ')) {H : Heap} {locs : List Loc} (Z : wx_Z D ad rd ca A σ H) (hS : va_S A s.heap H locs) {ls : Array Slot} (hl : lv_has ls 4 [(0, .ref (ad 16 99)), (1, .int x1), (2, .int x2), (3, .int x3)]) : W p l e ({ frames := 5, cells := 0, slots := 0, locals := 112 } : Room) s m args below meth c H locs 0 0 (MQ below (wx_Q D ad rd ca A none σ') args s 0 0 A) (F0 m 57 ls []) := by
  obtain ⟨hx, hb, hml, hr, hts, hown, hlk, hC, hA⟩ := id B
  unfold f_X6_findMade_57 at h
  refine lv_iinc (v := x3 + 1) (lv' := [(3, .int (x3 + 1)), (0, .ref (ad 16 99)), (1, .int x1), (2, .int x2)]) hx hb dX6_findMade_57 hl (k := 3) rfl rfl (by decide) rfl (fun ls hl => ?_)
  refine lv_goto (tgt := 14) hx hb dX6_findMade_60 (by decide) ?_
  exact hK14 h Z hS (lv_sub hl [1, 2, 3, 0] rfl)
set_option maxRecDepth 20000 in
set_option maxHeartbeats 4000000 in
theorem b_X6_findMade_78 (B : wx_B p s m args meth c cX6_findMade 4 none wsX6_findMade RX6 D ad ca A)     {σ' : wx_St} {K6 : Int32 → Int32 → wx_St → Option (Unit × wx_St)} (hK6 : ∀ {x1 : Int32} {x2 : Int32} {σ : wx_St}  (h : K6 x1 x2 σ = some ((), σ')) {H : Heap} {locs : List Loc} (Z : wx_Z D ad rd ca A σ H) (hS : va_S A s.heap H locs) {ls : Array Slot} (hl : lv_has ls 4 [(0, .ref (ad 16 99)), (1, .int x1), (2, .int x2)]), W p l e ({ frames := 5, cells := 0, slots := 0, locals := 112 } : Room) s m args below meth c H locs 0 0 (MQ below (wx_Q D ad rd ca A none σ') args s 0 0 A) (F0 m 6 ls [])) {x1 : Int32} {x2 : Int32} {x3 : Int32} {σ : wx_St}  (h : f_X6_findMade_78 K6 x1 x2 x3 σ = some ((), σ')) {H : Heap} {locs : List Loc} (Z : wx_Z D ad rd ca A σ H) (hS : va_S A s.heap H locs) {ls : Array Slot} (hl : lv_has ls 4 [(0, .ref (ad 16 99)), (1, .int x1), (2, .int x2), (3, .int x3)]) : W p l e ({ frames := 5, cells := 0, slots := 0, locals := 112 } : Room) s m args below meth c H locs 0 0 (MQ below (wx_Q D ad rd ca A none σ') args s 0 0 A) (F0 m 78 ls []) := by
  obtain ⟨hx, hb, hml, hr, hts, hown, hlk, hC, hA⟩ := id B
  unfold f_X6_findMade_78 at h
  refine lv_iinc (v := x2 + 1) (lv' := [(2, .int (x2 + 1)), (0, .ref (ad 16 99)), (1, .int x1), (3, .int x3)]) hx hb dX6_findMade_78 hl (k := 2) rfl rfl (by decide) rfl (fun ls hl => ?_)
  refine lv_goto (tgt := 6) hx hb dX6_findMade_81 (by decide) ?_
  exact hK6 h Z hS (lv_sub hl [1, 2, 0] rfl)
set_option maxRecDepth 20000 in
set_option maxHeartbeats 4000000 in
theorem b_X6_findMade_14 (B : wx_B p s m args meth c cX6_findMade 4 none wsX6_findMade RX6 D ad ca A)     {σ' : wx_St} {K6 : Int32 → Int32 → wx_St → Option (Unit × wx_St)} (hK6 : ∀ {x1 : Int32} {x2 : Int32} {σ : wx_St}  (h : K6 x1 x2 σ = some ((), σ')) {H : Heap} {locs : List Loc} (Z : wx_Z D ad rd ca A σ H) (hS : va_S A s.heap H locs) {ls : Array Slot} (hl : lv_has ls 4 [(0, .ref (ad 16 99)), (1, .int x1), (2, .int x2)]), W p l e ({ frames := 5, cells := 0, slots := 0, locals := 112 } : Room) s m args below meth c H locs 0 0 (MQ below (wx_Q D ad rd ca A none σ') args s 0 0 A) (F0 m 6 ls []))  :
    ∀ {n : Nat} {x1 : Int32} {x2 : Int32} {x3 : Int32} {σ : wx_St}  (h : f_X6_findMade_14 K6 n x1 x2 x3 σ = some ((), σ')) {H : Heap} {locs : List Loc} (Z : wx_Z D ad rd ca A σ H) (hS : va_S A s.heap H locs) {ls : Array Slot} (hl : lv_has ls 4 [(0, .ref (ad 16 99)), (1, .int x1), (2, .int x2), (3, .int x3)]), W p l e ({ frames := 5, cells := 0, slots := 0, locals := 112 } : Room) s m args below meth c H locs 0 0 (MQ below (wx_Q D ad rd ca A none σ') args s 0 0 A) (F0 m 14 ls []) := by
  obtain ⟨hx, hb, hml, hr, hts, hown, hlk, hC, hA⟩ := id B
  intro n
  induction n with
  | zero => intro x1 x2 x3 σ  h H locs Z hS ls hl; exact wx_no h
  | succ n ih =>
    intro x1 x2 x3 σ  h H locs Z hS ls hl
    rw [f_X6_findMade_14] at h
    refine lv_iload_n hx hb dX6_findMade_14 rfl (lv_at hl 3 rfl) ?_
    refine lv_aload_n hx hb dX6_findMade_15 rfl (lv_at hl 0 rfl) ?_
    refine wx_get (own := RX6) hx hb hts i_X6_findMade_6 hown hC.1 Z (o := 16) (ci := 6) rfl (rfl : vwCl[6]? = some (RX6, TX6, 25)) 0 (by decide) (hts _ k_X6_findMade_w0) (fun _ h9 => h9) (f := 0) rfl rfl dX6_findMade_16 ?_
    refine lv_bipush (v := 6) hx hb dX6_findMade_19 (by decide) ?_
    obtain ⟨v21, ev21, iv21, h⟩ := wx_rI_ok h
    refine wx_iald hx hb hC.1 Z (o := 16) (k := 0) (n := 109) rfl rfl iv21 dX6_findMade_21 ev21 ?_
    refine lv_icmp_ge (tgt := 63) hx hb dX6_findMade_22 (by decide) (fun c22 => ?_) (fun c22 => ?_)
    · replace h := wx_ift c22 h
      refine lv_iload_n hx hb dX6_findMade_63 rfl (lv_at hl 2 rfl) ?_
      refine lv_aload_n hx hb dX6_findMade_64 rfl (lv_at hl 0 rfl) ?_
      refine wx_get (own := RX6) hx hb hts i_X6_findMade_6 hown hC.1 Z (o := 16) (ci := 6) rfl (rfl : vwCl[6]? = some (RX6, TX6, 25)) 0 (by decide) (hts _ k_X6_findMade_w0) (fun _ h9 => h9) (f := 0) rfl rfl dX6_findMade_65 ?_
      refine lv_iconst (v := 4) hx hb dX6_findMade_68 (by decide) ?_
      obtain ⟨v69, ev69, iv69, h⟩ := wx_rI_ok h
      refine wx_iald hx hb hC.1 Z (o := 16) (k := 0) (n := 109) rfl rfl iv69 dX6_findMade_69 ev69 ?_
      refine lv_icmp_ge (tgt := 78) hx hb dX6_findMade_70 (by decide) (fun c70 => ?_) (fun c70 => ?_)
      · replace h := wx_ift c70 h
        exact b_X6_findMade_78 B (K6 := K6) @hK6 h Z hS (lv_sub hl [0, 1, 2, 3] rfl)
      · replace h := wx_iff c70 h
        refine lv_aload_n hx hb dX6_findMade_73 rfl (lv_at hl 0 rfl) ?_
        refine lv_iload_n hx hb dX6_findMade_74 rfl (lv_at hl 1 rfl) ?_
        obtain ⟨v75, σ75, hc75, h⟩ := wx_b_ok h
        refine wx_call (va_runV (As := [.int x1]) (rest := []) ⟨hx, hb, hml, hown, hts⟩ (c_X6_steps l (D := D) (ad := ad) (rd := rd) (ca := ca) (A := A) (σ := σ) hc75) (cwV 1 hts gX6_findMade_X6_steps rfl rfl rfl (by decide +kernel) ⟨Nat.le_of_ble_eq_true rfl, Nat.le_of_ble_eq_true rfl⟩) (wx_preV hC Z hS hA rfl (rfl : vwCl[6]? = some (RX6, TX6, 25))) rfl rfl hl.1 rfl (lv_room (Nat.le_of_ble_eq_true rfl)) dX6_findMade_75 ⟨Nat.zero_le _, Nat.zero_le _⟩) hS (fun H locs Z hS => ?_)
        exact b_X6_findMade_78 B (K6 := K6) @hK6 h Z hS (lv_sub hl [0, 1, 2, 3] rfl)
    · replace h := wx_iff c22 h
      refine lv_aload_n hx hb dX6_findMade_25 rfl (lv_at hl 0 rfl) ?_
      refine lv_iload_n hx hb dX6_findMade_26 rfl (lv_at hl 3 rfl) ?_
      refine lv_iconst (v := 2) hx hb dX6_findMade_27 (by decide) ?_
      obtain ⟨v28, hc28, h⟩ := wx_o_ok h
      refine wx_call (va_runV (As := [.int x3, .int 2]) (rest := []) ⟨hx, hb, hml, hown, hts⟩ (c_X6_readingPart l (D := D) (ad := ad) (rd := rd) (ca := ca) (A := A) (σ := σ) hc28) (cwV 2 hts gX6_findMade_X6_readingPart rfl rfl rfl (by decide +kernel) ⟨Nat.le_of_ble_eq_true rfl, Nat.le_of_ble_eq_true rfl⟩) (wx_preV hC Z hS hA rfl (rfl : vwCl[6]? = some (RX6, TX6, 25))) rfl rfl hl.1 rfl (lv_room (Nat.le_of_ble_eq_true rfl)) dX6_findMade_28 ⟨Nat.zero_le _, Nat.zero_le _⟩) hS (fun H locs Z hS => ?_)
      refine lv_iload_n hx hb dX6_findMade_31 rfl (lv_at hl 2 rfl) ?_
      refine lv_icmp_ne (tgt := 57) hx hb dX6_findMade_32 (by decide) (fun c32 => ?_) (fun c32 => ?_)
      · replace h := wx_iff c32 h
        exact b_X6_findMade_57 B (K6 := K6) @hK6 (K14 := (f_X6_findMade_14 K6 n)) @ih h Z hS (lv_sub hl [0, 1, 2, 3] rfl)
      · replace h := wx_ift c32 h
        refine lv_aload_n hx hb dX6_findMade_35 rfl (lv_at hl 0 rfl) ?_
        refine wx_get (own := RX6) hx hb hts i_X6_findMade_6 hown hC.1 Z (o := 16) (ci := 6) rfl (rfl : vwCl[6]? = some (RX6, TX6, 25)) 12 (by decide) (hts _ k_X6_findMade_w1) (fun _ h9 => h9) (f := 0) rfl rfl dX6_findMade_36 ?_
        refine lv_bipush (v := 8) hx hb dX6_findMade_39 (by decide) ?_
        refine lv_iload_n hx hb dX6_findMade_41 rfl (lv_at hl 1 rfl) ?_
        refine lv_imul hx hb dX6_findMade_42 ?_
        refine lv_iload_n hx hb dX6_findMade_43 rfl (lv_at hl 3 rfl) ?_
        refine lv_iadd hx hb dX6_findMade_44 ?_
        refine lv_aload_n hx hb dX6_findMade_45 rfl (lv_at hl 0 rfl) ?_
        refine wx_get (own := RX6) hx hb hts i_X6_findMade_6 hown hC.1 Z (o := 16) (ci := 6) rfl (rfl : vwCl[6]? = some (RX6, TX6, 25)) 10 (by decide) (hts _ k_X6_findMade_w2) (fun _ h9 => h9) (f := 0) rfl rfl dX6_findMade_46 ?_
        refine lv_aload_n hx hb dX6_findMade_49 rfl (lv_at hl 0 rfl) ?_
        refine lv_iload_n hx hb dX6_findMade_50 rfl (lv_at hl 3 rfl) ?_
        refine lv_iconst (v := 0) hx hb dX6_findMade_51 (by decide) ?_
        obtain ⟨v52, hc52, h⟩ := wx_o_ok h
        refine wx_call (va_runV (As := [.int x3, .int 0]) (rest := [.ref (ad 16 10), .int ((8 * x1) + x3), .ref (ad 16 12)]) ⟨hx, hb, hml, hown, hts⟩ (c_X6_readingPart l (D := D) (ad := ad) (rd := rd) (ca := ca) (A := A) (σ := σ) hc52) (cwV 2 hts gX6_findMade_X6_readingPart rfl rfl rfl (by decide +kernel) ⟨Nat.le_of_ble_eq_true rfl, Nat.le_of_ble_eq_true rfl⟩) (wx_preV hC Z hS hA rfl (rfl : vwCl[6]? = some (RX6, TX6, 25))) rfl rfl hl.1 rfl (lv_room (Nat.le_of_ble_eq_true rfl)) dX6_findMade_52 ⟨Nat.zero_le _, Nat.zero_le _⟩) hS (fun H locs Z hS => ?_)
        obtain ⟨v55, ev55, iv55, h⟩ := wx_rF_ok h
        refine wx_fald hx hb hC.1 Z (o := 16) (k := 10) (n := 64) rfl rfl iv55 dX6_findMade_55 ev55 ?_
        obtain ⟨σ56, e56, i56, h⟩ := wx_w_ok h
        refine wx_fast hx hb hC.1 Z hS (o := 16) (k := 12) (n := 512) rfl rfl i56 dX6_findMade_56 e56 (fun H locs Z hS => ?_)
        exact b_X6_findMade_57 B (K6 := K6) @hK6 (K14 := (f_X6_findMade_14 K6 n)) @ih h Z hS (lv_sub hl [0, 1, 2, 3] rfl)
set_option maxRecDepth 20000 in
set_option maxHeartbeats 4000000 in
theorem b_X6_findMade_6 (B : wx_B p s m args meth c cX6_findMade 4 none wsX6_findMade RX6 D ad ca A)     {σ' : wx_St}   :
    ∀ {n : Nat} {x1 : Int32} {x2 : Int32} {σ : wx_St}  (h : f_X6_findMade_6 n x1 x2 σ = some ((), σ')) {H : Heap} {locs : List Loc} (Z : wx_Z D ad rd ca A σ H) (hS : va_S A s.heap H locs) {ls : Array Slot} (hl : lv_has ls 4 [(0, .ref (ad 16 99)), (1, .int x1), (2, .int x2)]), W p l e ({ frames := 5, cells := 0, slots := 0, locals := 112 } : Room) s m args below meth c H locs 0 0 (MQ below (wx_Q D ad rd ca A none σ') args s 0 0 A) (F0 m 6 ls []) := by
  obtain ⟨hx, hb, hml, hr, hts, hown, hlk, hC, hA⟩ := id B
  intro n
  induction n with
  | zero => intro x1 x2 σ  h H locs Z hS ls hl; exact wx_no h
  | succ n ih =>
    intro x1 x2 σ  h H locs Z hS ls hl
    rw [f_X6_findMade_6] at h
    refine lv_iload_n hx hb dX6_findMade_6 rfl (lv_at hl 2 rfl) ?_
    refine lv_bipush (v := 100) hx hb dX6_findMade_7 (by decide) ?_
    refine lv_icmp_gt (tgt := 84) hx hb dX6_findMade_9 (by decide) (fun c9 => ?_) (fun c9 => ?_)
    · replace h := wx_ift c9 h
      obtain ⟨-, rfl⟩ := wx_ret_ok h
      exact W.vret hx hb hr (fun t ht hW => ⟨rfl, by rw [ht]; exact Z, hS.F ht⟩) hS.2.2 dX6_findMade_84
    · replace h := wx_iff c9 h
      refine lv_iconst (v := 0) hx hb dX6_findMade_12 (by decide) ?_
      refine lv_istore_n (lv' := [(3, .int 0), (0, .ref (ad 16 99)), (1, .int x1), (2, .int x2)]) hx hb dX6_findMade_13 rfl hl (by decide) rfl (fun ls hl => ?_)
      exact b_X6_findMade_14 B (K6 := (f_X6_findMade_6 n)) @ih h Z hS (lv_sub hl [1, 2, 3, 0] rfl)
set_option maxRecDepth 20000 in
set_option maxHeartbeats 4000000 in
theorem b_X6_findMade_0 (B : wx_B p s m args meth c cX6_findMade 4 none wsX6_findMade RX6 D ad ca A)     {σ' : wx_St}  {x1 : Int32} {σ : wx_St}  (h : f_X6_findMade x1 σ = some ((), σ')) {H : Heap} {locs : List Loc} (Z : wx_Z D ad rd ca A σ H) (hS : va_S A s.heap H locs) {ls : Array Slot} (hl : lv_has ls 4 [(0, .ref (ad 16 99)), (1, .int x1)]) : W p l e ({ frames := 5, cells := 0, slots := 0, locals := 112 } : Room) s m args below meth c H locs 0 0 (MQ below (wx_Q D ad rd ca A none σ') args s 0 0 A) (F0 m 0 ls []) := by
  obtain ⟨hx, hb, hml, hr, hts, hown, hlk, hC, hA⟩ := id B
  unfold f_X6_findMade at h
  refine lv_aload_n hx hb dX6_findMade_0 rfl (lv_at hl 0 rfl) ?_
  obtain ⟨v1, σ1, hc1, h⟩ := wx_b_ok h
  refine wx_call (va_runV (As := []) (rest := []) ⟨hx, hb, hml, hown, hts⟩ (c_X6_coolsThought l (D := D) (ad := ad) (rd := rd) (ca := ca) (A := A) (σ := σ) hc1) (cwV 0 hts gX6_findMade_X6_coolsThought rfl rfl rfl (by decide +kernel) ⟨Nat.le_of_ble_eq_true rfl, Nat.le_of_ble_eq_true rfl⟩) (wx_preV hC Z hS hA rfl (rfl : vwCl[6]? = some (RX6, TX6, 25))) rfl rfl hl.1 rfl (lv_room (Nat.le_of_ble_eq_true rfl)) dX6_findMade_1 ⟨Nat.zero_le _, Nat.zero_le _⟩) hS (fun H locs Z hS => ?_)
  refine lv_iconst (v := 0) hx hb dX6_findMade_4 (by decide) ?_
  refine lv_istore_n (lv' := [(2, .int 0), (0, .ref (ad 16 99)), (1, .int x1)]) hx hb dX6_findMade_5 rfl hl (by decide) rfl (fun ls hl => ?_)
  exact b_X6_findMade_6 B h Z hS (lv_sub hl [1, 2, 0] rfl)
set_option maxRecDepth 20000 in
theorem c_X6_findMade (l : Launch) {D : va_G} {ad : Nat → Nat → Nat} {rd : Nat → Nat} {ca : Nat → ClassId} {A : Nat → Prop} {σ : wx_St}    {x1 : Int32}  {σ' : wx_St} (h : f_X6_findMade x1 σ = some ((), σ')) : wx_M l yX6_findMade wsX6_findMade 5 112 D ad rd ca A [.ref (ad 16 99), .int x1] σ none σ' := by
  refine Met.ofW (cc := cX6_findMade) (maxL := 4) (ret := none) (by decide +kernel) rfl ?_
  intro p e s m args below meth c s₁ B0 hml hv
  obtain ⟨rfl, hC, Z, hA⟩ := hv
  have hl := lv_entry ([.ref (ad 16 99), .int x1]) (n := 4) (Nat.le_of_ble_eq_true rfl)
  rw [lg_entry_eq]
  generalize (lg_sl ([.ref (ad 16 99), .int x1]) ++ List.replicate (4 - (lg_sl ([.ref (ad 16 99), .int x1])).length) Slot.unset).toArray = ls at hl ⊢
  exact b_X6_findMade_0 ⟨B0.exec, B0.bytes, hml, B0.returns, atoms_spec (ws := wsX6_findMade) B0.pre, findClass_of_methodNamed B0.named, B0.notSynchronized, hC, hA⟩   h Z va_S.rf hl
theorem k_X6_readOf_w0 : Cond.constantFloat RX6 114 (1092616192) ∈ wsX6_readOf := by decide +kernel
set_option maxRecDepth 20000 in
set_option maxHeartbeats 4000000 in
theorem b_X6_readOf_0 (B : wx_B p s m args meth c cX6_readOf 1 (some .int) wsX6_readOf RX6 D ad ca A)    {r : Int32} {σ : wx_St}  {x0 : UInt32}   (h : f_X6_readOf x0 = some r) {H : Heap} {locs : List Loc} (Z : wx_Z D ad rd ca A σ H) (hS : va_S A s.heap H locs) {ls : Array Slot} (hl : lv_has ls 1 [(0, .float x0)]) : W p l e ({ frames := 0, cells := 0, slots := 0, locals := 0 } : Room) s m args below meth c H locs 0 0 (MQ below (wx_Q D ad rd ca A (some (.int r)) σ) args s 0 0 A) (F0 m 0 ls []) := by
  obtain ⟨hx, hb, hml, hr, hts, hown, hlk, hC, hA⟩ := id B
  unfold f_X6_readOf at h
  refine lv_fload_n hx hb dX6_readOf_0 rfl (lv_at hl 0 rfl) ?_
  refine lv_ldcf hx hb hown (hts _ k_X6_readOf_w0) dX6_readOf_1 ?_
  obtain ⟨v3, ev3, nv3, h⟩ := wx_f_ok h
  refine wx_fmul hx hb dX6_readOf_3 ev3 nv3 ?_
  refine lv_f2i hx hb dX6_readOf_4 ?_
  obtain rfl := Option.some.inj h
  exact W.iret hx hb hr (fun t ht hW => ⟨rfl, by rw [ht]; exact Z, hS.F ht⟩) hS.2.2 dX6_readOf_5
set_option maxRecDepth 20000 in
theorem c_X6_readOf (l : Launch) {D : va_G} {ad : Nat → Nat → Nat} {rd : Nat → Nat} {ca : Nat → ClassId} {A : Nat → Prop} {σ : wx_St}    {x0 : UInt32} {r : Int32} (h : f_X6_readOf x0 = some r) : wx_M l yX6_readOf wsX6_readOf 0 0 D ad rd ca A [.float x0] σ (some (.int r)) σ := by
  refine Met.ofW (cc := cX6_readOf) (maxL := 1) (ret := (some .int)) (by decide +kernel) rfl ?_
  intro p e s m args below meth c s₁ B0 hml hv
  obtain ⟨rfl, hC, Z, hA⟩ := hv
  have hl := lv_entry ([.float x0]) (n := 1) (Nat.le_of_ble_eq_true rfl)
  rw [lg_entry_eq]
  generalize (lg_sl ([.float x0]) ++ List.replicate (1 - (lg_sl ([.float x0])).length) Slot.unset).toArray = ls at hl ⊢
  exact b_X6_readOf_0 ⟨B0.exec, B0.bytes, hml, B0.returns, atoms_spec (ws := wsX6_readOf) B0.pre, findClass_of_methodNamed B0.named, B0.notSynchronized, hC, hA⟩   h Z va_S.rf hl
theorem i_X6_fits_6 : ∀ w ∈ wsX60, w ∈ wsX6_fits := by decide +kernel
theorem k_X6_fits_w0 : Cond.fieldLink RX6 7 "WarmProbesModel" "state" "[I" ∈ wsX6_fits := by decide +kernel
set_option maxRecDepth 20000 in
set_option maxHeartbeats 4000000 in
theorem b_X6_fits_0 (B : wx_B p s m args meth c cX6_fits 4 (some .boolean) wsX6_fits RX6 D ad ca A)    {r : Int32} {σ : wx_St}  {x1 : UInt32} {x2 : Int32}   (h : f_X6_fits x1 x2 σ = some r) {H : Heap} {locs : List Loc} (Z : wx_Z D ad rd ca A σ H) (hS : va_S A s.heap H locs) {ls : Array Slot} (hl : lv_has ls 4 [(0, .ref (ad 16 99)), (1, .float x1), (2, .int x2)]) : W p l e ({ frames := 1, cells := 0, slots := 0, locals := 22 } : Room) s m args below meth c H locs 0 0 (MQ below (wx_Q D ad rd ca A (some (.int r)) σ) args s 0 0 A) (F0 m 0 ls []) := by
  obtain ⟨hx, hb, hml, hr, hts, hown, hlk, hC, hA⟩ := id B
  unfold f_X6_fits at h
  refine lv_fload_n hx hb dX6_fits_0 rfl (lv_at hl 1 rfl) ?_
  obtain ⟨v1, hc1, h⟩ := wx_o_ok h
  refine wx_call (va_runS (As := [.float x1]) (rest := []) ⟨hx, hb, hml, hown, hts⟩ (c_X6_readOf l (D := D) (ad := ad) (rd := rd) (ca := ca) (A := A) (σ := σ) hc1) (va_cwS 1 hts gX6_fits_X6_readOf rfl rfl rfl (by decide +kernel) ⟨Nat.le_of_ble_eq_true rfl, Nat.le_of_ble_eq_true rfl⟩) (wx_preS hC Z hS hA) rfl rfl hl.1 rfl (lv_room (Nat.le_of_ble_eq_true rfl)) dX6_fits_1 ⟨Nat.zero_le _, Nat.zero_le _⟩) hS (fun H locs Z hS => ?_)
  refine lv_aload_n hx hb dX6_fits_4 rfl (lv_at hl 0 rfl) ?_
  refine lv_iload_n hx hb dX6_fits_5 rfl (lv_at hl 2 rfl) ?_
  refine lv_iconst (v := 1) hx hb dX6_fits_6 (by decide) ?_
  obtain ⟨v7, hc7, h⟩ := wx_o_ok h
  refine wx_call (va_runV (As := [.int x2, .int 1]) (rest := [.int v1]) ⟨hx, hb, hml, hown, hts⟩ (c_X6_readingPart l (D := D) (ad := ad) (rd := rd) (ca := ca) (A := A) (σ := σ) hc7) (cwV 2 hts gX6_fits_X6_readingPart rfl rfl rfl (by decide +kernel) ⟨Nat.le_of_ble_eq_true rfl, Nat.le_of_ble_eq_true rfl⟩) (wx_preV hC Z hS hA rfl (rfl : vwCl[6]? = some (RX6, TX6, 25))) rfl rfl hl.1 rfl (lv_room (Nat.le_of_ble_eq_true rfl)) dX6_fits_7 ⟨Nat.zero_le _, Nat.zero_le _⟩) hS (fun H locs Z hS => ?_)
  refine lv_isub hx hb dX6_fits_10 ?_
  refine lv_istore_n (lv' := [(3, .int (v1 - v7)), (0, .ref (ad 16 99)), (1, .float x1), (2, .int x2)]) hx hb dX6_fits_11 rfl hl (by decide) rfl (fun ls hl => ?_)
  refine lv_iload_n hx hb dX6_fits_12 rfl (lv_at hl 0 rfl) ?_
  refine lv_aload_n hx hb dX6_fits_13 rfl (lv_at hl 1 rfl) ?_
  refine wx_get (own := RX6) hx hb hts i_X6_fits_6 hown hC.1 Z (o := 16) (ci := 6) rfl (rfl : vwCl[6]? = some (RX6, TX6, 25)) 0 (by decide) (hts _ k_X6_fits_w0) (fun _ h9 => h9) (f := 0) rfl rfl dX6_fits_14 ?_
  refine lv_iconst (v := 3) hx hb dX6_fits_17 (by decide) ?_
  obtain ⟨v18, ev18, iv18, h⟩ := wx_rI_ok h
  refine wx_iald hx hb hC.1 Z (o := 16) (k := 0) (n := 109) rfl rfl iv18 dX6_fits_18 ev18 ?_
  refine lv_ineg hx hb dX6_fits_19 ?_
  refine lv_aload_n hx hb dX6_fits_20 rfl (lv_at hl 1 rfl) ?_
  refine wx_get (own := RX6) hx hb hts i_X6_fits_6 hown hC.1 Z (o := 16) (ci := 6) rfl (rfl : vwCl[6]? = some (RX6, TX6, 25)) 0 (by decide) (hts _ k_X6_fits_w0) (fun _ h9 => h9) (f := 0) rfl rfl dX6_fits_21 ?_
  refine lv_iconst (v := 3) hx hb dX6_fits_24 (by decide) ?_
  obtain ⟨v25, ev25, iv25, h⟩ := wx_rI_ok h
  refine wx_iald hx hb hC.1 Z (o := 16) (k := 0) (n := 109) rfl rfl iv25 dX6_fits_25 ev25 ?_
  obtain ⟨v26, hc26, h⟩ := wx_o_ok h
  refine wx_call (va_runS (As := [.int (v1 - v7), .int (-v18), .int v25]) (rest := []) ⟨hx, hb, hml, hown, hts⟩ (c_X6_within l (D := D) (ad := ad) (rd := rd) (ca := ca) (A := A) (σ := σ) hc26) (va_cwS 3 hts gX6_fits_X6_within rfl rfl rfl (by decide +kernel) ⟨Nat.le_of_ble_eq_true rfl, Nat.le_of_ble_eq_true rfl⟩) (wx_preS hC Z hS hA) rfl rfl hl.1 rfl (lv_room (Nat.le_of_ble_eq_true rfl)) dX6_fits_26 ⟨Nat.zero_le _, Nat.zero_le _⟩) hS (fun H locs Z hS => ?_)
  obtain ⟨hz, h⟩ := wx_z_ok h
  obtain rfl := Option.some.inj h
  exact W.zret hx hb hr (wx_nb hz) (fun t ht hW => ⟨rfl, by rw [ht]; exact Z, hS.F ht⟩) hS.2.2 dX6_fits_29
set_option maxRecDepth 20000 in
theorem c_X6_fits (l : Launch) {D : va_G} {ad : Nat → Nat → Nat} {rd : Nat → Nat} {ca : Nat → ClassId} {A : Nat → Prop} {σ : wx_St}    {x1 : UInt32} {x2 : Int32} {r : Int32} (h : f_X6_fits x1 x2 σ = some r) : wx_M l yX6_fits wsX6_fits 1 22 D ad rd ca A [.ref (ad 16 99), .float x1, .int x2] σ (some (.int r)) σ := by
  refine Met.ofW (cc := cX6_fits) (maxL := 4) (ret := (some .boolean)) (by decide +kernel) rfl ?_
  intro p e s m args below meth c s₁ B0 hml hv
  obtain ⟨rfl, hC, Z, hA⟩ := hv
  have hl := lv_entry ([.ref (ad 16 99), .float x1, .int x2]) (n := 4) (Nat.le_of_ble_eq_true rfl)
  rw [lg_entry_eq]
  generalize (lg_sl ([.ref (ad 16 99), .float x1, .int x2]) ++ List.replicate (4 - (lg_sl ([.ref (ad 16 99), .float x1, .int x2])).length) Slot.unset).toArray = ls at hl ⊢
  exact b_X6_fits_0 ⟨B0.exec, B0.bytes, hml, B0.returns, atoms_spec (ws := wsX6_fits) B0.pre, findClass_of_methodNamed B0.named, B0.notSynchronized, hC, hA⟩   h Z va_S.rf hl
theorem i_X6_fitsAlone_6 : ∀ w ∈ wsX60, w ∈ wsX6_fitsAlone := by decide +kernel
theorem k_X6_fitsAlone_w0 : Cond.fieldLink RX6 7 "WarmProbesModel" "state" "[I" ∈ wsX6_fitsAlone := by decide +kernel
theorem k_X6_fitsAlone_w1 : Cond.fieldLink RX6 41 "WarmProbesModel" "made" "[F" ∈ wsX6_fitsAlone := by decide +kernel
set_option maxRecDepth 20000 in
set_option maxHeartbeats 4000000 in
theorem b_X6_fitsAlone_43 (B : wx_B p s m args meth c cX6_fitsAlone 4 (some .boolean) wsX6_fitsAlone RX6 D ad ca A)    {r : Int32} {σ : wx_St} {K4 : Int32 → Int32 → Int32 → wx_St → Option Int32} (hK4 : ∀ {x1 : Int32} {x2 : Int32} {x3 : Int32}   (h : K4 x1 x2 x3 σ = some r) {H : Heap} {locs : List Loc} (Z : wx_Z D ad rd ca A σ H) (hS : va_S A s.heap H locs) {ls : Array Slot} (hl : lv_has ls 4 [(0, .ref (ad 16 99)), (1, .int x1), (2, .int x2), (3, .int x3)]), W p l e ({ frames := 2, cells := 0, slots := 0, locals := 45 } : Room) s m args below meth c H locs 0 0 (MQ below (wx_Q D ad rd ca A (some (.int r)) σ) args s 0 0 A) (F0 m 4 ls [])) {x1 : Int32} {x2 : Int32} {x3 : Int32} {y0 : Int32}   (h : f_X6_fitsAlone_43 K4 x1 x2 x3 y0 σ = some r) {H : Heap} {locs : List Loc} (Z : wx_Z D ad rd ca A σ H) (hS : va_S A s.heap H locs) {ls : Array Slot} (hl : lv_has ls 4 [(0, .ref (ad 16 99)), (1, .int x1), (2, .int x2), (3, .int x3)]) : W p l e ({ frames := 2, cells := 0, slots := 0, locals := 45 } : Room) s m args below meth c H locs 0 0 (MQ below (wx_Q D ad rd ca A (some (.int r)) σ) args s 0 0 A) (F0 m 43 ls [.int y0]) := by
  obtain ⟨hx, hb, hml, hr, hts, hown, hlk, hC, hA⟩ := id B
  unfold f_X6_fitsAlone_43 at h
  refine lv_istore_n (lv' := [(2, .int y0), (0, .ref (ad 16 99)), (1, .int x1), (3, .int x3)]) hx hb dX6_fitsAlone_43 rfl hl (by decide) rfl (fun ls hl => ?_)
  refine lv_iinc (v := x3 + 1) (lv' := [(3, .int (x3 + 1)), (2, .int y0), (0, .ref (ad 16 99)), (1, .int x1)]) hx hb dX6_fitsAlone_44 hl (k := 3) rfl rfl (by decide) rfl (fun ls hl => ?_)
  refine lv_goto (tgt := 4) hx hb dX6_fitsAlone_47 (by decide) ?_
  exact hK4 h Z hS (lv_sub hl [2, 3, 1, 0] rfl)
set_option maxRecDepth 20000 in
set_option maxHeartbeats 4000000 in
theorem b_X6_fitsAlone_42 (B : wx_B p s m args meth c cX6_fitsAlone 4 (some .boolean) wsX6_fitsAlone RX6 D ad ca A)    {r : Int32} {σ : wx_St} {K4 : Int32 → Int32 → Int32 → wx_St → Option Int32} (hK4 : ∀ {x1 : Int32} {x2 : Int32} {x3 : Int32}   (h : K4 x1 x2 x3 σ = some r) {H : Heap} {locs : List Loc} (Z : wx_Z D ad rd ca A σ H) (hS : va_S A s.heap H locs) {ls : Array Slot} (hl : lv_has ls 4 [(0, .ref (ad 16 99)), (1, .int x1), (2, .int x2), (3, .int x3)]), W p l e ({ frames := 2, cells := 0, slots := 0, locals := 45 } : Room) s m args below meth c H locs 0 0 (MQ below (wx_Q D ad rd ca A (some (.int r)) σ) args s 0 0 A) (F0 m 4 ls [])) {x1 : Int32} {x2 : Int32} {x3 : Int32}   (h : f_X6_fitsAlone_42 K4 x1 x2 x3 σ = some r) {H : Heap} {locs : List Loc} (Z : wx_Z D ad rd ca A σ H) (hS : va_S A s.heap H locs) {ls : Array Slot} (hl : lv_has ls 4 [(0, .ref (ad 16 99)), (1, .int x1), (2, .int x2), (3, .int x3)]) : W p l e ({ frames := 2, cells := 0, slots := 0, locals := 45 } : Room) s m args below meth c H locs 0 0 (MQ below (wx_Q D ad rd ca A (some (.int r)) σ) args s 0 0 A) (F0 m 42 ls []) := by
  obtain ⟨hx, hb, hml, hr, hts, hown, hlk, hC, hA⟩ := id B
  unfold f_X6_fitsAlone_42 at h
  refine lv_iconst (v := 0) hx hb dX6_fitsAlone_42 (by decide) ?_
  exact b_X6_fitsAlone_43 B (K4 := K4) @hK4 h Z hS (lv_sub hl [0, 1, 2, 3] rfl)
set_option maxRecDepth 20000 in
set_option maxHeartbeats 4000000 in
theorem b_X6_fitsAlone_4 (B : wx_B p s m args meth c cX6_fitsAlone 4 (some .boolean) wsX6_fitsAlone RX6 D ad ca A)    {r : Int32} {σ : wx_St}   :
    ∀ {n : Nat} {x1 : Int32} {x2 : Int32} {x3 : Int32}   (h : f_X6_fitsAlone_4 n x1 x2 x3 σ = some r) {H : Heap} {locs : List Loc} (Z : wx_Z D ad rd ca A σ H) (hS : va_S A s.heap H locs) {ls : Array Slot} (hl : lv_has ls 4 [(0, .ref (ad 16 99)), (1, .int x1), (2, .int x2), (3, .int x3)]), W p l e ({ frames := 2, cells := 0, slots := 0, locals := 45 } : Room) s m args below meth c H locs 0 0 (MQ below (wx_Q D ad rd ca A (some (.int r)) σ) args s 0 0 A) (F0 m 4 ls []) := by
  obtain ⟨hx, hb, hml, hr, hts, hown, hlk, hC, hA⟩ := id B
  intro n
  induction n with
  | zero => intro x1 x2 x3   h H locs Z hS ls hl; exact wx_no h
  | succ n ih =>
    intro x1 x2 x3   h H locs Z hS ls hl
    rw [f_X6_fitsAlone_4] at h
    refine lv_iload_n hx hb dX6_fitsAlone_4 rfl (lv_at hl 3 rfl) ?_
    refine lv_aload_n hx hb dX6_fitsAlone_5 rfl (lv_at hl 0 rfl) ?_
    refine wx_get (own := RX6) hx hb hts i_X6_fitsAlone_6 hown hC.1 Z (o := 16) (ci := 6) rfl (rfl : vwCl[6]? = some (RX6, TX6, 25)) 0 (by decide) (hts _ k_X6_fitsAlone_w0) (fun _ h9 => h9) (f := 0) rfl rfl dX6_fitsAlone_6 ?_
    refine lv_bipush (v := 6) hx hb dX6_fitsAlone_9 (by decide) ?_
    obtain ⟨v11, ev11, iv11, h⟩ := wx_rI_ok h
    refine wx_iald hx hb hC.1 Z (o := 16) (k := 0) (n := 109) rfl rfl iv11 dX6_fitsAlone_11 ev11 ?_
    refine lv_icmp_ge (tgt := 50) hx hb dX6_fitsAlone_12 (by decide) (fun c12 => ?_) (fun c12 => ?_)
    · replace h := wx_ift c12 h
      refine lv_iload_n hx hb dX6_fitsAlone_50 rfl (lv_at hl 2 rfl) ?_
      obtain ⟨hz, h⟩ := wx_z_ok h
      obtain rfl := Option.some.inj h
      exact W.zret hx hb hr (wx_nb hz) (fun t ht hW => ⟨rfl, by rw [ht]; exact Z, hS.F ht⟩) hS.2.2 dX6_fitsAlone_51
    · replace h := wx_iff c12 h
      refine lv_iload_n hx hb dX6_fitsAlone_15 rfl (lv_at hl 2 rfl) ?_
      refine lv_if_eq (tgt := 42) hx hb dX6_fitsAlone_16 (by decide) (fun c16 => ?_) (fun c16 => ?_)
      · replace h := wx_ift c16 h
        exact b_X6_fitsAlone_42 B (K4 := (f_X6_fitsAlone_4 n)) @ih h Z hS (lv_sub hl [0, 1, 2, 3] rfl)
      · replace h := wx_iff c16 h
        refine lv_aload_n hx hb dX6_fitsAlone_19 rfl (lv_at hl 0 rfl) ?_
        refine lv_aload_n hx hb dX6_fitsAlone_20 rfl (lv_at hl 0 rfl) ?_
        refine wx_get (own := RX6) hx hb hts i_X6_fitsAlone_6 hown hC.1 Z (o := 16) (ci := 6) rfl (rfl : vwCl[6]? = some (RX6, TX6, 25)) 12 (by decide) (hts _ k_X6_fitsAlone_w1) (fun _ h9 => h9) (f := 0) rfl rfl dX6_fitsAlone_21 ?_
        refine lv_bipush (v := 8) hx hb dX6_fitsAlone_24 (by decide) ?_
        refine lv_iload_n hx hb dX6_fitsAlone_26 rfl (lv_at hl 1 rfl) ?_
        refine lv_imul hx hb dX6_fitsAlone_27 ?_
        refine lv_iload_n hx hb dX6_fitsAlone_28 rfl (lv_at hl 3 rfl) ?_
        refine lv_iadd hx hb dX6_fitsAlone_29 ?_
        obtain ⟨v30, ev30, iv30, h⟩ := wx_rF_ok h
        refine wx_fald hx hb hC.1 Z (o := 16) (k := 12) (n := 512) rfl rfl iv30 dX6_fitsAlone_30 ev30 ?_
        refine lv_iload_n hx hb dX6_fitsAlone_31 rfl (lv_at hl 3 rfl) ?_
        obtain ⟨v32, hc32, h⟩ := wx_o_ok h
        refine wx_call (va_runV (As := [.float v30, .int x3]) (rest := []) ⟨hx, hb, hml, hown, hts⟩ (c_X6_fits l (D := D) (ad := ad) (rd := rd) (ca := ca) (A := A) (σ := σ) hc32) (cwV 2 hts gX6_fitsAlone_X6_fits rfl rfl rfl (by decide +kernel) ⟨Nat.le_of_ble_eq_true rfl, Nat.le_of_ble_eq_true rfl⟩) (wx_preV hC Z hS hA rfl (rfl : vwCl[6]? = some (RX6, TX6, 25))) rfl rfl hl.1 rfl (lv_room (Nat.le_of_ble_eq_true rfl)) dX6_fitsAlone_32 ⟨Nat.zero_le _, Nat.zero_le _⟩) hS (fun H locs Z hS => ?_)
        refine lv_if_eq (tgt := 42) hx hb dX6_fitsAlone_35 (by decide) (fun c35 => ?_) (fun c35 => ?_)
        · replace h := wx_ift c35 h
          exact b_X6_fitsAlone_42 B (K4 := (f_X6_fitsAlone_4 n)) @ih h Z hS (lv_sub hl [0, 1, 2, 3] rfl)
        · replace h := wx_iff c35 h
          refine lv_iconst (v := 1) hx hb dX6_fitsAlone_38 (by decide) ?_
          refine lv_goto (tgt := 43) hx hb dX6_fitsAlone_39 (by decide) ?_
          exact b_X6_fitsAlone_43 B (K4 := (f_X6_fitsAlone_4 n)) @ih h Z hS (lv_sub hl [0, 1, 2, 3] rfl)
set_option maxRecDepth 20000 in
set_option maxHeartbeats 4000000 in
theorem b_X6_fitsAlone_0 (B : wx_B p s m args meth c cX6_fitsAlone 4 (some .boolean) wsX6_fitsAlone RX6 D ad ca A)    {r : Int32} {σ : wx_St}  {x1 : Int32}   (h : f_X6_fitsAlone x1 σ = some r) {H : Heap} {locs : List Loc} (Z : wx_Z D ad rd ca A σ H) (hS : va_S A s.heap H locs) {ls : Array Slot} (hl : lv_has ls 4 [(0, .ref (ad 16 99)), (1, .int x1)]) : W p l e ({ frames := 2, cells := 0, slots := 0, locals := 45 } : Room) s m args below meth c H locs 0 0 (MQ below (wx_Q D ad rd ca A (some (.int r)) σ) args s 0 0 A) (F0 m 0 ls []) := by
  obtain ⟨hx, hb, hml, hr, hts, hown, hlk, hC, hA⟩ := id B
  unfold f_X6_fitsAlone at h
  refine lv_iconst (v := 1) hx hb dX6_fitsAlone_0 (by decide) ?_
  refine lv_istore_n (lv' := [(2, .int 1), (0, .ref (ad 16 99)), (1, .int x1)]) hx hb dX6_fitsAlone_1 rfl hl (by decide) rfl (fun ls hl => ?_)
  refine lv_iconst (v := 0) hx hb dX6_fitsAlone_2 (by decide) ?_
  refine lv_istore_n (lv' := [(3, .int 0), (2, .int 1), (0, .ref (ad 16 99)), (1, .int x1)]) hx hb dX6_fitsAlone_3 rfl hl (by decide) rfl (fun ls hl => ?_)
  exact b_X6_fitsAlone_4 B h Z hS (lv_sub hl [2, 3, 1, 0] rfl)
set_option maxRecDepth 20000 in
theorem c_X6_fitsAlone (l : Launch) {D : va_G} {ad : Nat → Nat → Nat} {rd : Nat → Nat} {ca : Nat → ClassId} {A : Nat → Prop} {σ : wx_St}    {x1 : Int32} {r : Int32} (h : f_X6_fitsAlone x1 σ = some r) : wx_M l yX6_fitsAlone wsX6_fitsAlone 2 45 D ad rd ca A [.ref (ad 16 99), .int x1] σ (some (.int r)) σ := by
  refine Met.ofW (cc := cX6_fitsAlone) (maxL := 4) (ret := (some .boolean)) (by decide +kernel) rfl ?_
  intro p e s m args below meth c s₁ B0 hml hv
  obtain ⟨rfl, hC, Z, hA⟩ := hv
  have hl := lv_entry ([.ref (ad 16 99), .int x1]) (n := 4) (Nat.le_of_ble_eq_true rfl)
  rw [lg_entry_eq]
  generalize (lg_sl ([.ref (ad 16 99), .int x1]) ++ List.replicate (4 - (lg_sl ([.ref (ad 16 99), .int x1])).length) Slot.unset).toArray = ls at hl ⊢
  exact b_X6_fitsAlone_0 ⟨B0.exec, B0.bytes, hml, B0.returns, atoms_spec (ws := wsX6_fitsAlone) B0.pre, findClass_of_methodNamed B0.named, B0.notSynchronized, hC, hA⟩   h Z va_S.rf hl
set_option maxRecDepth 20000 in
set_option maxHeartbeats 4000000 in
theorem b_X6_isSuspect_81 (B : wx_B p s m args meth c cX6_isSuspect 5 (some .boolean) wsX6_isSuspect RX6 D ad ca A)    {r : Int32} {σ : wx_St} {K4 : Int32 → Int32 → Int32 → wx_St → Option Int32} (hK4 : ∀ {x1 : Int32} {x2 : Int32} {x3 : Int32}   (h : K4 x1 x2 x3 σ = some r) {H : Heap} {locs : List Loc} (Z : wx_Z D ad rd ca A σ H) (hS : va_S A s.heap H locs) {ls : Array Slot} (hl : lv_has ls 5 [(0, .ref (ad 16 99)), (1, .int x1), (2, .int x2), (3, .int x3)]), W p l e ({ frames := 4, cells := 0, slots := 0, locals := 86 } : Room) s m args below meth c H locs 0 0 (MQ below (wx_Q D ad rd ca A (some (.int r)) σ) args s 0 0 A) (F0 m 4 ls [])) {x1 : Int32} {x2 : Int32} {x3 : Int32} {x4 : Int32} {y0 : Int32}   (h : f_X6_isSuspect_81 K4 x1 x2 x3 x4 y0 σ = some r) {H : Heap} {locs : List Loc} (Z : wx_Z D ad rd ca A σ H) (hS : va_S A s.heap H locs) {ls : Array Slot} (hl : lv_has ls 5 [(0, .ref (ad 16 99)), (1, .int x1), (2, .int x2), (3, .int x3), (4, .int x4)]) : W p l e ({ frames := 4, cells := 0, slots := 0, locals := 86 } : Room) s m args below meth c H locs 0 0 (MQ below (wx_Q D ad rd ca A (some (.int r)) σ) args s 0 0 A) (F0 m 81 ls [.int y0]) := by
  obtain ⟨hx, hb, hml, hr, hts, hown, hlk, hC, hA⟩ := id B
  unfold f_X6_isSuspect_81 at h
  refine lv_istore_n (lv' := [(2, .int y0), (0, .ref (ad 16 99)), (1, .int x1), (3, .int x3), (4, .int x4)]) hx hb dX6_isSuspect_81 rfl hl (by decide) rfl (fun ls hl => ?_)
  refine lv_iinc (v := x3 + 1) (lv' := [(3, .int (x3 + 1)), (2, .int y0), (0, .ref (ad 16 99)), (1, .int x1), (4, .int x4)]) hx hb dX6_isSuspect_82 hl (k := 3) rfl rfl (by decide) rfl (fun ls hl => ?_)
  refine lv_goto (tgt := 4) hx hb dX6_isSuspect_85 (by decide) ?_
  exact hK4 h Z hS (lv_sub hl [2, 3, 1, 0] rfl)
set_option maxRecDepth 20000 in
set_option maxHeartbeats 4000000 in
theorem b_X6_isSuspect_76 (B : wx_B p s m args meth c cX6_isSuspect 5 (some .boolean) wsX6_isSuspect RX6 D ad ca A)    {r : Int32} {σ : wx_St} {K4 : Int32 → Int32 → Int32 → wx_St → Option Int32} (hK4 : ∀ {x1 : Int32} {x2 : Int32} {x3 : Int32}   (h : K4 x1 x2 x3 σ = some r) {H : Heap} {locs : List Loc} (Z : wx_Z D ad rd ca A σ H) (hS : va_S A s.heap H locs) {ls : Array Slot} (hl : lv_has ls 5 [(0, .ref (ad 16 99)), (1, .int x1), (2, .int x2), (3, .int x3)]), W p l e ({ frames := 4, cells := 0, slots := 0, locals := 86 } : Room) s m args below meth c H locs 0 0 (MQ below (wx_Q D ad rd ca A (some (.int r)) σ) args s 0 0 A) (F0 m 4 ls [])) {x1 : Int32} {x2 : Int32} {x3 : Int32} {x4 : Int32}   (h : f_X6_isSuspect_76 K4 x1 x2 x3 x4 σ = some r) {H : Heap} {locs : List Loc} (Z : wx_Z D ad rd ca A σ H) (hS : va_S A s.heap H locs) {ls : Array Slot} (hl : lv_has ls 5 [(0, .ref (ad 16 99)), (1, .int x1), (2, .int x2), (3, .int x3), (4, .int x4)]) : W p l e ({ frames := 4, cells := 0, slots := 0, locals := 86 } : Room) s m args below meth c H locs 0 0 (MQ below (wx_Q D ad rd ca A (some (.int r)) σ) args s 0 0 A) (F0 m 76 ls []) := by
  obtain ⟨hx, hb, hml, hr, hts, hown, hlk, hC, hA⟩ := id B
  unfold f_X6_isSuspect_76 at h
  refine lv_iconst (v := 1) hx hb dX6_isSuspect_76 (by decide) ?_
  refine lv_goto (tgt := 81) hx hb dX6_isSuspect_77 (by decide) ?_
  exact b_X6_isSuspect_81 B (K4 := K4) @hK4 h Z hS (lv_sub hl [0, 1, 2, 3, 4] rfl)
set_option maxRecDepth 20000 in
set_option maxHeartbeats 4000000 in
theorem b_X6_isSuspect_80 (B : wx_B p s m args meth c cX6_isSuspect 5 (some .boolean) wsX6_isSuspect RX6 D ad ca A)    {r : Int32} {σ : wx_St} {K4 : Int32 → Int32 → Int32 → wx_St → Option Int32} (hK4 : ∀ {x1 : Int32} {x2 : Int32} {x3 : Int32}   (h : K4 x1 x2 x3 σ = some r) {H : Heap} {locs : List Loc} (Z : wx_Z D ad rd ca A σ H) (hS : va_S A s.heap H locs) {ls : Array Slot} (hl : lv_has ls 5 [(0, .ref (ad 16 99)), (1, .int x1), (2, .int x2), (3, .int x3)]), W p l e ({ frames := 4, cells := 0, slots := 0, locals := 86 } : Room) s m args below meth c H locs 0 0 (MQ below (wx_Q D ad rd ca A (some (.int r)) σ) args s 0 0 A) (F0 m 4 ls [])) {x1 : Int32} {x2 : Int32} {x3 : Int32} {x4 : Int32}   (h : f_X6_isSuspect_80 K4 x1 x2 x3 x4 σ = some r) {H : Heap} {locs : List Loc} (Z : wx_Z D ad rd ca A σ H) (hS : va_S A s.heap H locs) {ls : Array Slot} (hl : lv_has ls 5 [(0, .ref (ad 16 99)), (1, .int x1), (2, .int x2), (3, .int x3), (4, .int x4)]) : W p l e ({ frames := 4, cells := 0, slots := 0, locals := 86 } : Room) s m args below meth c H locs 0 0 (MQ below (wx_Q D ad rd ca A (some (.int r)) σ) args s 0 0 A) (F0 m 80 ls []) := by
  obtain ⟨hx, hb, hml, hr, hts, hown, hlk, hC, hA⟩ := id B
  unfold f_X6_isSuspect_80 at h
  refine lv_iconst (v := 0) hx hb dX6_isSuspect_80 (by decide) ?_
  exact b_X6_isSuspect_81 B (K4 := K4) @hK4 h Z hS (lv_sub hl [0, 1, 2, 3, 4] rfl)
set_option maxRecDepth 20000 in
set_option maxHeartbeats 4000000 in
theorem b_X6_isSuspect_4 (B : wx_B p s m args meth c cX6_isSuspect 5 (some .boolean) wsX6_isSuspect RX6 D ad ca A)    {r : Int32} {σ : wx_St}   :
    ∀ {n : Nat} {x1 : Int32} {x2 : Int32} {x3 : Int32}   (h : f_X6_isSuspect_4 n x1 x2 x3 σ = some r) {H : Heap} {locs : List Loc} (Z : wx_Z D ad rd ca A σ H) (hS : va_S A s.heap H locs) {ls : Array Slot} (hl : lv_has ls 5 [(0, .ref (ad 16 99)), (1, .int x1), (2, .int x2), (3, .int x3)]), W p l e ({ frames := 4, cells := 0, slots := 0, locals := 86 } : Room) s m args below meth c H locs 0 0 (MQ below (wx_Q D ad rd ca A (some (.int r)) σ) args s 0 0 A) (F0 m 4 ls []) := by
  obtain ⟨hx, hb, hml, hr, hts, hown, hlk, hC, hA⟩ := id B
  intro n
  induction n with
  | zero => intro x1 x2 x3   h H locs Z hS ls hl; exact wx_no h
  | succ n ih =>
    intro x1 x2 x3   h H locs Z hS ls hl
    rw [f_X6_isSuspect_4] at h
    refine lv_iload_n hx hb dX6_isSuspect_4 rfl (lv_at hl 3 rfl) ?_
    refine lv_iconst (v := 4) hx hb dX6_isSuspect_5 (by decide) ?_
    refine lv_icmp_ge (tgt := 88) hx hb dX6_isSuspect_6 (by decide) (fun c6 => ?_) (fun c6 => ?_)
    · replace h := wx_ift c6 h
      refine lv_iload_n hx hb dX6_isSuspect_88 rfl (lv_at hl 2 rfl) ?_
      obtain ⟨hz, h⟩ := wx_z_ok h
      obtain rfl := Option.some.inj h
      exact W.zret hx hb hr (wx_nb hz) (fun t ht hW => ⟨rfl, by rw [ht]; exact Z, hS.F ht⟩) hS.2.2 dX6_isSuspect_89
    · replace h := wx_iff c6 h
      refine lv_iload_n hx hb dX6_isSuspect_9 rfl (lv_at hl 1 rfl) ?_
      refine lv_iload_n hx hb dX6_isSuspect_10 rfl (lv_at hl 3 rfl) ?_
      obtain ⟨v11, hc11, h⟩ := wx_o_ok h
      refine wx_call (va_runS (As := [.int x1, .int x3]) (rest := []) ⟨hx, hb, hml, hown, hts⟩ (c_X6_neighbour l (D := D) (ad := ad) (rd := rd) (ca := ca) (A := A) (σ := σ) hc11) (va_cwS 2 hts gX6_isSuspect_X6_neighbour rfl rfl rfl (by decide +kernel) ⟨Nat.le_of_ble_eq_true rfl, Nat.le_of_ble_eq_true rfl⟩) (wx_preS hC Z hS hA) rfl rfl hl.1 rfl (lv_room (Nat.le_of_ble_eq_true rfl)) dX6_isSuspect_11 ⟨Nat.zero_le _, Nat.zero_le _⟩) hS (fun H locs Z hS => ?_)
      refine lv_istore (lv' := [(4, .int v11), (0, .ref (ad 16 99)), (1, .int x1), (2, .int x2), (3, .int x3)]) hx hb dX6_isSuspect_14 hl (by decide) rfl (fun ls hl => ?_)
      refine lv_iload_n hx hb dX6_isSuspect_16 rfl (lv_at hl 3 rfl) ?_
      refine lv_if_ne (tgt := 76) hx hb dX6_isSuspect_17 (by decide) (fun c17 => ?_) (fun c17 => ?_)
      · replace h := wx_iff c17 h
        exact b_X6_isSuspect_76 B (K4 := (f_X6_isSuspect_4 n)) @ih h Z hS (lv_sub hl [1, 2, 3, 4, 0] rfl)
      · replace h := wx_ift c17 h
        refine lv_iload hx hb dX6_isSuspect_20 (lv_at hl 0 rfl) ?_
        refine lv_bipush (v := (-6)) hx hb dX6_isSuspect_22 (by decide) ?_
        refine lv_icmp_eq (tgt := 80) hx hb dX6_isSuspect_24 (by decide) (fun c24 => ?_) (fun c24 => ?_)
        · replace h := wx_ift c24 h
          exact b_X6_isSuspect_80 B (K4 := (f_X6_isSuspect_4 n)) @ih h Z hS (lv_sub hl [1, 2, 3, 4, 0] rfl)
        · replace h := wx_iff c24 h
          refine lv_aload_n hx hb dX6_isSuspect_27 rfl (lv_at hl 1 rfl) ?_
          refine lv_iload_n hx hb dX6_isSuspect_28 rfl (lv_at hl 2 rfl) ?_
          obtain ⟨v29, hc29, h⟩ := wx_o_ok h
          refine wx_call (va_runV (As := [.int x1]) (rest := []) ⟨hx, hb, hml, hown, hts⟩ (c_X6_netAt l (D := D) (ad := ad) (rd := rd) (ca := ca) (A := A) (σ := σ) hc29) (cwV 1 hts gX6_isSuspect_X6_netAt rfl rfl rfl (by decide +kernel) ⟨Nat.le_of_ble_eq_true rfl, Nat.le_of_ble_eq_true rfl⟩) (wx_preV hC Z hS hA rfl (rfl : vwCl[6]? = some (RX6, TX6, 25))) rfl rfl hl.1 rfl (lv_room (Nat.le_of_ble_eq_true rfl)) dX6_isSuspect_29 ⟨Nat.zero_le _, Nat.zero_le _⟩) hS (fun H locs Z hS => ?_)
          refine lv_if_le (tgt := 80) hx hb dX6_isSuspect_32 (by decide) (fun c32 => ?_) (fun c32 => ?_)
          · replace h := wx_ift c32 h
            exact b_X6_isSuspect_80 B (K4 := (f_X6_isSuspect_4 n)) @ih h Z hS (lv_sub hl [1, 2, 3, 4, 0] rfl)
          · replace h := wx_iff c32 h
            refine lv_aload_n hx hb dX6_isSuspect_35 rfl (lv_at hl 1 rfl) ?_
            refine lv_iload hx hb dX6_isSuspect_36 (lv_at hl 0 rfl) ?_
            obtain ⟨v38, hc38, h⟩ := wx_o_ok h
            refine wx_call (va_runV (As := [.int v11]) (rest := []) ⟨hx, hb, hml, hown, hts⟩ (c_X6_netAt l (D := D) (ad := ad) (rd := rd) (ca := ca) (A := A) (σ := σ) hc38) (cwV 1 hts gX6_isSuspect_X6_netAt rfl rfl rfl (by decide +kernel) ⟨Nat.le_of_ble_eq_true rfl, Nat.le_of_ble_eq_true rfl⟩) (wx_preV hC Z hS hA rfl (rfl : vwCl[6]? = some (RX6, TX6, 25))) rfl rfl hl.1 rfl (lv_room (Nat.le_of_ble_eq_true rfl)) dX6_isSuspect_38 ⟨Nat.zero_le _, Nat.zero_le _⟩) hS (fun H locs Z hS => ?_)
            refine lv_if_le (tgt := 80) hx hb dX6_isSuspect_41 (by decide) (fun c41 => ?_) (fun c41 => ?_)
            · replace h := wx_ift c41 h
              exact b_X6_isSuspect_80 B (K4 := (f_X6_isSuspect_4 n)) @ih h Z hS (lv_sub hl [1, 2, 3, 4, 0] rfl)
            · replace h := wx_iff c41 h
              refine lv_aload_n hx hb dX6_isSuspect_44 rfl (lv_at hl 1 rfl) ?_
              refine lv_iload hx hb dX6_isSuspect_45 (lv_at hl 0 rfl) ?_
              obtain ⟨v47, hc47, h⟩ := wx_o_ok h
              refine wx_call (va_runV (As := [.int v11]) (rest := []) ⟨hx, hb, hml, hown, hts⟩ (c_X6_netAt l (D := D) (ad := ad) (rd := rd) (ca := ca) (A := A) (σ := σ) hc47) (cwV 1 hts gX6_isSuspect_X6_netAt rfl rfl rfl (by decide +kernel) ⟨Nat.le_of_ble_eq_true rfl, Nat.le_of_ble_eq_true rfl⟩) (wx_preV hC Z hS hA rfl (rfl : vwCl[6]? = some (RX6, TX6, 25))) rfl rfl hl.1 rfl (lv_room (Nat.le_of_ble_eq_true rfl)) dX6_isSuspect_47 ⟨Nat.zero_le _, Nat.zero_le _⟩) hS (fun H locs Z hS => ?_)
              refine lv_aload_n hx hb dX6_isSuspect_50 rfl (lv_at hl 1 rfl) ?_
              refine lv_iload_n hx hb dX6_isSuspect_51 rfl (lv_at hl 2 rfl) ?_
              obtain ⟨v52, hc52, h⟩ := wx_o_ok h
              refine wx_call (va_runV (As := [.int x1]) (rest := [.int v47]) ⟨hx, hb, hml, hown, hts⟩ (c_X6_netAt l (D := D) (ad := ad) (rd := rd) (ca := ca) (A := A) (σ := σ) hc52) (cwV 1 hts gX6_isSuspect_X6_netAt rfl rfl rfl (by decide +kernel) ⟨Nat.le_of_ble_eq_true rfl, Nat.le_of_ble_eq_true rfl⟩) (wx_preV hC Z hS hA rfl (rfl : vwCl[6]? = some (RX6, TX6, 25))) rfl rfl hl.1 rfl (lv_room (Nat.le_of_ble_eq_true rfl)) dX6_isSuspect_52 ⟨Nat.zero_le _, Nat.zero_le _⟩) hS (fun H locs Z hS => ?_)
              refine lv_icmp_eq (tgt := 80) hx hb dX6_isSuspect_55 (by decide) (fun c55 => ?_) (fun c55 => ?_)
              · replace h := wx_ift c55 h
                exact b_X6_isSuspect_80 B (K4 := (f_X6_isSuspect_4 n)) @ih h Z hS (lv_sub hl [1, 2, 3, 4, 0] rfl)
              · replace h := wx_iff c55 h
                refine lv_aload_n hx hb dX6_isSuspect_58 rfl (lv_at hl 1 rfl) ?_
                refine lv_aload_n hx hb dX6_isSuspect_59 rfl (lv_at hl 1 rfl) ?_
                refine lv_iload_n hx hb dX6_isSuspect_60 rfl (lv_at hl 2 rfl) ?_
                obtain ⟨v61, hc61, h⟩ := wx_o_ok h
                refine wx_call (va_runV (As := [.int x1]) (rest := [.ref (ad 16 99)]) ⟨hx, hb, hml, hown, hts⟩ (c_X6_netAt l (D := D) (ad := ad) (rd := rd) (ca := ca) (A := A) (σ := σ) hc61) (cwV 1 hts gX6_isSuspect_X6_netAt rfl rfl rfl (by decide +kernel) ⟨Nat.le_of_ble_eq_true rfl, Nat.le_of_ble_eq_true rfl⟩) (wx_preV hC Z hS hA rfl (rfl : vwCl[6]? = some (RX6, TX6, 25))) rfl rfl hl.1 rfl (lv_room (Nat.le_of_ble_eq_true rfl)) dX6_isSuspect_61 ⟨Nat.zero_le _, Nat.zero_le _⟩) hS (fun H locs Z hS => ?_)
                refine lv_aload_n hx hb dX6_isSuspect_64 rfl (lv_at hl 1 rfl) ?_
                refine lv_iload hx hb dX6_isSuspect_65 (lv_at hl 0 rfl) ?_
                obtain ⟨v67, hc67, h⟩ := wx_o_ok h
                refine wx_call (va_runV (As := [.int v11]) (rest := [.int v61, .ref (ad 16 99)]) ⟨hx, hb, hml, hown, hts⟩ (c_X6_netAt l (D := D) (ad := ad) (rd := rd) (ca := ca) (A := A) (σ := σ) hc67) (cwV 1 hts gX6_isSuspect_X6_netAt rfl rfl rfl (by decide +kernel) ⟨Nat.le_of_ble_eq_true rfl, Nat.le_of_ble_eq_true rfl⟩) (wx_preV hC Z hS hA rfl (rfl : vwCl[6]? = some (RX6, TX6, 25))) rfl rfl hl.1 rfl (lv_room (Nat.le_of_ble_eq_true rfl)) dX6_isSuspect_67 ⟨Nat.zero_le _, Nat.zero_le _⟩) hS (fun H locs Z hS => ?_)
                obtain ⟨v70, hc70, h⟩ := wx_o_ok h
                refine wx_call (va_runV (As := [.int v61, .int v67]) (rest := []) ⟨hx, hb, hml, hown, hts⟩ (c_X6_isFed l (D := D) (ad := ad) (rd := rd) (ca := ca) (A := A) (σ := σ) hc70) (cwV 2 hts gX6_isSuspect_X6_isFed rfl rfl rfl (by decide +kernel) ⟨Nat.le_of_ble_eq_true rfl, Nat.le_of_ble_eq_true rfl⟩) (wx_preV hC Z hS hA rfl (rfl : vwCl[6]? = some (RX6, TX6, 25))) rfl rfl hl.1 rfl (lv_room (Nat.le_of_ble_eq_true rfl)) dX6_isSuspect_70 ⟨Nat.zero_le _, Nat.zero_le _⟩) hS (fun H locs Z hS => ?_)
                refine lv_if_eq (tgt := 80) hx hb dX6_isSuspect_73 (by decide) (fun c73 => ?_) (fun c73 => ?_)
                · replace h := wx_ift c73 h
                  exact b_X6_isSuspect_80 B (K4 := (f_X6_isSuspect_4 n)) @ih h Z hS (lv_sub hl [1, 2, 3, 4, 0] rfl)
                · replace h := wx_iff c73 h
                  exact b_X6_isSuspect_76 B (K4 := (f_X6_isSuspect_4 n)) @ih h Z hS (lv_sub hl [1, 2, 3, 4, 0] rfl)
set_option maxRecDepth 20000 in
set_option maxHeartbeats 4000000 in
theorem b_X6_isSuspect_0 (B : wx_B p s m args meth c cX6_isSuspect 5 (some .boolean) wsX6_isSuspect RX6 D ad ca A)    {r : Int32} {σ : wx_St}  {x1 : Int32}   (h : f_X6_isSuspect x1 σ = some r) {H : Heap} {locs : List Loc} (Z : wx_Z D ad rd ca A σ H) (hS : va_S A s.heap H locs) {ls : Array Slot} (hl : lv_has ls 5 [(0, .ref (ad 16 99)), (1, .int x1)]) : W p l e ({ frames := 4, cells := 0, slots := 0, locals := 86 } : Room) s m args below meth c H locs 0 0 (MQ below (wx_Q D ad rd ca A (some (.int r)) σ) args s 0 0 A) (F0 m 0 ls []) := by
  obtain ⟨hx, hb, hml, hr, hts, hown, hlk, hC, hA⟩ := id B
  unfold f_X6_isSuspect at h
  refine lv_iconst (v := 0) hx hb dX6_isSuspect_0 (by decide) ?_
  refine lv_istore_n (lv' := [(2, .int 0), (0, .ref (ad 16 99)), (1, .int x1)]) hx hb dX6_isSuspect_1 rfl hl (by decide) rfl (fun ls hl => ?_)
  refine lv_iconst (v := 0) hx hb dX6_isSuspect_2 (by decide) ?_
  refine lv_istore_n (lv' := [(3, .int 0), (2, .int 0), (0, .ref (ad 16 99)), (1, .int x1)]) hx hb dX6_isSuspect_3 rfl hl (by decide) rfl (fun ls hl => ?_)
  exact b_X6_isSuspect_4 B h Z hS (lv_sub hl [2, 3, 1, 0] rfl)
set_option maxRecDepth 20000 in
theorem c_X6_isSuspect (l : Launch) {D : va_G} {ad : Nat → Nat → Nat} {rd : Nat → Nat} {ca : Nat → ClassId} {A : Nat → Prop} {σ : wx_St}    {x1 : Int32} {r : Int32} (h : f_X6_isSuspect x1 σ = some r) : wx_M l yX6_isSuspect wsX6_isSuspect 4 86 D ad rd ca A [.ref (ad 16 99), .int x1] σ (some (.int r)) σ := by
  refine Met.ofW (cc := cX6_isSuspect) (maxL := 5) (ret := (some .boolean)) (by decide +kernel) rfl ?_
  intro p e s m args below meth c s₁ B0 hml hv
  obtain ⟨rfl, hC, Z, hA⟩ := hv
  have hl := lv_entry ([.ref (ad 16 99), .int x1]) (n := 5) (Nat.le_of_ble_eq_true rfl)
  rw [lg_entry_eq]
  generalize (lg_sl ([.ref (ad 16 99), .int x1]) ++ List.replicate (5 - (lg_sl ([.ref (ad 16 99), .int x1])).length) Slot.unset).toArray = ls at hl ⊢
  exact b_X6_isSuspect_0 ⟨B0.exec, B0.bytes, hml, B0.returns, atoms_spec (ws := wsX6_isSuspect) B0.pre, findClass_of_methodNamed B0.named, B0.notSynchronized, hC, hA⟩   h Z va_S.rf hl
theorem i_X6_findSuspects_6 : ∀ w ∈ wsX60, w ∈ wsX6_findSuspects := by decide +kernel
theorem k_X6_findSuspects_w0 : Cond.fieldLink RX6 44 "WarmProbesModel" "suspects" "[I" ∈ wsX6_findSuspects := by decide +kernel
theorem k_X6_findSuspects_w1 : Cond.fieldLink RX6 47 "WarmProbesModel" "single" "[I" ∈ wsX6_findSuspects := by decide +kernel
theorem k_X6_findSuspects_w2 : Cond.fieldLink RX6 50 "WarmProbesModel" "paired" "[I" ∈ wsX6_findSuspects := by decide +kernel
set_option maxRecDepth 20000 in
set_option maxHeartbeats 4000000 in
theorem b_X6_findSuspects_70 (B : wx_B p s m args meth c cX6_findSuspects 2 none wsX6_findSuspects RX6 D ad ca A)     {σ' : wx_St} {K2 : Int32 → wx_St → Option (Unit × wx_St)} (hK2 : ∀ {x1 : Int32} {σ : wx_St}  (h : K2 x1 σ = some ((), σ')) {H : Heap} {locs : List Loc} (Z : wx_Z D ad rd ca A σ H) (hS : va_S A s.heap H locs) {ls : Array Slot} (hl : lv_has ls 2 [(0, .ref (ad 16 99)), (1, .int x1)]), W p l e ({ frames := 6, cells := 0, slots := 0, locals := 135 } : Room) s m args below meth c H locs 0 0 (MQ below (wx_Q D ad rd ca A none σ') args s 0 0 A) (F0 m 2 ls [])) {x1 : Int32} {y1 : Int32} {y2 : Int32} {σ : wx_St}  (h : f_X6_findSuspects_70 K2 x1 y1 y2 σ = some ((), σ')) {H : Heap} {locs : List Loc} (Z : wx_Z D ad rd ca A σ H) (hS : va_S A s.heap H locs) {ls : Array Slot} (hl : lv_has ls 2 [(0, .ref (ad 16 99)), (1, .int x1)]) : W p l e ({ frames := 6, cells := 0, slots := 0, locals := 135 } : Room) s m args below meth c H locs 0 0 (MQ below (wx_Q D ad rd ca A none σ') args s 0 0 A) (F0 m 70 ls [.int y2, .int y1, .ref (ad 16 14)]) := by
  obtain ⟨hx, hb, hml, hr, hts, hown, hlk, hC, hA⟩ := id B
  unfold f_X6_findSuspects_70 at h
  obtain ⟨σ70, e70, i70, h⟩ := wx_w_ok h
  refine wx_iast hx hb hC.1 Z hS (o := 16) (k := 14) (n := 64) rfl rfl i70 dX6_findSuspects_70 e70 (fun H locs Z hS => ?_)
  refine lv_aload_n hx hb dX6_findSuspects_71 rfl (lv_at hl 0 rfl) ?_
  refine wx_get (own := RX6) hx hb hts i_X6_findSuspects_6 hown hC.1 Z (o := 16) (ci := 6) rfl (rfl : vwCl[6]? = some (RX6, TX6, 25)) 15 (by decide) (hts _ k_X6_findSuspects_w2) (fun _ h9 => h9) (f := 0) rfl rfl dX6_findSuspects_72 ?_
  refine lv_iload_n hx hb dX6_findSuspects_75 rfl (lv_at hl 1 rfl) ?_
  refine lv_iconst (v := 0) hx hb dX6_findSuspects_76 (by decide) ?_
  obtain ⟨σ77, e77, i77, h⟩ := wx_w_ok h
  refine wx_iast hx hb hC.1 Z hS (o := 16) (k := 15) (n := 64) rfl rfl i77 dX6_findSuspects_77 e77 (fun H locs Z hS => ?_)
  refine lv_iinc (v := x1 + 1) (lv' := [(1, .int (x1 + 1)), (0, .ref (ad 16 99))]) hx hb dX6_findSuspects_78 hl (k := 1) rfl rfl (by decide) rfl (fun ls hl => ?_)
  refine lv_goto (tgt := 2) hx hb dX6_findSuspects_81 (by decide) ?_
  exact hK2 h Z hS (lv_sub hl [1, 0] rfl)
set_option maxRecDepth 20000 in
set_option maxHeartbeats 4000000 in
theorem b_X6_findSuspects_69 (B : wx_B p s m args meth c cX6_findSuspects 2 none wsX6_findSuspects RX6 D ad ca A)     {σ' : wx_St} {K2 : Int32 → wx_St → Option (Unit × wx_St)} (hK2 : ∀ {x1 : Int32} {σ : wx_St}  (h : K2 x1 σ = some ((), σ')) {H : Heap} {locs : List Loc} (Z : wx_Z D ad rd ca A σ H) (hS : va_S A s.heap H locs) {ls : Array Slot} (hl : lv_has ls 2 [(0, .ref (ad 16 99)), (1, .int x1)]), W p l e ({ frames := 6, cells := 0, slots := 0, locals := 135 } : Room) s m args below meth c H locs 0 0 (MQ below (wx_Q D ad rd ca A none σ') args s 0 0 A) (F0 m 2 ls [])) {x1 : Int32} {y1 : Int32} {σ : wx_St}  (h : f_X6_findSuspects_69 K2 x1 y1 σ = some ((), σ')) {H : Heap} {locs : List Loc} (Z : wx_Z D ad rd ca A σ H) (hS : va_S A s.heap H locs) {ls : Array Slot} (hl : lv_has ls 2 [(0, .ref (ad 16 99)), (1, .int x1)]) : W p l e ({ frames := 6, cells := 0, slots := 0, locals := 135 } : Room) s m args below meth c H locs 0 0 (MQ below (wx_Q D ad rd ca A none σ') args s 0 0 A) (F0 m 69 ls [.int y1, .ref (ad 16 14)]) := by
  obtain ⟨hx, hb, hml, hr, hts, hown, hlk, hC, hA⟩ := id B
  unfold f_X6_findSuspects_69 at h
  refine lv_iconst (v := 0) hx hb dX6_findSuspects_69 (by decide) ?_
  exact b_X6_findSuspects_70 B (K2 := K2) @hK2 h Z hS (lv_sub hl [0, 1] rfl)
set_option maxRecDepth 20000 in
set_option maxHeartbeats 4000000 in
theorem b_X6_findSuspects_42 (B : wx_B p s m args meth c cX6_findSuspects 2 none wsX6_findSuspects RX6 D ad ca A)     {σ' : wx_St} {K2 : Int32 → wx_St → Option (Unit × wx_St)} (hK2 : ∀ {x1 : Int32} {σ : wx_St}  (h : K2 x1 σ = some ((), σ')) {H : Heap} {locs : List Loc} (Z : wx_Z D ad rd ca A σ H) (hS : va_S A s.heap H locs) {ls : Array Slot} (hl : lv_has ls 2 [(0, .ref (ad 16 99)), (1, .int x1)]), W p l e ({ frames := 6, cells := 0, slots := 0, locals := 135 } : Room) s m args below meth c H locs 0 0 (MQ below (wx_Q D ad rd ca A none σ') args s 0 0 A) (F0 m 2 ls [])) {x1 : Int32} {σ : wx_St}  (h : f_X6_findSuspects_42 K2 x1 σ = some ((), σ')) {H : Heap} {locs : List Loc} (Z : wx_Z D ad rd ca A σ H) (hS : va_S A s.heap H locs) {ls : Array Slot} (hl : lv_has ls 2 [(0, .ref (ad 16 99)), (1, .int x1)]) : W p l e ({ frames := 6, cells := 0, slots := 0, locals := 135 } : Room) s m args below meth c H locs 0 0 (MQ below (wx_Q D ad rd ca A none σ') args s 0 0 A) (F0 m 42 ls []) := by
  obtain ⟨hx, hb, hml, hr, hts, hown, hlk, hC, hA⟩ := id B
  unfold f_X6_findSuspects_42 at h
  refine lv_aload_n hx hb dX6_findSuspects_42 rfl (lv_at hl 0 rfl) ?_
  refine wx_get (own := RX6) hx hb hts i_X6_findSuspects_6 hown hC.1 Z (o := 16) (ci := 6) rfl (rfl : vwCl[6]? = some (RX6, TX6, 25)) 14 (by decide) (hts _ k_X6_findSuspects_w1) (fun _ h9 => h9) (f := 0) rfl rfl dX6_findSuspects_43 ?_
  refine lv_iload_n hx hb dX6_findSuspects_46 rfl (lv_at hl 1 rfl) ?_
  refine lv_aload_n hx hb dX6_findSuspects_47 rfl (lv_at hl 0 rfl) ?_
  refine wx_get (own := RX6) hx hb hts i_X6_findSuspects_6 hown hC.1 Z (o := 16) (ci := 6) rfl (rfl : vwCl[6]? = some (RX6, TX6, 25)) 13 (by decide) (hts _ k_X6_findSuspects_w0) (fun _ h9 => h9) (f := 0) rfl rfl dX6_findSuspects_48 ?_
  refine lv_iload_n hx hb dX6_findSuspects_51 rfl (lv_at hl 1 rfl) ?_
  obtain ⟨v52, ev52, iv52, h⟩ := wx_rI_ok h
  refine wx_iald hx hb hC.1 Z (o := 16) (k := 13) (n := 64) rfl rfl iv52 dX6_findSuspects_52 ev52 ?_
  refine lv_iconst (v := 1) hx hb dX6_findSuspects_53 (by decide) ?_
  refine lv_icmp_ne (tgt := 69) hx hb dX6_findSuspects_54 (by decide) (fun c54 => ?_) (fun c54 => ?_)
  · replace h := wx_iff c54 h
    exact b_X6_findSuspects_69 B (K2 := K2) @hK2 h Z hS (lv_sub hl [0, 1] rfl)
  · replace h := wx_ift c54 h
    refine lv_aload_n hx hb dX6_findSuspects_57 rfl (lv_at hl 0 rfl) ?_
    refine lv_iload_n hx hb dX6_findSuspects_58 rfl (lv_at hl 1 rfl) ?_
    obtain ⟨v59, hc59, h⟩ := wx_o_ok h
    refine wx_call (va_runV (As := [.int x1]) (rest := [.int x1, .ref (ad 16 14)]) ⟨hx, hb, hml, hown, hts⟩ (c_X6_fitsAlone l (D := D) (ad := ad) (rd := rd) (ca := ca) (A := A) (σ := σ) hc59) (cwV 1 hts gX6_findSuspects_X6_fitsAlone rfl rfl rfl (by decide +kernel) ⟨Nat.le_of_ble_eq_true rfl, Nat.le_of_ble_eq_true rfl⟩) (wx_preV hC Z hS hA rfl (rfl : vwCl[6]? = some (RX6, TX6, 25))) rfl rfl hl.1 rfl (lv_room (Nat.le_of_ble_eq_true rfl)) dX6_findSuspects_59 ⟨Nat.zero_le _, Nat.zero_le _⟩) hS (fun H locs Z hS => ?_)
    refine lv_if_eq (tgt := 69) hx hb dX6_findSuspects_62 (by decide) (fun c62 => ?_) (fun c62 => ?_)
    · replace h := wx_ift c62 h
      exact b_X6_findSuspects_69 B (K2 := K2) @hK2 h Z hS (lv_sub hl [0, 1] rfl)
    · replace h := wx_iff c62 h
      refine lv_iconst (v := 1) hx hb dX6_findSuspects_65 (by decide) ?_
      refine lv_goto (tgt := 70) hx hb dX6_findSuspects_66 (by decide) ?_
      exact b_X6_findSuspects_70 B (K2 := K2) @hK2 h Z hS (lv_sub hl [0, 1] rfl)
set_option maxRecDepth 20000 in
set_option maxHeartbeats 4000000 in
theorem b_X6_findSuspects_26 (B : wx_B p s m args meth c cX6_findSuspects 2 none wsX6_findSuspects RX6 D ad ca A)     {σ' : wx_St} {K2 : Int32 → wx_St → Option (Unit × wx_St)} (hK2 : ∀ {x1 : Int32} {σ : wx_St}  (h : K2 x1 σ = some ((), σ')) {H : Heap} {locs : List Loc} (Z : wx_Z D ad rd ca A σ H) (hS : va_S A s.heap H locs) {ls : Array Slot} (hl : lv_has ls 2 [(0, .ref (ad 16 99)), (1, .int x1)]), W p l e ({ frames := 6, cells := 0, slots := 0, locals := 135 } : Room) s m args below meth c H locs 0 0 (MQ below (wx_Q D ad rd ca A none σ') args s 0 0 A) (F0 m 2 ls [])) {x1 : Int32} {y1 : Int32} {y2 : Int32} {σ : wx_St}  (h : f_X6_findSuspects_26 K2 x1 y1 y2 σ = some ((), σ')) {H : Heap} {locs : List Loc} (Z : wx_Z D ad rd ca A σ H) (hS : va_S A s.heap H locs) {ls : Array Slot} (hl : lv_has ls 2 [(0, .ref (ad 16 99)), (1, .int x1)]) : W p l e ({ frames := 6, cells := 0, slots := 0, locals := 135 } : Room) s m args below meth c H locs 0 0 (MQ below (wx_Q D ad rd ca A none σ') args s 0 0 A) (F0 m 26 ls [.int y2, .int y1, .ref (ad 16 13)]) := by
  obtain ⟨hx, hb, hml, hr, hts, hown, hlk, hC, hA⟩ := id B
  unfold f_X6_findSuspects_26 at h
  obtain ⟨σ26, e26, i26, h⟩ := wx_w_ok h
  refine wx_iast hx hb hC.1 Z hS (o := 16) (k := 13) (n := 64) rfl rfl i26 dX6_findSuspects_26 e26 (fun H locs Z hS => ?_)
  refine lv_aload_n hx hb dX6_findSuspects_27 rfl (lv_at hl 0 rfl) ?_
  refine wx_get (own := RX6) hx hb hts i_X6_findSuspects_6 hown hC.1 Z (o := 16) (ci := 6) rfl (rfl : vwCl[6]? = some (RX6, TX6, 25)) 13 (by decide) (hts _ k_X6_findSuspects_w0) (fun _ h9 => h9) (f := 0) rfl rfl dX6_findSuspects_28 ?_
  refine lv_iload_n hx hb dX6_findSuspects_31 rfl (lv_at hl 1 rfl) ?_
  obtain ⟨v32, ev32, iv32, h⟩ := wx_rI_ok h
  refine wx_iald hx hb hC.1 Z (o := 16) (k := 13) (n := 64) rfl rfl iv32 dX6_findSuspects_32 ev32 ?_
  refine lv_iconst (v := 1) hx hb dX6_findSuspects_33 (by decide) ?_
  refine lv_icmp_ne (tgt := 42) hx hb dX6_findSuspects_34 (by decide) (fun c34 => ?_) (fun c34 => ?_)
  · replace h := wx_iff c34 h
    exact b_X6_findSuspects_42 B (K2 := K2) @hK2 h Z hS (lv_sub hl [0, 1] rfl)
  · replace h := wx_ift c34 h
    refine lv_aload_n hx hb dX6_findSuspects_37 rfl (lv_at hl 0 rfl) ?_
    refine lv_iload_n hx hb dX6_findSuspects_38 rfl (lv_at hl 1 rfl) ?_
    obtain ⟨v39, σ39, hc39, h⟩ := wx_b_ok h
    refine wx_call (va_runV (As := [.int x1]) (rest := []) ⟨hx, hb, hml, hown, hts⟩ (c_X6_findMade l (D := D) (ad := ad) (rd := rd) (ca := ca) (A := A) (σ := σ26) hc39) (cwV 1 hts gX6_findSuspects_X6_findMade rfl rfl rfl (by decide +kernel) ⟨Nat.le_of_ble_eq_true rfl, Nat.le_of_ble_eq_true rfl⟩) (wx_preV hC Z hS hA rfl (rfl : vwCl[6]? = some (RX6, TX6, 25))) rfl rfl hl.1 rfl (lv_room (Nat.le_of_ble_eq_true rfl)) dX6_findSuspects_39 ⟨Nat.zero_le _, Nat.zero_le _⟩) hS (fun H locs Z hS => ?_)
    exact b_X6_findSuspects_42 B (K2 := K2) @hK2 h Z hS (lv_sub hl [0, 1] rfl)
set_option maxRecDepth 20000 in
set_option maxHeartbeats 4000000 in
theorem b_X6_findSuspects_2 (B : wx_B p s m args meth c cX6_findSuspects 2 none wsX6_findSuspects RX6 D ad ca A)     {σ' : wx_St}   :
    ∀ {n : Nat} {x1 : Int32} {σ : wx_St}  (h : f_X6_findSuspects_2 n x1 σ = some ((), σ')) {H : Heap} {locs : List Loc} (Z : wx_Z D ad rd ca A σ H) (hS : va_S A s.heap H locs) {ls : Array Slot} (hl : lv_has ls 2 [(0, .ref (ad 16 99)), (1, .int x1)]), W p l e ({ frames := 6, cells := 0, slots := 0, locals := 135 } : Room) s m args below meth c H locs 0 0 (MQ below (wx_Q D ad rd ca A none σ') args s 0 0 A) (F0 m 2 ls []) := by
  obtain ⟨hx, hb, hml, hr, hts, hown, hlk, hC, hA⟩ := id B
  intro n
  induction n with
  | zero => intro x1 σ  h H locs Z hS ls hl; exact wx_no h
  | succ n ih =>
    intro x1 σ  h H locs Z hS ls hl
    rw [f_X6_findSuspects_2] at h
    refine lv_iload_n hx hb dX6_findSuspects_2 rfl (lv_at hl 1 rfl) ?_
    refine lv_bipush (v := 64) hx hb dX6_findSuspects_3 (by decide) ?_
    refine lv_icmp_ge (tgt := 84) hx hb dX6_findSuspects_5 (by decide) (fun c5 => ?_) (fun c5 => ?_)
    · replace h := wx_ift c5 h
      obtain ⟨-, rfl⟩ := wx_ret_ok h
      exact W.vret hx hb hr (fun t ht hW => ⟨rfl, by rw [ht]; exact Z, hS.F ht⟩) hS.2.2 dX6_findSuspects_84
    · replace h := wx_iff c5 h
      refine lv_aload_n hx hb dX6_findSuspects_8 rfl (lv_at hl 0 rfl) ?_
      refine wx_get (own := RX6) hx hb hts i_X6_findSuspects_6 hown hC.1 Z (o := 16) (ci := 6) rfl (rfl : vwCl[6]? = some (RX6, TX6, 25)) 13 (by decide) (hts _ k_X6_findSuspects_w0) (fun _ h9 => h9) (f := 0) rfl rfl dX6_findSuspects_9 ?_
      refine lv_iload_n hx hb dX6_findSuspects_12 rfl (lv_at hl 1 rfl) ?_
      refine lv_aload_n hx hb dX6_findSuspects_13 rfl (lv_at hl 0 rfl) ?_
      refine lv_iload_n hx hb dX6_findSuspects_14 rfl (lv_at hl 1 rfl) ?_
      obtain ⟨v15, hc15, h⟩ := wx_o_ok h
      refine wx_call (va_runV (As := [.int x1]) (rest := [.int x1, .ref (ad 16 13)]) ⟨hx, hb, hml, hown, hts⟩ (c_X6_isSuspect l (D := D) (ad := ad) (rd := rd) (ca := ca) (A := A) (σ := σ) hc15) (cwV 1 hts gX6_findSuspects_X6_isSuspect rfl rfl rfl (by decide +kernel) ⟨Nat.le_of_ble_eq_true rfl, Nat.le_of_ble_eq_true rfl⟩) (wx_preV hC Z hS hA rfl (rfl : vwCl[6]? = some (RX6, TX6, 25))) rfl rfl hl.1 rfl (lv_room (Nat.le_of_ble_eq_true rfl)) dX6_findSuspects_15 ⟨Nat.zero_le _, Nat.zero_le _⟩) hS (fun H locs Z hS => ?_)
      refine lv_if_eq (tgt := 25) hx hb dX6_findSuspects_18 (by decide) (fun c18 => ?_) (fun c18 => ?_)
      · replace h := wx_ift c18 h
        refine lv_iconst (v := 0) hx hb dX6_findSuspects_25 (by decide) ?_
        exact b_X6_findSuspects_26 B (K2 := (f_X6_findSuspects_2 n)) @ih h Z hS (lv_sub hl [0, 1] rfl)
      · replace h := wx_iff c18 h
        refine lv_iconst (v := 1) hx hb dX6_findSuspects_21 (by decide) ?_
        refine lv_goto (tgt := 26) hx hb dX6_findSuspects_22 (by decide) ?_
        exact b_X6_findSuspects_26 B (K2 := (f_X6_findSuspects_2 n)) @ih h Z hS (lv_sub hl [0, 1] rfl)
set_option maxRecDepth 20000 in
set_option maxHeartbeats 4000000 in
theorem b_X6_findSuspects_0 (B : wx_B p s m args meth c cX6_findSuspects 2 none wsX6_findSuspects RX6 D ad ca A)     {σ' : wx_St}   {σ : wx_St}  (h : f_X6_findSuspects σ = some ((), σ')) {H : Heap} {locs : List Loc} (Z : wx_Z D ad rd ca A σ H) (hS : va_S A s.heap H locs) {ls : Array Slot} (hl : lv_has ls 2 [(0, .ref (ad 16 99))]) : W p l e ({ frames := 6, cells := 0, slots := 0, locals := 135 } : Room) s m args below meth c H locs 0 0 (MQ below (wx_Q D ad rd ca A none σ') args s 0 0 A) (F0 m 0 ls []) := by
  obtain ⟨hx, hb, hml, hr, hts, hown, hlk, hC, hA⟩ := id B
  unfold f_X6_findSuspects at h
  refine lv_iconst (v := 0) hx hb dX6_findSuspects_0 (by decide) ?_
  refine lv_istore_n (lv' := [(1, .int 0), (0, .ref (ad 16 99))]) hx hb dX6_findSuspects_1 rfl hl (by decide) rfl (fun ls hl => ?_)
  exact b_X6_findSuspects_2 B h Z hS (lv_sub hl [1, 0] rfl)
set_option maxRecDepth 20000 in
theorem c_X6_findSuspects (l : Launch) {D : va_G} {ad : Nat → Nat → Nat} {rd : Nat → Nat} {ca : Nat → ClassId} {A : Nat → Prop} {σ : wx_St}      {σ' : wx_St} (h : f_X6_findSuspects σ = some ((), σ')) : wx_M l yX6_findSuspects wsX6_findSuspects 6 135 D ad rd ca A [.ref (ad 16 99)] σ none σ' := by
  refine Met.ofW (cc := cX6_findSuspects) (maxL := 2) (ret := none) (by decide +kernel) rfl ?_
  intro p e s m args below meth c s₁ B0 hml hv
  obtain ⟨rfl, hC, Z, hA⟩ := hv
  have hl := lv_entry ([.ref (ad 16 99)]) (n := 2) (Nat.le_of_ble_eq_true rfl)
  rw [lg_entry_eq]
  generalize (lg_sl ([.ref (ad 16 99)]) ++ List.replicate (2 - (lg_sl ([.ref (ad 16 99)])).length) Slot.unset).toArray = ls at hl ⊢
  exact b_X6_findSuspects_0 ⟨B0.exec, B0.bytes, hml, B0.returns, atoms_spec (ws := wsX6_findSuspects) B0.pre, findClass_of_methodNamed B0.named, B0.notSynchronized, hC, hA⟩   h Z va_S.rf hl
theorem i_X6_fitsBoth_6 : ∀ w ∈ wsX60, w ∈ wsX6_fitsBoth := by decide +kernel
theorem k_X6_fitsBoth_w0 : Cond.fieldLink RX6 7 "WarmProbesModel" "state" "[I" ∈ wsX6_fitsBoth := by decide +kernel
theorem k_X6_fitsBoth_w1 : Cond.fieldLink RX6 41 "WarmProbesModel" "made" "[F" ∈ wsX6_fitsBoth := by decide +kernel
set_option maxRecDepth 20000 in
set_option maxHeartbeats 4000000 in
theorem b_X6_fitsBoth_60 (B : wx_B p s m args meth c cX6_fitsBoth 5 (some .boolean) wsX6_fitsBoth RX6 D ad ca A)    {r : Int32} {σ : wx_St} {K5 : Int32 → Int32 → Int32 → Int32 → wx_St → Option Int32} (hK5 : ∀ {x1 : Int32} {x2 : Int32} {x3 : Int32} {x4 : Int32}   (h : K5 x1 x2 x3 x4 σ = some r) {H : Heap} {locs : List Loc} (Z : wx_Z D ad rd ca A σ H) (hS : va_S A s.heap H locs) {ls : Array Slot} (hl : lv_has ls 5 [(0, .ref (ad 16 99)), (1, .int x1), (2, .int x2), (3, .int x3), (4, .int x4)]), W p l e ({ frames := 2, cells := 0, slots := 0, locals := 45 } : Room) s m args below meth c H locs 0 0 (MQ below (wx_Q D ad rd ca A (some (.int r)) σ) args s 0 0 A) (F0 m 5 ls [])) {x1 : Int32} {x2 : Int32} {x3 : Int32} {x4 : Int32} {y0 : Int32}   (h : f_X6_fitsBoth_60 K5 x1 x2 x3 x4 y0 σ = some r) {H : Heap} {locs : List Loc} (Z : wx_Z D ad rd ca A σ H) (hS : va_S A s.heap H locs) {ls : Array Slot} (hl : lv_has ls 5 [(0, .ref (ad 16 99)), (1, .int x1), (2, .int x2), (3, .int x3), (4, .int x4)]) : W p l e ({ frames := 2, cells := 0, slots := 0, locals := 45 } : Room) s m args below meth c H locs 0 0 (MQ below (wx_Q D ad rd ca A (some (.int r)) σ) args s 0 0 A) (F0 m 60 ls [.int y0]) := by
  obtain ⟨hx, hb, hml, hr, hts, hown, hlk, hC, hA⟩ := id B
  unfold f_X6_fitsBoth_60 at h
  refine lv_istore_n (lv' := [(3, .int y0), (0, .ref (ad 16 99)), (1, .int x1), (2, .int x2), (4, .int x4)]) hx hb dX6_fitsBoth_60 rfl hl (by decide) rfl (fun ls hl => ?_)
  refine lv_iinc (v := x4 + 1) (lv' := [(4, .int (x4 + 1)), (3, .int y0), (0, .ref (ad 16 99)), (1, .int x1), (2, .int x2)]) hx hb dX6_fitsBoth_61 hl (k := 4) rfl rfl (by decide) rfl (fun ls hl => ?_)
  refine lv_goto (tgt := 5) hx hb dX6_fitsBoth_64 (by decide) ?_
  exact hK5 h Z hS (lv_sub hl [2, 3, 4, 1, 0] rfl)
set_option maxRecDepth 20000 in
set_option maxHeartbeats 4000000 in
theorem b_X6_fitsBoth_59 (B : wx_B p s m args meth c cX6_fitsBoth 5 (some .boolean) wsX6_fitsBoth RX6 D ad ca A)    {r : Int32} {σ : wx_St} {K5 : Int32 → Int32 → Int32 → Int32 → wx_St → Option Int32} (hK5 : ∀ {x1 : Int32} {x2 : Int32} {x3 : Int32} {x4 : Int32}   (h : K5 x1 x2 x3 x4 σ = some r) {H : Heap} {locs : List Loc} (Z : wx_Z D ad rd ca A σ H) (hS : va_S A s.heap H locs) {ls : Array Slot} (hl : lv_has ls 5 [(0, .ref (ad 16 99)), (1, .int x1), (2, .int x2), (3, .int x3), (4, .int x4)]), W p l e ({ frames := 2, cells := 0, slots := 0, locals := 45 } : Room) s m args below meth c H locs 0 0 (MQ below (wx_Q D ad rd ca A (some (.int r)) σ) args s 0 0 A) (F0 m 5 ls [])) {x1 : Int32} {x2 : Int32} {x3 : Int32} {x4 : Int32}   (h : f_X6_fitsBoth_59 K5 x1 x2 x3 x4 σ = some r) {H : Heap} {locs : List Loc} (Z : wx_Z D ad rd ca A σ H) (hS : va_S A s.heap H locs) {ls : Array Slot} (hl : lv_has ls 5 [(0, .ref (ad 16 99)), (1, .int x1), (2, .int x2), (3, .int x3), (4, .int x4)]) : W p l e ({ frames := 2, cells := 0, slots := 0, locals := 45 } : Room) s m args below meth c H locs 0 0 (MQ below (wx_Q D ad rd ca A (some (.int r)) σ) args s 0 0 A) (F0 m 59 ls []) := by
  obtain ⟨hx, hb, hml, hr, hts, hown, hlk, hC, hA⟩ := id B
  unfold f_X6_fitsBoth_59 at h
  refine lv_iconst (v := 0) hx hb dX6_fitsBoth_59 (by decide) ?_
  exact b_X6_fitsBoth_60 B (K5 := K5) @hK5 h Z hS (lv_sub hl [0, 1, 2, 3, 4] rfl)
set_option maxRecDepth 20000 in
set_option maxHeartbeats 4000000 in
theorem b_X6_fitsBoth_5 (B : wx_B p s m args meth c cX6_fitsBoth 5 (some .boolean) wsX6_fitsBoth RX6 D ad ca A)    {r : Int32} {σ : wx_St}   :
    ∀ {n : Nat} {x1 : Int32} {x2 : Int32} {x3 : Int32} {x4 : Int32}   (h : f_X6_fitsBoth_5 n x1 x2 x3 x4 σ = some r) {H : Heap} {locs : List Loc} (Z : wx_Z D ad rd ca A σ H) (hS : va_S A s.heap H locs) {ls : Array Slot} (hl : lv_has ls 5 [(0, .ref (ad 16 99)), (1, .int x1), (2, .int x2), (3, .int x3), (4, .int x4)]), W p l e ({ frames := 2, cells := 0, slots := 0, locals := 45 } : Room) s m args below meth c H locs 0 0 (MQ below (wx_Q D ad rd ca A (some (.int r)) σ) args s 0 0 A) (F0 m 5 ls []) := by
  obtain ⟨hx, hb, hml, hr, hts, hown, hlk, hC, hA⟩ := id B
  intro n
  induction n with
  | zero => intro x1 x2 x3 x4   h H locs Z hS ls hl; exact wx_no h
  | succ n ih =>
    intro x1 x2 x3 x4   h H locs Z hS ls hl
    rw [f_X6_fitsBoth_5] at h
    refine lv_iload hx hb dX6_fitsBoth_5 (lv_at hl 4 rfl) ?_
    refine lv_aload_n hx hb dX6_fitsBoth_7 rfl (lv_at hl 0 rfl) ?_
    refine wx_get (own := RX6) hx hb hts i_X6_fitsBoth_6 hown hC.1 Z (o := 16) (ci := 6) rfl (rfl : vwCl[6]? = some (RX6, TX6, 25)) 0 (by decide) (hts _ k_X6_fitsBoth_w0) (fun _ h9 => h9) (f := 0) rfl rfl dX6_fitsBoth_8 ?_
    refine lv_bipush (v := 6) hx hb dX6_fitsBoth_11 (by decide) ?_
    obtain ⟨v13, ev13, iv13, h⟩ := wx_rI_ok h
    refine wx_iald hx hb hC.1 Z (o := 16) (k := 0) (n := 109) rfl rfl iv13 dX6_fitsBoth_13 ev13 ?_
    refine lv_icmp_ge (tgt := 67) hx hb dX6_fitsBoth_14 (by decide) (fun c14 => ?_) (fun c14 => ?_)
    · replace h := wx_ift c14 h
      refine lv_iload_n hx hb dX6_fitsBoth_67 rfl (lv_at hl 3 rfl) ?_
      obtain ⟨hz, h⟩ := wx_z_ok h
      obtain rfl := Option.some.inj h
      exact W.zret hx hb hr (wx_nb hz) (fun t ht hW => ⟨rfl, by rw [ht]; exact Z, hS.F ht⟩) hS.2.2 dX6_fitsBoth_68
    · replace h := wx_iff c14 h
      refine lv_iload_n hx hb dX6_fitsBoth_17 rfl (lv_at hl 3 rfl) ?_
      refine lv_if_eq (tgt := 59) hx hb dX6_fitsBoth_18 (by decide) (fun c18 => ?_) (fun c18 => ?_)
      · replace h := wx_ift c18 h
        exact b_X6_fitsBoth_59 B (K5 := (f_X6_fitsBoth_5 n)) @ih h Z hS (lv_sub hl [0, 1, 2, 3, 4] rfl)
      · replace h := wx_iff c18 h
        refine lv_aload_n hx hb dX6_fitsBoth_21 rfl (lv_at hl 0 rfl) ?_
        refine lv_aload_n hx hb dX6_fitsBoth_22 rfl (lv_at hl 0 rfl) ?_
        refine wx_get (own := RX6) hx hb hts i_X6_fitsBoth_6 hown hC.1 Z (o := 16) (ci := 6) rfl (rfl : vwCl[6]? = some (RX6, TX6, 25)) 12 (by decide) (hts _ k_X6_fitsBoth_w1) (fun _ h9 => h9) (f := 0) rfl rfl dX6_fitsBoth_23 ?_
        refine lv_bipush (v := 8) hx hb dX6_fitsBoth_26 (by decide) ?_
        refine lv_iload_n hx hb dX6_fitsBoth_28 rfl (lv_at hl 1 rfl) ?_
        refine lv_imul hx hb dX6_fitsBoth_29 ?_
        refine lv_iload hx hb dX6_fitsBoth_30 (lv_at hl 4 rfl) ?_
        refine lv_iadd hx hb dX6_fitsBoth_32 ?_
        obtain ⟨v33, ev33, iv33, h⟩ := wx_rF_ok h
        refine wx_fald hx hb hC.1 Z (o := 16) (k := 12) (n := 512) rfl rfl iv33 dX6_fitsBoth_33 ev33 ?_
        refine lv_aload_n hx hb dX6_fitsBoth_34 rfl (lv_at hl 0 rfl) ?_
        refine wx_get (own := RX6) hx hb hts i_X6_fitsBoth_6 hown hC.1 Z (o := 16) (ci := 6) rfl (rfl : vwCl[6]? = some (RX6, TX6, 25)) 12 (by decide) (hts _ k_X6_fitsBoth_w1) (fun _ h9 => h9) (f := 0) rfl rfl dX6_fitsBoth_35 ?_
        refine lv_bipush (v := 8) hx hb dX6_fitsBoth_38 (by decide) ?_
        refine lv_iload_n hx hb dX6_fitsBoth_40 rfl (lv_at hl 2 rfl) ?_
        refine lv_imul hx hb dX6_fitsBoth_41 ?_
        refine lv_iload hx hb dX6_fitsBoth_42 (lv_at hl 4 rfl) ?_
        refine lv_iadd hx hb dX6_fitsBoth_44 ?_
        obtain ⟨v45, ev45, iv45, h⟩ := wx_rF_ok h
        refine wx_fald hx hb hC.1 Z (o := 16) (k := 12) (n := 512) rfl rfl iv45 dX6_fitsBoth_45 ev45 ?_
        obtain ⟨v46, ev46, nv46, h⟩ := wx_f_ok h
        refine wx_fadd hx hb dX6_fitsBoth_46 ev46 nv46 ?_
        refine lv_iload hx hb dX6_fitsBoth_47 (lv_at hl 4 rfl) ?_
        obtain ⟨v49, hc49, h⟩ := wx_o_ok h
        refine wx_call (va_runV (As := [.float v46, .int x4]) (rest := []) ⟨hx, hb, hml, hown, hts⟩ (c_X6_fits l (D := D) (ad := ad) (rd := rd) (ca := ca) (A := A) (σ := σ) hc49) (cwV 2 hts gX6_fitsBoth_X6_fits rfl rfl rfl (by decide +kernel) ⟨Nat.le_of_ble_eq_true rfl, Nat.le_of_ble_eq_true rfl⟩) (wx_preV hC Z hS hA rfl (rfl : vwCl[6]? = some (RX6, TX6, 25))) rfl rfl hl.1 rfl (lv_room (Nat.le_of_ble_eq_true rfl)) dX6_fitsBoth_49 ⟨Nat.zero_le _, Nat.zero_le _⟩) hS (fun H locs Z hS => ?_)
        refine lv_if_eq (tgt := 59) hx hb dX6_fitsBoth_52 (by decide) (fun c52 => ?_) (fun c52 => ?_)
        · replace h := wx_ift c52 h
          exact b_X6_fitsBoth_59 B (K5 := (f_X6_fitsBoth_5 n)) @ih h Z hS (lv_sub hl [0, 1, 2, 3, 4] rfl)
        · replace h := wx_iff c52 h
          refine lv_iconst (v := 1) hx hb dX6_fitsBoth_55 (by decide) ?_
          refine lv_goto (tgt := 60) hx hb dX6_fitsBoth_56 (by decide) ?_
          exact b_X6_fitsBoth_60 B (K5 := (f_X6_fitsBoth_5 n)) @ih h Z hS (lv_sub hl [0, 1, 2, 3, 4] rfl)
set_option maxRecDepth 20000 in
set_option maxHeartbeats 4000000 in
theorem b_X6_fitsBoth_0 (B : wx_B p s m args meth c cX6_fitsBoth 5 (some .boolean) wsX6_fitsBoth RX6 D ad ca A)    {r : Int32} {σ : wx_St}  {x1 : Int32} {x2 : Int32}   (h : f_X6_fitsBoth x1 x2 σ = some r) {H : Heap} {locs : List Loc} (Z : wx_Z D ad rd ca A σ H) (hS : va_S A s.heap H locs) {ls : Array Slot} (hl : lv_has ls 5 [(0, .ref (ad 16 99)), (1, .int x1), (2, .int x2)]) : W p l e ({ frames := 2, cells := 0, slots := 0, locals := 45 } : Room) s m args below meth c H locs 0 0 (MQ below (wx_Q D ad rd ca A (some (.int r)) σ) args s 0 0 A) (F0 m 0 ls []) := by
  obtain ⟨hx, hb, hml, hr, hts, hown, hlk, hC, hA⟩ := id B
  unfold f_X6_fitsBoth at h
  refine lv_iconst (v := 1) hx hb dX6_fitsBoth_0 (by decide) ?_
  refine lv_istore_n (lv' := [(3, .int 1), (0, .ref (ad 16 99)), (1, .int x1), (2, .int x2)]) hx hb dX6_fitsBoth_1 rfl hl (by decide) rfl (fun ls hl => ?_)
  refine lv_iconst (v := 0) hx hb dX6_fitsBoth_2 (by decide) ?_
  refine lv_istore (lv' := [(4, .int 0), (3, .int 1), (0, .ref (ad 16 99)), (1, .int x1), (2, .int x2)]) hx hb dX6_fitsBoth_3 hl (by decide) rfl (fun ls hl => ?_)
  exact b_X6_fitsBoth_5 B h Z hS (lv_sub hl [2, 3, 4, 1, 0] rfl)
set_option maxRecDepth 20000 in
theorem c_X6_fitsBoth (l : Launch) {D : va_G} {ad : Nat → Nat → Nat} {rd : Nat → Nat} {ca : Nat → ClassId} {A : Nat → Prop} {σ : wx_St}    {x1 : Int32} {x2 : Int32} {r : Int32} (h : f_X6_fitsBoth x1 x2 σ = some r) : wx_M l yX6_fitsBoth wsX6_fitsBoth 2 45 D ad rd ca A [.ref (ad 16 99), .int x1, .int x2] σ (some (.int r)) σ := by
  refine Met.ofW (cc := cX6_fitsBoth) (maxL := 5) (ret := (some .boolean)) (by decide +kernel) rfl ?_
  intro p e s m args below meth c s₁ B0 hml hv
  obtain ⟨rfl, hC, Z, hA⟩ := hv
  have hl := lv_entry ([.ref (ad 16 99), .int x1, .int x2]) (n := 5) (Nat.le_of_ble_eq_true rfl)
  rw [lg_entry_eq]
  generalize (lg_sl ([.ref (ad 16 99), .int x1, .int x2]) ++ List.replicate (5 - (lg_sl ([.ref (ad 16 99), .int x1, .int x2])).length) Slot.unset).toArray = ls at hl ⊢
  exact b_X6_fitsBoth_0 ⟨B0.exec, B0.bytes, hml, B0.returns, atoms_spec (ws := wsX6_fitsBoth) B0.pre, findClass_of_methodNamed B0.named, B0.notSynchronized, hC, hA⟩   h Z va_S.rf hl
theorem i_X6_findPairs_6 : ∀ w ∈ wsX60, w ∈ wsX6_findPairs := by decide +kernel
theorem k_X6_findPairs_w0 : Cond.fieldLink RX6 138 "WarmProbesModel" "pairs" "I" ∈ wsX6_findPairs := by decide +kernel
theorem k_X6_findPairs_w1 : Cond.fieldLink RX6 44 "WarmProbesModel" "suspects" "[I" ∈ wsX6_findPairs := by decide +kernel
theorem k_X6_findPairs_w2 : Cond.fieldLink RX6 50 "WarmProbesModel" "paired" "[I" ∈ wsX6_findPairs := by decide +kernel
set_option maxRecDepth 20000 in
set_option maxHeartbeats 4000000 in
theorem b_X6_findPairs_80 (B : wx_B p s m args meth c cX6_findPairs 3 none wsX6_findPairs RX6 D ad ca A)     {σ' : wx_St} {K11 : Int32 → wx_St → Option (Unit × wx_St)} (hK11 : ∀ {x1 : Int32} {σ : wx_St}  (h : K11 x1 σ = some ((), σ')) {H : Heap} {locs : List Loc} (Z : wx_Z D ad rd ca A σ H) (hS : va_S A s.heap H locs) {ls : Array Slot} (hl : lv_has ls 3 [(0, .ref (ad 16 99)), (1, .int x1)]), W p l e ({ frames := 7, cells := 0, slots := 0, locals := 156 } : Room) s m args below meth c H locs 0 0 (MQ below (wx_Q D ad rd ca A none σ') args s 0 0 A) (F0 m 11 ls [])) {K21 : Int32 → Int32 → wx_St → Option (Unit × wx_St)} (hK21 : ∀ {x1 : Int32} {x2 : Int32} {σ : wx_St}  (h : K21 x1 x2 σ = some ((), σ')) {H : Heap} {locs : List Loc} (Z : wx_Z D ad rd ca A σ H) (hS : va_S A s.heap H locs) {ls : Array Slot} (hl : lv_has ls 3 [(0, .ref (ad 16 99)), (1, .int x1), (2, .int x2)]), W p l e ({ frames := 7, cells := 0, slots := 0, locals := 156 } : Room) s m args below meth c H locs 0 0 (MQ below (wx_Q D ad rd ca A none σ') args s 0 0 A) (F0 m 21 ls [])) {x1 : Int32} {x2 : Int32} {σ : wx_St}  (h : f_X6_findPairs_80 K11 K21 x1 x2 σ = some ((), σ')) {H : Heap} {locs : List Loc} (Z : wx_Z D ad rd ca A σ H) (hS : va_S A s.heap H locs) {ls : Array Slot} (hl : lv_has ls 3 [(0, .ref (ad 16 99)), (1, .int x1), (2, .int x2)]) : W p l e ({ frames := 7, cells := 0, slots := 0, locals := 156 } : Room) s m args below meth c H locs 0 0 (MQ below (wx_Q D ad rd ca A none σ') args s 0 0 A) (F0 m 80 ls []) := by
  obtain ⟨hx, hb, hml, hr, hts, hown, hlk, hC, hA⟩ := id B
  unfold f_X6_findPairs_80 at h
  refine lv_iinc (v := x2 + 1) (lv' := [(2, .int (x2 + 1)), (0, .ref (ad 16 99)), (1, .int x1)]) hx hb dX6_findPairs_80 hl (k := 2) rfl rfl (by decide) rfl (fun ls hl => ?_)
  refine lv_goto (tgt := 21) hx hb dX6_findPairs_83 (by decide) ?_
  exact hK21 h Z hS (lv_sub hl [1, 2, 0] rfl)
set_option maxRecDepth 20000 in
set_option maxHeartbeats 4000000 in
theorem b_X6_findPairs_21 (B : wx_B p s m args meth c cX6_findPairs 3 none wsX6_findPairs RX6 D ad ca A)     {σ' : wx_St} {K11 : Int32 → wx_St → Option (Unit × wx_St)} (hK11 : ∀ {x1 : Int32} {σ : wx_St}  (h : K11 x1 σ = some ((), σ')) {H : Heap} {locs : List Loc} (Z : wx_Z D ad rd ca A σ H) (hS : va_S A s.heap H locs) {ls : Array Slot} (hl : lv_has ls 3 [(0, .ref (ad 16 99)), (1, .int x1)]), W p l e ({ frames := 7, cells := 0, slots := 0, locals := 156 } : Room) s m args below meth c H locs 0 0 (MQ below (wx_Q D ad rd ca A none σ') args s 0 0 A) (F0 m 11 ls []))  :
    ∀ {n : Nat} {x1 : Int32} {x2 : Int32} {σ : wx_St}  (h : f_X6_findPairs_21 K11 n x1 x2 σ = some ((), σ')) {H : Heap} {locs : List Loc} (Z : wx_Z D ad rd ca A σ H) (hS : va_S A s.heap H locs) {ls : Array Slot} (hl : lv_has ls 3 [(0, .ref (ad 16 99)), (1, .int x1), (2, .int x2)]), W p l e ({ frames := 7, cells := 0, slots := 0, locals := 156 } : Room) s m args below meth c H locs 0 0 (MQ below (wx_Q D ad rd ca A none σ') args s 0 0 A) (F0 m 21 ls []) := by
  obtain ⟨hx, hb, hml, hr, hts, hown, hlk, hC, hA⟩ := id B
  intro n
  induction n with
  | zero => intro x1 x2 σ  h H locs Z hS ls hl; exact wx_no h
  | succ n ih =>
    intro x1 x2 σ  h H locs Z hS ls hl
    rw [f_X6_findPairs_21] at h
    refine lv_iload_n hx hb dX6_findPairs_21 rfl (lv_at hl 2 rfl) ?_
    refine lv_bipush (v := 64) hx hb dX6_findPairs_22 (by decide) ?_
    refine lv_icmp_ge (tgt := 86) hx hb dX6_findPairs_24 (by decide) (fun c24 => ?_) (fun c24 => ?_)
    · replace h := wx_ift c24 h
      refine lv_iinc (v := x1 + 1) (lv' := [(1, .int (x1 + 1)), (0, .ref (ad 16 99)), (2, .int x2)]) hx hb dX6_findPairs_86 hl (k := 1) rfl rfl (by decide) rfl (fun ls hl => ?_)
      refine lv_goto (tgt := 11) hx hb dX6_findPairs_89 (by decide) ?_
      exact hK11 h Z hS (lv_sub hl [1, 0] rfl)
    · replace h := wx_iff c24 h
      refine lv_aload_n hx hb dX6_findPairs_27 rfl (lv_at hl 0 rfl) ?_
      refine wx_get (own := RX6) hx hb hts i_X6_findPairs_6 hown hC.1 Z (o := 16) (ci := 6) rfl (rfl : vwCl[6]? = some (RX6, TX6, 25)) 13 (by decide) (hts _ k_X6_findPairs_w1) (fun _ h9 => h9) (f := 0) rfl rfl dX6_findPairs_28 ?_
      refine lv_iload_n hx hb dX6_findPairs_31 rfl (lv_at hl 1 rfl) ?_
      obtain ⟨v32, ev32, iv32, h⟩ := wx_rI_ok h
      refine wx_iald hx hb hC.1 Z (o := 16) (k := 13) (n := 64) rfl rfl iv32 dX6_findPairs_32 ev32 ?_
      refine lv_iconst (v := 1) hx hb dX6_findPairs_33 (by decide) ?_
      refine lv_icmp_ne (tgt := 80) hx hb dX6_findPairs_34 (by decide) (fun c34 => ?_) (fun c34 => ?_)
      · replace h := wx_iff c34 h
        exact b_X6_findPairs_80 B (K11 := K11) @hK11 (K21 := (f_X6_findPairs_21 K11 n)) @ih h Z hS (lv_sub hl [0, 1, 2] rfl)
      · replace h := wx_ift c34 h
        refine lv_aload_n hx hb dX6_findPairs_37 rfl (lv_at hl 0 rfl) ?_
        refine wx_get (own := RX6) hx hb hts i_X6_findPairs_6 hown hC.1 Z (o := 16) (ci := 6) rfl (rfl : vwCl[6]? = some (RX6, TX6, 25)) 13 (by decide) (hts _ k_X6_findPairs_w1) (fun _ h9 => h9) (f := 0) rfl rfl dX6_findPairs_38 ?_
        refine lv_iload_n hx hb dX6_findPairs_41 rfl (lv_at hl 2 rfl) ?_
        obtain ⟨v42, ev42, iv42, h⟩ := wx_rI_ok h
        refine wx_iald hx hb hC.1 Z (o := 16) (k := 13) (n := 64) rfl rfl iv42 dX6_findPairs_42 ev42 ?_
        refine lv_iconst (v := 1) hx hb dX6_findPairs_43 (by decide) ?_
        refine lv_icmp_ne (tgt := 80) hx hb dX6_findPairs_44 (by decide) (fun c44 => ?_) (fun c44 => ?_)
        · replace h := wx_iff c44 h
          exact b_X6_findPairs_80 B (K11 := K11) @hK11 (K21 := (f_X6_findPairs_21 K11 n)) @ih h Z hS (lv_sub hl [0, 1, 2] rfl)
        · replace h := wx_ift c44 h
          refine lv_aload_n hx hb dX6_findPairs_47 rfl (lv_at hl 0 rfl) ?_
          refine lv_iload_n hx hb dX6_findPairs_48 rfl (lv_at hl 1 rfl) ?_
          refine lv_iload_n hx hb dX6_findPairs_49 rfl (lv_at hl 2 rfl) ?_
          obtain ⟨v50, hc50, h⟩ := wx_o_ok h
          refine wx_call (va_runV (As := [.int x1, .int x2]) (rest := []) ⟨hx, hb, hml, hown, hts⟩ (c_X6_fitsBoth l (D := D) (ad := ad) (rd := rd) (ca := ca) (A := A) (σ := σ) hc50) (cwV 2 hts gX6_findPairs_X6_fitsBoth rfl rfl rfl (by decide +kernel) ⟨Nat.le_of_ble_eq_true rfl, Nat.le_of_ble_eq_true rfl⟩) (wx_preV hC Z hS hA rfl (rfl : vwCl[6]? = some (RX6, TX6, 25))) rfl rfl hl.1 rfl (lv_room (Nat.le_of_ble_eq_true rfl)) dX6_findPairs_50 ⟨Nat.zero_le _, Nat.zero_le _⟩) hS (fun H locs Z hS => ?_)
          refine lv_if_eq (tgt := 80) hx hb dX6_findPairs_53 (by decide) (fun c53 => ?_) (fun c53 => ?_)
          · replace h := wx_ift c53 h
            exact b_X6_findPairs_80 B (K11 := K11) @hK11 (K21 := (f_X6_findPairs_21 K11 n)) @ih h Z hS (lv_sub hl [0, 1, 2] rfl)
          · replace h := wx_iff c53 h
            refine lv_aload_n hx hb dX6_findPairs_56 rfl (lv_at hl 0 rfl) ?_
            refine lv_dup hx hb dX6_findPairs_57 rfl ?_
            refine wx_get (own := RX6) hx hb hts i_X6_findPairs_6 hown hC.1 Z (o := 16) (ci := 6) rfl (rfl : vwCl[6]? = some (RX6, TX6, 25)) 16 (by decide) (hts _ k_X6_findPairs_w0) (fun _ h9 => h9) (f := 1) rfl rfl dX6_findPairs_58 ?_
            refine lv_iconst (v := 1) hx hb dX6_findPairs_61 (by decide) ?_
            refine lv_iadd hx hb dX6_findPairs_62 ?_
            obtain ⟨σ63, e63, h⟩ := wx_l_ok h
            refine wx_put (own := RX6) hx hb hts i_X6_findPairs_6 tyX6 tyX6_ok nmX6 hown hC.1 Z hS (o := 16) (ci := 6) rfl (rfl : vwCl[6]? = some (RX6, TX6, 25)) 16 (by decide) (hts _ k_X6_findPairs_w0) (fun _ h9 => h9) rfl (by decide +kernel) rfl dX6_findPairs_63 e63 (fun H locs Z hS => ?_)
            refine lv_aload_n hx hb dX6_findPairs_66 rfl (lv_at hl 0 rfl) ?_
            refine wx_get (own := RX6) hx hb hts i_X6_findPairs_6 hown hC.1 Z (o := 16) (ci := 6) rfl (rfl : vwCl[6]? = some (RX6, TX6, 25)) 15 (by decide) (hts _ k_X6_findPairs_w2) (fun _ h9 => h9) (f := 0) rfl rfl dX6_findPairs_67 ?_
            refine lv_iload_n hx hb dX6_findPairs_70 rfl (lv_at hl 1 rfl) ?_
            refine lv_iconst (v := 1) hx hb dX6_findPairs_71 (by decide) ?_
            obtain ⟨σ72, e72, i72, h⟩ := wx_w_ok h
            refine wx_iast hx hb hC.1 Z hS (o := 16) (k := 15) (n := 64) rfl rfl i72 dX6_findPairs_72 e72 (fun H locs Z hS => ?_)
            refine lv_aload_n hx hb dX6_findPairs_73 rfl (lv_at hl 0 rfl) ?_
            refine wx_get (own := RX6) hx hb hts i_X6_findPairs_6 hown hC.1 Z (o := 16) (ci := 6) rfl (rfl : vwCl[6]? = some (RX6, TX6, 25)) 15 (by decide) (hts _ k_X6_findPairs_w2) (fun _ h9 => h9) (f := 0) rfl rfl dX6_findPairs_74 ?_
            refine lv_iload_n hx hb dX6_findPairs_77 rfl (lv_at hl 2 rfl) ?_
            refine lv_iconst (v := 1) hx hb dX6_findPairs_78 (by decide) ?_
            obtain ⟨σ79, e79, i79, h⟩ := wx_w_ok h
            refine wx_iast hx hb hC.1 Z hS (o := 16) (k := 15) (n := 64) rfl rfl i79 dX6_findPairs_79 e79 (fun H locs Z hS => ?_)
            exact b_X6_findPairs_80 B (K11 := K11) @hK11 (K21 := (f_X6_findPairs_21 K11 n)) @ih h Z hS (lv_sub hl [0, 1, 2] rfl)
set_option maxRecDepth 20000 in
set_option maxHeartbeats 4000000 in
theorem b_X6_findPairs_11 (B : wx_B p s m args meth c cX6_findPairs 3 none wsX6_findPairs RX6 D ad ca A)     {σ' : wx_St}   :
    ∀ {n : Nat} {x1 : Int32} {σ : wx_St}  (h : f_X6_findPairs_11 n x1 σ = some ((), σ')) {H : Heap} {locs : List Loc} (Z : wx_Z D ad rd ca A σ H) (hS : va_S A s.heap H locs) {ls : Array Slot} (hl : lv_has ls 3 [(0, .ref (ad 16 99)), (1, .int x1)]), W p l e ({ frames := 7, cells := 0, slots := 0, locals := 156 } : Room) s m args below meth c H locs 0 0 (MQ below (wx_Q D ad rd ca A none σ') args s 0 0 A) (F0 m 11 ls []) := by
  obtain ⟨hx, hb, hml, hr, hts, hown, hlk, hC, hA⟩ := id B
  intro n
  induction n with
  | zero => intro x1 σ  h H locs Z hS ls hl; exact wx_no h
  | succ n ih =>
    intro x1 σ  h H locs Z hS ls hl
    rw [f_X6_findPairs_11] at h
    refine lv_iload_n hx hb dX6_findPairs_11 rfl (lv_at hl 1 rfl) ?_
    refine lv_bipush (v := 64) hx hb dX6_findPairs_12 (by decide) ?_
    refine lv_icmp_ge (tgt := 92) hx hb dX6_findPairs_14 (by decide) (fun c14 => ?_) (fun c14 => ?_)
    · replace h := wx_ift c14 h
      obtain ⟨-, rfl⟩ := wx_ret_ok h
      exact W.vret hx hb hr (fun t ht hW => ⟨rfl, by rw [ht]; exact Z, hS.F ht⟩) hS.2.2 dX6_findPairs_92
    · replace h := wx_iff c14 h
      refine lv_iload_n hx hb dX6_findPairs_17 rfl (lv_at hl 1 rfl) ?_
      refine lv_iconst (v := 1) hx hb dX6_findPairs_18 (by decide) ?_
      refine lv_iadd hx hb dX6_findPairs_19 ?_
      refine lv_istore_n (lv' := [(2, .int (x1 + 1)), (0, .ref (ad 16 99)), (1, .int x1)]) hx hb dX6_findPairs_20 rfl hl (by decide) rfl (fun ls hl => ?_)
      exact b_X6_findPairs_21 B (K11 := (f_X6_findPairs_11 n)) @ih h Z hS (lv_sub hl [1, 2, 0] rfl)
set_option maxRecDepth 20000 in
set_option maxHeartbeats 4000000 in
theorem b_X6_findPairs_0 (B : wx_B p s m args meth c cX6_findPairs 3 none wsX6_findPairs RX6 D ad ca A)     {σ' : wx_St}   {σ : wx_St}  (h : f_X6_findPairs σ = some ((), σ')) {H : Heap} {locs : List Loc} (Z : wx_Z D ad rd ca A σ H) (hS : va_S A s.heap H locs) {ls : Array Slot} (hl : lv_has ls 3 [(0, .ref (ad 16 99))]) : W p l e ({ frames := 7, cells := 0, slots := 0, locals := 156 } : Room) s m args below meth c H locs 0 0 (MQ below (wx_Q D ad rd ca A none σ') args s 0 0 A) (F0 m 0 ls []) := by
  obtain ⟨hx, hb, hml, hr, hts, hown, hlk, hC, hA⟩ := id B
  unfold f_X6_findPairs at h
  refine lv_aload_n hx hb dX6_findPairs_0 rfl (lv_at hl 0 rfl) ?_
  obtain ⟨v1, σ1, hc1, h⟩ := wx_b_ok h
  refine wx_call (va_runV (As := []) (rest := []) ⟨hx, hb, hml, hown, hts⟩ (c_X6_findSuspects l (D := D) (ad := ad) (rd := rd) (ca := ca) (A := A) (σ := σ) hc1) (cwV 0 hts gX6_findPairs_X6_findSuspects rfl rfl rfl (by decide +kernel) ⟨Nat.le_of_ble_eq_true rfl, Nat.le_of_ble_eq_true rfl⟩) (wx_preV hC Z hS hA rfl (rfl : vwCl[6]? = some (RX6, TX6, 25))) rfl rfl hl.1 rfl (lv_room (Nat.le_of_ble_eq_true rfl)) dX6_findPairs_1 ⟨Nat.zero_le _, Nat.zero_le _⟩) hS (fun H locs Z hS => ?_)
  refine lv_aload_n hx hb dX6_findPairs_4 rfl (lv_at hl 0 rfl) ?_
  refine lv_iconst (v := 0) hx hb dX6_findPairs_5 (by decide) ?_
  obtain ⟨σ6, e6, h⟩ := wx_l_ok h
  refine wx_put (own := RX6) hx hb hts i_X6_findPairs_6 tyX6 tyX6_ok nmX6 hown hC.1 Z hS (o := 16) (ci := 6) rfl (rfl : vwCl[6]? = some (RX6, TX6, 25)) 16 (by decide) (hts _ k_X6_findPairs_w0) (fun _ h9 => h9) rfl (by decide +kernel) rfl dX6_findPairs_6 e6 (fun H locs Z hS => ?_)
  refine lv_iconst (v := 0) hx hb dX6_findPairs_9 (by decide) ?_
  refine lv_istore_n (lv' := [(1, .int 0), (0, .ref (ad 16 99))]) hx hb dX6_findPairs_10 rfl hl (by decide) rfl (fun ls hl => ?_)
  exact b_X6_findPairs_11 B h Z hS (lv_sub hl [1, 0] rfl)
set_option maxRecDepth 20000 in
theorem c_X6_findPairs (l : Launch) {D : va_G} {ad : Nat → Nat → Nat} {rd : Nat → Nat} {ca : Nat → ClassId} {A : Nat → Prop} {σ : wx_St}      {σ' : wx_St} (h : f_X6_findPairs σ = some ((), σ')) : wx_M l yX6_findPairs wsX6_findPairs 7 156 D ad rd ca A [.ref (ad 16 99)] σ none σ' := by
  refine Met.ofW (cc := cX6_findPairs) (maxL := 3) (ret := none) (by decide +kernel) rfl ?_
  intro p e s m args below meth c s₁ B0 hml hv
  obtain ⟨rfl, hC, Z, hA⟩ := hv
  have hl := lv_entry ([.ref (ad 16 99)]) (n := 3) (Nat.le_of_ble_eq_true rfl)
  rw [lg_entry_eq]
  generalize (lg_sl ([.ref (ad 16 99)]) ++ List.replicate (3 - (lg_sl ([.ref (ad 16 99)])).length) Slot.unset).toArray = ls at hl ⊢
  exact b_X6_findPairs_0 ⟨B0.exec, B0.bytes, hml, B0.returns, atoms_spec (ws := wsX6_findPairs) B0.pre, findClass_of_methodNamed B0.named, B0.notSynchronized, hC, hA⟩   h Z va_S.rf hl
theorem i_X6_at_6 : ∀ w ∈ wsX60, w ∈ wsX6_at := by decide +kernel
theorem k_X6_at_w0 : Cond.fieldLink RX6 13 "WarmProbesModel" "warmth" "[F" ∈ wsX6_at := by decide +kernel
theorem k_X6_at_w1 : Cond.fieldLink RX6 47 "WarmProbesModel" "single" "[I" ∈ wsX6_at := by decide +kernel
theorem k_X6_at_w2 : Cond.fieldLink RX6 50 "WarmProbesModel" "paired" "[I" ∈ wsX6_at := by decide +kernel
set_option maxRecDepth 20000 in
set_option maxHeartbeats 4000000 in
theorem b_X6_at_103 (B : wx_B p s m args meth c cX6_at 5 (some .int) wsX6_at RX6 D ad ca A)    {r : Int32} {σ' : wx_St}  {x1 : Int32} {x2 : Int32} {x3 : Int32} {x4 : Int32} {y0 : Int32} {σ : wx_St}  (h : f_X6_at_103 x1 x2 x3 x4 y0 σ = some (r, σ')) {H : Heap} {locs : List Loc} (Z : wx_Z D ad rd ca A σ H) (hS : va_S A s.heap H locs) {ls : Array Slot} (hl : lv_has ls 5 [(0, .ref (ad 16 99)), (1, .int x1), (2, .int x2), (3, .int x3), (4, .int x4)]) : W p l e ({ frames := 8, cells := 0, slots := 0, locals := 178 } : Room) s m args below meth c H locs 0 0 (MQ below (wx_Q D ad rd ca A (some (.int r)) σ') args s 0 0 A) (F0 m 103 ls [.int y0]) := by
  obtain ⟨hx, hb, hml, hr, hts, hown, hlk, hC, hA⟩ := id B
  unfold f_X6_at_103 at h
  obtain ⟨rfl, rfl⟩ := wx_ret_ok h
  exact W.iret hx hb hr (fun t ht hW => ⟨rfl, by rw [ht]; exact Z, hS.F ht⟩) hS.2.2 dX6_at_103
set_option maxRecDepth 20000 in
set_option maxHeartbeats 4000000 in
theorem b_X6_at_0 (B : wx_B p s m args meth c cX6_at 5 (some .int) wsX6_at RX6 D ad ca A)    {r : Int32} {σ' : wx_St}  {x1 : Int32} {x2 : Int32} {x3 : Int32} {σ : wx_St}  (h : f_X6_at x1 x2 x3 σ = some (r, σ')) {H : Heap} {locs : List Loc} (Z : wx_Z D ad rd ca A σ H) (hS : va_S A s.heap H locs) {ls : Array Slot} (hl : lv_has ls 5 [(0, .ref (ad 16 99)), (1, .int x1), (2, .int x2), (3, .int x3)]) : W p l e ({ frames := 8, cells := 0, slots := 0, locals := 178 } : Room) s m args below meth c H locs 0 0 (MQ below (wx_Q D ad rd ca A (some (.int r)) σ') args s 0 0 A) (F0 m 0 ls []) := by
  obtain ⟨hx, hb, hml, hr, hts, hown, hlk, hC, hA⟩ := id B
  unfold f_X6_at at h
  refine lv_iload_n hx hb dX6_at_0 rfl (lv_at hl 1 rfl) ?_
  refine lv_iload_n hx hb dX6_at_1 rfl (lv_at hl 2 rfl) ?_
  obtain ⟨v2, hc2, h⟩ := wx_o_ok h
  refine wx_call (va_runS (As := [.int x1, .int x2]) (rest := []) ⟨hx, hb, hml, hown, hts⟩ (c_X6_isPlace l (D := D) (ad := ad) (rd := rd) (ca := ca) (A := A) (σ := σ) hc2) (va_cwS 2 hts gX6_at_X6_isPlace rfl rfl rfl (by decide +kernel) ⟨Nat.le_of_ble_eq_true rfl, Nat.le_of_ble_eq_true rfl⟩) (wx_preS hC Z hS hA) rfl rfl hl.1 rfl (lv_room (Nat.le_of_ble_eq_true rfl)) dX6_at_2 ⟨Nat.zero_le _, Nat.zero_le _⟩) hS (fun H locs Z hS => ?_)
  refine lv_if_ne (tgt := 10) hx hb dX6_at_5 (by decide) (fun c5 => ?_) (fun c5 => ?_)
  · replace h := wx_iff c5 h
    refine lv_iload_n hx hb dX6_at_10 rfl (lv_at hl 1 rfl) ?_
    refine lv_iload_n hx hb dX6_at_11 rfl (lv_at hl 2 rfl) ?_
    obtain ⟨v12, hc12, h⟩ := wx_o_ok h
    refine wx_call (va_runS (As := [.int x1, .int x2]) (rest := []) ⟨hx, hb, hml, hown, hts⟩ (c_X6_placeOf l (D := D) (ad := ad) (rd := rd) (ca := ca) (A := A) (σ := σ) hc12) (va_cwS 2 hts gX6_at_X6_placeOf rfl rfl rfl (by decide +kernel) ⟨Nat.le_of_ble_eq_true rfl, Nat.le_of_ble_eq_true rfl⟩) (wx_preS hC Z hS hA) rfl rfl hl.1 rfl (lv_room (Nat.le_of_ble_eq_true rfl)) dX6_at_12 ⟨Nat.zero_le _, Nat.zero_le _⟩) hS (fun H locs Z hS => ?_)
    refine lv_istore (lv' := [(4, .int v12), (0, .ref (ad 16 99)), (1, .int x1), (2, .int x2), (3, .int x3)]) hx hb dX6_at_15 hl (by decide) rfl (fun ls hl => ?_)
    refine lv_iload_n hx hb dX6_at_17 rfl (lv_at hl 4 rfl) ?_
    by_cases c18_0 : x3 = 0
    · replace h := wx_ift c18_0 h
      refine lv_tableIn (off := 42) (tgt := 60) hx hb dX6_at_18 (by rw [c18_0]; decide) (by rw [c18_0]; decide) (by rw [c18_0]; rfl) (by decide) ?_
      refine lv_aload_n hx hb dX6_at_60 rfl (lv_at hl 1 rfl) ?_
      refine lv_iload hx hb dX6_at_61 (lv_at hl 0 rfl) ?_
      obtain ⟨v63, hc63, h⟩ := wx_o_ok h
      refine wx_call (va_runV (As := [.int v12]) (rest := []) ⟨hx, hb, hml, hown, hts⟩ (c_X6_netAt l (D := D) (ad := ad) (rd := rd) (ca := ca) (A := A) (σ := σ) hc63) (cwV 1 hts gX6_at_X6_netAt rfl rfl rfl (by decide +kernel) ⟨Nat.le_of_ble_eq_true rfl, Nat.le_of_ble_eq_true rfl⟩) (wx_preV hC Z hS hA rfl (rfl : vwCl[6]? = some (RX6, TX6, 25))) rfl rfl hl.1 rfl (lv_room (Nat.le_of_ble_eq_true rfl)) dX6_at_63 ⟨Nat.zero_le _, Nat.zero_le _⟩) hS (fun H locs Z hS => ?_)
      obtain ⟨rfl, rfl⟩ := wx_ret_ok h
      exact W.iret hx hb hr (fun t ht hW => ⟨rfl, by rw [ht]; exact Z, hS.F ht⟩) hS.2.2 dX6_at_66
    · replace h := wx_iff c18_0 h
      by_cases c18_1 : x3 = 1
      · replace h := wx_ift c18_1 h
        refine lv_tableIn (off := 49) (tgt := 67) hx hb dX6_at_18 (by rw [c18_1]; decide) (by rw [c18_1]; decide) (by rw [c18_1]; rfl) (by decide) ?_
        refine lv_aload_n hx hb dX6_at_67 rfl (lv_at hl 1 rfl) ?_
        refine wx_get (own := RX6) hx hb hts i_X6_at_6 hown hC.1 Z (o := 16) (ci := 6) rfl (rfl : vwCl[6]? = some (RX6, TX6, 25)) 1 (by decide) (hts _ k_X6_at_w0) (fun _ h9 => h9) (f := 0) rfl rfl dX6_at_68 ?_
        refine lv_iload hx hb dX6_at_71 (lv_at hl 0 rfl) ?_
        obtain ⟨v73, ev73, iv73, h⟩ := wx_rF_ok h
        refine wx_fald hx hb hC.1 Z (o := 16) (k := 1) (n := 64) rfl rfl iv73 dX6_at_73 ev73 ?_
        obtain ⟨v74, hc74, h⟩ := wx_o_ok h
        refine wx_call (va_runS (As := [.float v73]) (rest := []) ⟨hx, hb, hml, hown, hts⟩ (c_Jxf58ca_floatToIntBits_5c35a l (D := D) (ad := ad) (rd := rd) (ca := ca) (A := A) (σ := σ) hc74) (va_cwS 1 hts gX6_at_Jxf58ca_floatToIntBits_5c35a rfl rfl rfl (by decide +kernel) ⟨Nat.le_of_ble_eq_true rfl, Nat.le_of_ble_eq_true rfl⟩) (wx_preS hC Z hS hA) rfl rfl hl.1 rfl (lv_room (Nat.le_of_ble_eq_true rfl)) dX6_at_74 ⟨Nat.zero_le _, Nat.zero_le _⟩) hS (fun H locs Z hS => ?_)
        obtain ⟨rfl, rfl⟩ := wx_ret_ok h
        exact W.iret hx hb hr (fun t ht hW => ⟨rfl, by rw [ht]; exact Z, hS.F ht⟩) hS.2.2 dX6_at_77
      · replace h := wx_iff c18_1 h
        by_cases c18_2 : x3 = 2
        · replace h := wx_ift c18_2 h
          refine lv_tableIn (off := 60) (tgt := 78) hx hb dX6_at_18 (by rw [c18_2]; decide) (by rw [c18_2]; decide) (by rw [c18_2]; rfl) (by decide) ?_
          refine lv_aload_n hx hb dX6_at_78 rfl (lv_at hl 1 rfl) ?_
          refine wx_get (own := RX6) hx hb hts i_X6_at_6 hown hC.1 Z (o := 16) (ci := 6) rfl (rfl : vwCl[6]? = some (RX6, TX6, 25)) 1 (by decide) (hts _ k_X6_at_w0) (fun _ h9 => h9) (f := 0) rfl rfl dX6_at_79 ?_
          refine lv_iload hx hb dX6_at_82 (lv_at hl 0 rfl) ?_
          obtain ⟨v84, ev84, iv84, h⟩ := wx_rF_ok h
          refine wx_fald hx hb hC.1 Z (o := 16) (k := 1) (n := 64) rfl rfl iv84 dX6_at_84 ev84 ?_
          obtain ⟨v85, hc85, h⟩ := wx_o_ok h
          refine wx_call (va_runS (As := [.float v84]) (rest := []) ⟨hx, hb, hml, hown, hts⟩ (c_X6_readOf l (D := D) (ad := ad) (rd := rd) (ca := ca) (A := A) (σ := σ) hc85) (va_cwS 1 hts gX6_at_X6_readOf rfl rfl rfl (by decide +kernel) ⟨Nat.le_of_ble_eq_true rfl, Nat.le_of_ble_eq_true rfl⟩) (wx_preS hC Z hS hA) rfl rfl hl.1 rfl (lv_room (Nat.le_of_ble_eq_true rfl)) dX6_at_85 ⟨Nat.zero_le _, Nat.zero_le _⟩) hS (fun H locs Z hS => ?_)
          obtain ⟨rfl, rfl⟩ := wx_ret_ok h
          exact W.iret hx hb hr (fun t ht hW => ⟨rfl, by rw [ht]; exact Z, hS.F ht⟩) hS.2.2 dX6_at_88
        · replace h := wx_iff c18_2 h
          by_cases c18_3 : x3 = 3
          · replace h := wx_ift c18_3 h
            refine lv_tableIn (off := 71) (tgt := 89) hx hb dX6_at_18 (by rw [c18_3]; decide) (by rw [c18_3]; decide) (by rw [c18_3]; rfl) (by decide) ?_
            refine lv_aload_n hx hb dX6_at_89 rfl (lv_at hl 1 rfl) ?_
            refine lv_iload hx hb dX6_at_90 (lv_at hl 0 rfl) ?_
            obtain ⟨v92, hc92, h⟩ := wx_o_ok h
            refine wx_call (va_runV (As := [.int v12]) (rest := []) ⟨hx, hb, hml, hown, hts⟩ (c_X6_isSuspect l (D := D) (ad := ad) (rd := rd) (ca := ca) (A := A) (σ := σ) hc92) (cwV 1 hts gX6_at_X6_isSuspect rfl rfl rfl (by decide +kernel) ⟨Nat.le_of_ble_eq_true rfl, Nat.le_of_ble_eq_true rfl⟩) (wx_preV hC Z hS hA rfl (rfl : vwCl[6]? = some (RX6, TX6, 25))) rfl rfl hl.1 rfl (lv_room (Nat.le_of_ble_eq_true rfl)) dX6_at_92 ⟨Nat.zero_le _, Nat.zero_le _⟩) hS (fun H locs Z hS => ?_)
            refine lv_if_eq (tgt := 102) hx hb dX6_at_95 (by decide) (fun c95 => ?_) (fun c95 => ?_)
            · replace h := wx_ift c95 h
              refine lv_iconst (v := 0) hx hb dX6_at_102 (by decide) ?_
              exact b_X6_at_103 B h Z hS (lv_sub hl [1, 2, 3, 4, 0] rfl)
            · replace h := wx_iff c95 h
              refine lv_iconst (v := 1) hx hb dX6_at_98 (by decide) ?_
              refine lv_goto (tgt := 103) hx hb dX6_at_99 (by decide) ?_
              exact b_X6_at_103 B h Z hS (lv_sub hl [1, 2, 3, 4, 0] rfl)
          · replace h := wx_iff c18_3 h
            by_cases c18_4 : x3 = 4
            · replace h := wx_ift c18_4 h
              refine lv_tableIn (off := 86) (tgt := 104) hx hb dX6_at_18 (by rw [c18_4]; decide) (by rw [c18_4]; decide) (by rw [c18_4]; rfl) (by decide) ?_
              refine lv_aload_n hx hb dX6_at_104 rfl (lv_at hl 1 rfl) ?_
              obtain ⟨v105, σ105, hc105, h⟩ := wx_b_ok h
              refine wx_call (va_runV (As := []) (rest := []) ⟨hx, hb, hml, hown, hts⟩ (c_X6_findSuspects l (D := D) (ad := ad) (rd := rd) (ca := ca) (A := A) (σ := σ) hc105) (cwV 0 hts gX6_at_X6_findSuspects rfl rfl rfl (by decide +kernel) ⟨Nat.le_of_ble_eq_true rfl, Nat.le_of_ble_eq_true rfl⟩) (wx_preV hC Z hS hA rfl (rfl : vwCl[6]? = some (RX6, TX6, 25))) rfl rfl hl.1 rfl (lv_room (Nat.le_of_ble_eq_true rfl)) dX6_at_105 ⟨Nat.zero_le _, Nat.zero_le _⟩) hS (fun H locs Z hS => ?_)
              refine lv_aload_n hx hb dX6_at_108 rfl (lv_at hl 1 rfl) ?_
              refine wx_get (own := RX6) hx hb hts i_X6_at_6 hown hC.1 Z (o := 16) (ci := 6) rfl (rfl : vwCl[6]? = some (RX6, TX6, 25)) 14 (by decide) (hts _ k_X6_at_w1) (fun _ h9 => h9) (f := 0) rfl rfl dX6_at_109 ?_
              refine lv_iload hx hb dX6_at_112 (lv_at hl 0 rfl) ?_
              obtain ⟨v114, ev114, iv114, h⟩ := wx_rI_ok h
              refine wx_iald hx hb hC.1 Z (o := 16) (k := 14) (n := 64) rfl rfl iv114 dX6_at_114 ev114 ?_
              obtain ⟨rfl, rfl⟩ := wx_ret_ok h
              exact W.iret hx hb hr (fun t ht hW => ⟨rfl, by rw [ht]; exact Z, hS.F ht⟩) hS.2.2 dX6_at_115
            · replace h := wx_iff c18_4 h
              by_cases c18_5 : x3 = 5
              · replace h := wx_ift c18_5 h
                refine lv_tableIn (off := 98) (tgt := 116) hx hb dX6_at_18 (by rw [c18_5]; decide) (by rw [c18_5]; decide) (by rw [c18_5]; rfl) (by decide) ?_
                refine lv_aload_n hx hb dX6_at_116 rfl (lv_at hl 1 rfl) ?_
                obtain ⟨v117, σ117, hc117, h⟩ := wx_b_ok h
                refine wx_call (va_runV (As := []) (rest := []) ⟨hx, hb, hml, hown, hts⟩ (c_X6_findPairs l (D := D) (ad := ad) (rd := rd) (ca := ca) (A := A) (σ := σ) hc117) (cwV 0 hts gX6_at_X6_findPairs rfl rfl rfl (by decide +kernel) ⟨Nat.le_of_ble_eq_true rfl, Nat.le_of_ble_eq_true rfl⟩) (wx_preV hC Z hS hA rfl (rfl : vwCl[6]? = some (RX6, TX6, 25))) rfl rfl hl.1 rfl (lv_room (Nat.le_of_ble_eq_true rfl)) dX6_at_117 ⟨Nat.zero_le _, Nat.zero_le _⟩) hS (fun H locs Z hS => ?_)
                refine lv_aload_n hx hb dX6_at_120 rfl (lv_at hl 1 rfl) ?_
                refine wx_get (own := RX6) hx hb hts i_X6_at_6 hown hC.1 Z (o := 16) (ci := 6) rfl (rfl : vwCl[6]? = some (RX6, TX6, 25)) 15 (by decide) (hts _ k_X6_at_w2) (fun _ h9 => h9) (f := 0) rfl rfl dX6_at_121 ?_
                refine lv_iload hx hb dX6_at_124 (lv_at hl 0 rfl) ?_
                obtain ⟨v126, ev126, iv126, h⟩ := wx_rI_ok h
                refine wx_iald hx hb hC.1 Z (o := 16) (k := 15) (n := 64) rfl rfl iv126 dX6_at_126 ev126 ?_
                obtain ⟨rfl, rfl⟩ := wx_ret_ok h
                exact W.iret hx hb hr (fun t ht hW => ⟨rfl, by rw [ht]; exact Z, hS.F ht⟩) hS.2.2 dX6_at_127
              · replace h := wx_iff c18_5 h
                by_cases c18_6 : x3 = 6
                · replace h := wx_ift c18_6 h
                  refine lv_tableIn (off := 110) (tgt := 128) hx hb dX6_at_18 (by rw [c18_6]; decide) (by rw [c18_6]; decide) (by rw [c18_6]; rfl) (by decide) ?_
                  refine lv_aload_n hx hb dX6_at_128 rfl (lv_at hl 1 rfl) ?_
                  refine lv_iload hx hb dX6_at_129 (lv_at hl 0 rfl) ?_
                  obtain ⟨v131, hc131, h⟩ := wx_o_ok h
                  refine wx_call (va_runV (As := [.int v12]) (rest := []) ⟨hx, hb, hml, hown, hts⟩ (c_X6_touchAt l (D := D) (ad := ad) (rd := rd) (ca := ca) (A := A) (σ := σ) hc131) (cwV 1 hts gX6_at_X6_touchAt rfl rfl rfl (by decide +kernel) ⟨Nat.le_of_ble_eq_true rfl, Nat.le_of_ble_eq_true rfl⟩) (wx_preV hC Z hS hA rfl (rfl : vwCl[6]? = some (RX6, TX6, 25))) rfl rfl hl.1 rfl (lv_room (Nat.le_of_ble_eq_true rfl)) dX6_at_131 ⟨Nat.zero_le _, Nat.zero_le _⟩) hS (fun H locs Z hS => ?_)
                  obtain ⟨rfl, rfl⟩ := wx_ret_ok h
                  exact W.iret hx hb hr (fun t ht hW => ⟨rfl, by rw [ht]; exact Z, hS.F ht⟩) hS.2.2 dX6_at_134
                · replace h := wx_iff c18_6 h
                  have n18_0 := wx_ni c18_0
                  have n18_1 := wx_ni c18_1
                  have n18_2 := wx_ni c18_2
                  have n18_3 := wx_ni c18_3
                  have n18_4 := wx_ni c18_4
                  have n18_5 := wx_ni c18_5
                  have n18_6 := wx_ni c18_6
                  rw [show (0 : Int32).toInt = 0 from by decide] at n18_0
                  rw [show (1 : Int32).toInt = 1 from by decide] at n18_1
                  rw [show (2 : Int32).toInt = 2 from by decide] at n18_2
                  rw [show (3 : Int32).toInt = 3 from by decide] at n18_3
                  rw [show (4 : Int32).toInt = 4 from by decide] at n18_4
                  rw [show (5 : Int32).toInt = 5 from by decide] at n18_5
                  rw [show (6 : Int32).toInt = 6 from by decide] at n18_6
                  refine lv_tableOut (tgt := 135) hx hb dX6_at_18 (by omega) (by decide) ?_
                  refine lv_bipush (v := (-2)) hx hb dX6_at_135 (by decide) ?_
                  obtain ⟨rfl, rfl⟩ := wx_ret_ok h
                  exact W.iret hx hb hr (fun t ht hW => ⟨rfl, by rw [ht]; exact Z, hS.F ht⟩) hS.2.2 dX6_at_137
  · replace h := wx_ift c5 h
    refine lv_iconst (v := (-1)) hx hb dX6_at_8 (by decide) ?_
    obtain ⟨rfl, rfl⟩ := wx_ret_ok h
    exact W.iret hx hb hr (fun t ht hW => ⟨rfl, by rw [ht]; exact Z, hS.F ht⟩) hS.2.2 dX6_at_9
set_option maxRecDepth 20000 in
theorem c_X6_at (l : Launch) {D : va_G} {ad : Nat → Nat → Nat} {rd : Nat → Nat} {ca : Nat → ClassId} {A : Nat → Prop} {σ : wx_St}    {x1 : Int32} {x2 : Int32} {x3 : Int32} {r : Int32} {σ' : wx_St} (h : f_X6_at x1 x2 x3 σ = some (r, σ')) : wx_M l yX6_at wsX6_at 8 178 D ad rd ca A [.ref (ad 16 99), .int x1, .int x2, .int x3] σ (some (.int r)) σ' := by
  refine Met.ofW (cc := cX6_at) (maxL := 5) (ret := (some .int)) (by decide +kernel) rfl ?_
  intro p e s m args below meth c s₁ B0 hml hv
  obtain ⟨rfl, hC, Z, hA⟩ := hv
  have hl := lv_entry ([.ref (ad 16 99), .int x1, .int x2, .int x3]) (n := 5) (Nat.le_of_ble_eq_true rfl)
  rw [lg_entry_eq]
  generalize (lg_sl ([.ref (ad 16 99), .int x1, .int x2, .int x3]) ++ List.replicate (5 - (lg_sl ([.ref (ad 16 99), .int x1, .int x2, .int x3])).length) Slot.unset).toArray = ls at hl ⊢
  exact b_X6_at_0 ⟨B0.exec, B0.bytes, hml, B0.returns, atoms_spec (ws := wsX6_at) B0.pre, findClass_of_methodNamed B0.named, B0.notSynchronized, hC, hA⟩   h Z va_S.rf hl
theorem i_X6_beginsRun_6 : ∀ w ∈ wsX60, w ∈ wsX6_beginsRun := by decide +kernel
theorem k_X6_beginsRun_w0 : Cond.fieldLink RX6 7 "WarmProbesModel" "state" "[I" ∈ wsX6_beginsRun := by decide +kernel
theorem k_X6_beginsRun_w1 : Cond.fieldLink RX6 35 "WarmProbesModel" "thought" "[F" ∈ wsX6_beginsRun := by decide +kernel
theorem k_X6_beginsRun_w2 : Cond.fieldLink RX6 13 "WarmProbesModel" "warmth" "[F" ∈ wsX6_beginsRun := by decide +kernel
set_option maxRecDepth 20000 in
set_option maxHeartbeats 4000000 in
theorem b_X6_beginsRun_18 (B : wx_B p s m args meth c cX6_beginsRun 2 none wsX6_beginsRun RX6 D ad ca A)     {σ' : wx_St}   :
    ∀ {n : Nat} {x1 : Int32} {σ : wx_St}  (h : f_X6_beginsRun_18 n x1 σ = some ((), σ')) {H : Heap} {locs : List Loc} (Z : wx_Z D ad rd ca A σ H) (hS : va_S A s.heap H locs) {ls : Array Slot} (hl : lv_has ls 2 [(0, .ref (ad 16 99)), (1, .int x1)]), W p l e ({ frames := 1, cells := 0, slots := 0, locals := 24 } : Room) s m args below meth c H locs 0 0 (MQ below (wx_Q D ad rd ca A none σ') args s 0 0 A) (F0 m 18 ls []) := by
  obtain ⟨hx, hb, hml, hr, hts, hown, hlk, hC, hA⟩ := id B
  intro n
  induction n with
  | zero => intro x1 σ  h H locs Z hS ls hl; exact wx_no h
  | succ n ih =>
    intro x1 σ  h H locs Z hS ls hl
    rw [f_X6_beginsRun_18] at h
    refine lv_iload_n hx hb dX6_beginsRun_18 rfl (lv_at hl 1 rfl) ?_
    refine lv_bipush (v := 109) hx hb dX6_beginsRun_19 (by decide) ?_
    refine lv_icmp_ge (tgt := 37) hx hb dX6_beginsRun_21 (by decide) (fun c21 => ?_) (fun c21 => ?_)
    · replace h := wx_ift c21 h
      refine lv_aload_n hx hb dX6_beginsRun_37 rfl (lv_at hl 0 rfl) ?_
      obtain ⟨v38, σ38, hc38, h⟩ := wx_b_ok h
      refine wx_call (va_runV (As := []) (rest := []) ⟨hx, hb, hml, hown, hts⟩ (c_X6_coolsThought l (D := D) (ad := ad) (rd := rd) (ca := ca) (A := A) (σ := σ) hc38) (cwV 0 hts gX6_beginsRun_X6_coolsThought rfl rfl rfl (by decide +kernel) ⟨Nat.le_of_ble_eq_true rfl, Nat.le_of_ble_eq_true rfl⟩) (wx_preV hC Z hS hA rfl (rfl : vwCl[6]? = some (RX6, TX6, 25))) rfl rfl hl.1 rfl (lv_room (Nat.le_of_ble_eq_true rfl)) dX6_beginsRun_38 ⟨Nat.zero_le _, Nat.zero_le _⟩) hS (fun H locs Z hS => ?_)
      refine lv_aload_n hx hb dX6_beginsRun_41 rfl (lv_at hl 0 rfl) ?_
      refine wx_get (own := RX6) hx hb hts i_X6_beginsRun_6 hown hC.1 Z (o := 16) (ci := 6) rfl (rfl : vwCl[6]? = some (RX6, TX6, 25)) 10 (by decide) (hts _ k_X6_beginsRun_w1) (fun _ h9 => h9) (f := 0) rfl rfl dX6_beginsRun_42 ?_
      refine lv_iconst (v := 0) hx hb dX6_beginsRun_45 (by decide) ?_
      refine lv_aload_n hx hb dX6_beginsRun_46 rfl (lv_at hl 0 rfl) ?_
      refine wx_get (own := RX6) hx hb hts i_X6_beginsRun_6 hown hC.1 Z (o := 16) (ci := 6) rfl (rfl : vwCl[6]? = some (RX6, TX6, 25)) 1 (by decide) (hts _ k_X6_beginsRun_w2) (fun _ h9 => h9) (f := 0) rfl rfl dX6_beginsRun_47 ?_
      refine lv_iconst (v := 0) hx hb dX6_beginsRun_50 (by decide) ?_
      obtain ⟨v51, σ51, hc51, h⟩ := wx_b_ok h
      refine wx_call (va_runS (As := [.ref (ad 16 10), .int 0, .ref (ad 16 1), .int 0]) (rest := []) ⟨hx, hb, hml, hown, hts⟩ (c_X6_movesWarmth l (D := D) (ad := ad) (rd := rd) (ca := ca) (A := A) (σ := σ38) (o0 := 16) (k0 := 10) (n0 := 64) (o2 := 16) (k2 := 1) (n2 := 64) (al := σ38.2.2.2.2) rfl rfl rfl hc51) (va_cwS 4 hts gX6_beginsRun_X6_movesWarmth rfl rfl rfl (by decide +kernel) ⟨Nat.le_of_ble_eq_true rfl, Nat.le_of_ble_eq_true rfl⟩) (wx_preS hC Z hS hA) rfl rfl hl.1 rfl (lv_room (Nat.le_of_ble_eq_true rfl)) dX6_beginsRun_51 ⟨Nat.zero_le _, Nat.zero_le _⟩) hS (fun H locs Z hS => ?_)
      obtain ⟨-, rfl⟩ := wx_ret_ok h
      exact W.vret hx hb hr (fun t ht hW => ⟨rfl, by rw [ht]; exact Z, hS.F ht⟩) hS.2.2 dX6_beginsRun_54
    · replace h := wx_iff c21 h
      refine lv_aload_n hx hb dX6_beginsRun_24 rfl (lv_at hl 0 rfl) ?_
      refine wx_get (own := RX6) hx hb hts i_X6_beginsRun_6 hown hC.1 Z (o := 16) (ci := 6) rfl (rfl : vwCl[6]? = some (RX6, TX6, 25)) 0 (by decide) (hts _ k_X6_beginsRun_w0) (fun _ h9 => h9) (f := 0) rfl rfl dX6_beginsRun_25 ?_
      refine lv_iload_n hx hb dX6_beginsRun_28 rfl (lv_at hl 1 rfl) ?_
      refine lv_iconst (v := 0) hx hb dX6_beginsRun_29 (by decide) ?_
      obtain ⟨σ30, e30, i30, h⟩ := wx_w_ok h
      refine wx_iast hx hb hC.1 Z hS (o := 16) (k := 0) (n := 109) rfl rfl i30 dX6_beginsRun_30 e30 (fun H locs Z hS => ?_)
      refine lv_iinc (v := x1 + 1) (lv' := [(1, .int (x1 + 1)), (0, .ref (ad 16 99))]) hx hb dX6_beginsRun_31 hl (k := 1) rfl rfl (by decide) rfl (fun ls hl => ?_)
      refine lv_goto (tgt := 18) hx hb dX6_beginsRun_34 (by decide) ?_
      exact ih h Z hS (lv_sub hl [1, 0] rfl)
set_option maxRecDepth 20000 in
set_option maxHeartbeats 4000000 in
theorem b_X6_beginsRun_0 (B : wx_B p s m args meth c cX6_beginsRun 2 none wsX6_beginsRun RX6 D ad ca A)     {σ' : wx_St}   {σ : wx_St}  (h : f_X6_beginsRun σ = some ((), σ')) {H : Heap} {locs : List Loc} (Z : wx_Z D ad rd ca A σ H) (hS : va_S A s.heap H locs) {ls : Array Slot} (hl : lv_has ls 2 [(0, .ref (ad 16 99))]) : W p l e ({ frames := 1, cells := 0, slots := 0, locals := 24 } : Room) s m args below meth c H locs 0 0 (MQ below (wx_Q D ad rd ca A none σ') args s 0 0 A) (F0 m 0 ls []) := by
  obtain ⟨hx, hb, hml, hr, hts, hown, hlk, hC, hA⟩ := id B
  unfold f_X6_beginsRun at h
  refine lv_aload_n hx hb dX6_beginsRun_0 rfl (lv_at hl 0 rfl) ?_
  refine wx_get (own := RX6) hx hb hts i_X6_beginsRun_6 hown hC.1 Z (o := 16) (ci := 6) rfl (rfl : vwCl[6]? = some (RX6, TX6, 25)) 0 (by decide) (hts _ k_X6_beginsRun_w0) (fun _ h9 => h9) (f := 0) rfl rfl dX6_beginsRun_1 ?_
  refine lv_iconst (v := 4) hx hb dX6_beginsRun_4 (by decide) ?_
  refine lv_iconst (v := 0) hx hb dX6_beginsRun_5 (by decide) ?_
  obtain ⟨σ6, e6, i6, h⟩ := wx_w_ok h
  refine wx_iast hx hb hC.1 Z hS (o := 16) (k := 0) (n := 109) rfl rfl i6 dX6_beginsRun_6 e6 (fun H locs Z hS => ?_)
  refine lv_aload_n hx hb dX6_beginsRun_7 rfl (lv_at hl 0 rfl) ?_
  refine wx_get (own := RX6) hx hb hts i_X6_beginsRun_6 hown hC.1 Z (o := 16) (ci := 6) rfl (rfl : vwCl[6]? = some (RX6, TX6, 25)) 0 (by decide) (hts _ k_X6_beginsRun_w0) (fun _ h9 => h9) (f := 0) rfl rfl dX6_beginsRun_8 ?_
  refine lv_bipush (v := 6) hx hb dX6_beginsRun_11 (by decide) ?_
  refine lv_iconst (v := 0) hx hb dX6_beginsRun_13 (by decide) ?_
  obtain ⟨σ14, e14, i14, h⟩ := wx_w_ok h
  refine wx_iast hx hb hC.1 Z hS (o := 16) (k := 0) (n := 109) rfl rfl i14 dX6_beginsRun_14 e14 (fun H locs Z hS => ?_)
  refine lv_bipush (v := 85) hx hb dX6_beginsRun_15 (by decide) ?_
  refine lv_istore_n (lv' := [(1, .int 85), (0, .ref (ad 16 99))]) hx hb dX6_beginsRun_17 rfl hl (by decide) rfl (fun ls hl => ?_)
  exact b_X6_beginsRun_18 B h Z hS (lv_sub hl [1, 0] rfl)
set_option maxRecDepth 20000 in
theorem c_X6_beginsRun (l : Launch) {D : va_G} {ad : Nat → Nat → Nat} {rd : Nat → Nat} {ca : Nat → ClassId} {A : Nat → Prop} {σ : wx_St}      {σ' : wx_St} (h : f_X6_beginsRun σ = some ((), σ')) : wx_M l yX6_beginsRun wsX6_beginsRun 1 24 D ad rd ca A [.ref (ad 16 99)] σ none σ' := by
  refine Met.ofW (cc := cX6_beginsRun) (maxL := 2) (ret := none) (by decide +kernel) rfl ?_
  intro p e s m args below meth c s₁ B0 hml hv
  obtain ⟨rfl, hC, Z, hA⟩ := hv
  have hl := lv_entry ([.ref (ad 16 99)]) (n := 2) (Nat.le_of_ble_eq_true rfl)
  rw [lg_entry_eq]
  generalize (lg_sl ([.ref (ad 16 99)]) ++ List.replicate (2 - (lg_sl ([.ref (ad 16 99)])).length) Slot.unset).toArray = ls at hl ⊢
  exact b_X6_beginsRun_0 ⟨B0.exec, B0.bytes, hml, B0.returns, atoms_spec (ws := wsX6_beginsRun) B0.pre, findClass_of_methodNamed B0.named, B0.notSynchronized, hC, hA⟩   h Z va_S.rf hl
theorem i_X6_singlesMany_6 : ∀ w ∈ wsX60, w ∈ wsX6_singlesMany := by decide +kernel
theorem k_X6_singlesMany_w0 : Cond.fieldLink RX6 47 "WarmProbesModel" "single" "[I" ∈ wsX6_singlesMany := by decide +kernel
set_option maxRecDepth 20000 in
set_option maxHeartbeats 4000000 in
theorem b_X6_singlesMany_8 (B : wx_B p s m args meth c cX6_singlesMany 3 (some .int) wsX6_singlesMany RX6 D ad ca A)    {r : Int32} {σ' : wx_St}   :
    ∀ {n : Nat} {x1 : Int32} {x2 : Int32} {σ : wx_St}  (h : f_X6_singlesMany_8 n x1 x2 σ = some (r, σ')) {H : Heap} {locs : List Loc} (Z : wx_Z D ad rd ca A σ H) (hS : va_S A s.heap H locs) {ls : Array Slot} (hl : lv_has ls 3 [(0, .ref (ad 16 99)), (1, .int x1), (2, .int x2)]), W p l e ({ frames := 7, cells := 0, slots := 0, locals := 156 } : Room) s m args below meth c H locs 0 0 (MQ below (wx_Q D ad rd ca A (some (.int r)) σ') args s 0 0 A) (F0 m 8 ls []) := by
  obtain ⟨hx, hb, hml, hr, hts, hown, hlk, hC, hA⟩ := id B
  intro n
  induction n with
  | zero => intro x1 x2 σ  h H locs Z hS ls hl; exact wx_no h
  | succ n ih =>
    intro x1 x2 σ  h H locs Z hS ls hl
    rw [f_X6_singlesMany_8] at h
    refine lv_iload_n hx hb dX6_singlesMany_8 rfl (lv_at hl 2 rfl) ?_
    refine lv_bipush (v := 64) hx hb dX6_singlesMany_9 (by decide) ?_
    refine lv_icmp_ge (tgt := 29) hx hb dX6_singlesMany_11 (by decide) (fun c11 => ?_) (fun c11 => ?_)
    · replace h := wx_ift c11 h
      refine lv_iload_n hx hb dX6_singlesMany_29 rfl (lv_at hl 1 rfl) ?_
      obtain ⟨rfl, rfl⟩ := wx_ret_ok h
      exact W.iret hx hb hr (fun t ht hW => ⟨rfl, by rw [ht]; exact Z, hS.F ht⟩) hS.2.2 dX6_singlesMany_30
    · replace h := wx_iff c11 h
      refine lv_iload_n hx hb dX6_singlesMany_14 rfl (lv_at hl 1 rfl) ?_
      refine lv_aload_n hx hb dX6_singlesMany_15 rfl (lv_at hl 0 rfl) ?_
      refine wx_get (own := RX6) hx hb hts i_X6_singlesMany_6 hown hC.1 Z (o := 16) (ci := 6) rfl (rfl : vwCl[6]? = some (RX6, TX6, 25)) 14 (by decide) (hts _ k_X6_singlesMany_w0) (fun _ h9 => h9) (f := 0) rfl rfl dX6_singlesMany_16 ?_
      refine lv_iload_n hx hb dX6_singlesMany_19 rfl (lv_at hl 2 rfl) ?_
      obtain ⟨v20, ev20, iv20, h⟩ := wx_rI_ok h
      refine wx_iald hx hb hC.1 Z (o := 16) (k := 14) (n := 64) rfl rfl iv20 dX6_singlesMany_20 ev20 ?_
      refine lv_iadd hx hb dX6_singlesMany_21 ?_
      refine lv_istore_n (lv' := [(1, .int (x1 + v20)), (0, .ref (ad 16 99)), (2, .int x2)]) hx hb dX6_singlesMany_22 rfl hl (by decide) rfl (fun ls hl => ?_)
      refine lv_iinc (v := x2 + 1) (lv' := [(2, .int (x2 + 1)), (1, .int (x1 + v20)), (0, .ref (ad 16 99))]) hx hb dX6_singlesMany_23 hl (k := 2) rfl rfl (by decide) rfl (fun ls hl => ?_)
      refine lv_goto (tgt := 8) hx hb dX6_singlesMany_26 (by decide) ?_
      exact ih h Z hS (lv_sub hl [2, 1, 0] rfl)
set_option maxRecDepth 20000 in
set_option maxHeartbeats 4000000 in
theorem b_X6_singlesMany_0 (B : wx_B p s m args meth c cX6_singlesMany 3 (some .int) wsX6_singlesMany RX6 D ad ca A)    {r : Int32} {σ' : wx_St}   {σ : wx_St}  (h : f_X6_singlesMany σ = some (r, σ')) {H : Heap} {locs : List Loc} (Z : wx_Z D ad rd ca A σ H) (hS : va_S A s.heap H locs) {ls : Array Slot} (hl : lv_has ls 3 [(0, .ref (ad 16 99))]) : W p l e ({ frames := 7, cells := 0, slots := 0, locals := 156 } : Room) s m args below meth c H locs 0 0 (MQ below (wx_Q D ad rd ca A (some (.int r)) σ') args s 0 0 A) (F0 m 0 ls []) := by
  obtain ⟨hx, hb, hml, hr, hts, hown, hlk, hC, hA⟩ := id B
  unfold f_X6_singlesMany at h
  refine lv_aload_n hx hb dX6_singlesMany_0 rfl (lv_at hl 0 rfl) ?_
  obtain ⟨v1, σ1, hc1, h⟩ := wx_b_ok h
  refine wx_call (va_runV (As := []) (rest := []) ⟨hx, hb, hml, hown, hts⟩ (c_X6_findSuspects l (D := D) (ad := ad) (rd := rd) (ca := ca) (A := A) (σ := σ) hc1) (cwV 0 hts gX6_singlesMany_X6_findSuspects rfl rfl rfl (by decide +kernel) ⟨Nat.le_of_ble_eq_true rfl, Nat.le_of_ble_eq_true rfl⟩) (wx_preV hC Z hS hA rfl (rfl : vwCl[6]? = some (RX6, TX6, 25))) rfl rfl hl.1 rfl (lv_room (Nat.le_of_ble_eq_true rfl)) dX6_singlesMany_1 ⟨Nat.zero_le _, Nat.zero_le _⟩) hS (fun H locs Z hS => ?_)
  refine lv_iconst (v := 0) hx hb dX6_singlesMany_4 (by decide) ?_
  refine lv_istore_n (lv' := [(1, .int 0), (0, .ref (ad 16 99))]) hx hb dX6_singlesMany_5 rfl hl (by decide) rfl (fun ls hl => ?_)
  refine lv_iconst (v := 0) hx hb dX6_singlesMany_6 (by decide) ?_
  refine lv_istore_n (lv' := [(2, .int 0), (1, .int 0), (0, .ref (ad 16 99))]) hx hb dX6_singlesMany_7 rfl hl (by decide) rfl (fun ls hl => ?_)
  exact b_X6_singlesMany_8 B h Z hS (lv_sub hl [2, 1, 0] rfl)
set_option maxRecDepth 20000 in
theorem c_X6_singlesMany (l : Launch) {D : va_G} {ad : Nat → Nat → Nat} {rd : Nat → Nat} {ca : Nat → ClassId} {A : Nat → Prop} {σ : wx_St}     {r : Int32} {σ' : wx_St} (h : f_X6_singlesMany σ = some (r, σ')) : wx_M l yX6_singlesMany wsX6_singlesMany 7 156 D ad rd ca A [.ref (ad 16 99)] σ (some (.int r)) σ' := by
  refine Met.ofW (cc := cX6_singlesMany) (maxL := 3) (ret := (some .int)) (by decide +kernel) rfl ?_
  intro p e s m args below meth c s₁ B0 hml hv
  obtain ⟨rfl, hC, Z, hA⟩ := hv
  have hl := lv_entry ([.ref (ad 16 99)]) (n := 3) (Nat.le_of_ble_eq_true rfl)
  rw [lg_entry_eq]
  generalize (lg_sl ([.ref (ad 16 99)]) ++ List.replicate (3 - (lg_sl ([.ref (ad 16 99)])).length) Slot.unset).toArray = ls at hl ⊢
  exact b_X6_singlesMany_0 ⟨B0.exec, B0.bytes, hml, B0.returns, atoms_spec (ws := wsX6_singlesMany) B0.pre, findClass_of_methodNamed B0.named, B0.notSynchronized, hC, hA⟩   h Z va_S.rf hl
set_option maxRecDepth 20000 in
set_option maxHeartbeats 4000000 in
theorem b_X6_thinks_6 (B : wx_B p s m args meth c cX6_thinks 4 none wsX6_thinks RX6 D ad ca A)     {σ' : wx_St}   :
    ∀ {n : Nat} {x1 : Int32} {x2 : Int32} {x3 : Int32} {σ : wx_St}  (h : f_X6_thinks_6 n x1 x2 x3 σ = some ((), σ')) {H : Heap} {locs : List Loc} (Z : wx_Z D ad rd ca A σ H) (hS : va_S A s.heap H locs) {ls : Array Slot} (hl : lv_has ls 4 [(0, .ref (ad 16 99)), (1, .int x1), (2, .int x2), (3, .int x3)]), W p l e ({ frames := 5, cells := 0, slots := 0, locals := 112 } : Room) s m args below meth c H locs 0 0 (MQ below (wx_Q D ad rd ca A none σ') args s 0 0 A) (F0 m 6 ls []) := by
  obtain ⟨hx, hb, hml, hr, hts, hown, hlk, hC, hA⟩ := id B
  intro n
  induction n with
  | zero => intro x1 x2 x3 σ  h H locs Z hS ls hl; exact wx_no h
  | succ n ih =>
    intro x1 x2 x3 σ  h H locs Z hS ls hl
    rw [f_X6_thinks_6] at h
    refine lv_iload_n hx hb dX6_thinks_6 rfl (lv_at hl 3 rfl) ?_
    refine lv_iload_n hx hb dX6_thinks_7 rfl (lv_at hl 2 rfl) ?_
    refine lv_icmp_ge (tgt := 22) hx hb dX6_thinks_8 (by decide) (fun c8 => ?_) (fun c8 => ?_)
    · replace h := wx_ift c8 h
      obtain ⟨-, rfl⟩ := wx_ret_ok h
      exact W.vret hx hb hr (fun t ht hW => ⟨rfl, by rw [ht]; exact Z, hS.F ht⟩) hS.2.2 dX6_thinks_22
    · replace h := wx_iff c8 h
      refine lv_aload_n hx hb dX6_thinks_11 rfl (lv_at hl 0 rfl) ?_
      refine lv_iload_n hx hb dX6_thinks_12 rfl (lv_at hl 1 rfl) ?_
      obtain ⟨v13, σ13, hc13, h⟩ := wx_b_ok h
      refine wx_call (va_runV (As := [.int x1]) (rest := []) ⟨hx, hb, hml, hown, hts⟩ (c_X6_steps l (D := D) (ad := ad) (rd := rd) (ca := ca) (A := A) (σ := σ) hc13) (cwV 1 hts gX6_thinks_X6_steps rfl rfl rfl (by decide +kernel) ⟨Nat.le_of_ble_eq_true rfl, Nat.le_of_ble_eq_true rfl⟩) (wx_preV hC Z hS hA rfl (rfl : vwCl[6]? = some (RX6, TX6, 25))) rfl rfl hl.1 rfl (lv_room (Nat.le_of_ble_eq_true rfl)) dX6_thinks_13 ⟨Nat.zero_le _, Nat.zero_le _⟩) hS (fun H locs Z hS => ?_)
      refine lv_iinc (v := x3 + 1) (lv' := [(3, .int (x3 + 1)), (0, .ref (ad 16 99)), (1, .int x1), (2, .int x2)]) hx hb dX6_thinks_16 hl (k := 3) rfl rfl (by decide) rfl (fun ls hl => ?_)
      refine lv_goto (tgt := 6) hx hb dX6_thinks_19 (by decide) ?_
      exact ih h Z hS (lv_sub hl [1, 2, 3, 0] rfl)
set_option maxRecDepth 20000 in
set_option maxHeartbeats 4000000 in
theorem b_X6_thinks_0 (B : wx_B p s m args meth c cX6_thinks 4 none wsX6_thinks RX6 D ad ca A)     {σ' : wx_St}  {x1 : Int32} {x2 : Int32} {σ : wx_St}  (h : f_X6_thinks x1 x2 σ = some ((), σ')) {H : Heap} {locs : List Loc} (Z : wx_Z D ad rd ca A σ H) (hS : va_S A s.heap H locs) {ls : Array Slot} (hl : lv_has ls 4 [(0, .ref (ad 16 99)), (1, .int x1), (2, .int x2)]) : W p l e ({ frames := 5, cells := 0, slots := 0, locals := 112 } : Room) s m args below meth c H locs 0 0 (MQ below (wx_Q D ad rd ca A none σ') args s 0 0 A) (F0 m 0 ls []) := by
  obtain ⟨hx, hb, hml, hr, hts, hown, hlk, hC, hA⟩ := id B
  unfold f_X6_thinks at h
  refine lv_aload_n hx hb dX6_thinks_0 rfl (lv_at hl 0 rfl) ?_
  obtain ⟨v1, σ1, hc1, h⟩ := wx_b_ok h
  refine wx_call (va_runV (As := []) (rest := []) ⟨hx, hb, hml, hown, hts⟩ (c_X6_coolsThought l (D := D) (ad := ad) (rd := rd) (ca := ca) (A := A) (σ := σ) hc1) (cwV 0 hts gX6_thinks_X6_coolsThought rfl rfl rfl (by decide +kernel) ⟨Nat.le_of_ble_eq_true rfl, Nat.le_of_ble_eq_true rfl⟩) (wx_preV hC Z hS hA rfl (rfl : vwCl[6]? = some (RX6, TX6, 25))) rfl rfl hl.1 rfl (lv_room (Nat.le_of_ble_eq_true rfl)) dX6_thinks_1 ⟨Nat.zero_le _, Nat.zero_le _⟩) hS (fun H locs Z hS => ?_)
  refine lv_iconst (v := 0) hx hb dX6_thinks_4 (by decide) ?_
  refine lv_istore_n (lv' := [(3, .int 0), (0, .ref (ad 16 99)), (1, .int x1), (2, .int x2)]) hx hb dX6_thinks_5 rfl hl (by decide) rfl (fun ls hl => ?_)
  exact b_X6_thinks_6 B h Z hS (lv_sub hl [1, 2, 3, 0] rfl)
set_option maxRecDepth 20000 in
theorem c_X6_thinks (l : Launch) {D : va_G} {ad : Nat → Nat → Nat} {rd : Nat → Nat} {ca : Nat → ClassId} {A : Nat → Prop} {σ : wx_St}    {x1 : Int32} {x2 : Int32}  {σ' : wx_St} (h : f_X6_thinks x1 x2 σ = some ((), σ')) : wx_M l yX6_thinks wsX6_thinks 5 112 D ad rd ca A [.ref (ad 16 99), .int x1, .int x2] σ none σ' := by
  refine Met.ofW (cc := cX6_thinks) (maxL := 4) (ret := none) (by decide +kernel) rfl ?_
  intro p e s m args below meth c s₁ B0 hml hv
  obtain ⟨rfl, hC, Z, hA⟩ := hv
  have hl := lv_entry ([.ref (ad 16 99), .int x1, .int x2]) (n := 4) (Nat.le_of_ble_eq_true rfl)
  rw [lg_entry_eq]
  generalize (lg_sl ([.ref (ad 16 99), .int x1, .int x2]) ++ List.replicate (4 - (lg_sl ([.ref (ad 16 99), .int x1, .int x2])).length) Slot.unset).toArray = ls at hl ⊢
  exact b_X6_thinks_0 ⟨B0.exec, B0.bytes, hml, B0.returns, atoms_spec (ws := wsX6_thinks) B0.pre, findClass_of_methodNamed B0.named, B0.notSynchronized, hC, hA⟩   h Z va_S.rf hl
theorem i_X6_unlikeAt_6 : ∀ w ∈ wsX60, w ∈ wsX6_unlikeAt := by decide +kernel
theorem k_X6_unlikeAt_w0 : Cond.fieldLink RX6 47 "WarmProbesModel" "single" "[I" ∈ wsX6_unlikeAt := by decide +kernel
theorem k_X6_unlikeAt_w1 : Cond.fieldLink RX6 53 "WarmProbesModel" "reads" "[I" ∈ wsX6_unlikeAt := by decide +kernel
set_option maxRecDepth 20000 in
set_option maxHeartbeats 4000000 in
theorem b_X6_unlikeAt_82 (B : wx_B p s m args meth c cX6_unlikeAt 6 (some .int) wsX6_unlikeAt RX6 D ad ca A)    {r : Int32} {σ : wx_St} {K4 : Int32 → Int32 → Int32 → wx_St → Option Int32} (hK4 : ∀ {x1 : Int32} {x2 : Int32} {x3 : Int32}   (h : K4 x1 x2 x3 σ = some r) {H : Heap} {locs : List Loc} (Z : wx_Z D ad rd ca A σ H) (hS : va_S A s.heap H locs) {ls : Array Slot} (hl : lv_has ls 6 [(0, .ref (ad 16 99)), (1, .int x1), (2, .int x2), (3, .int x3)]), W p l e ({ frames := 0, cells := 0, slots := 0, locals := 0 } : Room) s m args below meth c H locs 0 0 (MQ below (wx_Q D ad rd ca A (some (.int r)) σ) args s 0 0 A) (F0 m 4 ls [])) {K30 : Int32 → Int32 → Int32 → Int32 → Int32 → wx_St → Option Int32} (hK30 : ∀ {x1 : Int32} {x2 : Int32} {x3 : Int32} {x4 : Int32} {x5 : Int32}   (h : K30 x1 x2 x3 x4 x5 σ = some r) {H : Heap} {locs : List Loc} (Z : wx_Z D ad rd ca A σ H) (hS : va_S A s.heap H locs) {ls : Array Slot} (hl : lv_has ls 6 [(0, .ref (ad 16 99)), (1, .int x1), (2, .int x2), (3, .int x3), (4, .int x4), (5, .int x5)]), W p l e ({ frames := 0, cells := 0, slots := 0, locals := 0 } : Room) s m args below meth c H locs 0 0 (MQ below (wx_Q D ad rd ca A (some (.int r)) σ) args s 0 0 A) (F0 m 30 ls [])) {x1 : Int32} {x2 : Int32} {x3 : Int32} {x4 : Int32} {x5 : Int32} {y0 : Int32}   (h : f_X6_unlikeAt_82 K4 K30 x1 x2 x3 x4 x5 y0 σ = some r) {H : Heap} {locs : List Loc} (Z : wx_Z D ad rd ca A σ H) (hS : va_S A s.heap H locs) {ls : Array Slot} (hl : lv_has ls 6 [(0, .ref (ad 16 99)), (1, .int x1), (2, .int x2), (3, .int x3), (4, .int x4), (5, .int x5)]) : W p l e ({ frames := 0, cells := 0, slots := 0, locals := 0 } : Room) s m args below meth c H locs 0 0 (MQ below (wx_Q D ad rd ca A (some (.int r)) σ) args s 0 0 A) (F0 m 82 ls [.int y0]) := by
  obtain ⟨hx, hb, hml, hr, hts, hown, hlk, hC, hA⟩ := id B
  unfold f_X6_unlikeAt_82 at h
  refine lv_istore (lv' := [(4, .int y0), (0, .ref (ad 16 99)), (1, .int x1), (2, .int x2), (3, .int x3), (5, .int x5)]) hx hb dX6_unlikeAt_82 hl (by decide) rfl (fun ls hl => ?_)
  refine lv_iinc (v := x5 + 1) (lv' := [(5, .int (x5 + 1)), (4, .int y0), (0, .ref (ad 16 99)), (1, .int x1), (2, .int x2), (3, .int x3)]) hx hb dX6_unlikeAt_84 hl (k := 5) rfl rfl (by decide) rfl (fun ls hl => ?_)
  refine lv_goto (tgt := 30) hx hb dX6_unlikeAt_87 (by decide) ?_
  exact hK30 h Z hS (lv_sub hl [2, 3, 4, 5, 1, 0] rfl)
set_option maxRecDepth 20000 in
set_option maxHeartbeats 4000000 in
theorem b_X6_unlikeAt_77 (B : wx_B p s m args meth c cX6_unlikeAt 6 (some .int) wsX6_unlikeAt RX6 D ad ca A)    {r : Int32} {σ : wx_St} {K4 : Int32 → Int32 → Int32 → wx_St → Option Int32} (hK4 : ∀ {x1 : Int32} {x2 : Int32} {x3 : Int32}   (h : K4 x1 x2 x3 σ = some r) {H : Heap} {locs : List Loc} (Z : wx_Z D ad rd ca A σ H) (hS : va_S A s.heap H locs) {ls : Array Slot} (hl : lv_has ls 6 [(0, .ref (ad 16 99)), (1, .int x1), (2, .int x2), (3, .int x3)]), W p l e ({ frames := 0, cells := 0, slots := 0, locals := 0 } : Room) s m args below meth c H locs 0 0 (MQ below (wx_Q D ad rd ca A (some (.int r)) σ) args s 0 0 A) (F0 m 4 ls [])) {K30 : Int32 → Int32 → Int32 → Int32 → Int32 → wx_St → Option Int32} (hK30 : ∀ {x1 : Int32} {x2 : Int32} {x3 : Int32} {x4 : Int32} {x5 : Int32}   (h : K30 x1 x2 x3 x4 x5 σ = some r) {H : Heap} {locs : List Loc} (Z : wx_Z D ad rd ca A σ H) (hS : va_S A s.heap H locs) {ls : Array Slot} (hl : lv_has ls 6 [(0, .ref (ad 16 99)), (1, .int x1), (2, .int x2), (3, .int x3), (4, .int x4), (5, .int x5)]), W p l e ({ frames := 0, cells := 0, slots := 0, locals := 0 } : Room) s m args below meth c H locs 0 0 (MQ below (wx_Q D ad rd ca A (some (.int r)) σ) args s 0 0 A) (F0 m 30 ls [])) {x1 : Int32} {x2 : Int32} {x3 : Int32} {x4 : Int32} {x5 : Int32}   (h : f_X6_unlikeAt_77 K4 K30 x1 x2 x3 x4 x5 σ = some r) {H : Heap} {locs : List Loc} (Z : wx_Z D ad rd ca A σ H) (hS : va_S A s.heap H locs) {ls : Array Slot} (hl : lv_has ls 6 [(0, .ref (ad 16 99)), (1, .int x1), (2, .int x2), (3, .int x3), (4, .int x4), (5, .int x5)]) : W p l e ({ frames := 0, cells := 0, slots := 0, locals := 0 } : Room) s m args below meth c H locs 0 0 (MQ below (wx_Q D ad rd ca A (some (.int r)) σ) args s 0 0 A) (F0 m 77 ls []) := by
  obtain ⟨hx, hb, hml, hr, hts, hown, hlk, hC, hA⟩ := id B
  unfold f_X6_unlikeAt_77 at h
  refine lv_iconst (v := 1) hx hb dX6_unlikeAt_77 (by decide) ?_
  refine lv_goto (tgt := 82) hx hb dX6_unlikeAt_78 (by decide) ?_
  exact b_X6_unlikeAt_82 B (K4 := K4) @hK4 (K30 := K30) @hK30 h Z hS (lv_sub hl [0, 1, 2, 3, 4, 5] rfl)
set_option maxRecDepth 20000 in
set_option maxHeartbeats 4000000 in
theorem b_X6_unlikeAt_101 (B : wx_B p s m args meth c cX6_unlikeAt 6 (some .int) wsX6_unlikeAt RX6 D ad ca A)    {r : Int32} {σ : wx_St} {K4 : Int32 → Int32 → Int32 → wx_St → Option Int32} (hK4 : ∀ {x1 : Int32} {x2 : Int32} {x3 : Int32}   (h : K4 x1 x2 x3 σ = some r) {H : Heap} {locs : List Loc} (Z : wx_Z D ad rd ca A σ H) (hS : va_S A s.heap H locs) {ls : Array Slot} (hl : lv_has ls 6 [(0, .ref (ad 16 99)), (1, .int x1), (2, .int x2), (3, .int x3)]), W p l e ({ frames := 0, cells := 0, slots := 0, locals := 0 } : Room) s m args below meth c H locs 0 0 (MQ below (wx_Q D ad rd ca A (some (.int r)) σ) args s 0 0 A) (F0 m 4 ls [])) {x1 : Int32} {x2 : Int32} {x3 : Int32} {x4 : Int32} {x5 : Int32} {y0 : Int32} {y1 : Int32}   (h : f_X6_unlikeAt_101 K4 x1 x2 x3 x4 x5 y0 y1 σ = some r) {H : Heap} {locs : List Loc} (Z : wx_Z D ad rd ca A σ H) (hS : va_S A s.heap H locs) {ls : Array Slot} (hl : lv_has ls 6 [(0, .ref (ad 16 99)), (1, .int x1), (2, .int x2), (3, .int x3), (4, .int x4), (5, .int x5)]) : W p l e ({ frames := 0, cells := 0, slots := 0, locals := 0 } : Room) s m args below meth c H locs 0 0 (MQ below (wx_Q D ad rd ca A (some (.int r)) σ) args s 0 0 A) (F0 m 101 ls [.int y1, .int y0]) := by
  obtain ⟨hx, hb, hml, hr, hts, hown, hlk, hC, hA⟩ := id B
  unfold f_X6_unlikeAt_101 at h
  refine lv_iadd hx hb dX6_unlikeAt_101 ?_
  refine lv_istore_n (lv' := [(2, .int (y0 + y1)), (0, .ref (ad 16 99)), (1, .int x1), (3, .int x3), (4, .int x4), (5, .int x5)]) hx hb dX6_unlikeAt_102 rfl hl (by decide) rfl (fun ls hl => ?_)
  refine lv_iinc (v := x3 + 1) (lv' := [(3, .int (x3 + 1)), (2, .int (y0 + y1)), (0, .ref (ad 16 99)), (1, .int x1), (4, .int x4), (5, .int x5)]) hx hb dX6_unlikeAt_103 hl (k := 3) rfl rfl (by decide) rfl (fun ls hl => ?_)
  refine lv_goto (tgt := 4) hx hb dX6_unlikeAt_106 (by decide) ?_
  exact hK4 h Z hS (lv_sub hl [2, 3, 1, 0] rfl)
set_option maxRecDepth 20000 in
set_option maxHeartbeats 4000000 in
theorem b_X6_unlikeAt_90 (B : wx_B p s m args meth c cX6_unlikeAt 6 (some .int) wsX6_unlikeAt RX6 D ad ca A)    {r : Int32} {σ : wx_St} {K4 : Int32 → Int32 → Int32 → wx_St → Option Int32} (hK4 : ∀ {x1 : Int32} {x2 : Int32} {x3 : Int32}   (h : K4 x1 x2 x3 σ = some r) {H : Heap} {locs : List Loc} (Z : wx_Z D ad rd ca A σ H) (hS : va_S A s.heap H locs) {ls : Array Slot} (hl : lv_has ls 6 [(0, .ref (ad 16 99)), (1, .int x1), (2, .int x2), (3, .int x3)]), W p l e ({ frames := 0, cells := 0, slots := 0, locals := 0 } : Room) s m args below meth c H locs 0 0 (MQ below (wx_Q D ad rd ca A (some (.int r)) σ) args s 0 0 A) (F0 m 4 ls [])) {x1 : Int32} {x2 : Int32} {x3 : Int32} {x4 : Int32} {x5 : Int32}   (h : f_X6_unlikeAt_90 K4 x1 x2 x3 x4 x5 σ = some r) {H : Heap} {locs : List Loc} (Z : wx_Z D ad rd ca A σ H) (hS : va_S A s.heap H locs) {ls : Array Slot} (hl : lv_has ls 6 [(0, .ref (ad 16 99)), (1, .int x1), (2, .int x2), (3, .int x3), (4, .int x4), (5, .int x5)]) : W p l e ({ frames := 0, cells := 0, slots := 0, locals := 0 } : Room) s m args below meth c H locs 0 0 (MQ below (wx_Q D ad rd ca A (some (.int r)) σ) args s 0 0 A) (F0 m 90 ls []) := by
  obtain ⟨hx, hb, hml, hr, hts, hown, hlk, hC, hA⟩ := id B
  unfold f_X6_unlikeAt_90 at h
  refine lv_iload_n hx hb dX6_unlikeAt_90 rfl (lv_at hl 2 rfl) ?_
  refine lv_iload hx hb dX6_unlikeAt_91 (lv_at hl 4 rfl) ?_
  refine lv_if_eq (tgt := 100) hx hb dX6_unlikeAt_93 (by decide) (fun c93 => ?_) (fun c93 => ?_)
  · replace h := wx_ift c93 h
    refine lv_iconst (v := 0) hx hb dX6_unlikeAt_100 (by decide) ?_
    exact b_X6_unlikeAt_101 B (K4 := K4) @hK4 h Z hS (lv_sub hl [0, 1, 2, 3, 4, 5] rfl)
  · replace h := wx_iff c93 h
    refine lv_iconst (v := 1) hx hb dX6_unlikeAt_96 (by decide) ?_
    refine lv_goto (tgt := 101) hx hb dX6_unlikeAt_97 (by decide) ?_
    exact b_X6_unlikeAt_101 B (K4 := K4) @hK4 h Z hS (lv_sub hl [0, 1, 2, 3, 4, 5] rfl)
set_option maxRecDepth 20000 in
set_option maxHeartbeats 4000000 in
theorem b_X6_unlikeAt_30 (B : wx_B p s m args meth c cX6_unlikeAt 6 (some .int) wsX6_unlikeAt RX6 D ad ca A)    {r : Int32} {σ : wx_St} {K4 : Int32 → Int32 → Int32 → wx_St → Option Int32} (hK4 : ∀ {x1 : Int32} {x2 : Int32} {x3 : Int32}   (h : K4 x1 x2 x3 σ = some r) {H : Heap} {locs : List Loc} (Z : wx_Z D ad rd ca A σ H) (hS : va_S A s.heap H locs) {ls : Array Slot} (hl : lv_has ls 6 [(0, .ref (ad 16 99)), (1, .int x1), (2, .int x2), (3, .int x3)]), W p l e ({ frames := 0, cells := 0, slots := 0, locals := 0 } : Room) s m args below meth c H locs 0 0 (MQ below (wx_Q D ad rd ca A (some (.int r)) σ) args s 0 0 A) (F0 m 4 ls []))  :
    ∀ {n : Nat} {x1 : Int32} {x2 : Int32} {x3 : Int32} {x4 : Int32} {x5 : Int32}   (h : f_X6_unlikeAt_30 K4 n x1 x2 x3 x4 x5 σ = some r) {H : Heap} {locs : List Loc} (Z : wx_Z D ad rd ca A σ H) (hS : va_S A s.heap H locs) {ls : Array Slot} (hl : lv_has ls 6 [(0, .ref (ad 16 99)), (1, .int x1), (2, .int x2), (3, .int x3), (4, .int x4), (5, .int x5)]), W p l e ({ frames := 0, cells := 0, slots := 0, locals := 0 } : Room) s m args below meth c H locs 0 0 (MQ below (wx_Q D ad rd ca A (some (.int r)) σ) args s 0 0 A) (F0 m 30 ls []) := by
  obtain ⟨hx, hb, hml, hr, hts, hown, hlk, hC, hA⟩ := id B
  intro n
  induction n with
  | zero => intro x1 x2 x3 x4 x5   h H locs Z hS ls hl; exact wx_no h
  | succ n ih =>
    intro x1 x2 x3 x4 x5   h H locs Z hS ls hl
    rw [f_X6_unlikeAt_30] at h
    refine lv_iload hx hb dX6_unlikeAt_30 (lv_at hl 5 rfl) ?_
    refine lv_iload_n hx hb dX6_unlikeAt_32 rfl (lv_at hl 3 rfl) ?_
    refine lv_icmp_ge (tgt := 90) hx hb dX6_unlikeAt_33 (by decide) (fun c33 => ?_) (fun c33 => ?_)
    · replace h := wx_ift c33 h
      exact b_X6_unlikeAt_90 B (K4 := K4) @hK4 h Z hS (lv_sub hl [0, 1, 2, 3, 4, 5] rfl)
    · replace h := wx_iff c33 h
      refine lv_iload hx hb dX6_unlikeAt_36 (lv_at hl 4 rfl) ?_
      refine lv_if_eq (tgt := 90) hx hb dX6_unlikeAt_38 (by decide) (fun c38 => ?_) (fun c38 => ?_)
      · replace h := wx_ift c38 h
        exact b_X6_unlikeAt_90 B (K4 := K4) @hK4 h Z hS (lv_sub hl [0, 1, 2, 3, 4, 5] rfl)
      · replace h := wx_iff c38 h
        refine lv_aload_n hx hb dX6_unlikeAt_41 rfl (lv_at hl 0 rfl) ?_
        refine wx_get (own := RX6) hx hb hts i_X6_unlikeAt_6 hown hC.1 Z (o := 16) (ci := 6) rfl (rfl : vwCl[6]? = some (RX6, TX6, 25)) 14 (by decide) (hts _ k_X6_unlikeAt_w0) (fun _ h9 => h9) (f := 0) rfl rfl dX6_unlikeAt_42 ?_
        refine lv_iload hx hb dX6_unlikeAt_45 (lv_at hl 5 rfl) ?_
        obtain ⟨v47, ev47, iv47, h⟩ := wx_rI_ok h
        refine wx_iald hx hb hC.1 Z (o := 16) (k := 14) (n := 64) rfl rfl iv47 dX6_unlikeAt_47 ev47 ?_
        refine lv_if_eq (tgt := 77) hx hb dX6_unlikeAt_48 (by decide) (fun c48 => ?_) (fun c48 => ?_)
        · replace h := wx_ift c48 h
          exact b_X6_unlikeAt_77 B (K4 := K4) @hK4 (K30 := (f_X6_unlikeAt_30 K4 n)) @ih h Z hS (lv_sub hl [0, 1, 2, 3, 4, 5] rfl)
        · replace h := wx_iff c48 h
          refine lv_aload_n hx hb dX6_unlikeAt_51 rfl (lv_at hl 0 rfl) ?_
          refine wx_get (own := RX6) hx hb hts i_X6_unlikeAt_6 hown hC.1 Z (o := 16) (ci := 6) rfl (rfl : vwCl[6]? = some (RX6, TX6, 25)) 17 (by decide) (hts _ k_X6_unlikeAt_w1) (fun _ h9 => h9) (f := 0) rfl rfl dX6_unlikeAt_52 ?_
          refine lv_bipush (v := 64) hx hb dX6_unlikeAt_55 (by decide) ?_
          refine lv_iload hx hb dX6_unlikeAt_57 (lv_at hl 5 rfl) ?_
          refine lv_imul hx hb dX6_unlikeAt_59 ?_
          refine lv_iload_n hx hb dX6_unlikeAt_60 rfl (lv_at hl 1 rfl) ?_
          refine lv_iadd hx hb dX6_unlikeAt_61 ?_
          obtain ⟨v62, ev62, iv62, h⟩ := wx_rI_ok h
          refine wx_iald hx hb hC.1 Z (o := 16) (k := 17) (n := 4096) rfl rfl iv62 dX6_unlikeAt_62 ev62 ?_
          refine lv_aload_n hx hb dX6_unlikeAt_63 rfl (lv_at hl 0 rfl) ?_
          refine wx_get (own := RX6) hx hb hts i_X6_unlikeAt_6 hown hC.1 Z (o := 16) (ci := 6) rfl (rfl : vwCl[6]? = some (RX6, TX6, 25)) 17 (by decide) (hts _ k_X6_unlikeAt_w1) (fun _ h9 => h9) (f := 0) rfl rfl dX6_unlikeAt_64 ?_
          refine lv_bipush (v := 64) hx hb dX6_unlikeAt_67 (by decide) ?_
          refine lv_iload_n hx hb dX6_unlikeAt_69 rfl (lv_at hl 3 rfl) ?_
          refine lv_imul hx hb dX6_unlikeAt_70 ?_
          refine lv_iload_n hx hb dX6_unlikeAt_71 rfl (lv_at hl 1 rfl) ?_
          refine lv_iadd hx hb dX6_unlikeAt_72 ?_
          obtain ⟨v73, ev73, iv73, h⟩ := wx_rI_ok h
          refine wx_iald hx hb hC.1 Z (o := 16) (k := 17) (n := 4096) rfl rfl iv73 dX6_unlikeAt_73 ev73 ?_
          refine lv_icmp_eq (tgt := 81) hx hb dX6_unlikeAt_74 (by decide) (fun c74 => ?_) (fun c74 => ?_)
          · replace h := wx_ift c74 h
            refine lv_iconst (v := 0) hx hb dX6_unlikeAt_81 (by decide) ?_
            exact b_X6_unlikeAt_82 B (K4 := K4) @hK4 (K30 := (f_X6_unlikeAt_30 K4 n)) @ih h Z hS (lv_sub hl [0, 1, 2, 3, 4, 5] rfl)
          · replace h := wx_iff c74 h
            exact b_X6_unlikeAt_77 B (K4 := K4) @hK4 (K30 := (f_X6_unlikeAt_30 K4 n)) @ih h Z hS (lv_sub hl [0, 1, 2, 3, 4, 5] rfl)
set_option maxRecDepth 20000 in
set_option maxHeartbeats 4000000 in
theorem b_X6_unlikeAt_25 (B : wx_B p s m args meth c cX6_unlikeAt 6 (some .int) wsX6_unlikeAt RX6 D ad ca A)    {r : Int32} {σ : wx_St} {K4 : Int32 → Int32 → Int32 → wx_St → Option Int32} (hK4 : ∀ {x1 : Int32} {x2 : Int32} {x3 : Int32}   (h : K4 x1 x2 x3 σ = some r) {H : Heap} {locs : List Loc} (Z : wx_Z D ad rd ca A σ H) (hS : va_S A s.heap H locs) {ls : Array Slot} (hl : lv_has ls 6 [(0, .ref (ad 16 99)), (1, .int x1), (2, .int x2), (3, .int x3)]), W p l e ({ frames := 0, cells := 0, slots := 0, locals := 0 } : Room) s m args below meth c H locs 0 0 (MQ below (wx_Q D ad rd ca A (some (.int r)) σ) args s 0 0 A) (F0 m 4 ls [])) {x1 : Int32} {x2 : Int32} {x3 : Int32} {y0 : Int32}   (h : f_X6_unlikeAt_25 K4 x1 x2 x3 y0 σ = some r) {H : Heap} {locs : List Loc} (Z : wx_Z D ad rd ca A σ H) (hS : va_S A s.heap H locs) {ls : Array Slot} (hl : lv_has ls 6 [(0, .ref (ad 16 99)), (1, .int x1), (2, .int x2), (3, .int x3)]) : W p l e ({ frames := 0, cells := 0, slots := 0, locals := 0 } : Room) s m args below meth c H locs 0 0 (MQ below (wx_Q D ad rd ca A (some (.int r)) σ) args s 0 0 A) (F0 m 25 ls [.int y0]) := by
  obtain ⟨hx, hb, hml, hr, hts, hown, hlk, hC, hA⟩ := id B
  unfold f_X6_unlikeAt_25 at h
  refine lv_istore (lv' := [(4, .int y0), (0, .ref (ad 16 99)), (1, .int x1), (2, .int x2), (3, .int x3)]) hx hb dX6_unlikeAt_25 hl (by decide) rfl (fun ls hl => ?_)
  refine lv_iconst (v := 0) hx hb dX6_unlikeAt_27 (by decide) ?_
  refine lv_istore (lv' := [(5, .int 0), (4, .int y0), (0, .ref (ad 16 99)), (1, .int x1), (2, .int x2), (3, .int x3)]) hx hb dX6_unlikeAt_28 hl (by decide) rfl (fun ls hl => ?_)
  exact b_X6_unlikeAt_30 B (K4 := K4) @hK4 h Z hS (lv_sub hl [2, 3, 4, 5, 1, 0] rfl)
set_option maxRecDepth 20000 in
set_option maxHeartbeats 4000000 in
theorem b_X6_unlikeAt_4 (B : wx_B p s m args meth c cX6_unlikeAt 6 (some .int) wsX6_unlikeAt RX6 D ad ca A)    {r : Int32} {σ : wx_St}   :
    ∀ {n : Nat} {x1 : Int32} {x2 : Int32} {x3 : Int32}   (h : f_X6_unlikeAt_4 n x1 x2 x3 σ = some r) {H : Heap} {locs : List Loc} (Z : wx_Z D ad rd ca A σ H) (hS : va_S A s.heap H locs) {ls : Array Slot} (hl : lv_has ls 6 [(0, .ref (ad 16 99)), (1, .int x1), (2, .int x2), (3, .int x3)]), W p l e ({ frames := 0, cells := 0, slots := 0, locals := 0 } : Room) s m args below meth c H locs 0 0 (MQ below (wx_Q D ad rd ca A (some (.int r)) σ) args s 0 0 A) (F0 m 4 ls []) := by
  obtain ⟨hx, hb, hml, hr, hts, hown, hlk, hC, hA⟩ := id B
  intro n
  induction n with
  | zero => intro x1 x2 x3   h H locs Z hS ls hl; exact wx_no h
  | succ n ih =>
    intro x1 x2 x3   h H locs Z hS ls hl
    rw [f_X6_unlikeAt_4] at h
    refine lv_iload_n hx hb dX6_unlikeAt_4 rfl (lv_at hl 3 rfl) ?_
    refine lv_bipush (v := 64) hx hb dX6_unlikeAt_5 (by decide) ?_
    refine lv_icmp_ge (tgt := 109) hx hb dX6_unlikeAt_7 (by decide) (fun c7 => ?_) (fun c7 => ?_)
    · replace h := wx_ift c7 h
      refine lv_iload_n hx hb dX6_unlikeAt_109 rfl (lv_at hl 2 rfl) ?_
      obtain rfl := Option.some.inj h
      exact W.iret hx hb hr (fun t ht hW => ⟨rfl, by rw [ht]; exact Z, hS.F ht⟩) hS.2.2 dX6_unlikeAt_110
    · replace h := wx_iff c7 h
      refine lv_aload_n hx hb dX6_unlikeAt_10 rfl (lv_at hl 0 rfl) ?_
      refine wx_get (own := RX6) hx hb hts i_X6_unlikeAt_6 hown hC.1 Z (o := 16) (ci := 6) rfl (rfl : vwCl[6]? = some (RX6, TX6, 25)) 14 (by decide) (hts _ k_X6_unlikeAt_w0) (fun _ h9 => h9) (f := 0) rfl rfl dX6_unlikeAt_11 ?_
      refine lv_iload_n hx hb dX6_unlikeAt_14 rfl (lv_at hl 3 rfl) ?_
      obtain ⟨v15, ev15, iv15, h⟩ := wx_rI_ok h
      refine wx_iald hx hb hC.1 Z (o := 16) (k := 14) (n := 64) rfl rfl iv15 dX6_unlikeAt_15 ev15 ?_
      refine lv_iconst (v := 1) hx hb dX6_unlikeAt_16 (by decide) ?_
      refine lv_icmp_ne (tgt := 24) hx hb dX6_unlikeAt_17 (by decide) (fun c17 => ?_) (fun c17 => ?_)
      · replace h := wx_iff c17 h
        refine lv_iconst (v := 0) hx hb dX6_unlikeAt_24 (by decide) ?_
        exact b_X6_unlikeAt_25 B (K4 := (f_X6_unlikeAt_4 n)) @ih h Z hS (lv_sub hl [0, 1, 2, 3] rfl)
      · replace h := wx_ift c17 h
        refine lv_iconst (v := 1) hx hb dX6_unlikeAt_20 (by decide) ?_
        refine lv_goto (tgt := 25) hx hb dX6_unlikeAt_21 (by decide) ?_
        exact b_X6_unlikeAt_25 B (K4 := (f_X6_unlikeAt_4 n)) @ih h Z hS (lv_sub hl [0, 1, 2, 3] rfl)
set_option maxRecDepth 20000 in
set_option maxHeartbeats 4000000 in
theorem b_X6_unlikeAt_0 (B : wx_B p s m args meth c cX6_unlikeAt 6 (some .int) wsX6_unlikeAt RX6 D ad ca A)    {r : Int32} {σ : wx_St}  {x1 : Int32}   (h : f_X6_unlikeAt x1 σ = some r) {H : Heap} {locs : List Loc} (Z : wx_Z D ad rd ca A σ H) (hS : va_S A s.heap H locs) {ls : Array Slot} (hl : lv_has ls 6 [(0, .ref (ad 16 99)), (1, .int x1)]) : W p l e ({ frames := 0, cells := 0, slots := 0, locals := 0 } : Room) s m args below meth c H locs 0 0 (MQ below (wx_Q D ad rd ca A (some (.int r)) σ) args s 0 0 A) (F0 m 0 ls []) := by
  obtain ⟨hx, hb, hml, hr, hts, hown, hlk, hC, hA⟩ := id B
  unfold f_X6_unlikeAt at h
  refine lv_iconst (v := 0) hx hb dX6_unlikeAt_0 (by decide) ?_
  refine lv_istore_n (lv' := [(2, .int 0), (0, .ref (ad 16 99)), (1, .int x1)]) hx hb dX6_unlikeAt_1 rfl hl (by decide) rfl (fun ls hl => ?_)
  refine lv_iconst (v := 0) hx hb dX6_unlikeAt_2 (by decide) ?_
  refine lv_istore_n (lv' := [(3, .int 0), (2, .int 0), (0, .ref (ad 16 99)), (1, .int x1)]) hx hb dX6_unlikeAt_3 rfl hl (by decide) rfl (fun ls hl => ?_)
  exact b_X6_unlikeAt_4 B h Z hS (lv_sub hl [2, 3, 1, 0] rfl)
set_option maxRecDepth 20000 in
theorem c_X6_unlikeAt (l : Launch) {D : va_G} {ad : Nat → Nat → Nat} {rd : Nat → Nat} {ca : Nat → ClassId} {A : Nat → Prop} {σ : wx_St}    {x1 : Int32} {r : Int32} (h : f_X6_unlikeAt x1 σ = some r) : wx_M l yX6_unlikeAt wsX6_unlikeAt 0 0 D ad rd ca A [.ref (ad 16 99), .int x1] σ (some (.int r)) σ := by
  refine Met.ofW (cc := cX6_unlikeAt) (maxL := 6) (ret := (some .int)) (by decide +kernel) rfl ?_
  intro p e s m args below meth c s₁ B0 hml hv
  obtain ⟨rfl, hC, Z, hA⟩ := hv
  have hl := lv_entry ([.ref (ad 16 99), .int x1]) (n := 6) (Nat.le_of_ble_eq_true rfl)
  rw [lg_entry_eq]
  generalize (lg_sl ([.ref (ad 16 99), .int x1]) ++ List.replicate (6 - (lg_sl ([.ref (ad 16 99), .int x1])).length) Slot.unset).toArray = ls at hl ⊢
  exact b_X6_unlikeAt_0 ⟨B0.exec, B0.bytes, hml, B0.returns, atoms_spec (ws := wsX6_unlikeAt) B0.pre, findClass_of_methodNamed B0.named, B0.notSynchronized, hC, hA⟩   h Z va_S.rf hl
theorem i_X6_bestProbe_6 : ∀ w ∈ wsX60, w ∈ wsX6_bestProbe := by decide +kernel
theorem k_X6_bestProbe_w0 : Cond.fieldLink RX6 238 "WarmProbesModel" "bestMany" "I" ∈ wsX6_bestProbe := by decide +kernel
theorem k_X6_bestProbe_w1 : Cond.fieldLink RX6 47 "WarmProbesModel" "single" "[I" ∈ wsX6_bestProbe := by decide +kernel
theorem k_X6_bestProbe_w2 : Cond.fieldLink RX6 7 "WarmProbesModel" "state" "[I" ∈ wsX6_bestProbe := by decide +kernel
theorem k_X6_bestProbe_w3 : Cond.fieldLink RX6 244 "WarmProbesModel" "bestPlace" "I" ∈ wsX6_bestProbe := by decide +kernel
theorem k_X6_bestProbe_w4 : Cond.fieldLink RX6 53 "WarmProbesModel" "reads" "[I" ∈ wsX6_bestProbe := by decide +kernel
theorem k_X6_bestProbe_w5 : Cond.fieldLink RX6 35 "WarmProbesModel" "thought" "[F" ∈ wsX6_bestProbe := by decide +kernel
set_option maxRecDepth 20000 in
set_option maxHeartbeats 4000000 in
theorem b_X6_bestProbe_86 (B : wx_B p s m args meth c cX6_bestProbe 4 (some .int) wsX6_bestProbe RX6 D ad ca A)    {r : Int32} {σ' : wx_St} {K25 : Int32 → Int32 → wx_St → Option (Int32 × wx_St)} (hK25 : ∀ {x1 : Int32} {x2 : Int32} {σ : wx_St}  (h : K25 x1 x2 σ = some (r, σ')) {H : Heap} {locs : List Loc} (Z : wx_Z D ad rd ca A σ H) (hS : va_S A s.heap H locs) {ls : Array Slot} (hl : lv_has ls 4 [(0, .ref (ad 16 99)), (1, .int x1), (2, .int x2)]), W p l e ({ frames := 8, cells := 0, slots := 0, locals := 178 } : Room) s m args below meth c H locs 0 0 (MQ below (wx_Q D ad rd ca A (some (.int r)) σ') args s 0 0 A) (F0 m 25 ls [])) {x1 : Int32} {x2 : Int32} {σ : wx_St}  (h : f_X6_bestProbe_86 K25 x1 x2 σ = some (r, σ')) {H : Heap} {locs : List Loc} (Z : wx_Z D ad rd ca A σ H) (hS : va_S A s.heap H locs) {ls : Array Slot} (hl : lv_has ls 4 [(0, .ref (ad 16 99)), (1, .int x1), (2, .int x2)]) : W p l e ({ frames := 8, cells := 0, slots := 0, locals := 178 } : Room) s m args below meth c H locs 0 0 (MQ below (wx_Q D ad rd ca A (some (.int r)) σ') args s 0 0 A) (F0 m 86 ls []) := by
  obtain ⟨hx, hb, hml, hr, hts, hown, hlk, hC, hA⟩ := id B
  unfold f_X6_bestProbe_86 at h
  refine lv_iinc (v := x2 + 1) (lv' := [(2, .int (x2 + 1)), (0, .ref (ad 16 99)), (1, .int x1)]) hx hb dX6_bestProbe_86 hl (k := 2) rfl rfl (by decide) rfl (fun ls hl => ?_)
  refine lv_goto (tgt := 25) hx hb dX6_bestProbe_89 (by decide) ?_
  exact hK25 h Z hS (lv_sub hl [1, 2, 0] rfl)
set_option maxRecDepth 20000 in
set_option maxHeartbeats 4000000 in
theorem b_X6_bestProbe_54 (B : wx_B p s m args meth c cX6_bestProbe 4 (some .int) wsX6_bestProbe RX6 D ad ca A)    {r : Int32} {σ' : wx_St} {K25 : Int32 → Int32 → wx_St → Option (Int32 × wx_St)} (hK25 : ∀ {x1 : Int32} {x2 : Int32} {σ : wx_St}  (h : K25 x1 x2 σ = some (r, σ')) {H : Heap} {locs : List Loc} (Z : wx_Z D ad rd ca A σ H) (hS : va_S A s.heap H locs) {ls : Array Slot} (hl : lv_has ls 4 [(0, .ref (ad 16 99)), (1, .int x1), (2, .int x2)]), W p l e ({ frames := 8, cells := 0, slots := 0, locals := 178 } : Room) s m args below meth c H locs 0 0 (MQ below (wx_Q D ad rd ca A (some (.int r)) σ') args s 0 0 A) (F0 m 25 ls []))  :
    ∀ {n : Nat} {x1 : Int32} {x2 : Int32} {x3 : Int32} {σ : wx_St}  (h : f_X6_bestProbe_54 K25 n x1 x2 x3 σ = some (r, σ')) {H : Heap} {locs : List Loc} (Z : wx_Z D ad rd ca A σ H) (hS : va_S A s.heap H locs) {ls : Array Slot} (hl : lv_has ls 4 [(0, .ref (ad 16 99)), (1, .int x1), (2, .int x2), (3, .int x3)]), W p l e ({ frames := 8, cells := 0, slots := 0, locals := 178 } : Room) s m args below meth c H locs 0 0 (MQ below (wx_Q D ad rd ca A (some (.int r)) σ') args s 0 0 A) (F0 m 54 ls []) := by
  obtain ⟨hx, hb, hml, hr, hts, hown, hlk, hC, hA⟩ := id B
  intro n
  induction n with
  | zero => intro x1 x2 x3 σ  h H locs Z hS ls hl; exact wx_no h
  | succ n ih =>
    intro x1 x2 x3 σ  h H locs Z hS ls hl
    rw [f_X6_bestProbe_54] at h
    refine lv_iload_n hx hb dX6_bestProbe_54 rfl (lv_at hl 3 rfl) ?_
    refine lv_bipush (v := 64) hx hb dX6_bestProbe_55 (by decide) ?_
    refine lv_icmp_ge (tgt := 86) hx hb dX6_bestProbe_57 (by decide) (fun c57 => ?_) (fun c57 => ?_)
    · replace h := wx_ift c57 h
      exact b_X6_bestProbe_86 B (K25 := K25) @hK25 h Z hS (lv_sub hl [0, 1, 2] rfl)
    · replace h := wx_iff c57 h
      refine lv_aload_n hx hb dX6_bestProbe_60 rfl (lv_at hl 0 rfl) ?_
      refine wx_get (own := RX6) hx hb hts i_X6_bestProbe_6 hown hC.1 Z (o := 16) (ci := 6) rfl (rfl : vwCl[6]? = some (RX6, TX6, 25)) 17 (by decide) (hts _ k_X6_bestProbe_w4) (fun _ h9 => h9) (f := 0) rfl rfl dX6_bestProbe_61 ?_
      refine lv_bipush (v := 64) hx hb dX6_bestProbe_64 (by decide) ?_
      refine lv_iload_n hx hb dX6_bestProbe_66 rfl (lv_at hl 2 rfl) ?_
      refine lv_imul hx hb dX6_bestProbe_67 ?_
      refine lv_iload_n hx hb dX6_bestProbe_68 rfl (lv_at hl 3 rfl) ?_
      refine lv_iadd hx hb dX6_bestProbe_69 ?_
      refine lv_aload_n hx hb dX6_bestProbe_70 rfl (lv_at hl 0 rfl) ?_
      refine wx_get (own := RX6) hx hb hts i_X6_bestProbe_6 hown hC.1 Z (o := 16) (ci := 6) rfl (rfl : vwCl[6]? = some (RX6, TX6, 25)) 10 (by decide) (hts _ k_X6_bestProbe_w5) (fun _ h9 => h9) (f := 0) rfl rfl dX6_bestProbe_71 ?_
      refine lv_iload_n hx hb dX6_bestProbe_74 rfl (lv_at hl 3 rfl) ?_
      obtain ⟨v75, ev75, iv75, h⟩ := wx_rF_ok h
      refine wx_fald hx hb hC.1 Z (o := 16) (k := 10) (n := 64) rfl rfl iv75 dX6_bestProbe_75 ev75 ?_
      obtain ⟨v76, hc76, h⟩ := wx_o_ok h
      refine wx_call (va_runS (As := [.float v75]) (rest := [.int ((64 * x2) + x3), .ref (ad 16 17)]) ⟨hx, hb, hml, hown, hts⟩ (c_X6_readOf l (D := D) (ad := ad) (rd := rd) (ca := ca) (A := A) (σ := σ) hc76) (va_cwS 1 hts gX6_bestProbe_X6_readOf rfl rfl rfl (by decide +kernel) ⟨Nat.le_of_ble_eq_true rfl, Nat.le_of_ble_eq_true rfl⟩) (wx_preS hC Z hS hA) rfl rfl hl.1 rfl (lv_room (Nat.le_of_ble_eq_true rfl)) dX6_bestProbe_76 ⟨Nat.zero_le _, Nat.zero_le _⟩) hS (fun H locs Z hS => ?_)
      obtain ⟨σ79, e79, i79, h⟩ := wx_w_ok h
      refine wx_iast hx hb hC.1 Z hS (o := 16) (k := 17) (n := 4096) rfl rfl i79 dX6_bestProbe_79 e79 (fun H locs Z hS => ?_)
      refine lv_iinc (v := x3 + 1) (lv' := [(3, .int (x3 + 1)), (0, .ref (ad 16 99)), (1, .int x1), (2, .int x2)]) hx hb dX6_bestProbe_80 hl (k := 3) rfl rfl (by decide) rfl (fun ls hl => ?_)
      refine lv_goto (tgt := 54) hx hb dX6_bestProbe_83 (by decide) ?_
      exact ih h Z hS (lv_sub hl [1, 2, 3, 0] rfl)
set_option maxRecDepth 20000 in
set_option maxHeartbeats 4000000 in
theorem b_X6_bestProbe_148 (B : wx_B p s m args meth c cX6_bestProbe 4 (some .int) wsX6_bestProbe RX6 D ad ca A)    {r : Int32} {σ' : wx_St} {K99 : Int32 → Int32 → wx_St → Option (Int32 × wx_St)} (hK99 : ∀ {x1 : Int32} {x2 : Int32} {σ : wx_St}  (h : K99 x1 x2 σ = some (r, σ')) {H : Heap} {locs : List Loc} (Z : wx_Z D ad rd ca A σ H) (hS : va_S A s.heap H locs) {ls : Array Slot} (hl : lv_has ls 4 [(0, .ref (ad 16 99)), (1, .int x1), (2, .int x2)]), W p l e ({ frames := 8, cells := 0, slots := 0, locals := 178 } : Room) s m args below meth c H locs 0 0 (MQ below (wx_Q D ad rd ca A (some (.int r)) σ') args s 0 0 A) (F0 m 99 ls [])) {x1 : Int32} {x2 : Int32} {x3 : Int32} {y1 : Int32} {σ : wx_St}  (h : f_X6_bestProbe_148 K99 x1 x2 x3 y1 σ = some (r, σ')) {H : Heap} {locs : List Loc} (Z : wx_Z D ad rd ca A σ H) (hS : va_S A s.heap H locs) {ls : Array Slot} (hl : lv_has ls 4 [(0, .ref (ad 16 99)), (1, .int x1), (2, .int x2), (3, .int x3)]) : W p l e ({ frames := 8, cells := 0, slots := 0, locals := 178 } : Room) s m args below meth c H locs 0 0 (MQ below (wx_Q D ad rd ca A (some (.int r)) σ') args s 0 0 A) (F0 m 148 ls [.int y1, .ref (ad 16 99)]) := by
  obtain ⟨hx, hb, hml, hr, hts, hown, hlk, hC, hA⟩ := id B
  unfold f_X6_bestProbe_148 at h
  obtain ⟨σ148, e148, h⟩ := wx_l_ok h
  refine wx_put (own := RX6) hx hb hts i_X6_bestProbe_6 tyX6 tyX6_ok nmX6 hown hC.1 Z hS (o := 16) (ci := 6) rfl (rfl : vwCl[6]? = some (RX6, TX6, 25)) 19 (by decide) (hts _ k_X6_bestProbe_w0) (fun _ h9 => h9) rfl (by decide +kernel) rfl dX6_bestProbe_148 e148 (fun H locs Z hS => ?_)
  refine lv_iinc (v := x2 + 1) (lv' := [(2, .int (x2 + 1)), (0, .ref (ad 16 99)), (1, .int x1), (3, .int x3)]) hx hb dX6_bestProbe_151 hl (k := 2) rfl rfl (by decide) rfl (fun ls hl => ?_)
  refine lv_goto (tgt := 99) hx hb dX6_bestProbe_154 (by decide) ?_
  exact hK99 h Z hS (lv_sub hl [1, 2, 0] rfl)
set_option maxRecDepth 20000 in
set_option maxHeartbeats 4000000 in
theorem b_X6_bestProbe_128 (B : wx_B p s m args meth c cX6_bestProbe 4 (some .int) wsX6_bestProbe RX6 D ad ca A)    {r : Int32} {σ' : wx_St} {K99 : Int32 → Int32 → wx_St → Option (Int32 × wx_St)} (hK99 : ∀ {x1 : Int32} {x2 : Int32} {σ : wx_St}  (h : K99 x1 x2 σ = some (r, σ')) {H : Heap} {locs : List Loc} (Z : wx_Z D ad rd ca A σ H) (hS : va_S A s.heap H locs) {ls : Array Slot} (hl : lv_has ls 4 [(0, .ref (ad 16 99)), (1, .int x1), (2, .int x2)]), W p l e ({ frames := 8, cells := 0, slots := 0, locals := 178 } : Room) s m args below meth c H locs 0 0 (MQ below (wx_Q D ad rd ca A (some (.int r)) σ') args s 0 0 A) (F0 m 99 ls [])) {x1 : Int32} {x2 : Int32} {x3 : Int32} {y1 : Int32} {σ : wx_St}  (h : f_X6_bestProbe_128 K99 x1 x2 x3 y1 σ = some (r, σ')) {H : Heap} {locs : List Loc} (Z : wx_Z D ad rd ca A σ H) (hS : va_S A s.heap H locs) {ls : Array Slot} (hl : lv_has ls 4 [(0, .ref (ad 16 99)), (1, .int x1), (2, .int x2), (3, .int x3)]) : W p l e ({ frames := 8, cells := 0, slots := 0, locals := 178 } : Room) s m args below meth c H locs 0 0 (MQ below (wx_Q D ad rd ca A (some (.int r)) σ') args s 0 0 A) (F0 m 128 ls [.int y1, .ref (ad 16 99)]) := by
  obtain ⟨hx, hb, hml, hr, hts, hown, hlk, hC, hA⟩ := id B
  unfold f_X6_bestProbe_128 at h
  obtain ⟨σ128, e128, h⟩ := wx_l_ok h
  refine wx_put (own := RX6) hx hb hts i_X6_bestProbe_6 tyX6 tyX6_ok nmX6 hown hC.1 Z hS (o := 16) (ci := 6) rfl (rfl : vwCl[6]? = some (RX6, TX6, 25)) 18 (by decide) (hts _ k_X6_bestProbe_w3) (fun _ h9 => h9) rfl (by decide +kernel) rfl dX6_bestProbe_128 e128 (fun H locs Z hS => ?_)
  refine lv_aload_n hx hb dX6_bestProbe_131 rfl (lv_at hl 0 rfl) ?_
  refine lv_iload_n hx hb dX6_bestProbe_132 rfl (lv_at hl 3 rfl) ?_
  refine lv_aload_n hx hb dX6_bestProbe_133 rfl (lv_at hl 0 rfl) ?_
  refine wx_get (own := RX6) hx hb hts i_X6_bestProbe_6 hown hC.1 Z (o := 16) (ci := 6) rfl (rfl : vwCl[6]? = some (RX6, TX6, 25)) 19 (by decide) (hts _ k_X6_bestProbe_w0) (fun _ h9 => h9) (f := 1) rfl rfl dX6_bestProbe_134 ?_
  refine lv_icmp_le (tgt := 144) hx hb dX6_bestProbe_137 (by decide) (fun c137 => ?_) (fun c137 => ?_)
  · replace h := wx_ift c137 h
    refine lv_aload_n hx hb dX6_bestProbe_144 rfl (lv_at hl 0 rfl) ?_
    refine wx_get (own := RX6) hx hb hts i_X6_bestProbe_6 hown hC.1 Z (o := 16) (ci := 6) rfl (rfl : vwCl[6]? = some (RX6, TX6, 25)) 19 (by decide) (hts _ k_X6_bestProbe_w0) (fun _ h9 => h9) (f := 1) rfl rfl dX6_bestProbe_145 ?_
    exact b_X6_bestProbe_148 B (K99 := K99) @hK99 h Z hS (lv_sub hl [0, 1, 2, 3] rfl)
  · replace h := wx_iff c137 h
    refine lv_iload_n hx hb dX6_bestProbe_140 rfl (lv_at hl 3 rfl) ?_
    refine lv_goto (tgt := 148) hx hb dX6_bestProbe_141 (by decide) ?_
    exact b_X6_bestProbe_148 B (K99 := K99) @hK99 h Z hS (lv_sub hl [0, 1, 2, 3] rfl)
set_option maxRecDepth 20000 in
set_option maxHeartbeats 4000000 in
theorem b_X6_bestProbe_172 (B : wx_B p s m args meth c cX6_bestProbe 4 (some .int) wsX6_bestProbe RX6 D ad ca A)    {r : Int32} {σ' : wx_St}  {x1 : Int32} {x2 : Int32} {y0 : Int32} {σ : wx_St}  (h : f_X6_bestProbe_172 x1 x2 y0 σ = some (r, σ')) {H : Heap} {locs : List Loc} (Z : wx_Z D ad rd ca A σ H) (hS : va_S A s.heap H locs) {ls : Array Slot} (hl : lv_has ls 4 [(0, .ref (ad 16 99)), (1, .int x1), (2, .int x2)]) : W p l e ({ frames := 8, cells := 0, slots := 0, locals := 178 } : Room) s m args below meth c H locs 0 0 (MQ below (wx_Q D ad rd ca A (some (.int r)) σ') args s 0 0 A) (F0 m 172 ls [.int y0]) := by
  obtain ⟨hx, hb, hml, hr, hts, hown, hlk, hC, hA⟩ := id B
  unfold f_X6_bestProbe_172 at h
  obtain ⟨rfl, rfl⟩ := wx_ret_ok h
  exact W.iret hx hb hr (fun t ht hW => ⟨rfl, by rw [ht]; exact Z, hS.F ht⟩) hS.2.2 dX6_bestProbe_172
set_option maxRecDepth 20000 in
set_option maxHeartbeats 4000000 in
theorem b_X6_bestProbe_99 (B : wx_B p s m args meth c cX6_bestProbe 4 (some .int) wsX6_bestProbe RX6 D ad ca A)    {r : Int32} {σ' : wx_St}   :
    ∀ {n : Nat} {x1 : Int32} {x2 : Int32} {σ : wx_St}  (h : f_X6_bestProbe_99 n x1 x2 σ = some (r, σ')) {H : Heap} {locs : List Loc} (Z : wx_Z D ad rd ca A σ H) (hS : va_S A s.heap H locs) {ls : Array Slot} (hl : lv_has ls 4 [(0, .ref (ad 16 99)), (1, .int x1), (2, .int x2)]), W p l e ({ frames := 8, cells := 0, slots := 0, locals := 178 } : Room) s m args below meth c H locs 0 0 (MQ below (wx_Q D ad rd ca A (some (.int r)) σ') args s 0 0 A) (F0 m 99 ls []) := by
  obtain ⟨hx, hb, hml, hr, hts, hown, hlk, hC, hA⟩ := id B
  intro n
  induction n with
  | zero => intro x1 x2 σ  h H locs Z hS ls hl; exact wx_no h
  | succ n ih =>
    intro x1 x2 σ  h H locs Z hS ls hl
    rw [f_X6_bestProbe_99] at h
    refine lv_iload_n hx hb dX6_bestProbe_99 rfl (lv_at hl 2 rfl) ?_
    refine lv_bipush (v := 64) hx hb dX6_bestProbe_100 (by decide) ?_
    refine lv_icmp_ge (tgt := 157) hx hb dX6_bestProbe_102 (by decide) (fun c102 => ?_) (fun c102 => ?_)
    · replace h := wx_ift c102 h
      refine lv_iload_n hx hb dX6_bestProbe_157 rfl (lv_at hl 1 rfl) ?_
      refine lv_if_ne (tgt := 168) hx hb dX6_bestProbe_158 (by decide) (fun c158 => ?_) (fun c158 => ?_)
      · replace h := wx_iff c158 h
        refine lv_aload_n hx hb dX6_bestProbe_168 rfl (lv_at hl 0 rfl) ?_
        refine wx_get (own := RX6) hx hb hts i_X6_bestProbe_6 hown hC.1 Z (o := 16) (ci := 6) rfl (rfl : vwCl[6]? = some (RX6, TX6, 25)) 19 (by decide) (hts _ k_X6_bestProbe_w0) (fun _ h9 => h9) (f := 1) rfl rfl dX6_bestProbe_169 ?_
        exact b_X6_bestProbe_172 B h Z hS (lv_sub hl [0, 1, 2] rfl)
      · replace h := wx_ift c158 h
        refine lv_aload_n hx hb dX6_bestProbe_161 rfl (lv_at hl 0 rfl) ?_
        refine wx_get (own := RX6) hx hb hts i_X6_bestProbe_6 hown hC.1 Z (o := 16) (ci := 6) rfl (rfl : vwCl[6]? = some (RX6, TX6, 25)) 18 (by decide) (hts _ k_X6_bestProbe_w3) (fun _ h9 => h9) (f := 1) rfl rfl dX6_bestProbe_162 ?_
        refine lv_goto (tgt := 172) hx hb dX6_bestProbe_165 (by decide) ?_
        exact b_X6_bestProbe_172 B h Z hS (lv_sub hl [0, 1, 2] rfl)
    · replace h := wx_iff c102 h
      refine lv_aload_n hx hb dX6_bestProbe_105 rfl (lv_at hl 0 rfl) ?_
      refine lv_iload_n hx hb dX6_bestProbe_106 rfl (lv_at hl 2 rfl) ?_
      obtain ⟨v107, hc107, h⟩ := wx_o_ok h
      refine wx_call (va_runV (As := [.int x2]) (rest := []) ⟨hx, hb, hml, hown, hts⟩ (c_X6_unlikeAt l (D := D) (ad := ad) (rd := rd) (ca := ca) (A := A) (σ := σ) hc107) (cwV 1 hts gX6_bestProbe_X6_unlikeAt rfl rfl rfl (by decide +kernel) ⟨Nat.le_of_ble_eq_true rfl, Nat.le_of_ble_eq_true rfl⟩) (wx_preV hC Z hS hA rfl (rfl : vwCl[6]? = some (RX6, TX6, 25))) rfl rfl hl.1 rfl (lv_room (Nat.le_of_ble_eq_true rfl)) dX6_bestProbe_107 ⟨Nat.zero_le _, Nat.zero_le _⟩) hS (fun H locs Z hS => ?_)
      refine lv_istore_n (lv' := [(3, .int v107), (0, .ref (ad 16 99)), (1, .int x1), (2, .int x2)]) hx hb dX6_bestProbe_110 rfl hl (by decide) rfl (fun ls hl => ?_)
      refine lv_aload_n hx hb dX6_bestProbe_111 rfl (lv_at hl 1 rfl) ?_
      refine lv_iload_n hx hb dX6_bestProbe_112 rfl (lv_at hl 0 rfl) ?_
      refine lv_aload_n hx hb dX6_bestProbe_113 rfl (lv_at hl 1 rfl) ?_
      refine wx_get (own := RX6) hx hb hts i_X6_bestProbe_6 hown hC.1 Z (o := 16) (ci := 6) rfl (rfl : vwCl[6]? = some (RX6, TX6, 25)) 19 (by decide) (hts _ k_X6_bestProbe_w0) (fun _ h9 => h9) (f := 1) rfl rfl dX6_bestProbe_114 ?_
      refine lv_icmp_le (tgt := 124) hx hb dX6_bestProbe_117 (by decide) (fun c117 => ?_) (fun c117 => ?_)
      · replace h := wx_ift c117 h
        refine lv_aload_n hx hb dX6_bestProbe_124 rfl (lv_at hl 1 rfl) ?_
        refine wx_get (own := RX6) hx hb hts i_X6_bestProbe_6 hown hC.1 Z (o := 16) (ci := 6) rfl (rfl : vwCl[6]? = some (RX6, TX6, 25)) 18 (by decide) (hts _ k_X6_bestProbe_w3) (fun _ h9 => h9) (f := 1) rfl rfl dX6_bestProbe_125 ?_
        exact b_X6_bestProbe_128 B (K99 := (f_X6_bestProbe_99 n)) @ih h Z hS (lv_sub hl [1, 2, 3, 0] rfl)
      · replace h := wx_iff c117 h
        refine lv_iload_n hx hb dX6_bestProbe_120 rfl (lv_at hl 3 rfl) ?_
        refine lv_goto (tgt := 128) hx hb dX6_bestProbe_121 (by decide) ?_
        exact b_X6_bestProbe_128 B (K99 := (f_X6_bestProbe_99 n)) @ih h Z hS (lv_sub hl [1, 2, 3, 0] rfl)
set_option maxRecDepth 20000 in
set_option maxHeartbeats 4000000 in
theorem b_X6_bestProbe_25 (B : wx_B p s m args meth c cX6_bestProbe 4 (some .int) wsX6_bestProbe RX6 D ad ca A)    {r : Int32} {σ' : wx_St}   :
    ∀ {n : Nat} {x1 : Int32} {x2 : Int32} {σ : wx_St}  (h : f_X6_bestProbe_25 n x1 x2 σ = some (r, σ')) {H : Heap} {locs : List Loc} (Z : wx_Z D ad rd ca A σ H) (hS : va_S A s.heap H locs) {ls : Array Slot} (hl : lv_has ls 4 [(0, .ref (ad 16 99)), (1, .int x1), (2, .int x2)]), W p l e ({ frames := 8, cells := 0, slots := 0, locals := 178 } : Room) s m args below meth c H locs 0 0 (MQ below (wx_Q D ad rd ca A (some (.int r)) σ') args s 0 0 A) (F0 m 25 ls []) := by
  obtain ⟨hx, hb, hml, hr, hts, hown, hlk, hC, hA⟩ := id B
  intro n
  induction n with
  | zero => intro x1 x2 σ  h H locs Z hS ls hl; exact wx_no h
  | succ n ih =>
    intro x1 x2 σ  h H locs Z hS ls hl
    rw [f_X6_bestProbe_25] at h
    refine lv_iload_n hx hb dX6_bestProbe_25 rfl (lv_at hl 2 rfl) ?_
    refine lv_bipush (v := 64) hx hb dX6_bestProbe_26 (by decide) ?_
    refine lv_icmp_ge (tgt := 92) hx hb dX6_bestProbe_28 (by decide) (fun c28 => ?_) (fun c28 => ?_)
    · replace h := wx_ift c28 h
      refine lv_aload_n hx hb dX6_bestProbe_92 rfl (lv_at hl 0 rfl) ?_
      refine lv_iconst (v := 0) hx hb dX6_bestProbe_93 (by decide) ?_
      obtain ⟨σ94, e94, h⟩ := wx_l_ok h
      refine wx_put (own := RX6) hx hb hts i_X6_bestProbe_6 tyX6 tyX6_ok nmX6 hown hC.1 Z hS (o := 16) (ci := 6) rfl (rfl : vwCl[6]? = some (RX6, TX6, 25)) 19 (by decide) (hts _ k_X6_bestProbe_w0) (fun _ h9 => h9) rfl (by decide +kernel) rfl dX6_bestProbe_94 e94 (fun H locs Z hS => ?_)
      refine lv_iconst (v := 0) hx hb dX6_bestProbe_97 (by decide) ?_
      refine lv_istore_n (lv' := [(2, .int 0), (0, .ref (ad 16 99)), (1, .int x1)]) hx hb dX6_bestProbe_98 rfl hl (by decide) rfl (fun ls hl => ?_)
      exact b_X6_bestProbe_99 B h Z hS (lv_sub hl [1, 2, 0] rfl)
    · replace h := wx_iff c28 h
      refine lv_aload_n hx hb dX6_bestProbe_31 rfl (lv_at hl 0 rfl) ?_
      refine wx_get (own := RX6) hx hb hts i_X6_bestProbe_6 hown hC.1 Z (o := 16) (ci := 6) rfl (rfl : vwCl[6]? = some (RX6, TX6, 25)) 14 (by decide) (hts _ k_X6_bestProbe_w1) (fun _ h9 => h9) (f := 0) rfl rfl dX6_bestProbe_32 ?_
      refine lv_iload_n hx hb dX6_bestProbe_35 rfl (lv_at hl 2 rfl) ?_
      obtain ⟨v36, ev36, iv36, h⟩ := wx_rI_ok h
      refine wx_iald hx hb hC.1 Z (o := 16) (k := 14) (n := 64) rfl rfl iv36 dX6_bestProbe_36 ev36 ?_
      refine lv_iconst (v := 1) hx hb dX6_bestProbe_37 (by decide) ?_
      refine lv_icmp_ne (tgt := 86) hx hb dX6_bestProbe_38 (by decide) (fun c38 => ?_) (fun c38 => ?_)
      · replace h := wx_iff c38 h
        exact b_X6_bestProbe_86 B (K25 := (f_X6_bestProbe_25 n)) @ih h Z hS (lv_sub hl [0, 1, 2] rfl)
      · replace h := wx_ift c38 h
        refine lv_aload_n hx hb dX6_bestProbe_41 rfl (lv_at hl 0 rfl) ?_
        refine lv_iload_n hx hb dX6_bestProbe_42 rfl (lv_at hl 2 rfl) ?_
        refine lv_aload_n hx hb dX6_bestProbe_43 rfl (lv_at hl 0 rfl) ?_
        refine wx_get (own := RX6) hx hb hts i_X6_bestProbe_6 hown hC.1 Z (o := 16) (ci := 6) rfl (rfl : vwCl[6]? = some (RX6, TX6, 25)) 0 (by decide) (hts _ k_X6_bestProbe_w2) (fun _ h9 => h9) (f := 0) rfl rfl dX6_bestProbe_44 ?_
        refine lv_iconst (v := 4) hx hb dX6_bestProbe_47 (by decide) ?_
        obtain ⟨v48, ev48, iv48, h⟩ := wx_rI_ok h
        refine wx_iald hx hb hC.1 Z (o := 16) (k := 0) (n := 109) rfl rfl iv48 dX6_bestProbe_48 ev48 ?_
        obtain ⟨v49, σ49, hc49, h⟩ := wx_b_ok h
        refine wx_call (va_runV (As := [.int x2, .int v48]) (rest := []) ⟨hx, hb, hml, hown, hts⟩ (c_X6_thinks l (D := D) (ad := ad) (rd := rd) (ca := ca) (A := A) (σ := σ) hc49) (cwV 2 hts gX6_bestProbe_X6_thinks rfl rfl rfl (by decide +kernel) ⟨Nat.le_of_ble_eq_true rfl, Nat.le_of_ble_eq_true rfl⟩) (wx_preV hC Z hS hA rfl (rfl : vwCl[6]? = some (RX6, TX6, 25))) rfl rfl hl.1 rfl (lv_room (Nat.le_of_ble_eq_true rfl)) dX6_bestProbe_49 ⟨Nat.zero_le _, Nat.zero_le _⟩) hS (fun H locs Z hS => ?_)
        refine lv_iconst (v := 0) hx hb dX6_bestProbe_52 (by decide) ?_
        refine lv_istore_n (lv' := [(3, .int 0), (0, .ref (ad 16 99)), (1, .int x1), (2, .int x2)]) hx hb dX6_bestProbe_53 rfl hl (by decide) rfl (fun ls hl => ?_)
        exact b_X6_bestProbe_54 B (K25 := (f_X6_bestProbe_25 n)) @ih h Z hS (lv_sub hl [1, 2, 3, 0] rfl)
set_option maxRecDepth 20000 in
set_option maxHeartbeats 4000000 in
theorem b_X6_bestProbe_0 (B : wx_B p s m args meth c cX6_bestProbe 4 (some .int) wsX6_bestProbe RX6 D ad ca A)    {r : Int32} {σ' : wx_St}  {x1 : Int32} {σ : wx_St}  (h : f_X6_bestProbe x1 σ = some (r, σ')) {H : Heap} {locs : List Loc} (Z : wx_Z D ad rd ca A σ H) (hS : va_S A s.heap H locs) {ls : Array Slot} (hl : lv_has ls 4 [(0, .ref (ad 16 99)), (1, .int x1)]) : W p l e ({ frames := 8, cells := 0, slots := 0, locals := 178 } : Room) s m args below meth c H locs 0 0 (MQ below (wx_Q D ad rd ca A (some (.int r)) σ') args s 0 0 A) (F0 m 0 ls []) := by
  obtain ⟨hx, hb, hml, hr, hts, hown, hlk, hC, hA⟩ := id B
  unfold f_X6_bestProbe at h
  refine lv_iload_n hx hb dX6_bestProbe_0 rfl (lv_at hl 1 rfl) ?_
  refine lv_iconst (v := 0) hx hb dX6_bestProbe_1 (by decide) ?_
  refine lv_iconst (v := 1) hx hb dX6_bestProbe_2 (by decide) ?_
  obtain ⟨v3, hc3, h⟩ := wx_o_ok h
  refine wx_call (va_runS (As := [.int x1, .int 0, .int 1]) (rest := []) ⟨hx, hb, hml, hown, hts⟩ (c_X6_within l (D := D) (ad := ad) (rd := rd) (ca := ca) (A := A) (σ := σ) hc3) (va_cwS 3 hts gX6_bestProbe_X6_within rfl rfl rfl (by decide +kernel) ⟨Nat.le_of_ble_eq_true rfl, Nat.le_of_ble_eq_true rfl⟩) (wx_preS hC Z hS hA) rfl rfl hl.1 rfl (lv_room (Nat.le_of_ble_eq_true rfl)) dX6_bestProbe_3 ⟨Nat.zero_le _, Nat.zero_le _⟩) hS (fun H locs Z hS => ?_)
  refine lv_if_ne (tgt := 12) hx hb dX6_bestProbe_6 (by decide) (fun c6 => ?_) (fun c6 => ?_)
  · replace h := wx_iff c6 h
    refine lv_aload_n hx hb dX6_bestProbe_12 rfl (lv_at hl 0 rfl) ?_
    obtain ⟨v13, σ13, hc13, h⟩ := wx_b_ok h
    refine wx_call (va_runV (As := []) (rest := []) ⟨hx, hb, hml, hown, hts⟩ (c_X6_singlesMany l (D := D) (ad := ad) (rd := rd) (ca := ca) (A := A) (σ := σ) hc13) (cwV 0 hts gX6_bestProbe_X6_singlesMany rfl rfl rfl (by decide +kernel) ⟨Nat.le_of_ble_eq_true rfl, Nat.le_of_ble_eq_true rfl⟩) (wx_preV hC Z hS hA rfl (rfl : vwCl[6]? = some (RX6, TX6, 25))) rfl rfl hl.1 rfl (lv_room (Nat.le_of_ble_eq_true rfl)) dX6_bestProbe_13 ⟨Nat.zero_le _, Nat.zero_le _⟩) hS (fun H locs Z hS => ?_)
    refine lv_iconst (v := 2) hx hb dX6_bestProbe_16 (by decide) ?_
    refine lv_icmp_ge (tgt := 23) hx hb dX6_bestProbe_17 (by decide) (fun c17 => ?_) (fun c17 => ?_)
    · replace h := wx_ift c17 h
      refine lv_iconst (v := 0) hx hb dX6_bestProbe_23 (by decide) ?_
      refine lv_istore_n (lv' := [(2, .int 0), (0, .ref (ad 16 99)), (1, .int x1)]) hx hb dX6_bestProbe_24 rfl hl (by decide) rfl (fun ls hl => ?_)
      exact b_X6_bestProbe_25 B h Z hS (lv_sub hl [1, 2, 0] rfl)
    · replace h := wx_iff c17 h
      refine lv_bipush (v := (-6)) hx hb dX6_bestProbe_20 (by decide) ?_
      obtain ⟨rfl, rfl⟩ := wx_ret_ok h
      exact W.iret hx hb hr (fun t ht hW => ⟨rfl, by rw [ht]; exact Z, hS.F ht⟩) hS.2.2 dX6_bestProbe_22
  · replace h := wx_ift c6 h
    refine lv_bipush (v := (-2)) hx hb dX6_bestProbe_9 (by decide) ?_
    obtain ⟨rfl, rfl⟩ := wx_ret_ok h
    exact W.iret hx hb hr (fun t ht hW => ⟨rfl, by rw [ht]; exact Z, hS.F ht⟩) hS.2.2 dX6_bestProbe_11
set_option maxRecDepth 20000 in
theorem c_X6_bestProbe (l : Launch) {D : va_G} {ad : Nat → Nat → Nat} {rd : Nat → Nat} {ca : Nat → ClassId} {A : Nat → Prop} {σ : wx_St}    {x1 : Int32} {r : Int32} {σ' : wx_St} (h : f_X6_bestProbe x1 σ = some (r, σ')) : wx_M l yX6_bestProbe wsX6_bestProbe 8 178 D ad rd ca A [.ref (ad 16 99), .int x1] σ (some (.int r)) σ' := by
  refine Met.ofW (cc := cX6_bestProbe) (maxL := 4) (ret := (some .int)) (by decide +kernel) rfl ?_
  intro p e s m args below meth c s₁ B0 hml hv
  obtain ⟨rfl, hC, Z, hA⟩ := hv
  have hl := lv_entry ([.ref (ad 16 99), .int x1]) (n := 4) (Nat.le_of_ble_eq_true rfl)
  rw [lg_entry_eq]
  generalize (lg_sl ([.ref (ad 16 99), .int x1]) ++ List.replicate (4 - (lg_sl ([.ref (ad 16 99), .int x1])).length) Slot.unset).toArray = ls at hl ⊢
  exact b_X6_bestProbe_0 ⟨B0.exec, B0.bytes, hml, B0.returns, atoms_spec (ws := wsX6_bestProbe) B0.pre, findClass_of_methodNamed B0.named, B0.notSynchronized, hC, hA⟩   h Z va_S.rf hl
theorem i_X6_feeds_6 : ∀ w ∈ wsX60, w ∈ wsX6_feeds := by decide +kernel
theorem k_X6_feeds_w0 : Cond.fieldLink RX6 7 "WarmProbesModel" "state" "[I" ∈ wsX6_feeds := by decide +kernel
set_option maxRecDepth 20000 in
set_option maxHeartbeats 4000000 in
theorem b_X6_feeds_48 (B : wx_B p s m args meth c cX6_feeds 3 (some .int) wsX6_feeds RX6 D ad ca A)    {r : Int32} {σ' : wx_St}  {x1 : Int32} {x2 : Int32} {y0 : Int32} {σ : wx_St}  (h : f_X6_feeds_48 x1 x2 y0 σ = some (r, σ')) {H : Heap} {locs : List Loc} (Z : wx_Z D ad rd ca A σ H) (hS : va_S A s.heap H locs) {ls : Array Slot} (hl : lv_has ls 3 [(0, .ref (ad 16 99)), (1, .int x1), (2, .int x2)]) : W p l e ({ frames := 2, cells := 0, slots := 0, locals := 45 } : Room) s m args below meth c H locs 0 0 (MQ below (wx_Q D ad rd ca A (some (.int r)) σ') args s 0 0 A) (F0 m 48 ls [.int y0]) := by
  obtain ⟨hx, hb, hml, hr, hts, hown, hlk, hC, hA⟩ := id B
  unfold f_X6_feeds_48 at h
  obtain ⟨rfl, rfl⟩ := wx_ret_ok h
  exact W.iret hx hb hr (fun t ht hW => ⟨rfl, by rw [ht]; exact Z, hS.F ht⟩) hS.2.2 dX6_feeds_48
set_option maxRecDepth 20000 in
set_option maxHeartbeats 4000000 in
theorem b_X6_feeds_0 (B : wx_B p s m args meth c cX6_feeds 3 (some .int) wsX6_feeds RX6 D ad ca A)    {r : Int32} {σ' : wx_St}  {x1 : Int32} {x2 : Int32} {σ : wx_St}  (h : f_X6_feeds x1 x2 σ = some (r, σ')) {H : Heap} {locs : List Loc} (Z : wx_Z D ad rd ca A σ H) (hS : va_S A s.heap H locs) {ls : Array Slot} (hl : lv_has ls 3 [(0, .ref (ad 16 99)), (1, .int x1), (2, .int x2)]) : W p l e ({ frames := 2, cells := 0, slots := 0, locals := 45 } : Room) s m args below meth c H locs 0 0 (MQ below (wx_Q D ad rd ca A (some (.int r)) σ') args s 0 0 A) (F0 m 0 ls []) := by
  obtain ⟨hx, hb, hml, hr, hts, hown, hlk, hC, hA⟩ := id B
  unfold f_X6_feeds at h
  refine lv_aload_n hx hb dX6_feeds_0 rfl (lv_at hl 0 rfl) ?_
  refine wx_get (own := RX6) hx hb hts i_X6_feeds_6 hown hC.1 Z (o := 16) (ci := 6) rfl (rfl : vwCl[6]? = some (RX6, TX6, 25)) 0 (by decide) (hts _ k_X6_feeds_w0) (fun _ h9 => h9) (f := 0) rfl rfl dX6_feeds_1 ?_
  refine lv_bipush (v := 71) hx hb dX6_feeds_4 (by decide) ?_
  refine lv_iload_n hx hb dX6_feeds_6 rfl (lv_at hl 1 rfl) ?_
  refine lv_iadd hx hb dX6_feeds_7 ?_
  refine lv_dup2_11 hx hb dX6_feeds_8 rfl rfl ?_
  obtain ⟨v9, ev9, iv9, h⟩ := wx_rI_ok h
  refine wx_iald hx hb hC.1 Z (o := 16) (k := 0) (n := 109) rfl rfl iv9 dX6_feeds_9 ev9 ?_
  refine lv_iconst (v := 1) hx hb dX6_feeds_10 (by decide) ?_
  refine lv_iload_n hx hb dX6_feeds_11 rfl (lv_at hl 2 rfl) ?_
  refine lv_ishl hx hb dX6_feeds_12 ?_
  refine lv_ixor hx hb dX6_feeds_13 ?_
  obtain ⟨σ14, e14, i14, h⟩ := wx_w_ok h
  refine wx_iast hx hb hC.1 Z hS (o := 16) (k := 0) (n := 109) rfl rfl i14 dX6_feeds_14 e14 (fun H locs Z hS => ?_)
  refine lv_aload_n hx hb dX6_feeds_15 rfl (lv_at hl 0 rfl) ?_
  refine wx_get (own := RX6) hx hb hts i_X6_feeds_6 hown hC.1 Z (o := 16) (ci := 6) rfl (rfl : vwCl[6]? = some (RX6, TX6, 25)) 0 (by decide) (hts _ k_X6_feeds_w0) (fun _ h9 => h9) (f := 0) rfl rfl dX6_feeds_16 ?_
  refine lv_bipush (v := 71) hx hb dX6_feeds_19 (by decide) ?_
  refine lv_iload_n hx hb dX6_feeds_21 rfl (lv_at hl 2 rfl) ?_
  refine lv_iadd hx hb dX6_feeds_22 ?_
  refine lv_dup2_11 hx hb dX6_feeds_23 rfl rfl ?_
  obtain ⟨v24, ev24, iv24, h⟩ := wx_rI_ok h
  refine wx_iald hx hb hC.1 Z (o := 16) (k := 0) (n := 109) rfl rfl iv24 dX6_feeds_24 ev24 ?_
  refine lv_iconst (v := 1) hx hb dX6_feeds_25 (by decide) ?_
  refine lv_iload_n hx hb dX6_feeds_26 rfl (lv_at hl 1 rfl) ?_
  refine lv_ishl hx hb dX6_feeds_27 ?_
  refine lv_ixor hx hb dX6_feeds_28 ?_
  obtain ⟨σ29, e29, i29, h⟩ := wx_w_ok h
  refine wx_iast hx hb hC.1 Z hS (o := 16) (k := 0) (n := 109) rfl rfl i29 dX6_feeds_29 e29 (fun H locs Z hS => ?_)
  refine lv_aload_n hx hb dX6_feeds_30 rfl (lv_at hl 0 rfl) ?_
  obtain ⟨v31, σ31, hc31, h⟩ := wx_b_ok h
  refine wx_call (va_runV (As := []) (rest := []) ⟨hx, hb, hml, hown, hts⟩ (c_X6_beginsRun l (D := D) (ad := ad) (rd := rd) (ca := ca) (A := A) (σ := σ29) hc31) (cwV 0 hts gX6_feeds_X6_beginsRun rfl rfl rfl (by decide +kernel) ⟨Nat.le_of_ble_eq_true rfl, Nat.le_of_ble_eq_true rfl⟩) (wx_preV hC Z hS hA rfl (rfl : vwCl[6]? = some (RX6, TX6, 25))) rfl rfl hl.1 rfl (lv_room (Nat.le_of_ble_eq_true rfl)) dX6_feeds_31 ⟨Nat.zero_le _, Nat.zero_le _⟩) hS (fun H locs Z hS => ?_)
  refine lv_aload_n hx hb dX6_feeds_34 rfl (lv_at hl 0 rfl) ?_
  refine lv_iload_n hx hb dX6_feeds_35 rfl (lv_at hl 1 rfl) ?_
  refine lv_iload_n hx hb dX6_feeds_36 rfl (lv_at hl 2 rfl) ?_
  obtain ⟨v37, hc37, h⟩ := wx_o_ok h
  refine wx_call (va_runV (As := [.int x1, .int x2]) (rest := []) ⟨hx, hb, hml, hown, hts⟩ (c_X6_isFed l (D := D) (ad := ad) (rd := rd) (ca := ca) (A := A) (σ := σ31) hc37) (cwV 2 hts gX6_feeds_X6_isFed rfl rfl rfl (by decide +kernel) ⟨Nat.le_of_ble_eq_true rfl, Nat.le_of_ble_eq_true rfl⟩) (wx_preV hC Z hS hA rfl (rfl : vwCl[6]? = some (RX6, TX6, 25))) rfl rfl hl.1 rfl (lv_room (Nat.le_of_ble_eq_true rfl)) dX6_feeds_37 ⟨Nat.zero_le _, Nat.zero_le _⟩) hS (fun H locs Z hS => ?_)
  refine lv_if_eq (tgt := 47) hx hb dX6_feeds_40 (by decide) (fun c40 => ?_) (fun c40 => ?_)
  · replace h := wx_ift c40 h
    refine lv_iconst (v := 0) hx hb dX6_feeds_47 (by decide) ?_
    exact b_X6_feeds_48 B h Z hS (lv_sub hl [0, 1, 2] rfl)
  · replace h := wx_iff c40 h
    refine lv_iconst (v := 1) hx hb dX6_feeds_43 (by decide) ?_
    refine lv_goto (tgt := 48) hx hb dX6_feeds_44 (by decide) ?_
    exact b_X6_feeds_48 B h Z hS (lv_sub hl [0, 1, 2] rfl)
set_option maxRecDepth 20000 in
theorem c_X6_feeds (l : Launch) {D : va_G} {ad : Nat → Nat → Nat} {rd : Nat → Nat} {ca : Nat → ClassId} {A : Nat → Prop} {σ : wx_St}    {x1 : Int32} {x2 : Int32} {r : Int32} {σ' : wx_St} (h : f_X6_feeds x1 x2 σ = some (r, σ')) : wx_M l yX6_feeds wsX6_feeds 2 45 D ad rd ca A [.ref (ad 16 99), .int x1, .int x2] σ (some (.int r)) σ' := by
  refine Met.ofW (cc := cX6_feeds) (maxL := 3) (ret := (some .int)) (by decide +kernel) rfl ?_
  intro p e s m args below meth c s₁ B0 hml hv
  obtain ⟨rfl, hC, Z, hA⟩ := hv
  have hl := lv_entry ([.ref (ad 16 99), .int x1, .int x2]) (n := 3) (Nat.le_of_ble_eq_true rfl)
  rw [lg_entry_eq]
  generalize (lg_sl ([.ref (ad 16 99), .int x1, .int x2]) ++ List.replicate (3 - (lg_sl ([.ref (ad 16 99), .int x1, .int x2])).length) Slot.unset).toArray = ls at hl ⊢
  exact b_X6_feeds_0 ⟨B0.exec, B0.bytes, hml, B0.returns, atoms_spec (ws := wsX6_feeds) B0.pre, findClass_of_methodNamed B0.named, B0.notSynchronized, hC, hA⟩   h Z va_S.rf hl
theorem i_X6_mends_6 : ∀ w ∈ wsX60, w ∈ wsX6_mends := by decide +kernel
theorem k_X6_mends_w0 : Cond.fieldLink RX6 7 "WarmProbesModel" "state" "[I" ∈ wsX6_mends := by decide +kernel
set_option maxRecDepth 20000 in
set_option maxHeartbeats 4000000 in
theorem b_X6_mends_64 (B : wx_B p s m args meth c cX6_mends 3 (some .int) wsX6_mends RX6 D ad ca A)    {r : Int32} {σ' : wx_St}   :
    ∀ {n : Nat} {x1 : Int32} {x2 : Int32} {σ : wx_St}  (h : f_X6_mends_64 n x1 x2 σ = some (r, σ')) {H : Heap} {locs : List Loc} (Z : wx_Z D ad rd ca A σ H) (hS : va_S A s.heap H locs) {ls : Array Slot} (hl : lv_has ls 3 [(0, .ref (ad 16 99)), (1, .int x1), (2, .int x2)]), W p l e ({ frames := 2, cells := 0, slots := 0, locals := 45 } : Room) s m args below meth c H locs 0 0 (MQ below (wx_Q D ad rd ca A (some (.int r)) σ') args s 0 0 A) (F0 m 64 ls []) := by
  obtain ⟨hx, hb, hml, hr, hts, hown, hlk, hC, hA⟩ := id B
  intro n
  induction n with
  | zero => intro x1 x2 σ  h H locs Z hS ls hl; exact wx_no h
  | succ n ih =>
    intro x1 x2 σ  h H locs Z hS ls hl
    rw [f_X6_mends_64] at h
    refine lv_iload_n hx hb dX6_mends_64 rfl (lv_at hl 2 rfl) ?_
    refine lv_bipush (v := 85) hx hb dX6_mends_65 (by decide) ?_
    refine lv_icmp_ge (tgt := 83) hx hb dX6_mends_67 (by decide) (fun c67 => ?_) (fun c67 => ?_)
    · replace h := wx_ift c67 h
      refine lv_aload_n hx hb dX6_mends_83 rfl (lv_at hl 0 rfl) ?_
      obtain ⟨v84, σ84, hc84, h⟩ := wx_b_ok h
      refine wx_call (va_runV (As := []) (rest := []) ⟨hx, hb, hml, hown, hts⟩ (c_X6_beginsRun l (D := D) (ad := ad) (rd := rd) (ca := ca) (A := A) (σ := σ) hc84) (cwV 0 hts gX6_mends_X6_beginsRun rfl rfl rfl (by decide +kernel) ⟨Nat.le_of_ble_eq_true rfl, Nat.le_of_ble_eq_true rfl⟩) (wx_preV hC Z hS hA rfl (rfl : vwCl[6]? = some (RX6, TX6, 25))) rfl rfl hl.1 rfl (lv_room (Nat.le_of_ble_eq_true rfl)) dX6_mends_84 ⟨Nat.zero_le _, Nat.zero_le _⟩) hS (fun H locs Z hS => ?_)
      refine lv_aload_n hx hb dX6_mends_87 rfl (lv_at hl 0 rfl) ?_
      refine wx_get (own := RX6) hx hb hts i_X6_mends_6 hown hC.1 Z (o := 16) (ci := 6) rfl (rfl : vwCl[6]? = some (RX6, TX6, 25)) 0 (by decide) (hts _ k_X6_mends_w0) (fun _ h9 => h9) (f := 0) rfl rfl dX6_mends_88 ?_
      refine lv_iconst (v := 5) hx hb dX6_mends_91 (by decide) ?_
      obtain ⟨v92, ev92, iv92, h⟩ := wx_rI_ok h
      refine wx_iald hx hb hC.1 Z (o := 16) (k := 0) (n := 109) rfl rfl iv92 dX6_mends_92 ev92 ?_
      obtain ⟨rfl, rfl⟩ := wx_ret_ok h
      exact W.iret hx hb hr (fun t ht hW => ⟨rfl, by rw [ht]; exact Z, hS.F ht⟩) hS.2.2 dX6_mends_93
    · replace h := wx_iff c67 h
      refine lv_aload_n hx hb dX6_mends_70 rfl (lv_at hl 0 rfl) ?_
      refine wx_get (own := RX6) hx hb hts i_X6_mends_6 hown hC.1 Z (o := 16) (ci := 6) rfl (rfl : vwCl[6]? = some (RX6, TX6, 25)) 0 (by decide) (hts _ k_X6_mends_w0) (fun _ h9 => h9) (f := 0) rfl rfl dX6_mends_71 ?_
      refine lv_iload_n hx hb dX6_mends_74 rfl (lv_at hl 2 rfl) ?_
      refine lv_iconst (v := 0) hx hb dX6_mends_75 (by decide) ?_
      obtain ⟨σ76, e76, i76, h⟩ := wx_w_ok h
      refine wx_iast hx hb hC.1 Z hS (o := 16) (k := 0) (n := 109) rfl rfl i76 dX6_mends_76 e76 (fun H locs Z hS => ?_)
      refine lv_iinc (v := x2 + 1) (lv' := [(2, .int (x2 + 1)), (0, .ref (ad 16 99)), (1, .int x1)]) hx hb dX6_mends_77 hl (k := 2) rfl rfl (by decide) rfl (fun ls hl => ?_)
      refine lv_goto (tgt := 64) hx hb dX6_mends_80 (by decide) ?_
      exact ih h Z hS (lv_sub hl [1, 2, 0] rfl)
set_option maxRecDepth 20000 in
set_option maxHeartbeats 4000000 in
theorem b_X6_mends_17 (B : wx_B p s m args meth c cX6_mends 3 (some .int) wsX6_mends RX6 D ad ca A)    {r : Int32} {σ' : wx_St}   :
    ∀ {n : Nat} {x1 : Int32} {x2 : Int32} {σ : wx_St}  (h : f_X6_mends_17 n x1 x2 σ = some (r, σ')) {H : Heap} {locs : List Loc} (Z : wx_Z D ad rd ca A σ H) (hS : va_S A s.heap H locs) {ls : Array Slot} (hl : lv_has ls 3 [(0, .ref (ad 16 99)), (1, .int x1), (2, .int x2)]), W p l e ({ frames := 2, cells := 0, slots := 0, locals := 45 } : Room) s m args below meth c H locs 0 0 (MQ below (wx_Q D ad rd ca A (some (.int r)) σ') args s 0 0 A) (F0 m 17 ls []) := by
  obtain ⟨hx, hb, hml, hr, hts, hown, hlk, hC, hA⟩ := id B
  intro n
  induction n with
  | zero => intro x1 x2 σ  h H locs Z hS ls hl; exact wx_no h
  | succ n ih =>
    intro x1 x2 σ  h H locs Z hS ls hl
    rw [f_X6_mends_17] at h
    refine lv_iload_n hx hb dX6_mends_17 rfl (lv_at hl 2 rfl) ?_
    refine lv_bipush (v := 79) hx hb dX6_mends_18 (by decide) ?_
    refine lv_iconst (v := 2) hx hb dX6_mends_20 (by decide) ?_
    refine lv_aload_n hx hb dX6_mends_21 rfl (lv_at hl 0 rfl) ?_
    refine wx_get (own := RX6) hx hb hts i_X6_mends_6 hown hC.1 Z (o := 16) (ci := 6) rfl (rfl : vwCl[6]? = some (RX6, TX6, 25)) 0 (by decide) (hts _ k_X6_mends_w0) (fun _ h9 => h9) (f := 0) rfl rfl dX6_mends_22 ?_
    refine lv_iconst (v := 5) hx hb dX6_mends_25 (by decide) ?_
    obtain ⟨v26, ev26, iv26, h⟩ := wx_rI_ok h
    refine wx_iald hx hb hC.1 Z (o := 16) (k := 0) (n := 109) rfl rfl iv26 dX6_mends_26 ev26 ?_
    refine lv_imul hx hb dX6_mends_27 ?_
    refine lv_iadd hx hb dX6_mends_28 ?_
    refine lv_icmp_ge (tgt := 52) hx hb dX6_mends_29 (by decide) (fun c29 => ?_) (fun c29 => ?_)
    · replace h := wx_ift c29 h
      refine lv_bipush (v := 79) hx hb dX6_mends_52 (by decide) ?_
      refine lv_iconst (v := 2) hx hb dX6_mends_54 (by decide) ?_
      refine lv_aload_n hx hb dX6_mends_55 rfl (lv_at hl 0 rfl) ?_
      refine wx_get (own := RX6) hx hb hts i_X6_mends_6 hown hC.1 Z (o := 16) (ci := 6) rfl (rfl : vwCl[6]? = some (RX6, TX6, 25)) 0 (by decide) (hts _ k_X6_mends_w0) (fun _ h9 => h9) (f := 0) rfl rfl dX6_mends_56 ?_
      refine lv_iconst (v := 5) hx hb dX6_mends_59 (by decide) ?_
      obtain ⟨v60, ev60, iv60, h⟩ := wx_rI_ok h
      refine wx_iald hx hb hC.1 Z (o := 16) (k := 0) (n := 109) rfl rfl iv60 dX6_mends_60 ev60 ?_
      refine lv_imul hx hb dX6_mends_61 ?_
      refine lv_iadd hx hb dX6_mends_62 ?_
      refine lv_istore_n (lv' := [(2, .int (79 + (2 * v60))), (0, .ref (ad 16 99)), (1, .int x1)]) hx hb dX6_mends_63 rfl hl (by decide) rfl (fun ls hl => ?_)
      exact b_X6_mends_64 B h Z hS (lv_sub hl [1, 2, 0] rfl)
    · replace h := wx_iff c29 h
      refine lv_aload_n hx hb dX6_mends_32 rfl (lv_at hl 0 rfl) ?_
      refine wx_get (own := RX6) hx hb hts i_X6_mends_6 hown hC.1 Z (o := 16) (ci := 6) rfl (rfl : vwCl[6]? = some (RX6, TX6, 25)) 0 (by decide) (hts _ k_X6_mends_w0) (fun _ h9 => h9) (f := 0) rfl rfl dX6_mends_33 ?_
      refine lv_iload_n hx hb dX6_mends_36 rfl (lv_at hl 2 rfl) ?_
      refine lv_aload_n hx hb dX6_mends_37 rfl (lv_at hl 0 rfl) ?_
      refine wx_get (own := RX6) hx hb hts i_X6_mends_6 hown hC.1 Z (o := 16) (ci := 6) rfl (rfl : vwCl[6]? = some (RX6, TX6, 25)) 0 (by decide) (hts _ k_X6_mends_w0) (fun _ h9 => h9) (f := 0) rfl rfl dX6_mends_38 ?_
      refine lv_iload_n hx hb dX6_mends_41 rfl (lv_at hl 2 rfl) ?_
      refine lv_iconst (v := 2) hx hb dX6_mends_42 (by decide) ?_
      refine lv_iadd hx hb dX6_mends_43 ?_
      obtain ⟨v44, ev44, iv44, h⟩ := wx_rI_ok h
      refine wx_iald hx hb hC.1 Z (o := 16) (k := 0) (n := 109) rfl rfl iv44 dX6_mends_44 ev44 ?_
      obtain ⟨σ45, e45, i45, h⟩ := wx_w_ok h
      refine wx_iast hx hb hC.1 Z hS (o := 16) (k := 0) (n := 109) rfl rfl i45 dX6_mends_45 e45 (fun H locs Z hS => ?_)
      refine lv_iinc (v := x2 + 1) (lv' := [(2, .int (x2 + 1)), (0, .ref (ad 16 99)), (1, .int x1)]) hx hb dX6_mends_46 hl (k := 2) rfl rfl (by decide) rfl (fun ls hl => ?_)
      refine lv_goto (tgt := 17) hx hb dX6_mends_49 (by decide) ?_
      exact ih h Z hS (lv_sub hl [1, 2, 0] rfl)
set_option maxRecDepth 20000 in
set_option maxHeartbeats 4000000 in
theorem b_X6_mends_0 (B : wx_B p s m args meth c cX6_mends 3 (some .int) wsX6_mends RX6 D ad ca A)    {r : Int32} {σ' : wx_St}  {x1 : Int32} {σ : wx_St}  (h : f_X6_mends x1 σ = some (r, σ')) {H : Heap} {locs : List Loc} (Z : wx_Z D ad rd ca A σ H) (hS : va_S A s.heap H locs) {ls : Array Slot} (hl : lv_has ls 3 [(0, .ref (ad 16 99)), (1, .int x1)]) : W p l e ({ frames := 2, cells := 0, slots := 0, locals := 45 } : Room) s m args below meth c H locs 0 0 (MQ below (wx_Q D ad rd ca A (some (.int r)) σ') args s 0 0 A) (F0 m 0 ls []) := by
  obtain ⟨hx, hb, hml, hr, hts, hown, hlk, hC, hA⟩ := id B
  unfold f_X6_mends at h
  refine lv_aload_n hx hb dX6_mends_0 rfl (lv_at hl 0 rfl) ?_
  refine wx_get (own := RX6) hx hb hts i_X6_mends_6 hown hC.1 Z (o := 16) (ci := 6) rfl (rfl : vwCl[6]? = some (RX6, TX6, 25)) 0 (by decide) (hts _ k_X6_mends_w0) (fun _ h9 => h9) (f := 0) rfl rfl dX6_mends_1 ?_
  refine lv_iconst (v := 5) hx hb dX6_mends_4 (by decide) ?_
  refine lv_dup2_11 hx hb dX6_mends_5 rfl rfl ?_
  obtain ⟨v6, ev6, iv6, h⟩ := wx_rI_ok h
  refine wx_iald hx hb hC.1 Z (o := 16) (k := 0) (n := 109) rfl rfl iv6 dX6_mends_6 ev6 ?_
  refine lv_iconst (v := 1) hx hb dX6_mends_7 (by decide) ?_
  refine lv_isub hx hb dX6_mends_8 ?_
  obtain ⟨σ9, e9, i9, h⟩ := wx_w_ok h
  refine wx_iast hx hb hC.1 Z hS (o := 16) (k := 0) (n := 109) rfl rfl i9 dX6_mends_9 e9 (fun H locs Z hS => ?_)
  refine lv_bipush (v := 79) hx hb dX6_mends_10 (by decide) ?_
  refine lv_iconst (v := 2) hx hb dX6_mends_12 (by decide) ?_
  refine lv_iload_n hx hb dX6_mends_13 rfl (lv_at hl 1 rfl) ?_
  refine lv_imul hx hb dX6_mends_14 ?_
  refine lv_iadd hx hb dX6_mends_15 ?_
  refine lv_istore_n (lv' := [(2, .int (79 + (2 * x1))), (0, .ref (ad 16 99)), (1, .int x1)]) hx hb dX6_mends_16 rfl hl (by decide) rfl (fun ls hl => ?_)
  exact b_X6_mends_17 B h Z hS (lv_sub hl [1, 2, 0] rfl)
set_option maxRecDepth 20000 in
theorem c_X6_mends (l : Launch) {D : va_G} {ad : Nat → Nat → Nat} {rd : Nat → Nat} {ca : Nat → ClassId} {A : Nat → Prop} {σ : wx_St}    {x1 : Int32} {r : Int32} {σ' : wx_St} (h : f_X6_mends x1 σ = some (r, σ')) : wx_M l yX6_mends wsX6_mends 2 45 D ad rd ca A [.ref (ad 16 99), .int x1] σ (some (.int r)) σ' := by
  refine Met.ofW (cc := cX6_mends) (maxL := 3) (ret := (some .int)) (by decide +kernel) rfl ?_
  intro p e s m args below meth c s₁ B0 hml hv
  obtain ⟨rfl, hC, Z, hA⟩ := hv
  have hl := lv_entry ([.ref (ad 16 99), .int x1]) (n := 3) (Nat.le_of_ble_eq_true rfl)
  rw [lg_entry_eq]
  generalize (lg_sl ([.ref (ad 16 99), .int x1]) ++ List.replicate (3 - (lg_sl ([.ref (ad 16 99), .int x1])).length) Slot.unset).toArray = ls at hl ⊢
  exact b_X6_mends_0 ⟨B0.exec, B0.bytes, hml, B0.returns, atoms_spec (ws := wsX6_mends) B0.pre, findClass_of_methodNamed B0.named, B0.notSynchronized, hC, hA⟩   h Z va_S.rf hl
theorem i_X6_probes_6 : ∀ w ∈ wsX60, w ∈ wsX6_probes := by decide +kernel
theorem k_X6_probes_w0 : Cond.fieldLink RX6 7 "WarmProbesModel" "state" "[I" ∈ wsX6_probes := by decide +kernel
theorem k_X6_probes_w1 : Cond.fieldLink RX6 13 "WarmProbesModel" "warmth" "[F" ∈ wsX6_probes := by decide +kernel
set_option maxRecDepth 20000 in
set_option maxHeartbeats 4000000 in
theorem b_X6_probes_0 (B : wx_B p s m args meth c cX6_probes 4 (some .int) wsX6_probes RX6 D ad ca A)    {r : Int32} {σ' : wx_St}  {x1 : Int32} {x2 : Int32} {σ : wx_St}  (h : f_X6_probes x1 x2 σ = some (r, σ')) {H : Heap} {locs : List Loc} (Z : wx_Z D ad rd ca A σ H) (hS : va_S A s.heap H locs) {ls : Array Slot} (hl : lv_has ls 4 [(0, .ref (ad 16 99)), (1, .int x1), (2, .int x2)]) : W p l e ({ frames := 1, cells := 0, slots := 0, locals := 21 } : Room) s m args below meth c H locs 0 0 (MQ below (wx_Q D ad rd ca A (some (.int r)) σ') args s 0 0 A) (F0 m 0 ls []) := by
  obtain ⟨hx, hb, hml, hr, hts, hown, hlk, hC, hA⟩ := id B
  unfold f_X6_probes at h
  refine lv_bipush (v := 85) hx hb dX6_probes_0 (by decide) ?_
  refine lv_iconst (v := 3) hx hb dX6_probes_2 (by decide) ?_
  refine lv_aload_n hx hb dX6_probes_3 rfl (lv_at hl 0 rfl) ?_
  refine wx_get (own := RX6) hx hb hts i_X6_probes_6 hown hC.1 Z (o := 16) (ci := 6) rfl (rfl : vwCl[6]? = some (RX6, TX6, 25)) 0 (by decide) (hts _ k_X6_probes_w0) (fun _ h9 => h9) (f := 0) rfl rfl dX6_probes_4 ?_
  refine lv_bipush (v := 6) hx hb dX6_probes_7 (by decide) ?_
  obtain ⟨v9, ev9, iv9, h⟩ := wx_rI_ok h
  refine wx_iald hx hb hC.1 Z (o := 16) (k := 0) (n := 109) rfl rfl iv9 dX6_probes_9 ev9 ?_
  refine lv_imul hx hb dX6_probes_10 ?_
  refine lv_iadd hx hb dX6_probes_11 ?_
  refine lv_istore_n (lv' := [(3, .int (85 + (3 * v9))), (0, .ref (ad 16 99)), (1, .int x1), (2, .int x2)]) hx hb dX6_probes_12 rfl hl (by decide) rfl (fun ls hl => ?_)
  refine lv_aload_n hx hb dX6_probes_13 rfl (lv_at hl 1 rfl) ?_
  refine wx_get (own := RX6) hx hb hts i_X6_probes_6 hown hC.1 Z (o := 16) (ci := 6) rfl (rfl : vwCl[6]? = some (RX6, TX6, 25)) 0 (by decide) (hts _ k_X6_probes_w0) (fun _ h9 => h9) (f := 0) rfl rfl dX6_probes_14 ?_
  refine lv_iload_n hx hb dX6_probes_17 rfl (lv_at hl 0 rfl) ?_
  refine lv_iconst (v := 0) hx hb dX6_probes_18 (by decide) ?_
  refine lv_iadd hx hb dX6_probes_19 ?_
  refine lv_iload_n hx hb dX6_probes_20 rfl (lv_at hl 2 rfl) ?_
  refine lv_iload_n hx hb dX6_probes_21 rfl (lv_at hl 3 rfl) ?_
  obtain ⟨v22, hc22, h⟩ := wx_o_ok h
  refine wx_call (va_runS (As := [.int x1, .int x2]) (rest := [.int ((85 + (3 * v9)) + 0), .ref (ad 16 0)]) ⟨hx, hb, hml, hown, hts⟩ (c_X6_placeOf l (D := D) (ad := ad) (rd := rd) (ca := ca) (A := A) (σ := σ) hc22) (va_cwS 2 hts gX6_probes_X6_placeOf rfl rfl rfl (by decide +kernel) ⟨Nat.le_of_ble_eq_true rfl, Nat.le_of_ble_eq_true rfl⟩) (wx_preS hC Z hS hA) rfl rfl hl.1 rfl (lv_room (Nat.le_of_ble_eq_true rfl)) dX6_probes_22 ⟨Nat.zero_le _, Nat.zero_le _⟩) hS (fun H locs Z hS => ?_)
  obtain ⟨σ25, e25, i25, h⟩ := wx_w_ok h
  refine wx_iast hx hb hC.1 Z hS (o := 16) (k := 0) (n := 109) rfl rfl i25 dX6_probes_25 e25 (fun H locs Z hS => ?_)
  refine lv_aload_n hx hb dX6_probes_26 rfl (lv_at hl 1 rfl) ?_
  refine wx_get (own := RX6) hx hb hts i_X6_probes_6 hown hC.1 Z (o := 16) (ci := 6) rfl (rfl : vwCl[6]? = some (RX6, TX6, 25)) 0 (by decide) (hts _ k_X6_probes_w0) (fun _ h9 => h9) (f := 0) rfl rfl dX6_probes_27 ?_
  refine lv_iload_n hx hb dX6_probes_30 rfl (lv_at hl 0 rfl) ?_
  refine lv_iconst (v := 1) hx hb dX6_probes_31 (by decide) ?_
  refine lv_iadd hx hb dX6_probes_32 ?_
  refine lv_aload_n hx hb dX6_probes_33 rfl (lv_at hl 1 rfl) ?_
  refine wx_get (own := RX6) hx hb hts i_X6_probes_6 hown hC.1 Z (o := 16) (ci := 6) rfl (rfl : vwCl[6]? = some (RX6, TX6, 25)) 1 (by decide) (hts _ k_X6_probes_w1) (fun _ h9 => h9) (f := 0) rfl rfl dX6_probes_34 ?_
  refine lv_iload_n hx hb dX6_probes_37 rfl (lv_at hl 2 rfl) ?_
  refine lv_iload_n hx hb dX6_probes_38 rfl (lv_at hl 3 rfl) ?_
  obtain ⟨v39, hc39, h⟩ := wx_o_ok h
  refine wx_call (va_runS (As := [.int x1, .int x2]) (rest := [.ref (ad 16 1), .int ((85 + (3 * v9)) + 1), .ref (ad 16 0)]) ⟨hx, hb, hml, hown, hts⟩ (c_X6_placeOf l (D := D) (ad := ad) (rd := rd) (ca := ca) (A := A) (σ := σ25) hc39) (va_cwS 2 hts gX6_probes_X6_placeOf rfl rfl rfl (by decide +kernel) ⟨Nat.le_of_ble_eq_true rfl, Nat.le_of_ble_eq_true rfl⟩) (wx_preS hC Z hS hA) rfl rfl hl.1 rfl (lv_room (Nat.le_of_ble_eq_true rfl)) dX6_probes_39 ⟨Nat.zero_le _, Nat.zero_le _⟩) hS (fun H locs Z hS => ?_)
  obtain ⟨v42, ev42, iv42, h⟩ := wx_rF_ok h
  refine wx_fald hx hb hC.1 Z (o := 16) (k := 1) (n := 64) rfl rfl iv42 dX6_probes_42 ev42 ?_
  obtain ⟨v43, hc43, h⟩ := wx_o_ok h
  refine wx_call (va_runS (As := [.float v42]) (rest := [.int ((85 + (3 * v9)) + 1), .ref (ad 16 0)]) ⟨hx, hb, hml, hown, hts⟩ (c_X6_readOf l (D := D) (ad := ad) (rd := rd) (ca := ca) (A := A) (σ := σ25) hc43) (va_cwS 1 hts gX6_probes_X6_readOf rfl rfl rfl (by decide +kernel) ⟨Nat.le_of_ble_eq_true rfl, Nat.le_of_ble_eq_true rfl⟩) (wx_preS hC Z hS hA) rfl rfl hl.1 rfl (lv_room (Nat.le_of_ble_eq_true rfl)) dX6_probes_43 ⟨Nat.zero_le _, Nat.zero_le _⟩) hS (fun H locs Z hS => ?_)
  obtain ⟨σ46, e46, i46, h⟩ := wx_w_ok h
  refine wx_iast hx hb hC.1 Z hS (o := 16) (k := 0) (n := 109) rfl rfl i46 dX6_probes_46 e46 (fun H locs Z hS => ?_)
  refine lv_aload_n hx hb dX6_probes_47 rfl (lv_at hl 1 rfl) ?_
  refine wx_get (own := RX6) hx hb hts i_X6_probes_6 hown hC.1 Z (o := 16) (ci := 6) rfl (rfl : vwCl[6]? = some (RX6, TX6, 25)) 0 (by decide) (hts _ k_X6_probes_w0) (fun _ h9 => h9) (f := 0) rfl rfl dX6_probes_48 ?_
  refine lv_iload_n hx hb dX6_probes_51 rfl (lv_at hl 0 rfl) ?_
  refine lv_iconst (v := 2) hx hb dX6_probes_52 (by decide) ?_
  refine lv_iadd hx hb dX6_probes_53 ?_
  refine lv_aload_n hx hb dX6_probes_54 rfl (lv_at hl 1 rfl) ?_
  refine wx_get (own := RX6) hx hb hts i_X6_probes_6 hown hC.1 Z (o := 16) (ci := 6) rfl (rfl : vwCl[6]? = some (RX6, TX6, 25)) 0 (by decide) (hts _ k_X6_probes_w0) (fun _ h9 => h9) (f := 0) rfl rfl dX6_probes_55 ?_
  refine lv_iconst (v := 4) hx hb dX6_probes_58 (by decide) ?_
  obtain ⟨v59, ev59, iv59, h⟩ := wx_rI_ok h
  refine wx_iald hx hb hC.1 Z (o := 16) (k := 0) (n := 109) rfl rfl iv59 dX6_probes_59 ev59 ?_
  obtain ⟨σ60, e60, i60, h⟩ := wx_w_ok h
  refine wx_iast hx hb hC.1 Z hS (o := 16) (k := 0) (n := 109) rfl rfl i60 dX6_probes_60 e60 (fun H locs Z hS => ?_)
  refine lv_aload_n hx hb dX6_probes_61 rfl (lv_at hl 1 rfl) ?_
  refine wx_get (own := RX6) hx hb hts i_X6_probes_6 hown hC.1 Z (o := 16) (ci := 6) rfl (rfl : vwCl[6]? = some (RX6, TX6, 25)) 0 (by decide) (hts _ k_X6_probes_w0) (fun _ h9 => h9) (f := 0) rfl rfl dX6_probes_62 ?_
  refine lv_bipush (v := 6) hx hb dX6_probes_65 (by decide) ?_
  refine lv_dup2_11 hx hb dX6_probes_67 rfl rfl ?_
  obtain ⟨v68, ev68, iv68, h⟩ := wx_rI_ok h
  refine wx_iald hx hb hC.1 Z (o := 16) (k := 0) (n := 109) rfl rfl iv68 dX6_probes_68 ev68 ?_
  refine lv_iconst (v := 1) hx hb dX6_probes_69 (by decide) ?_
  refine lv_iadd hx hb dX6_probes_70 ?_
  obtain ⟨σ71, e71, i71, h⟩ := wx_w_ok h
  refine wx_iast hx hb hC.1 Z hS (o := 16) (k := 0) (n := 109) rfl rfl i71 dX6_probes_71 e71 (fun H locs Z hS => ?_)
  refine lv_aload_n hx hb dX6_probes_72 rfl (lv_at hl 1 rfl) ?_
  refine wx_get (own := RX6) hx hb hts i_X6_probes_6 hown hC.1 Z (o := 16) (ci := 6) rfl (rfl : vwCl[6]? = some (RX6, TX6, 25)) 0 (by decide) (hts _ k_X6_probes_w0) (fun _ h9 => h9) (f := 0) rfl rfl dX6_probes_73 ?_
  refine lv_iload_n hx hb dX6_probes_76 rfl (lv_at hl 0 rfl) ?_
  refine lv_iconst (v := 1) hx hb dX6_probes_77 (by decide) ?_
  refine lv_iadd hx hb dX6_probes_78 ?_
  obtain ⟨v79, ev79, iv79, h⟩ := wx_rI_ok h
  refine wx_iald hx hb hC.1 Z (o := 16) (k := 0) (n := 109) rfl rfl iv79 dX6_probes_79 ev79 ?_
  obtain ⟨rfl, rfl⟩ := wx_ret_ok h
  exact W.iret hx hb hr (fun t ht hW => ⟨rfl, by rw [ht]; exact Z, hS.F ht⟩) hS.2.2 dX6_probes_80
set_option maxRecDepth 20000 in
theorem c_X6_probes (l : Launch) {D : va_G} {ad : Nat → Nat → Nat} {rd : Nat → Nat} {ca : Nat → ClassId} {A : Nat → Prop} {σ : wx_St}    {x1 : Int32} {x2 : Int32} {r : Int32} {σ' : wx_St} (h : f_X6_probes x1 x2 σ = some (r, σ')) : wx_M l yX6_probes wsX6_probes 1 21 D ad rd ca A [.ref (ad 16 99), .int x1, .int x2] σ (some (.int r)) σ' := by
  refine Met.ofW (cc := cX6_probes) (maxL := 4) (ret := (some .int)) (by decide +kernel) rfl ?_
  intro p e s m args below meth c s₁ B0 hml hv
  obtain ⟨rfl, hC, Z, hA⟩ := hv
  have hl := lv_entry ([.ref (ad 16 99), .int x1, .int x2]) (n := 4) (Nat.le_of_ble_eq_true rfl)
  rw [lg_entry_eq]
  generalize (lg_sl ([.ref (ad 16 99), .int x1, .int x2]) ++ List.replicate (4 - (lg_sl ([.ref (ad 16 99), .int x1, .int x2])).length) Slot.unset).toArray = ls at hl ⊢
  exact b_X6_probes_0 ⟨B0.exec, B0.bytes, hml, B0.returns, atoms_spec (ws := wsX6_probes) B0.pre, findClass_of_methodNamed B0.named, B0.notSynchronized, hC, hA⟩   h Z va_S.rf hl
theorem i_X6_touches_6 : ∀ w ∈ wsX60, w ∈ wsX6_touches := by decide +kernel
theorem k_X6_touches_w0 : Cond.fieldLink RX6 7 "WarmProbesModel" "state" "[I" ∈ wsX6_touches := by decide +kernel
set_option maxRecDepth 20000 in
set_option maxHeartbeats 4000000 in
theorem b_X6_touches_0 (B : wx_B p s m args meth c cX6_touches 5 (some .int) wsX6_touches RX6 D ad ca A)    {r : Int32} {σ' : wx_St}  {x1 : Int32} {x2 : Int32} {x3 : Int32} {σ : wx_St}  (h : f_X6_touches x1 x2 x3 σ = some (r, σ')) {H : Heap} {locs : List Loc} (Z : wx_Z D ad rd ca A σ H) (hS : va_S A s.heap H locs) {ls : Array Slot} (hl : lv_has ls 5 [(0, .ref (ad 16 99)), (1, .int x1), (2, .int x2), (3, .int x3)]) : W p l e ({ frames := 2, cells := 0, slots := 0, locals := 45 } : Room) s m args below meth c H locs 0 0 (MQ below (wx_Q D ad rd ca A (some (.int r)) σ') args s 0 0 A) (F0 m 0 ls []) := by
  obtain ⟨hx, hb, hml, hr, hts, hown, hlk, hC, hA⟩ := id B
  unfold f_X6_touches at h
  refine lv_aload_n hx hb dX6_touches_0 rfl (lv_at hl 0 rfl) ?_
  refine wx_get (own := RX6) hx hb hts i_X6_touches_6 hown hC.1 Z (o := 16) (ci := 6) rfl (rfl : vwCl[6]? = some (RX6, TX6, 25)) 0 (by decide) (hts _ k_X6_touches_w0) (fun _ h9 => h9) (f := 0) rfl rfl dX6_touches_1 ?_
  refine lv_iconst (v := 5) hx hb dX6_touches_4 (by decide) ?_
  obtain ⟨v5, ev5, iv5, h⟩ := wx_rI_ok h
  refine wx_iald hx hb hC.1 Z (o := 16) (k := 0) (n := 109) rfl rfl iv5 dX6_touches_5 ev5 ?_
  refine lv_istore (lv' := [(4, .int v5), (0, .ref (ad 16 99)), (1, .int x1), (2, .int x2), (3, .int x3)]) hx hb dX6_touches_6 hl (by decide) rfl (fun ls hl => ?_)
  refine lv_aload_n hx hb dX6_touches_8 rfl (lv_at hl 1 rfl) ?_
  refine wx_get (own := RX6) hx hb hts i_X6_touches_6 hown hC.1 Z (o := 16) (ci := 6) rfl (rfl : vwCl[6]? = some (RX6, TX6, 25)) 0 (by decide) (hts _ k_X6_touches_w0) (fun _ h9 => h9) (f := 0) rfl rfl dX6_touches_9 ?_
  refine lv_bipush (v := 79) hx hb dX6_touches_12 (by decide) ?_
  refine lv_iconst (v := 2) hx hb dX6_touches_14 (by decide) ?_
  refine lv_iload hx hb dX6_touches_15 (lv_at hl 0 rfl) ?_
  refine lv_imul hx hb dX6_touches_17 ?_
  refine lv_iadd hx hb dX6_touches_18 ?_
  refine lv_iconst (v := 0) hx hb dX6_touches_19 (by decide) ?_
  refine lv_iadd hx hb dX6_touches_20 ?_
  refine lv_iload_n hx hb dX6_touches_21 rfl (lv_at hl 2 rfl) ?_
  refine lv_iload_n hx hb dX6_touches_22 rfl (lv_at hl 3 rfl) ?_
  obtain ⟨v23, hc23, h⟩ := wx_o_ok h
  refine wx_call (va_runS (As := [.int x1, .int x2]) (rest := [.int ((79 + (2 * v5)) + 0), .ref (ad 16 0)]) ⟨hx, hb, hml, hown, hts⟩ (c_X6_placeOf l (D := D) (ad := ad) (rd := rd) (ca := ca) (A := A) (σ := σ) hc23) (va_cwS 2 hts gX6_touches_X6_placeOf rfl rfl rfl (by decide +kernel) ⟨Nat.le_of_ble_eq_true rfl, Nat.le_of_ble_eq_true rfl⟩) (wx_preS hC Z hS hA) rfl rfl hl.1 rfl (lv_room (Nat.le_of_ble_eq_true rfl)) dX6_touches_23 ⟨Nat.zero_le _, Nat.zero_le _⟩) hS (fun H locs Z hS => ?_)
  obtain ⟨σ26, e26, i26, h⟩ := wx_w_ok h
  refine wx_iast hx hb hC.1 Z hS (o := 16) (k := 0) (n := 109) rfl rfl i26 dX6_touches_26 e26 (fun H locs Z hS => ?_)
  refine lv_aload_n hx hb dX6_touches_27 rfl (lv_at hl 1 rfl) ?_
  refine wx_get (own := RX6) hx hb hts i_X6_touches_6 hown hC.1 Z (o := 16) (ci := 6) rfl (rfl : vwCl[6]? = some (RX6, TX6, 25)) 0 (by decide) (hts _ k_X6_touches_w0) (fun _ h9 => h9) (f := 0) rfl rfl dX6_touches_28 ?_
  refine lv_bipush (v := 79) hx hb dX6_touches_31 (by decide) ?_
  refine lv_iconst (v := 2) hx hb dX6_touches_33 (by decide) ?_
  refine lv_iload hx hb dX6_touches_34 (lv_at hl 0 rfl) ?_
  refine lv_imul hx hb dX6_touches_36 ?_
  refine lv_iadd hx hb dX6_touches_37 ?_
  refine lv_iconst (v := 1) hx hb dX6_touches_38 (by decide) ?_
  refine lv_iadd hx hb dX6_touches_39 ?_
  refine lv_iload_n hx hb dX6_touches_40 rfl (lv_at hl 4 rfl) ?_
  obtain ⟨σ41, e41, i41, h⟩ := wx_w_ok h
  refine wx_iast hx hb hC.1 Z hS (o := 16) (k := 0) (n := 109) rfl rfl i41 dX6_touches_41 e41 (fun H locs Z hS => ?_)
  refine lv_aload_n hx hb dX6_touches_42 rfl (lv_at hl 1 rfl) ?_
  refine wx_get (own := RX6) hx hb hts i_X6_touches_6 hown hC.1 Z (o := 16) (ci := 6) rfl (rfl : vwCl[6]? = some (RX6, TX6, 25)) 0 (by decide) (hts _ k_X6_touches_w0) (fun _ h9 => h9) (f := 0) rfl rfl dX6_touches_43 ?_
  refine lv_iconst (v := 5) hx hb dX6_touches_46 (by decide) ?_
  refine lv_dup2_11 hx hb dX6_touches_47 rfl rfl ?_
  obtain ⟨v48, ev48, iv48, h⟩ := wx_rI_ok h
  refine wx_iald hx hb hC.1 Z (o := 16) (k := 0) (n := 109) rfl rfl iv48 dX6_touches_48 ev48 ?_
  refine lv_iconst (v := 1) hx hb dX6_touches_49 (by decide) ?_
  refine lv_iadd hx hb dX6_touches_50 ?_
  obtain ⟨σ51, e51, i51, h⟩ := wx_w_ok h
  refine wx_iast hx hb hC.1 Z hS (o := 16) (k := 0) (n := 109) rfl rfl i51 dX6_touches_51 e51 (fun H locs Z hS => ?_)
  refine lv_aload_n hx hb dX6_touches_52 rfl (lv_at hl 1 rfl) ?_
  obtain ⟨v53, σ53, hc53, h⟩ := wx_b_ok h
  refine wx_call (va_runV (As := []) (rest := []) ⟨hx, hb, hml, hown, hts⟩ (c_X6_beginsRun l (D := D) (ad := ad) (rd := rd) (ca := ca) (A := A) (σ := σ51) hc53) (cwV 0 hts gX6_touches_X6_beginsRun rfl rfl rfl (by decide +kernel) ⟨Nat.le_of_ble_eq_true rfl, Nat.le_of_ble_eq_true rfl⟩) (wx_preV hC Z hS hA rfl (rfl : vwCl[6]? = some (RX6, TX6, 25))) rfl rfl hl.1 rfl (lv_room (Nat.le_of_ble_eq_true rfl)) dX6_touches_53 ⟨Nat.zero_le _, Nat.zero_le _⟩) hS (fun H locs Z hS => ?_)
  refine lv_iload hx hb dX6_touches_56 (lv_at hl 0 rfl) ?_
  obtain ⟨rfl, rfl⟩ := wx_ret_ok h
  exact W.iret hx hb hr (fun t ht hW => ⟨rfl, by rw [ht]; exact Z, hS.F ht⟩) hS.2.2 dX6_touches_58
set_option maxRecDepth 20000 in
theorem c_X6_touches (l : Launch) {D : va_G} {ad : Nat → Nat → Nat} {rd : Nat → Nat} {ca : Nat → ClassId} {A : Nat → Prop} {σ : wx_St}    {x1 : Int32} {x2 : Int32} {x3 : Int32} {r : Int32} {σ' : wx_St} (h : f_X6_touches x1 x2 x3 σ = some (r, σ')) : wx_M l yX6_touches wsX6_touches 2 45 D ad rd ca A [.ref (ad 16 99), .int x1, .int x2, .int x3] σ (some (.int r)) σ' := by
  refine Met.ofW (cc := cX6_touches) (maxL := 5) (ret := (some .int)) (by decide +kernel) rfl ?_
  intro p e s m args below meth c s₁ B0 hml hv
  obtain ⟨rfl, hC, Z, hA⟩ := hv
  have hl := lv_entry ([.ref (ad 16 99), .int x1, .int x2, .int x3]) (n := 5) (Nat.le_of_ble_eq_true rfl)
  rw [lg_entry_eq]
  generalize (lg_sl ([.ref (ad 16 99), .int x1, .int x2, .int x3]) ++ List.replicate (5 - (lg_sl ([.ref (ad 16 99), .int x1, .int x2, .int x3])).length) Slot.unset).toArray = ls at hl ⊢
  exact b_X6_touches_0 ⟨B0.exec, B0.bytes, hml, B0.returns, atoms_spec (ws := wsX6_touches) B0.pre, findClass_of_methodNamed B0.named, B0.notSynchronized, hC, hA⟩   h Z va_S.rf hl
theorem i_X6_tracks_6 : ∀ w ∈ wsX60, w ∈ wsX6_tracks := by decide +kernel
theorem k_X6_tracks_w0 : Cond.fieldLink RX6 7 "WarmProbesModel" "state" "[I" ∈ wsX6_tracks := by decide +kernel
set_option maxRecDepth 20000 in
set_option maxHeartbeats 4000000 in
theorem b_X6_tracks_0 (B : wx_B p s m args meth c cX6_tracks 6 (some .int) wsX6_tracks RX6 D ad ca A)    {r : Int32} {σ' : wx_St}  {x1 : Int32} {x2 : Int32} {x3 : Int32} {σ : wx_St}  (h : f_X6_tracks x1 x2 x3 σ = some (r, σ')) {H : Heap} {locs : List Loc} (Z : wx_Z D ad rd ca A σ H) (hS : va_S A s.heap H locs) {ls : Array Slot} (hl : lv_has ls 6 [(0, .ref (ad 16 99)), (1, .int x1), (2, .int x2), (3, .int x3)]) : W p l e ({ frames := 2, cells := 0, slots := 0, locals := 45 } : Room) s m args below meth c H locs 0 0 (MQ below (wx_Q D ad rd ca A (some (.int r)) σ') args s 0 0 A) (F0 m 0 ls []) := by
  obtain ⟨hx, hb, hml, hr, hts, hown, hlk, hC, hA⟩ := id B
  unfold f_X6_tracks at h
  refine lv_iload_n hx hb dX6_tracks_0 rfl (lv_at hl 1 rfl) ?_
  refine lv_iload_n hx hb dX6_tracks_1 rfl (lv_at hl 2 rfl) ?_
  obtain ⟨v2, hc2, h⟩ := wx_o_ok h
  refine wx_call (va_runS (As := [.int x1, .int x2]) (rest := []) ⟨hx, hb, hml, hown, hts⟩ (c_X6_placeOf l (D := D) (ad := ad) (rd := rd) (ca := ca) (A := A) (σ := σ) hc2) (va_cwS 2 hts gX6_tracks_X6_placeOf rfl rfl rfl (by decide +kernel) ⟨Nat.le_of_ble_eq_true rfl, Nat.le_of_ble_eq_true rfl⟩) (wx_preS hC Z hS hA) rfl rfl hl.1 rfl (lv_room (Nat.le_of_ble_eq_true rfl)) dX6_tracks_2 ⟨Nat.zero_le _, Nat.zero_le _⟩) hS (fun H locs Z hS => ?_)
  refine lv_istore (lv' := [(4, .int v2), (0, .ref (ad 16 99)), (1, .int x1), (2, .int x2), (3, .int x3)]) hx hb dX6_tracks_5 hl (by decide) rfl (fun ls hl => ?_)
  refine lv_aload_n hx hb dX6_tracks_7 rfl (lv_at hl 1 rfl) ?_
  refine lv_iload hx hb dX6_tracks_8 (lv_at hl 0 rfl) ?_
  obtain ⟨v10, hc10, h⟩ := wx_o_ok h
  refine wx_call (va_runV (As := [.int v2]) (rest := []) ⟨hx, hb, hml, hown, hts⟩ (c_X6_netAt l (D := D) (ad := ad) (rd := rd) (ca := ca) (A := A) (σ := σ) hc10) (cwV 1 hts gX6_tracks_X6_netAt rfl rfl rfl (by decide +kernel) ⟨Nat.le_of_ble_eq_true rfl, Nat.le_of_ble_eq_true rfl⟩) (wx_preV hC Z hS hA rfl (rfl : vwCl[6]? = some (RX6, TX6, 25))) rfl rfl hl.1 rfl (lv_room (Nat.le_of_ble_eq_true rfl)) dX6_tracks_10 ⟨Nat.zero_le _, Nat.zero_le _⟩) hS (fun H locs Z hS => ?_)
  refine lv_istore (lv' := [(5, .int v10), (4, .int v2), (0, .ref (ad 16 99)), (1, .int x1), (2, .int x2), (3, .int x3)]) hx hb dX6_tracks_13 hl (by decide) rfl (fun ls hl => ?_)
  refine lv_aload_n hx hb dX6_tracks_15 rfl (lv_at hl 2 rfl) ?_
  refine wx_get (own := RX6) hx hb hts i_X6_tracks_6 hown hC.1 Z (o := 16) (ci := 6) rfl (rfl : vwCl[6]? = some (RX6, TX6, 25)) 0 (by decide) (hts _ k_X6_tracks_w0) (fun _ h9 => h9) (f := 0) rfl rfl dX6_tracks_16 ?_
  refine lv_bipush (v := 7) hx hb dX6_tracks_19 (by decide) ?_
  refine lv_iload hx hb dX6_tracks_21 (lv_at hl 1 rfl) ?_
  refine lv_iadd hx hb dX6_tracks_23 ?_
  refine lv_iload_n hx hb dX6_tracks_24 rfl (lv_at hl 5 rfl) ?_
  obtain ⟨σ25, e25, i25, h⟩ := wx_w_ok h
  refine wx_iast hx hb hC.1 Z hS (o := 16) (k := 0) (n := 109) rfl rfl i25 dX6_tracks_25 e25 (fun H locs Z hS => ?_)
  refine lv_aload_n hx hb dX6_tracks_26 rfl (lv_at hl 2 rfl) ?_
  obtain ⟨v27, σ27, hc27, h⟩ := wx_b_ok h
  refine wx_call (va_runV (As := []) (rest := []) ⟨hx, hb, hml, hown, hts⟩ (c_X6_beginsRun l (D := D) (ad := ad) (rd := rd) (ca := ca) (A := A) (σ := σ25) hc27) (cwV 0 hts gX6_tracks_X6_beginsRun rfl rfl rfl (by decide +kernel) ⟨Nat.le_of_ble_eq_true rfl, Nat.le_of_ble_eq_true rfl⟩) (wx_preV hC Z hS hA rfl (rfl : vwCl[6]? = some (RX6, TX6, 25))) rfl rfl hl.1 rfl (lv_room (Nat.le_of_ble_eq_true rfl)) dX6_tracks_27 ⟨Nat.zero_le _, Nat.zero_le _⟩) hS (fun H locs Z hS => ?_)
  refine lv_iload hx hb dX6_tracks_30 (lv_at hl 0 rfl) ?_
  obtain ⟨rfl, rfl⟩ := wx_ret_ok h
  exact W.iret hx hb hr (fun t ht hW => ⟨rfl, by rw [ht]; exact Z, hS.F ht⟩) hS.2.2 dX6_tracks_32
set_option maxRecDepth 20000 in
theorem c_X6_tracks (l : Launch) {D : va_G} {ad : Nat → Nat → Nat} {rd : Nat → Nat} {ca : Nat → ClassId} {A : Nat → Prop} {σ : wx_St}    {x1 : Int32} {x2 : Int32} {x3 : Int32} {r : Int32} {σ' : wx_St} (h : f_X6_tracks x1 x2 x3 σ = some (r, σ')) : wx_M l yX6_tracks wsX6_tracks 2 45 D ad rd ca A [.ref (ad 16 99), .int x1, .int x2, .int x3] σ (some (.int r)) σ' := by
  refine Met.ofW (cc := cX6_tracks) (maxL := 6) (ret := (some .int)) (by decide +kernel) rfl ?_
  intro p e s m args below meth c s₁ B0 hml hv
  obtain ⟨rfl, hC, Z, hA⟩ := hv
  have hl := lv_entry ([.ref (ad 16 99), .int x1, .int x2, .int x3]) (n := 6) (Nat.le_of_ble_eq_true rfl)
  rw [lg_entry_eq]
  generalize (lg_sl ([.ref (ad 16 99), .int x1, .int x2, .int x3]) ++ List.replicate (6 - (lg_sl ([.ref (ad 16 99), .int x1, .int x2, .int x3])).length) Slot.unset).toArray = ls at hl ⊢
  exact b_X6_tracks_0 ⟨B0.exec, B0.bytes, hml, B0.returns, atoms_spec (ws := wsX6_tracks) B0.pre, findClass_of_methodNamed B0.named, B0.notSynchronized, hC, hA⟩   h Z va_S.rf hl
theorem i_X6_warms_6 : ∀ w ∈ wsX60, w ∈ wsX6_warms := by decide +kernel
theorem k_X6_warms_w0 : Cond.fieldLink RX6 13 "WarmProbesModel" "warmth" "[F" ∈ wsX6_warms := by decide +kernel
theorem k_X6_warms_w1 : Cond.fieldLink RX6 35 "WarmProbesModel" "thought" "[F" ∈ wsX6_warms := by decide +kernel
theorem k_X6_warms_w2 : Cond.fieldLink RX6 7 "WarmProbesModel" "state" "[I" ∈ wsX6_warms := by decide +kernel
set_option maxRecDepth 20000 in
set_option maxHeartbeats 4000000 in
theorem b_X6_warms_15 (B : wx_B p s m args meth c cX6_warms 3 (some .int) wsX6_warms RX6 D ad ca A)    {r : Int32} {σ' : wx_St}   :
    ∀ {n : Nat} {x1 : Int32} {x2 : Int32} {σ : wx_St}  (h : f_X6_warms_15 n x1 x2 σ = some (r, σ')) {H : Heap} {locs : List Loc} (Z : wx_Z D ad rd ca A σ H) (hS : va_S A s.heap H locs) {ls : Array Slot} (hl : lv_has ls 3 [(0, .ref (ad 16 99)), (1, .int x1), (2, .int x2)]), W p l e ({ frames := 5, cells := 0, slots := 0, locals := 112 } : Room) s m args below meth c H locs 0 0 (MQ below (wx_Q D ad rd ca A (some (.int r)) σ') args s 0 0 A) (F0 m 15 ls []) := by
  obtain ⟨hx, hb, hml, hr, hts, hown, hlk, hC, hA⟩ := id B
  intro n
  induction n with
  | zero => intro x1 x2 σ  h H locs Z hS ls hl; exact wx_no h
  | succ n ih =>
    intro x1 x2 σ  h H locs Z hS ls hl
    rw [f_X6_warms_15] at h
    refine lv_iload_n hx hb dX6_warms_15 rfl (lv_at hl 2 rfl) ?_
    refine lv_iload_n hx hb dX6_warms_16 rfl (lv_at hl 1 rfl) ?_
    refine lv_icmp_ge (tgt := 32) hx hb dX6_warms_17 (by decide) (fun c17 => ?_) (fun c17 => ?_)
    · replace h := wx_ift c17 h
      refine lv_aload_n hx hb dX6_warms_32 rfl (lv_at hl 0 rfl) ?_
      refine wx_get (own := RX6) hx hb hts i_X6_warms_6 hown hC.1 Z (o := 16) (ci := 6) rfl (rfl : vwCl[6]? = some (RX6, TX6, 25)) 10 (by decide) (hts _ k_X6_warms_w1) (fun _ h9 => h9) (f := 0) rfl rfl dX6_warms_33 ?_
      refine lv_iconst (v := 0) hx hb dX6_warms_36 (by decide) ?_
      refine lv_aload_n hx hb dX6_warms_37 rfl (lv_at hl 0 rfl) ?_
      refine wx_get (own := RX6) hx hb hts i_X6_warms_6 hown hC.1 Z (o := 16) (ci := 6) rfl (rfl : vwCl[6]? = some (RX6, TX6, 25)) 1 (by decide) (hts _ k_X6_warms_w0) (fun _ h9 => h9) (f := 0) rfl rfl dX6_warms_38 ?_
      refine lv_iconst (v := 0) hx hb dX6_warms_41 (by decide) ?_
      obtain ⟨v42, σ42, hc42, h⟩ := wx_b_ok h
      refine wx_call (va_runS (As := [.ref (ad 16 10), .int 0, .ref (ad 16 1), .int 0]) (rest := []) ⟨hx, hb, hml, hown, hts⟩ (c_X6_movesWarmth l (D := D) (ad := ad) (rd := rd) (ca := ca) (A := A) (σ := σ) (o0 := 16) (k0 := 10) (n0 := 64) (o2 := 16) (k2 := 1) (n2 := 64) (al := σ.2.2.2.2) rfl rfl rfl hc42) (va_cwS 4 hts gX6_warms_X6_movesWarmth rfl rfl rfl (by decide +kernel) ⟨Nat.le_of_ble_eq_true rfl, Nat.le_of_ble_eq_true rfl⟩) (wx_preS hC Z hS hA) rfl rfl hl.1 rfl (lv_room (Nat.le_of_ble_eq_true rfl)) dX6_warms_42 ⟨Nat.zero_le _, Nat.zero_le _⟩) hS (fun H locs Z hS => ?_)
      refine lv_aload_n hx hb dX6_warms_45 rfl (lv_at hl 0 rfl) ?_
      refine wx_get (own := RX6) hx hb hts i_X6_warms_6 hown hC.1 Z (o := 16) (ci := 6) rfl (rfl : vwCl[6]? = some (RX6, TX6, 25)) 0 (by decide) (hts _ k_X6_warms_w2) (fun _ h9 => h9) (f := 0) rfl rfl dX6_warms_46 ?_
      refine lv_iconst (v := 4) hx hb dX6_warms_49 (by decide) ?_
      refine lv_dup2_11 hx hb dX6_warms_50 rfl rfl ?_
      obtain ⟨v51, ev51, iv51, h⟩ := wx_rI_ok h
      refine wx_iald hx hb hC.1 Z (o := 16) (k := 0) (n := 109) rfl rfl iv51 dX6_warms_51 ev51 ?_
      refine lv_iload_n hx hb dX6_warms_52 rfl (lv_at hl 1 rfl) ?_
      refine lv_iadd hx hb dX6_warms_53 ?_
      obtain ⟨σ54, e54, i54, h⟩ := wx_w_ok h
      refine wx_iast hx hb hC.1 Z hS (o := 16) (k := 0) (n := 109) rfl rfl i54 dX6_warms_54 e54 (fun H locs Z hS => ?_)
      refine lv_aload_n hx hb dX6_warms_55 rfl (lv_at hl 0 rfl) ?_
      refine wx_get (own := RX6) hx hb hts i_X6_warms_6 hown hC.1 Z (o := 16) (ci := 6) rfl (rfl : vwCl[6]? = some (RX6, TX6, 25)) 0 (by decide) (hts _ k_X6_warms_w2) (fun _ h9 => h9) (f := 0) rfl rfl dX6_warms_56 ?_
      refine lv_iconst (v := 4) hx hb dX6_warms_59 (by decide) ?_
      obtain ⟨v60, ev60, iv60, h⟩ := wx_rI_ok h
      refine wx_iald hx hb hC.1 Z (o := 16) (k := 0) (n := 109) rfl rfl iv60 dX6_warms_60 ev60 ?_
      obtain ⟨rfl, rfl⟩ := wx_ret_ok h
      exact W.iret hx hb hr (fun t ht hW => ⟨rfl, by rw [ht]; exact Z, hS.F ht⟩) hS.2.2 dX6_warms_61
    · replace h := wx_iff c17 h
      refine lv_aload_n hx hb dX6_warms_20 rfl (lv_at hl 0 rfl) ?_
      refine lv_bipush (v := (-6)) hx hb dX6_warms_21 (by decide) ?_
      obtain ⟨v23, σ23, hc23, h⟩ := wx_b_ok h
      refine wx_call (va_runV (As := [.int (-6)]) (rest := []) ⟨hx, hb, hml, hown, hts⟩ (c_X6_steps l (D := D) (ad := ad) (rd := rd) (ca := ca) (A := A) (σ := σ) hc23) (cwV 1 hts gX6_warms_X6_steps rfl rfl rfl (by decide +kernel) ⟨Nat.le_of_ble_eq_true rfl, Nat.le_of_ble_eq_true rfl⟩) (wx_preV hC Z hS hA rfl (rfl : vwCl[6]? = some (RX6, TX6, 25))) rfl rfl hl.1 rfl (lv_room (Nat.le_of_ble_eq_true rfl)) dX6_warms_23 ⟨Nat.zero_le _, Nat.zero_le _⟩) hS (fun H locs Z hS => ?_)
      refine lv_iinc (v := x2 + 1) (lv' := [(2, .int (x2 + 1)), (0, .ref (ad 16 99)), (1, .int x1)]) hx hb dX6_warms_26 hl (k := 2) rfl rfl (by decide) rfl (fun ls hl => ?_)
      refine lv_goto (tgt := 15) hx hb dX6_warms_29 (by decide) ?_
      exact ih h Z hS (lv_sub hl [1, 2, 0] rfl)
set_option maxRecDepth 20000 in
set_option maxHeartbeats 4000000 in
theorem b_X6_warms_0 (B : wx_B p s m args meth c cX6_warms 3 (some .int) wsX6_warms RX6 D ad ca A)    {r : Int32} {σ' : wx_St}  {x1 : Int32} {σ : wx_St}  (h : f_X6_warms x1 σ = some (r, σ')) {H : Heap} {locs : List Loc} (Z : wx_Z D ad rd ca A σ H) (hS : va_S A s.heap H locs) {ls : Array Slot} (hl : lv_has ls 3 [(0, .ref (ad 16 99)), (1, .int x1)]) : W p l e ({ frames := 5, cells := 0, slots := 0, locals := 112 } : Room) s m args below meth c H locs 0 0 (MQ below (wx_Q D ad rd ca A (some (.int r)) σ') args s 0 0 A) (F0 m 0 ls []) := by
  obtain ⟨hx, hb, hml, hr, hts, hown, hlk, hC, hA⟩ := id B
  unfold f_X6_warms at h
  refine lv_aload_n hx hb dX6_warms_0 rfl (lv_at hl 0 rfl) ?_
  refine wx_get (own := RX6) hx hb hts i_X6_warms_6 hown hC.1 Z (o := 16) (ci := 6) rfl (rfl : vwCl[6]? = some (RX6, TX6, 25)) 1 (by decide) (hts _ k_X6_warms_w0) (fun _ h9 => h9) (f := 0) rfl rfl dX6_warms_1 ?_
  refine lv_iconst (v := 0) hx hb dX6_warms_4 (by decide) ?_
  refine lv_aload_n hx hb dX6_warms_5 rfl (lv_at hl 0 rfl) ?_
  refine wx_get (own := RX6) hx hb hts i_X6_warms_6 hown hC.1 Z (o := 16) (ci := 6) rfl (rfl : vwCl[6]? = some (RX6, TX6, 25)) 10 (by decide) (hts _ k_X6_warms_w1) (fun _ h9 => h9) (f := 0) rfl rfl dX6_warms_6 ?_
  refine lv_iconst (v := 0) hx hb dX6_warms_9 (by decide) ?_
  obtain ⟨v10, σ10, hc10, h⟩ := wx_b_ok h
  refine wx_call (va_runS (As := [.ref (ad 16 1), .int 0, .ref (ad 16 10), .int 0]) (rest := []) ⟨hx, hb, hml, hown, hts⟩ (c_X6_movesWarmth l (D := D) (ad := ad) (rd := rd) (ca := ca) (A := A) (σ := σ) (o0 := 16) (k0 := 1) (n0 := 64) (o2 := 16) (k2 := 10) (n2 := 64) (al := σ.2.2.2.2) rfl rfl rfl hc10) (va_cwS 4 hts gX6_warms_X6_movesWarmth rfl rfl rfl (by decide +kernel) ⟨Nat.le_of_ble_eq_true rfl, Nat.le_of_ble_eq_true rfl⟩) (wx_preS hC Z hS hA) rfl rfl hl.1 rfl (lv_room (Nat.le_of_ble_eq_true rfl)) dX6_warms_10 ⟨Nat.zero_le _, Nat.zero_le _⟩) hS (fun H locs Z hS => ?_)
  refine lv_iconst (v := 0) hx hb dX6_warms_13 (by decide) ?_
  refine lv_istore_n (lv' := [(2, .int 0), (0, .ref (ad 16 99)), (1, .int x1)]) hx hb dX6_warms_14 rfl hl (by decide) rfl (fun ls hl => ?_)
  exact b_X6_warms_15 B h Z hS (lv_sub hl [1, 2, 0] rfl)
set_option maxRecDepth 20000 in
theorem c_X6_warms (l : Launch) {D : va_G} {ad : Nat → Nat → Nat} {rd : Nat → Nat} {ca : Nat → ClassId} {A : Nat → Prop} {σ : wx_St}    {x1 : Int32} {r : Int32} {σ' : wx_St} (h : f_X6_warms x1 σ = some (r, σ')) : wx_M l yX6_warms wsX6_warms 5 112 D ad rd ca A [.ref (ad 16 99), .int x1] σ (some (.int r)) σ' := by
  refine Met.ofW (cc := cX6_warms) (maxL := 3) (ret := (some .int)) (by decide +kernel) rfl ?_
  intro p e s m args below meth c s₁ B0 hml hv
  obtain ⟨rfl, hC, Z, hA⟩ := hv
  have hl := lv_entry ([.ref (ad 16 99), .int x1]) (n := 3) (Nat.le_of_ble_eq_true rfl)
  rw [lg_entry_eq]
  generalize (lg_sl ([.ref (ad 16 99), .int x1]) ++ List.replicate (3 - (lg_sl ([.ref (ad 16 99), .int x1])).length) Slot.unset).toArray = ls at hl ⊢
  exact b_X6_warms_0 ⟨B0.exec, B0.bytes, hml, B0.returns, atoms_spec (ws := wsX6_warms) B0.pre, findClass_of_methodNamed B0.named, B0.notSynchronized, hC, hA⟩   h Z va_S.rf hl
theorem i_X6_does_6 : ∀ w ∈ wsX60, w ∈ wsX6_does := by decide +kernel
theorem k_X6_does_w0 : Cond.fieldLink RX6 274 "WarmProbesModel" "letter" "I" ∈ wsX6_does := by decide +kernel
theorem k_X6_does_w1 : Cond.fieldLink RX6 271 "WarmProbesModel" "one" "I" ∈ wsX6_does := by decide +kernel
theorem k_X6_does_w2 : Cond.fieldLink RX6 268 "WarmProbesModel" "two" "I" ∈ wsX6_does := by decide +kernel
set_option maxRecDepth 20000 in
set_option maxHeartbeats 4000000 in
theorem b_X6_does_134 (B : wx_B p s m args meth c cX6_does 2 none wsX6_does RX6 D ad ca A)     {σ' : wx_St}  {x1 : Int32} {σ : wx_St}  (h : f_X6_does_134 x1 σ = some ((), σ')) {H : Heap} {locs : List Loc} (Z : wx_Z D ad rd ca A σ H) (hS : va_S A s.heap H locs) {ls : Array Slot} (hl : lv_has ls 2 [(0, .ref (ad 16 99)), (1, .int x1)]) : W p l e ({ frames := 6, cells := 0, slots := 0, locals := 134 } : Room) s m args below meth c H locs 0 0 (MQ below (wx_Q D ad rd ca A none σ') args s 0 0 A) (F0 m 134 ls []) := by
  obtain ⟨hx, hb, hml, hr, hts, hown, hlk, hC, hA⟩ := id B
  unfold f_X6_does_134 at h
  obtain ⟨-, rfl⟩ := wx_ret_ok h
  exact W.vret hx hb hr (fun t ht hW => ⟨rfl, by rw [ht]; exact Z, hS.F ht⟩) hS.2.2 dX6_does_134
set_option maxRecDepth 20000 in
set_option maxHeartbeats 4000000 in
theorem b_X6_does_0 (B : wx_B p s m args meth c cX6_does 2 none wsX6_does RX6 D ad ca A)     {σ' : wx_St}  {x1 : Int32} {σ : wx_St}  (h : f_X6_does x1 σ = some ((), σ')) {H : Heap} {locs : List Loc} (Z : wx_Z D ad rd ca A σ H) (hS : va_S A s.heap H locs) {ls : Array Slot} (hl : lv_has ls 2 [(0, .ref (ad 16 99)), (1, .int x1)]) : W p l e ({ frames := 6, cells := 0, slots := 0, locals := 134 } : Room) s m args below meth c H locs 0 0 (MQ below (wx_Q D ad rd ca A none σ') args s 0 0 A) (F0 m 0 ls []) := by
  obtain ⟨hx, hb, hml, hr, hts, hown, hlk, hC, hA⟩ := id B
  unfold f_X6_does at h
  refine lv_aload_n hx hb dX6_does_0 rfl (lv_at hl 0 rfl) ?_
  refine wx_get (own := RX6) hx hb hts i_X6_does_6 hown hC.1 Z (o := 16) (ci := 6) rfl (rfl : vwCl[6]? = some (RX6, TX6, 25)) 21 (by decide) (hts _ k_X6_does_w0) (fun _ h9 => h9) (f := 1) rfl rfl dX6_does_1 ?_
  by_cases c4_0 : (σ.2.2.1 16 21) = 102
  · replace h := wx_ift c4_0 h
    refine lv_lookup (off := 69) (tgt := 73) hx hb dX6_does_4 (by decide) (by rw [c4_0]; decide) (by decide) ?_
    refine lv_aload_n hx hb dX6_does_73 rfl (lv_at hl 0 rfl) ?_
    refine lv_aload_n hx hb dX6_does_74 rfl (lv_at hl 0 rfl) ?_
    refine wx_get (own := RX6) hx hb hts i_X6_does_6 hown hC.1 Z (o := 16) (ci := 6) rfl (rfl : vwCl[6]? = some (RX6, TX6, 25)) 22 (by decide) (hts _ k_X6_does_w1) (fun _ h9 => h9) (f := 1) rfl rfl dX6_does_75 ?_
    refine lv_iload_n hx hb dX6_does_78 rfl (lv_at hl 1 rfl) ?_
    obtain ⟨v79, σ79, hc79, h⟩ := wx_b_ok h
    refine wx_call (va_runV (As := [.int (σ.2.2.1 16 22), .int x1]) (rest := []) ⟨hx, hb, hml, hown, hts⟩ (c_X6_feeds l (D := D) (ad := ad) (rd := rd) (ca := ca) (A := A) (σ := σ) hc79) (cwV 2 hts gX6_does_X6_feeds rfl rfl rfl (by decide +kernel) ⟨Nat.le_of_ble_eq_true rfl, Nat.le_of_ble_eq_true rfl⟩) (wx_preV hC Z hS hA rfl (rfl : vwCl[6]? = some (RX6, TX6, 25))) rfl rfl hl.1 rfl (lv_room (Nat.le_of_ble_eq_true rfl)) dX6_does_79 ⟨Nat.zero_le _, Nat.zero_le _⟩) hS (fun H locs Z hS => ?_)
    refine lv_pop hx hb dX6_does_82 rfl ?_
    refine lv_goto (tgt := 134) hx hb dX6_does_83 (by decide) ?_
    exact b_X6_does_134 B h Z hS (lv_sub hl [0, 1] rfl)
  · replace h := wx_iff c4_0 h
    by_cases c4_1 : (σ.2.2.1 16 21) = 109
    · replace h := wx_ift c4_1 h
      refine lv_lookup (off := 99) (tgt := 103) hx hb dX6_does_4 (by decide) (by rw [c4_1]; decide) (by decide) ?_
      refine lv_aload_n hx hb dX6_does_103 rfl (lv_at hl 0 rfl) ?_
      refine lv_iload_n hx hb dX6_does_104 rfl (lv_at hl 1 rfl) ?_
      obtain ⟨v105, σ105, hc105, h⟩ := wx_b_ok h
      refine wx_call (va_runV (As := [.int x1]) (rest := []) ⟨hx, hb, hml, hown, hts⟩ (c_X6_mends l (D := D) (ad := ad) (rd := rd) (ca := ca) (A := A) (σ := σ) hc105) (cwV 1 hts gX6_does_X6_mends rfl rfl rfl (by decide +kernel) ⟨Nat.le_of_ble_eq_true rfl, Nat.le_of_ble_eq_true rfl⟩) (wx_preV hC Z hS hA rfl (rfl : vwCl[6]? = some (RX6, TX6, 25))) rfl rfl hl.1 rfl (lv_room (Nat.le_of_ble_eq_true rfl)) dX6_does_105 ⟨Nat.zero_le _, Nat.zero_le _⟩) hS (fun H locs Z hS => ?_)
      refine lv_pop hx hb dX6_does_108 rfl ?_
      refine lv_goto (tgt := 134) hx hb dX6_does_109 (by decide) ?_
      exact b_X6_does_134 B h Z hS (lv_sub hl [0, 1] rfl)
    · replace h := wx_iff c4_1 h
      by_cases c4_2 : (σ.2.2.1 16 21) = 115
      · replace h := wx_ift c4_2 h
        refine lv_lookup (off := 82) (tgt := 86) hx hb dX6_does_4 (by decide) (by rw [c4_2]; decide) (by decide) ?_
        refine lv_aload_n hx hb dX6_does_86 rfl (lv_at hl 0 rfl) ?_
        refine lv_aload_n hx hb dX6_does_87 rfl (lv_at hl 0 rfl) ?_
        refine wx_get (own := RX6) hx hb hts i_X6_does_6 hown hC.1 Z (o := 16) (ci := 6) rfl (rfl : vwCl[6]? = some (RX6, TX6, 25)) 22 (by decide) (hts _ k_X6_does_w1) (fun _ h9 => h9) (f := 1) rfl rfl dX6_does_88 ?_
        refine lv_aload_n hx hb dX6_does_91 rfl (lv_at hl 0 rfl) ?_
        refine wx_get (own := RX6) hx hb hts i_X6_does_6 hown hC.1 Z (o := 16) (ci := 6) rfl (rfl : vwCl[6]? = some (RX6, TX6, 25)) 23 (by decide) (hts _ k_X6_does_w2) (fun _ h9 => h9) (f := 1) rfl rfl dX6_does_92 ?_
        refine lv_iload_n hx hb dX6_does_95 rfl (lv_at hl 1 rfl) ?_
        obtain ⟨v96, σ96, hc96, h⟩ := wx_b_ok h
        refine wx_call (va_runV (As := [.int (σ.2.2.1 16 22), .int (σ.2.2.1 16 23), .int x1]) (rest := []) ⟨hx, hb, hml, hown, hts⟩ (c_X6_touches l (D := D) (ad := ad) (rd := rd) (ca := ca) (A := A) (σ := σ) hc96) (cwV 3 hts gX6_does_X6_touches rfl rfl rfl (by decide +kernel) ⟨Nat.le_of_ble_eq_true rfl, Nat.le_of_ble_eq_true rfl⟩) (wx_preV hC Z hS hA rfl (rfl : vwCl[6]? = some (RX6, TX6, 25))) rfl rfl hl.1 rfl (lv_room (Nat.le_of_ble_eq_true rfl)) dX6_does_96 ⟨Nat.zero_le _, Nat.zero_le _⟩) hS (fun H locs Z hS => ?_)
        refine lv_pop hx hb dX6_does_99 rfl ?_
        refine lv_goto (tgt := 134) hx hb dX6_does_100 (by decide) ?_
        exact b_X6_does_134 B h Z hS (lv_sub hl [0, 1] rfl)
      · replace h := wx_iff c4_2 h
        by_cases c4_3 : (σ.2.2.1 16 21) = 116
        · replace h := wx_ift c4_3 h
          refine lv_lookup (off := 52) (tgt := 56) hx hb dX6_does_4 (by decide) (by rw [c4_3]; decide) (by decide) ?_
          refine lv_aload_n hx hb dX6_does_56 rfl (lv_at hl 0 rfl) ?_
          refine lv_aload_n hx hb dX6_does_57 rfl (lv_at hl 0 rfl) ?_
          refine wx_get (own := RX6) hx hb hts i_X6_does_6 hown hC.1 Z (o := 16) (ci := 6) rfl (rfl : vwCl[6]? = some (RX6, TX6, 25)) 22 (by decide) (hts _ k_X6_does_w1) (fun _ h9 => h9) (f := 1) rfl rfl dX6_does_58 ?_
          refine lv_aload_n hx hb dX6_does_61 rfl (lv_at hl 0 rfl) ?_
          refine wx_get (own := RX6) hx hb hts i_X6_does_6 hown hC.1 Z (o := 16) (ci := 6) rfl (rfl : vwCl[6]? = some (RX6, TX6, 25)) 23 (by decide) (hts _ k_X6_does_w2) (fun _ h9 => h9) (f := 1) rfl rfl dX6_does_62 ?_
          refine lv_iload_n hx hb dX6_does_65 rfl (lv_at hl 1 rfl) ?_
          obtain ⟨v66, σ66, hc66, h⟩ := wx_b_ok h
          refine wx_call (va_runV (As := [.int (σ.2.2.1 16 22), .int (σ.2.2.1 16 23), .int x1]) (rest := []) ⟨hx, hb, hml, hown, hts⟩ (c_X6_tracks l (D := D) (ad := ad) (rd := rd) (ca := ca) (A := A) (σ := σ) hc66) (cwV 3 hts gX6_does_X6_tracks rfl rfl rfl (by decide +kernel) ⟨Nat.le_of_ble_eq_true rfl, Nat.le_of_ble_eq_true rfl⟩) (wx_preV hC Z hS hA rfl (rfl : vwCl[6]? = some (RX6, TX6, 25))) rfl rfl hl.1 rfl (lv_room (Nat.le_of_ble_eq_true rfl)) dX6_does_66 ⟨Nat.zero_le _, Nat.zero_le _⟩) hS (fun H locs Z hS => ?_)
          refine lv_pop hx hb dX6_does_69 rfl ?_
          refine lv_goto (tgt := 134) hx hb dX6_does_70 (by decide) ?_
          exact b_X6_does_134 B h Z hS (lv_sub hl [0, 1] rfl)
        · replace h := wx_iff c4_3 h
          by_cases c4_4 : (σ.2.2.1 16 21) = 119
          · replace h := wx_ift c4_4 h
            refine lv_lookup (off := 108) (tgt := 112) hx hb dX6_does_4 (by decide) (by rw [c4_4]; decide) (by decide) ?_
            refine lv_aload_n hx hb dX6_does_112 rfl (lv_at hl 0 rfl) ?_
            refine lv_iload_n hx hb dX6_does_113 rfl (lv_at hl 1 rfl) ?_
            obtain ⟨v114, σ114, hc114, h⟩ := wx_b_ok h
            refine wx_call (va_runV (As := [.int x1]) (rest := []) ⟨hx, hb, hml, hown, hts⟩ (c_X6_warms l (D := D) (ad := ad) (rd := rd) (ca := ca) (A := A) (σ := σ) hc114) (cwV 1 hts gX6_does_X6_warms rfl rfl rfl (by decide +kernel) ⟨Nat.le_of_ble_eq_true rfl, Nat.le_of_ble_eq_true rfl⟩) (wx_preV hC Z hS hA rfl (rfl : vwCl[6]? = some (RX6, TX6, 25))) rfl rfl hl.1 rfl (lv_room (Nat.le_of_ble_eq_true rfl)) dX6_does_114 ⟨Nat.zero_le _, Nat.zero_le _⟩) hS (fun H locs Z hS => ?_)
            refine lv_pop hx hb dX6_does_117 rfl ?_
            refine lv_goto (tgt := 134) hx hb dX6_does_118 (by decide) ?_
            exact b_X6_does_134 B h Z hS (lv_sub hl [0, 1] rfl)
          · replace h := wx_iff c4_4 h
            refine lv_lookup (off := 117) (tgt := 121) hx hb dX6_does_4 (by decide) (by have hz : ∀ v : Int32, ¬ (σ.2.2.1 16 21) = v → ¬ v.toInt = ((σ.2.2.1 16 21)).toInt := fun v h1 h2 => h1 (Int32.toInt_inj.mp h2.symm); simp [Op.lookupswitch.offset, show ¬ (102 : Int) = ((σ.2.2.1 16 21)).toInt from hz 102 c4_0, show ¬ (109 : Int) = ((σ.2.2.1 16 21)).toInt from hz 109 c4_1, show ¬ (115 : Int) = ((σ.2.2.1 16 21)).toInt from hz 115 c4_2, show ¬ (116 : Int) = ((σ.2.2.1 16 21)).toInt from hz 116 c4_3, show ¬ (119 : Int) = ((σ.2.2.1 16 21)).toInt from hz 119 c4_4]) (by decide) ?_
            refine lv_aload_n hx hb dX6_does_121 rfl (lv_at hl 0 rfl) ?_
            refine lv_aload_n hx hb dX6_does_122 rfl (lv_at hl 0 rfl) ?_
            refine wx_get (own := RX6) hx hb hts i_X6_does_6 hown hC.1 Z (o := 16) (ci := 6) rfl (rfl : vwCl[6]? = some (RX6, TX6, 25)) 22 (by decide) (hts _ k_X6_does_w1) (fun _ h9 => h9) (f := 1) rfl rfl dX6_does_123 ?_
            refine lv_aload_n hx hb dX6_does_126 rfl (lv_at hl 0 rfl) ?_
            refine wx_get (own := RX6) hx hb hts i_X6_does_6 hown hC.1 Z (o := 16) (ci := 6) rfl (rfl : vwCl[6]? = some (RX6, TX6, 25)) 23 (by decide) (hts _ k_X6_does_w2) (fun _ h9 => h9) (f := 1) rfl rfl dX6_does_127 ?_
            obtain ⟨v130, σ130, hc130, h⟩ := wx_b_ok h
            refine wx_call (va_runV (As := [.int (σ.2.2.1 16 22), .int (σ.2.2.1 16 23)]) (rest := []) ⟨hx, hb, hml, hown, hts⟩ (c_X6_probes l (D := D) (ad := ad) (rd := rd) (ca := ca) (A := A) (σ := σ) hc130) (cwV 2 hts gX6_does_X6_probes rfl rfl rfl (by decide +kernel) ⟨Nat.le_of_ble_eq_true rfl, Nat.le_of_ble_eq_true rfl⟩) (wx_preV hC Z hS hA rfl (rfl : vwCl[6]? = some (RX6, TX6, 25))) rfl rfl hl.1 rfl (lv_room (Nat.le_of_ble_eq_true rfl)) dX6_does_130 ⟨Nat.zero_le _, Nat.zero_le _⟩) hS (fun H locs Z hS => ?_)
            refine lv_pop hx hb dX6_does_133 rfl ?_
            exact b_X6_does_134 B h Z hS (lv_sub hl [0, 1] rfl)
set_option maxRecDepth 20000 in
theorem c_X6_does (l : Launch) {D : va_G} {ad : Nat → Nat → Nat} {rd : Nat → Nat} {ca : Nat → ClassId} {A : Nat → Prop} {σ : wx_St}    {x1 : Int32}  {σ' : wx_St} (h : f_X6_does x1 σ = some ((), σ')) : wx_M l yX6_does wsX6_does 6 134 D ad rd ca A [.ref (ad 16 99), .int x1] σ none σ' := by
  refine Met.ofW (cc := cX6_does) (maxL := 2) (ret := none) (by decide +kernel) rfl ?_
  intro p e s m args below meth c s₁ B0 hml hv
  obtain ⟨rfl, hC, Z, hA⟩ := hv
  have hl := lv_entry ([.ref (ad 16 99), .int x1]) (n := 2) (Nat.le_of_ble_eq_true rfl)
  rw [lg_entry_eq]
  generalize (lg_sl ([.ref (ad 16 99), .int x1]) ++ List.replicate (2 - (lg_sl ([.ref (ad 16 99), .int x1])).length) Slot.unset).toArray = ls at hl ⊢
  exact b_X6_does_0 ⟨B0.exec, B0.bytes, hml, B0.returns, atoms_spec (ws := wsX6_does) B0.pre, findClass_of_methodNamed B0.named, B0.notSynchronized, hC, hA⟩   h Z va_S.rf hl
theorem i_X6_character_6 : ∀ w ∈ wsX60, w ∈ wsX6_character := by decide +kernel
theorem k_X6_character_w0 : Cond.fieldLink RX6 223 "WarmProbesModel" "padLength" "I" ∈ wsX6_character := by decide +kernel
theorem k_X6_character_w1 : Cond.fieldLink RX6 32 "WarmProbesModel" "pad" "[I" ∈ wsX6_character := by decide +kernel
set_option maxRecDepth 20000 in
set_option maxHeartbeats 4000000 in
theorem b_X6_character_18 (B : wx_B p s m args meth c cX6_character 2 (some .int) wsX6_character RX6 D ad ca A)    {r : Int32} {σ : wx_St}  {x1 : Int32} {y0 : Int32}   (h : f_X6_character_18 x1 y0 σ = some r) {H : Heap} {locs : List Loc} (Z : wx_Z D ad rd ca A σ H) (hS : va_S A s.heap H locs) {ls : Array Slot} (hl : lv_has ls 2 [(0, .ref (ad 16 99)), (1, .int x1)]) : W p l e ({ frames := 0, cells := 0, slots := 0, locals := 0 } : Room) s m args below meth c H locs 0 0 (MQ below (wx_Q D ad rd ca A (some (.int r)) σ) args s 0 0 A) (F0 m 18 ls [.int y0]) := by
  obtain ⟨hx, hb, hml, hr, hts, hown, hlk, hC, hA⟩ := id B
  unfold f_X6_character_18 at h
  obtain rfl := Option.some.inj h
  exact W.iret hx hb hr (fun t ht hW => ⟨rfl, by rw [ht]; exact Z, hS.F ht⟩) hS.2.2 dX6_character_18
set_option maxRecDepth 20000 in
set_option maxHeartbeats 4000000 in
theorem b_X6_character_0 (B : wx_B p s m args meth c cX6_character 2 (some .int) wsX6_character RX6 D ad ca A)    {r : Int32} {σ : wx_St}  {x1 : Int32}   (h : f_X6_character x1 σ = some r) {H : Heap} {locs : List Loc} (Z : wx_Z D ad rd ca A σ H) (hS : va_S A s.heap H locs) {ls : Array Slot} (hl : lv_has ls 2 [(0, .ref (ad 16 99)), (1, .int x1)]) : W p l e ({ frames := 0, cells := 0, slots := 0, locals := 0 } : Room) s m args below meth c H locs 0 0 (MQ below (wx_Q D ad rd ca A (some (.int r)) σ) args s 0 0 A) (F0 m 0 ls []) := by
  obtain ⟨hx, hb, hml, hr, hts, hown, hlk, hC, hA⟩ := id B
  unfold f_X6_character at h
  refine lv_iload_n hx hb dX6_character_0 rfl (lv_at hl 1 rfl) ?_
  refine lv_aload_n hx hb dX6_character_1 rfl (lv_at hl 0 rfl) ?_
  refine wx_get (own := RX6) hx hb hts i_X6_character_6 hown hC.1 Z (o := 16) (ci := 6) rfl (rfl : vwCl[6]? = some (RX6, TX6, 25)) 9 (by decide) (hts _ k_X6_character_w0) (fun _ h9 => h9) (f := 1) rfl rfl dX6_character_2 ?_
  refine lv_icmp_ge (tgt := 17) hx hb dX6_character_5 (by decide) (fun c5 => ?_) (fun c5 => ?_)
  · replace h := wx_ift c5 h
    refine lv_iconst (v := (-1)) hx hb dX6_character_17 (by decide) ?_
    exact b_X6_character_18 B h Z hS (lv_sub hl [0, 1] rfl)
  · replace h := wx_iff c5 h
    refine lv_aload_n hx hb dX6_character_8 rfl (lv_at hl 0 rfl) ?_
    refine wx_get (own := RX6) hx hb hts i_X6_character_6 hown hC.1 Z (o := 16) (ci := 6) rfl (rfl : vwCl[6]? = some (RX6, TX6, 25)) 8 (by decide) (hts _ k_X6_character_w1) (fun _ h9 => h9) (f := 0) rfl rfl dX6_character_9 ?_
    refine lv_iload_n hx hb dX6_character_12 rfl (lv_at hl 1 rfl) ?_
    obtain ⟨v13, ev13, iv13, h⟩ := wx_rI_ok h
    refine wx_iald hx hb hC.1 Z (o := 16) (k := 8) (n := 80) rfl rfl iv13 dX6_character_13 ev13 ?_
    refine lv_goto (tgt := 18) hx hb dX6_character_14 (by decide) ?_
    exact b_X6_character_18 B h Z hS (lv_sub hl [0, 1] rfl)
set_option maxRecDepth 20000 in
theorem c_X6_character (l : Launch) {D : va_G} {ad : Nat → Nat → Nat} {rd : Nat → Nat} {ca : Nat → ClassId} {A : Nat → Prop} {σ : wx_St}    {x1 : Int32} {r : Int32} (h : f_X6_character x1 σ = some r) : wx_M l yX6_character wsX6_character 0 0 D ad rd ca A [.ref (ad 16 99), .int x1] σ (some (.int r)) σ := by
  refine Met.ofW (cc := cX6_character) (maxL := 2) (ret := (some .int)) (by decide +kernel) rfl ?_
  intro p e s m args below meth c s₁ B0 hml hv
  obtain ⟨rfl, hC, Z, hA⟩ := hv
  have hl := lv_entry ([.ref (ad 16 99), .int x1]) (n := 2) (Nat.le_of_ble_eq_true rfl)
  rw [lg_entry_eq]
  generalize (lg_sl ([.ref (ad 16 99), .int x1]) ++ List.replicate (2 - (lg_sl ([.ref (ad 16 99), .int x1])).length) Slot.unset).toArray = ls at hl ⊢
  exact b_X6_character_0 ⟨B0.exec, B0.bytes, hml, B0.returns, atoms_spec (ws := wsX6_character) B0.pre, findClass_of_methodNamed B0.named, B0.notSynchronized, hC, hA⟩   h Z va_S.rf hl
theorem i_X6_isNext_6 : ∀ w ∈ wsX60, w ∈ wsX6_isNext := by decide +kernel
theorem k_X6_isNext_w0 : Cond.fieldLink RX6 249 "WarmProbesModel" "at" "I" ∈ wsX6_isNext := by decide +kernel
set_option maxRecDepth 20000 in
set_option maxHeartbeats 4000000 in
theorem b_X6_isNext_32 (B : wx_B p s m args meth c cX6_isNext 3 (some .boolean) wsX6_isNext RX6 D ad ca A)    {r : Int32} {σ' : wx_St}  {x1 : Int32} {x2 : Int32} {y1 : Int32} {y2 : Int32} {σ : wx_St}  (h : f_X6_isNext_32 x1 x2 y1 y2 σ = some (r, σ')) {H : Heap} {locs : List Loc} (Z : wx_Z D ad rd ca A σ H) (hS : va_S A s.heap H locs) {ls : Array Slot} (hl : lv_has ls 3 [(0, .ref (ad 16 99)), (1, .int x1), (2, .int x2)]) : W p l e ({ frames := 1, cells := 0, slots := 0, locals := 21 } : Room) s m args below meth c H locs 0 0 (MQ below (wx_Q D ad rd ca A (some (.int r)) σ') args s 0 0 A) (F0 m 32 ls [.int y2, .int y1, .ref (ad 16 99)]) := by
  obtain ⟨hx, hb, hml, hr, hts, hown, hlk, hC, hA⟩ := id B
  unfold f_X6_isNext_32 at h
  refine lv_iadd hx hb dX6_isNext_32 ?_
  obtain ⟨σ33, e33, h⟩ := wx_l_ok h
  refine wx_put (own := RX6) hx hb hts i_X6_isNext_6 tyX6 tyX6_ok nmX6 hown hC.1 Z hS (o := 16) (ci := 6) rfl (rfl : vwCl[6]? = some (RX6, TX6, 25)) 20 (by decide) (hts _ k_X6_isNext_w0) (fun _ h9 => h9) rfl (by decide +kernel) rfl dX6_isNext_33 e33 (fun H locs Z hS => ?_)
  refine lv_iload_n hx hb dX6_isNext_36 rfl (lv_at hl 2 rfl) ?_
  obtain ⟨hz, h⟩ := wx_z_ok h
  obtain ⟨rfl, rfl⟩ := wx_ret_ok h
  exact W.zret hx hb hr (wx_nb hz) (fun t ht hW => ⟨rfl, by rw [ht]; exact Z, hS.F ht⟩) hS.2.2 dX6_isNext_37
set_option maxRecDepth 20000 in
set_option maxHeartbeats 4000000 in
theorem b_X6_isNext_17 (B : wx_B p s m args meth c cX6_isNext 3 (some .boolean) wsX6_isNext RX6 D ad ca A)    {r : Int32} {σ' : wx_St}  {x1 : Int32} {y0 : Int32} {σ : wx_St}  (h : f_X6_isNext_17 x1 y0 σ = some (r, σ')) {H : Heap} {locs : List Loc} (Z : wx_Z D ad rd ca A σ H) (hS : va_S A s.heap H locs) {ls : Array Slot} (hl : lv_has ls 3 [(0, .ref (ad 16 99)), (1, .int x1)]) : W p l e ({ frames := 1, cells := 0, slots := 0, locals := 21 } : Room) s m args below meth c H locs 0 0 (MQ below (wx_Q D ad rd ca A (some (.int r)) σ') args s 0 0 A) (F0 m 17 ls [.int y0]) := by
  obtain ⟨hx, hb, hml, hr, hts, hown, hlk, hC, hA⟩ := id B
  unfold f_X6_isNext_17 at h
  refine lv_istore_n (lv' := [(2, .int y0), (0, .ref (ad 16 99)), (1, .int x1)]) hx hb dX6_isNext_17 rfl hl (by decide) rfl (fun ls hl => ?_)
  refine lv_aload_n hx hb dX6_isNext_18 rfl (lv_at hl 1 rfl) ?_
  refine lv_dup hx hb dX6_isNext_19 rfl ?_
  refine wx_get (own := RX6) hx hb hts i_X6_isNext_6 hown hC.1 Z (o := 16) (ci := 6) rfl (rfl : vwCl[6]? = some (RX6, TX6, 25)) 20 (by decide) (hts _ k_X6_isNext_w0) (fun _ h9 => h9) (f := 1) rfl rfl dX6_isNext_20 ?_
  refine lv_iload_n hx hb dX6_isNext_23 rfl (lv_at hl 0 rfl) ?_
  refine lv_if_eq (tgt := 31) hx hb dX6_isNext_24 (by decide) (fun c24 => ?_) (fun c24 => ?_)
  · replace h := wx_ift c24 h
    refine lv_iconst (v := 0) hx hb dX6_isNext_31 (by decide) ?_
    exact b_X6_isNext_32 B h Z hS (lv_sub hl [1, 2, 0] rfl)
  · replace h := wx_iff c24 h
    refine lv_iconst (v := 1) hx hb dX6_isNext_27 (by decide) ?_
    refine lv_goto (tgt := 32) hx hb dX6_isNext_28 (by decide) ?_
    exact b_X6_isNext_32 B h Z hS (lv_sub hl [1, 2, 0] rfl)
set_option maxRecDepth 20000 in
set_option maxHeartbeats 4000000 in
theorem b_X6_isNext_0 (B : wx_B p s m args meth c cX6_isNext 3 (some .boolean) wsX6_isNext RX6 D ad ca A)    {r : Int32} {σ' : wx_St}  {x1 : Int32} {σ : wx_St}  (h : f_X6_isNext x1 σ = some (r, σ')) {H : Heap} {locs : List Loc} (Z : wx_Z D ad rd ca A σ H) (hS : va_S A s.heap H locs) {ls : Array Slot} (hl : lv_has ls 3 [(0, .ref (ad 16 99)), (1, .int x1)]) : W p l e ({ frames := 1, cells := 0, slots := 0, locals := 21 } : Room) s m args below meth c H locs 0 0 (MQ below (wx_Q D ad rd ca A (some (.int r)) σ') args s 0 0 A) (F0 m 0 ls []) := by
  obtain ⟨hx, hb, hml, hr, hts, hown, hlk, hC, hA⟩ := id B
  unfold f_X6_isNext at h
  refine lv_aload_n hx hb dX6_isNext_0 rfl (lv_at hl 0 rfl) ?_
  refine lv_aload_n hx hb dX6_isNext_1 rfl (lv_at hl 0 rfl) ?_
  refine wx_get (own := RX6) hx hb hts i_X6_isNext_6 hown hC.1 Z (o := 16) (ci := 6) rfl (rfl : vwCl[6]? = some (RX6, TX6, 25)) 20 (by decide) (hts _ k_X6_isNext_w0) (fun _ h9 => h9) (f := 1) rfl rfl dX6_isNext_2 ?_
  obtain ⟨v5, hc5, h⟩ := wx_o_ok h
  refine wx_call (va_runV (As := [.int (σ.2.2.1 16 20)]) (rest := []) ⟨hx, hb, hml, hown, hts⟩ (c_X6_character l (D := D) (ad := ad) (rd := rd) (ca := ca) (A := A) (σ := σ) hc5) (cwV 1 hts gX6_isNext_X6_character rfl rfl rfl (by decide +kernel) ⟨Nat.le_of_ble_eq_true rfl, Nat.le_of_ble_eq_true rfl⟩) (wx_preV hC Z hS hA rfl (rfl : vwCl[6]? = some (RX6, TX6, 25))) rfl rfl hl.1 rfl (lv_room (Nat.le_of_ble_eq_true rfl)) dX6_isNext_5 ⟨Nat.zero_le _, Nat.zero_le _⟩) hS (fun H locs Z hS => ?_)
  refine lv_iload_n hx hb dX6_isNext_8 rfl (lv_at hl 1 rfl) ?_
  refine lv_icmp_ne (tgt := 16) hx hb dX6_isNext_9 (by decide) (fun c9 => ?_) (fun c9 => ?_)
  · replace h := wx_iff c9 h
    refine lv_iconst (v := 0) hx hb dX6_isNext_16 (by decide) ?_
    exact b_X6_isNext_17 B h Z hS (lv_sub hl [0, 1] rfl)
  · replace h := wx_ift c9 h
    refine lv_iconst (v := 1) hx hb dX6_isNext_12 (by decide) ?_
    refine lv_goto (tgt := 17) hx hb dX6_isNext_13 (by decide) ?_
    exact b_X6_isNext_17 B h Z hS (lv_sub hl [0, 1] rfl)
set_option maxRecDepth 20000 in
theorem c_X6_isNext (l : Launch) {D : va_G} {ad : Nat → Nat → Nat} {rd : Nat → Nat} {ca : Nat → ClassId} {A : Nat → Prop} {σ : wx_St}    {x1 : Int32} {r : Int32} {σ' : wx_St} (h : f_X6_isNext x1 σ = some (r, σ')) : wx_M l yX6_isNext wsX6_isNext 1 21 D ad rd ca A [.ref (ad 16 99), .int x1] σ (some (.int r)) σ' := by
  refine Met.ofW (cc := cX6_isNext) (maxL := 3) (ret := (some .boolean)) (by decide +kernel) rfl ?_
  intro p e s m args below meth c s₁ B0 hml hv
  obtain ⟨rfl, hC, Z, hA⟩ := hv
  have hl := lv_entry ([.ref (ad 16 99), .int x1]) (n := 3) (Nat.le_of_ble_eq_true rfl)
  rw [lg_entry_eq]
  generalize (lg_sl ([.ref (ad 16 99), .int x1]) ++ List.replicate (3 - (lg_sl ([.ref (ad 16 99), .int x1])).length) Slot.unset).toArray = ls at hl ⊢
  exact b_X6_isNext_0 ⟨B0.exec, B0.bytes, hml, B0.returns, atoms_spec (ws := wsX6_isNext) B0.pre, findClass_of_methodNamed B0.named, B0.notSynchronized, hC, hA⟩   h Z va_S.rf hl
theorem i_X6_isDigit_6 : ∀ w ∈ wsX60, w ∈ wsX6_isDigit := by decide +kernel
theorem k_X6_isDigit_w0 : Cond.fieldLink RX6 249 "WarmProbesModel" "at" "I" ∈ wsX6_isDigit := by decide +kernel
set_option maxRecDepth 20000 in
set_option maxHeartbeats 4000000 in
theorem b_X6_isDigit_0 (B : wx_B p s m args meth c cX6_isDigit 1 (some .boolean) wsX6_isDigit RX6 D ad ca A)    {r : Int32} {σ : wx_St}     (h : f_X6_isDigit σ = some r) {H : Heap} {locs : List Loc} (Z : wx_Z D ad rd ca A σ H) (hS : va_S A s.heap H locs) {ls : Array Slot} (hl : lv_has ls 1 [(0, .ref (ad 16 99))]) : W p l e ({ frames := 1, cells := 0, slots := 0, locals := 22 } : Room) s m args below meth c H locs 0 0 (MQ below (wx_Q D ad rd ca A (some (.int r)) σ) args s 0 0 A) (F0 m 0 ls []) := by
  obtain ⟨hx, hb, hml, hr, hts, hown, hlk, hC, hA⟩ := id B
  unfold f_X6_isDigit at h
  refine lv_aload_n hx hb dX6_isDigit_0 rfl (lv_at hl 0 rfl) ?_
  refine lv_aload_n hx hb dX6_isDigit_1 rfl (lv_at hl 0 rfl) ?_
  refine wx_get (own := RX6) hx hb hts i_X6_isDigit_6 hown hC.1 Z (o := 16) (ci := 6) rfl (rfl : vwCl[6]? = some (RX6, TX6, 25)) 20 (by decide) (hts _ k_X6_isDigit_w0) (fun _ h9 => h9) (f := 1) rfl rfl dX6_isDigit_2 ?_
  obtain ⟨v5, hc5, h⟩ := wx_o_ok h
  refine wx_call (va_runV (As := [.int (σ.2.2.1 16 20)]) (rest := []) ⟨hx, hb, hml, hown, hts⟩ (c_X6_character l (D := D) (ad := ad) (rd := rd) (ca := ca) (A := A) (σ := σ) hc5) (cwV 1 hts gX6_isDigit_X6_character rfl rfl rfl (by decide +kernel) ⟨Nat.le_of_ble_eq_true rfl, Nat.le_of_ble_eq_true rfl⟩) (wx_preV hC Z hS hA rfl (rfl : vwCl[6]? = some (RX6, TX6, 25))) rfl rfl hl.1 rfl (lv_room (Nat.le_of_ble_eq_true rfl)) dX6_isDigit_5 ⟨Nat.zero_le _, Nat.zero_le _⟩) hS (fun H locs Z hS => ?_)
  refine lv_bipush (v := 48) hx hb dX6_isDigit_8 (by decide) ?_
  refine lv_bipush (v := 57) hx hb dX6_isDigit_10 (by decide) ?_
  obtain ⟨v12, hc12, h⟩ := wx_o_ok h
  refine wx_call (va_runS (As := [.int v5, .int 48, .int 57]) (rest := []) ⟨hx, hb, hml, hown, hts⟩ (c_X6_within l (D := D) (ad := ad) (rd := rd) (ca := ca) (A := A) (σ := σ) hc12) (va_cwS 3 hts gX6_isDigit_X6_within rfl rfl rfl (by decide +kernel) ⟨Nat.le_of_ble_eq_true rfl, Nat.le_of_ble_eq_true rfl⟩) (wx_preS hC Z hS hA) rfl rfl hl.1 rfl (lv_room (Nat.le_of_ble_eq_true rfl)) dX6_isDigit_12 ⟨Nat.zero_le _, Nat.zero_le _⟩) hS (fun H locs Z hS => ?_)
  obtain ⟨hz, h⟩ := wx_z_ok h
  obtain rfl := Option.some.inj h
  exact W.zret hx hb hr (wx_nb hz) (fun t ht hW => ⟨rfl, by rw [ht]; exact Z, hS.F ht⟩) hS.2.2 dX6_isDigit_15
set_option maxRecDepth 20000 in
theorem c_X6_isDigit (l : Launch) {D : va_G} {ad : Nat → Nat → Nat} {rd : Nat → Nat} {ca : Nat → ClassId} {A : Nat → Prop} {σ : wx_St}     {r : Int32} (h : f_X6_isDigit σ = some r) : wx_M l yX6_isDigit wsX6_isDigit 1 22 D ad rd ca A [.ref (ad 16 99)] σ (some (.int r)) σ := by
  refine Met.ofW (cc := cX6_isDigit) (maxL := 1) (ret := (some .boolean)) (by decide +kernel) rfl ?_
  intro p e s m args below meth c s₁ B0 hml hv
  obtain ⟨rfl, hC, Z, hA⟩ := hv
  have hl := lv_entry ([.ref (ad 16 99)]) (n := 1) (Nat.le_of_ble_eq_true rfl)
  rw [lg_entry_eq]
  generalize (lg_sl ([.ref (ad 16 99)]) ++ List.replicate (1 - (lg_sl ([.ref (ad 16 99)])).length) Slot.unset).toArray = ls at hl ⊢
  exact b_X6_isDigit_0 ⟨B0.exec, B0.bytes, hml, B0.returns, atoms_spec (ws := wsX6_isDigit) B0.pre, findClass_of_methodNamed B0.named, B0.notSynchronized, hC, hA⟩   h Z va_S.rf hl
theorem i_X6_readsDigit_6 : ∀ w ∈ wsX60, w ∈ wsX6_readsDigit := by decide +kernel
theorem k_X6_readsDigit_w0 : Cond.fieldLink RX6 249 "WarmProbesModel" "at" "I" ∈ wsX6_readsDigit := by decide +kernel
theorem k_X6_readsDigit_w1 : Cond.fieldLink RX6 259 "WarmProbesModel" "number" "I" ∈ wsX6_readsDigit := by decide +kernel
set_option maxRecDepth 20000 in
set_option maxHeartbeats 4000000 in
theorem b_X6_readsDigit_0 (B : wx_B p s m args meth c cX6_readsDigit 1 (some .boolean) wsX6_readsDigit RX6 D ad ca A)    {r : Int32} {σ' : wx_St}   {σ : wx_St}  (h : f_X6_readsDigit σ = some (r, σ')) {H : Heap} {locs : List Loc} (Z : wx_Z D ad rd ca A σ H) (hS : va_S A s.heap H locs) {ls : Array Slot} (hl : lv_has ls 1 [(0, .ref (ad 16 99))]) : W p l e ({ frames := 2, cells := 0, slots := 0, locals := 42 } : Room) s m args below meth c H locs 0 0 (MQ below (wx_Q D ad rd ca A (some (.int r)) σ') args s 0 0 A) (F0 m 0 ls []) := by
  obtain ⟨hx, hb, hml, hr, hts, hown, hlk, hC, hA⟩ := id B
  unfold f_X6_readsDigit at h
  refine lv_aload_n hx hb dX6_readsDigit_0 rfl (lv_at hl 0 rfl) ?_
  obtain ⟨v1, hc1, h⟩ := wx_o_ok h
  refine wx_call (va_runV (As := []) (rest := []) ⟨hx, hb, hml, hown, hts⟩ (c_X6_isDigit l (D := D) (ad := ad) (rd := rd) (ca := ca) (A := A) (σ := σ) hc1) (cwV 0 hts gX6_readsDigit_X6_isDigit rfl rfl rfl (by decide +kernel) ⟨Nat.le_of_ble_eq_true rfl, Nat.le_of_ble_eq_true rfl⟩) (wx_preV hC Z hS hA rfl (rfl : vwCl[6]? = some (RX6, TX6, 25))) rfl rfl hl.1 rfl (lv_room (Nat.le_of_ble_eq_true rfl)) dX6_readsDigit_1 ⟨Nat.zero_le _, Nat.zero_le _⟩) hS (fun H locs Z hS => ?_)
  refine lv_if_ne (tgt := 9) hx hb dX6_readsDigit_4 (by decide) (fun c4 => ?_) (fun c4 => ?_)
  · replace h := wx_iff c4 h
    refine lv_aload_n hx hb dX6_readsDigit_9 rfl (lv_at hl 0 rfl) ?_
    refine lv_aload_n hx hb dX6_readsDigit_10 rfl (lv_at hl 0 rfl) ?_
    refine lv_aload_n hx hb dX6_readsDigit_11 rfl (lv_at hl 0 rfl) ?_
    refine wx_get (own := RX6) hx hb hts i_X6_readsDigit_6 hown hC.1 Z (o := 16) (ci := 6) rfl (rfl : vwCl[6]? = some (RX6, TX6, 25)) 20 (by decide) (hts _ k_X6_readsDigit_w0) (fun _ h9 => h9) (f := 1) rfl rfl dX6_readsDigit_12 ?_
    obtain ⟨v15, hc15, h⟩ := wx_o_ok h
    refine wx_call (va_runV (As := [.int (σ.2.2.1 16 20)]) (rest := [.ref (ad 16 99)]) ⟨hx, hb, hml, hown, hts⟩ (c_X6_character l (D := D) (ad := ad) (rd := rd) (ca := ca) (A := A) (σ := σ) hc15) (cwV 1 hts gX6_readsDigit_X6_character rfl rfl rfl (by decide +kernel) ⟨Nat.le_of_ble_eq_true rfl, Nat.le_of_ble_eq_true rfl⟩) (wx_preV hC Z hS hA rfl (rfl : vwCl[6]? = some (RX6, TX6, 25))) rfl rfl hl.1 rfl (lv_room (Nat.le_of_ble_eq_true rfl)) dX6_readsDigit_15 ⟨Nat.zero_le _, Nat.zero_le _⟩) hS (fun H locs Z hS => ?_)
    refine lv_bipush (v := 48) hx hb dX6_readsDigit_18 (by decide) ?_
    refine lv_isub hx hb dX6_readsDigit_20 ?_
    obtain ⟨σ21, e21, h⟩ := wx_l_ok h
    refine wx_put (own := RX6) hx hb hts i_X6_readsDigit_6 tyX6 tyX6_ok nmX6 hown hC.1 Z hS (o := 16) (ci := 6) rfl (rfl : vwCl[6]? = some (RX6, TX6, 25)) 24 (by decide) (hts _ k_X6_readsDigit_w1) (fun _ h9 => h9) rfl (by decide +kernel) rfl dX6_readsDigit_21 e21 (fun H locs Z hS => ?_)
    refine lv_aload_n hx hb dX6_readsDigit_24 rfl (lv_at hl 0 rfl) ?_
    refine lv_dup hx hb dX6_readsDigit_25 rfl ?_
    refine wx_get (own := RX6) hx hb hts i_X6_readsDigit_6 hown hC.1 Z (o := 16) (ci := 6) rfl (rfl : vwCl[6]? = some (RX6, TX6, 25)) 20 (by decide) (hts _ k_X6_readsDigit_w0) (fun _ h9 => h9) (f := 1) rfl rfl dX6_readsDigit_26 ?_
    refine lv_iconst (v := 1) hx hb dX6_readsDigit_29 (by decide) ?_
    refine lv_iadd hx hb dX6_readsDigit_30 ?_
    obtain ⟨σ31, e31, h⟩ := wx_l_ok h
    refine wx_put (own := RX6) hx hb hts i_X6_readsDigit_6 tyX6 tyX6_ok nmX6 hown hC.1 Z hS (o := 16) (ci := 6) rfl (rfl : vwCl[6]? = some (RX6, TX6, 25)) 20 (by decide) (hts _ k_X6_readsDigit_w0) (fun _ h9 => h9) rfl (by decide +kernel) rfl dX6_readsDigit_31 e31 (fun H locs Z hS => ?_)
    refine lv_iconst (v := 1) hx hb dX6_readsDigit_34 (by decide) ?_
    obtain ⟨rfl, rfl⟩ := wx_ret_ok h
    exact W.zret hx hb hr rfl (fun t ht hW => ⟨rfl, by rw [ht]; exact Z, hS.F ht⟩) hS.2.2 dX6_readsDigit_35
  · replace h := wx_ift c4 h
    refine lv_iconst (v := 0) hx hb dX6_readsDigit_7 (by decide) ?_
    obtain ⟨rfl, rfl⟩ := wx_ret_ok h
    exact W.zret hx hb hr rfl (fun t ht hW => ⟨rfl, by rw [ht]; exact Z, hS.F ht⟩) hS.2.2 dX6_readsDigit_8
set_option maxRecDepth 20000 in
theorem c_X6_readsDigit (l : Launch) {D : va_G} {ad : Nat → Nat → Nat} {rd : Nat → Nat} {ca : Nat → ClassId} {A : Nat → Prop} {σ : wx_St}     {r : Int32} {σ' : wx_St} (h : f_X6_readsDigit σ = some (r, σ')) : wx_M l yX6_readsDigit wsX6_readsDigit 2 42 D ad rd ca A [.ref (ad 16 99)] σ (some (.int r)) σ' := by
  refine Met.ofW (cc := cX6_readsDigit) (maxL := 1) (ret := (some .boolean)) (by decide +kernel) rfl ?_
  intro p e s m args below meth c s₁ B0 hml hv
  obtain ⟨rfl, hC, Z, hA⟩ := hv
  have hl := lv_entry ([.ref (ad 16 99)]) (n := 1) (Nat.le_of_ble_eq_true rfl)
  rw [lg_entry_eq]
  generalize (lg_sl ([.ref (ad 16 99)]) ++ List.replicate (1 - (lg_sl ([.ref (ad 16 99)])).length) Slot.unset).toArray = ls at hl ⊢
  exact b_X6_readsDigit_0 ⟨B0.exec, B0.bytes, hml, B0.returns, atoms_spec (ws := wsX6_readsDigit) B0.pre, findClass_of_methodNamed B0.named, B0.notSynchronized, hC, hA⟩   h Z va_S.rf hl
theorem i_X6_readsNumber_6 : ∀ w ∈ wsX60, w ∈ wsX6_readsNumber := by decide +kernel
theorem k_X6_readsNumber_w0 : Cond.fieldLink RX6 259 "WarmProbesModel" "number" "I" ∈ wsX6_readsNumber := by decide +kernel
theorem k_X6_readsNumber_w1 : Cond.fieldLink RX6 249 "WarmProbesModel" "at" "I" ∈ wsX6_readsNumber := by decide +kernel
set_option maxRecDepth 20000 in
set_option maxHeartbeats 4000000 in
theorem b_X6_readsNumber_56 (B : wx_B p s m args meth c cX6_readsNumber 1 (some .boolean) wsX6_readsNumber RX6 D ad ca A)    {r : Int32} {σ' : wx_St}   {σ : wx_St}  (h : f_X6_readsNumber_56 σ = some (r, σ')) {H : Heap} {locs : List Loc} (Z : wx_Z D ad rd ca A σ H) (hS : va_S A s.heap H locs) {ls : Array Slot} (hl : lv_has ls 1 [(0, .ref (ad 16 99))]) : W p l e ({ frames := 3, cells := 0, slots := 0, locals := 62 } : Room) s m args below meth c H locs 0 0 (MQ below (wx_Q D ad rd ca A (some (.int r)) σ') args s 0 0 A) (F0 m 56 ls []) := by
  obtain ⟨hx, hb, hml, hr, hts, hown, hlk, hC, hA⟩ := id B
  unfold f_X6_readsNumber_56 at h
  refine lv_iconst (v := 1) hx hb dX6_readsNumber_56 (by decide) ?_
  obtain ⟨rfl, rfl⟩ := wx_ret_ok h
  exact W.zret hx hb hr rfl (fun t ht hW => ⟨rfl, by rw [ht]; exact Z, hS.F ht⟩) hS.2.2 dX6_readsNumber_57
set_option maxRecDepth 20000 in
set_option maxHeartbeats 4000000 in
theorem b_X6_readsNumber_0 (B : wx_B p s m args meth c cX6_readsNumber 1 (some .boolean) wsX6_readsNumber RX6 D ad ca A)    {r : Int32} {σ' : wx_St}   {σ : wx_St}  (h : f_X6_readsNumber σ = some (r, σ')) {H : Heap} {locs : List Loc} (Z : wx_Z D ad rd ca A σ H) (hS : va_S A s.heap H locs) {ls : Array Slot} (hl : lv_has ls 1 [(0, .ref (ad 16 99))]) : W p l e ({ frames := 3, cells := 0, slots := 0, locals := 62 } : Room) s m args below meth c H locs 0 0 (MQ below (wx_Q D ad rd ca A (some (.int r)) σ') args s 0 0 A) (F0 m 0 ls []) := by
  obtain ⟨hx, hb, hml, hr, hts, hown, hlk, hC, hA⟩ := id B
  unfold f_X6_readsNumber at h
  refine lv_aload_n hx hb dX6_readsNumber_0 rfl (lv_at hl 0 rfl) ?_
  obtain ⟨v1, σ1, hc1, h⟩ := wx_b_ok h
  refine wx_call (va_runV (As := []) (rest := []) ⟨hx, hb, hml, hown, hts⟩ (c_X6_readsDigit l (D := D) (ad := ad) (rd := rd) (ca := ca) (A := A) (σ := σ) hc1) (cwV 0 hts gX6_readsNumber_X6_readsDigit rfl rfl rfl (by decide +kernel) ⟨Nat.le_of_ble_eq_true rfl, Nat.le_of_ble_eq_true rfl⟩) (wx_preV hC Z hS hA rfl (rfl : vwCl[6]? = some (RX6, TX6, 25))) rfl rfl hl.1 rfl (lv_room (Nat.le_of_ble_eq_true rfl)) dX6_readsNumber_1 ⟨Nat.zero_le _, Nat.zero_le _⟩) hS (fun H locs Z hS => ?_)
  refine lv_if_ne (tgt := 9) hx hb dX6_readsNumber_4 (by decide) (fun c4 => ?_) (fun c4 => ?_)
  · replace h := wx_iff c4 h
    refine lv_aload_n hx hb dX6_readsNumber_9 rfl (lv_at hl 0 rfl) ?_
    refine wx_get (own := RX6) hx hb hts i_X6_readsNumber_6 hown hC.1 Z (o := 16) (ci := 6) rfl (rfl : vwCl[6]? = some (RX6, TX6, 25)) 24 (by decide) (hts _ k_X6_readsNumber_w0) (fun _ h9 => h9) (f := 1) rfl rfl dX6_readsNumber_10 ?_
    refine lv_if_le (tgt := 56) hx hb dX6_readsNumber_13 (by decide) (fun c13 => ?_) (fun c13 => ?_)
    · replace h := wx_ift c13 h
      exact b_X6_readsNumber_56 B h Z hS (lv_sub hl [0] rfl)
    · replace h := wx_iff c13 h
      refine lv_aload_n hx hb dX6_readsNumber_16 rfl (lv_at hl 0 rfl) ?_
      obtain ⟨v17, hc17, h⟩ := wx_o_ok h
      refine wx_call (va_runV (As := []) (rest := []) ⟨hx, hb, hml, hown, hts⟩ (c_X6_isDigit l (D := D) (ad := ad) (rd := rd) (ca := ca) (A := A) (σ := σ1) hc17) (cwV 0 hts gX6_readsNumber_X6_isDigit rfl rfl rfl (by decide +kernel) ⟨Nat.le_of_ble_eq_true rfl, Nat.le_of_ble_eq_true rfl⟩) (wx_preV hC Z hS hA rfl (rfl : vwCl[6]? = some (RX6, TX6, 25))) rfl rfl hl.1 rfl (lv_room (Nat.le_of_ble_eq_true rfl)) dX6_readsNumber_17 ⟨Nat.zero_le _, Nat.zero_le _⟩) hS (fun H locs Z hS => ?_)
      refine lv_if_eq (tgt := 56) hx hb dX6_readsNumber_20 (by decide) (fun c20 => ?_) (fun c20 => ?_)
      · replace h := wx_ift c20 h
        exact b_X6_readsNumber_56 B h Z hS (lv_sub hl [0] rfl)
      · replace h := wx_iff c20 h
        refine lv_aload_n hx hb dX6_readsNumber_23 rfl (lv_at hl 0 rfl) ?_
        refine lv_bipush (v := 10) hx hb dX6_readsNumber_24 (by decide) ?_
        refine lv_aload_n hx hb dX6_readsNumber_26 rfl (lv_at hl 0 rfl) ?_
        refine wx_get (own := RX6) hx hb hts i_X6_readsNumber_6 hown hC.1 Z (o := 16) (ci := 6) rfl (rfl : vwCl[6]? = some (RX6, TX6, 25)) 24 (by decide) (hts _ k_X6_readsNumber_w0) (fun _ h9 => h9) (f := 1) rfl rfl dX6_readsNumber_27 ?_
        refine lv_imul hx hb dX6_readsNumber_30 ?_
        refine lv_aload_n hx hb dX6_readsNumber_31 rfl (lv_at hl 0 rfl) ?_
        refine lv_aload_n hx hb dX6_readsNumber_32 rfl (lv_at hl 0 rfl) ?_
        refine wx_get (own := RX6) hx hb hts i_X6_readsNumber_6 hown hC.1 Z (o := 16) (ci := 6) rfl (rfl : vwCl[6]? = some (RX6, TX6, 25)) 20 (by decide) (hts _ k_X6_readsNumber_w1) (fun _ h9 => h9) (f := 1) rfl rfl dX6_readsNumber_33 ?_
        obtain ⟨v36, hc36, h⟩ := wx_o_ok h
        refine wx_call (va_runV (As := [.int (σ1.2.2.1 16 20)]) (rest := [.int (10 * (σ1.2.2.1 16 24)), .ref (ad 16 99)]) ⟨hx, hb, hml, hown, hts⟩ (c_X6_character l (D := D) (ad := ad) (rd := rd) (ca := ca) (A := A) (σ := σ1) hc36) (cwV 1 hts gX6_readsNumber_X6_character rfl rfl rfl (by decide +kernel) ⟨Nat.le_of_ble_eq_true rfl, Nat.le_of_ble_eq_true rfl⟩) (wx_preV hC Z hS hA rfl (rfl : vwCl[6]? = some (RX6, TX6, 25))) rfl rfl hl.1 rfl (lv_room (Nat.le_of_ble_eq_true rfl)) dX6_readsNumber_36 ⟨Nat.zero_le _, Nat.zero_le _⟩) hS (fun H locs Z hS => ?_)
        refine lv_iadd hx hb dX6_readsNumber_39 ?_
        refine lv_bipush (v := 48) hx hb dX6_readsNumber_40 (by decide) ?_
        refine lv_isub hx hb dX6_readsNumber_42 ?_
        obtain ⟨σ43, e43, h⟩ := wx_l_ok h
        refine wx_put (own := RX6) hx hb hts i_X6_readsNumber_6 tyX6 tyX6_ok nmX6 hown hC.1 Z hS (o := 16) (ci := 6) rfl (rfl : vwCl[6]? = some (RX6, TX6, 25)) 24 (by decide) (hts _ k_X6_readsNumber_w0) (fun _ h9 => h9) rfl (by decide +kernel) rfl dX6_readsNumber_43 e43 (fun H locs Z hS => ?_)
        refine lv_aload_n hx hb dX6_readsNumber_46 rfl (lv_at hl 0 rfl) ?_
        refine lv_dup hx hb dX6_readsNumber_47 rfl ?_
        refine wx_get (own := RX6) hx hb hts i_X6_readsNumber_6 hown hC.1 Z (o := 16) (ci := 6) rfl (rfl : vwCl[6]? = some (RX6, TX6, 25)) 20 (by decide) (hts _ k_X6_readsNumber_w1) (fun _ h9 => h9) (f := 1) rfl rfl dX6_readsNumber_48 ?_
        refine lv_iconst (v := 1) hx hb dX6_readsNumber_51 (by decide) ?_
        refine lv_iadd hx hb dX6_readsNumber_52 ?_
        obtain ⟨σ53, e53, h⟩ := wx_l_ok h
        refine wx_put (own := RX6) hx hb hts i_X6_readsNumber_6 tyX6 tyX6_ok nmX6 hown hC.1 Z hS (o := 16) (ci := 6) rfl (rfl : vwCl[6]? = some (RX6, TX6, 25)) 20 (by decide) (hts _ k_X6_readsNumber_w1) (fun _ h9 => h9) rfl (by decide +kernel) rfl dX6_readsNumber_53 e53 (fun H locs Z hS => ?_)
        exact b_X6_readsNumber_56 B h Z hS (lv_sub hl [0] rfl)
  · replace h := wx_ift c4 h
    refine lv_iconst (v := 0) hx hb dX6_readsNumber_7 (by decide) ?_
    obtain ⟨rfl, rfl⟩ := wx_ret_ok h
    exact W.zret hx hb hr rfl (fun t ht hW => ⟨rfl, by rw [ht]; exact Z, hS.F ht⟩) hS.2.2 dX6_readsNumber_8
set_option maxRecDepth 20000 in
theorem c_X6_readsNumber (l : Launch) {D : va_G} {ad : Nat → Nat → Nat} {rd : Nat → Nat} {ca : Nat → ClassId} {A : Nat → Prop} {σ : wx_St}     {r : Int32} {σ' : wx_St} (h : f_X6_readsNumber σ = some (r, σ')) : wx_M l yX6_readsNumber wsX6_readsNumber 3 62 D ad rd ca A [.ref (ad 16 99)] σ (some (.int r)) σ' := by
  refine Met.ofW (cc := cX6_readsNumber) (maxL := 1) (ret := (some .boolean)) (by decide +kernel) rfl ?_
  intro p e s m args below meth c s₁ B0 hml hv
  obtain ⟨rfl, hC, Z, hA⟩ := hv
  have hl := lv_entry ([.ref (ad 16 99)]) (n := 1) (Nat.le_of_ble_eq_true rfl)
  rw [lg_entry_eq]
  generalize (lg_sl ([.ref (ad 16 99)]) ++ List.replicate (1 - (lg_sl ([.ref (ad 16 99)])).length) Slot.unset).toArray = ls at hl ⊢
  exact b_X6_readsNumber_0 ⟨B0.exec, B0.bytes, hml, B0.returns, atoms_spec (ws := wsX6_readsNumber) B0.pre, findClass_of_methodNamed B0.named, B0.notSynchronized, hC, hA⟩   h Z va_S.rf hl
theorem i_X6_isColumn_6 : ∀ w ∈ wsX60, w ∈ wsX6_isColumn := by decide +kernel
theorem k_X6_isColumn_w0 : Cond.fieldLink RX6 249 "WarmProbesModel" "at" "I" ∈ wsX6_isColumn := by decide +kernel
set_option maxRecDepth 20000 in
set_option maxHeartbeats 4000000 in
theorem b_X6_isColumn_0 (B : wx_B p s m args meth c cX6_isColumn 1 (some .boolean) wsX6_isColumn RX6 D ad ca A)    {r : Int32} {σ : wx_St}     (h : f_X6_isColumn σ = some r) {H : Heap} {locs : List Loc} (Z : wx_Z D ad rd ca A σ H) (hS : va_S A s.heap H locs) {ls : Array Slot} (hl : lv_has ls 1 [(0, .ref (ad 16 99))]) : W p l e ({ frames := 1, cells := 0, slots := 0, locals := 22 } : Room) s m args below meth c H locs 0 0 (MQ below (wx_Q D ad rd ca A (some (.int r)) σ) args s 0 0 A) (F0 m 0 ls []) := by
  obtain ⟨hx, hb, hml, hr, hts, hown, hlk, hC, hA⟩ := id B
  unfold f_X6_isColumn at h
  refine lv_aload_n hx hb dX6_isColumn_0 rfl (lv_at hl 0 rfl) ?_
  refine lv_aload_n hx hb dX6_isColumn_1 rfl (lv_at hl 0 rfl) ?_
  refine wx_get (own := RX6) hx hb hts i_X6_isColumn_6 hown hC.1 Z (o := 16) (ci := 6) rfl (rfl : vwCl[6]? = some (RX6, TX6, 25)) 20 (by decide) (hts _ k_X6_isColumn_w0) (fun _ h9 => h9) (f := 1) rfl rfl dX6_isColumn_2 ?_
  obtain ⟨v5, hc5, h⟩ := wx_o_ok h
  refine wx_call (va_runV (As := [.int (σ.2.2.1 16 20)]) (rest := []) ⟨hx, hb, hml, hown, hts⟩ (c_X6_character l (D := D) (ad := ad) (rd := rd) (ca := ca) (A := A) (σ := σ) hc5) (cwV 1 hts gX6_isColumn_X6_character rfl rfl rfl (by decide +kernel) ⟨Nat.le_of_ble_eq_true rfl, Nat.le_of_ble_eq_true rfl⟩) (wx_preV hC Z hS hA rfl (rfl : vwCl[6]? = some (RX6, TX6, 25))) rfl rfl hl.1 rfl (lv_room (Nat.le_of_ble_eq_true rfl)) dX6_isColumn_5 ⟨Nat.zero_le _, Nat.zero_le _⟩) hS (fun H locs Z hS => ?_)
  refine lv_bipush (v := 97) hx hb dX6_isColumn_8 (by decide) ?_
  refine lv_bipush (v := 104) hx hb dX6_isColumn_10 (by decide) ?_
  obtain ⟨v12, hc12, h⟩ := wx_o_ok h
  refine wx_call (va_runS (As := [.int v5, .int 97, .int 104]) (rest := []) ⟨hx, hb, hml, hown, hts⟩ (c_X6_within l (D := D) (ad := ad) (rd := rd) (ca := ca) (A := A) (σ := σ) hc12) (va_cwS 3 hts gX6_isColumn_X6_within rfl rfl rfl (by decide +kernel) ⟨Nat.le_of_ble_eq_true rfl, Nat.le_of_ble_eq_true rfl⟩) (wx_preS hC Z hS hA) rfl rfl hl.1 rfl (lv_room (Nat.le_of_ble_eq_true rfl)) dX6_isColumn_12 ⟨Nat.zero_le _, Nat.zero_le _⟩) hS (fun H locs Z hS => ?_)
  obtain ⟨hz, h⟩ := wx_z_ok h
  obtain rfl := Option.some.inj h
  exact W.zret hx hb hr (wx_nb hz) (fun t ht hW => ⟨rfl, by rw [ht]; exact Z, hS.F ht⟩) hS.2.2 dX6_isColumn_15
set_option maxRecDepth 20000 in
theorem c_X6_isColumn (l : Launch) {D : va_G} {ad : Nat → Nat → Nat} {rd : Nat → Nat} {ca : Nat → ClassId} {A : Nat → Prop} {σ : wx_St}     {r : Int32} (h : f_X6_isColumn σ = some r) : wx_M l yX6_isColumn wsX6_isColumn 1 22 D ad rd ca A [.ref (ad 16 99)] σ (some (.int r)) σ := by
  refine Met.ofW (cc := cX6_isColumn) (maxL := 1) (ret := (some .boolean)) (by decide +kernel) rfl ?_
  intro p e s m args below meth c s₁ B0 hml hv
  obtain ⟨rfl, hC, Z, hA⟩ := hv
  have hl := lv_entry ([.ref (ad 16 99)]) (n := 1) (Nat.le_of_ble_eq_true rfl)
  rw [lg_entry_eq]
  generalize (lg_sl ([.ref (ad 16 99)]) ++ List.replicate (1 - (lg_sl ([.ref (ad 16 99)])).length) Slot.unset).toArray = ls at hl ⊢
  exact b_X6_isColumn_0 ⟨B0.exec, B0.bytes, hml, B0.returns, atoms_spec (ws := wsX6_isColumn) B0.pre, findClass_of_methodNamed B0.named, B0.notSynchronized, hC, hA⟩   h Z va_S.rf hl
theorem i_X6_readsPlace_6 : ∀ w ∈ wsX60, w ∈ wsX6_readsPlace := by decide +kernel
theorem k_X6_readsPlace_w0 : Cond.fieldLink RX6 249 "WarmProbesModel" "at" "I" ∈ wsX6_readsPlace := by decide +kernel
theorem k_X6_readsPlace_w1 : Cond.fieldLink RX6 268 "WarmProbesModel" "two" "I" ∈ wsX6_readsPlace := by decide +kernel
theorem k_X6_readsPlace_w2 : Cond.fieldLink RX6 259 "WarmProbesModel" "number" "I" ∈ wsX6_readsPlace := by decide +kernel
theorem k_X6_readsPlace_w3 : Cond.fieldLink RX6 271 "WarmProbesModel" "one" "I" ∈ wsX6_readsPlace := by decide +kernel
set_option maxRecDepth 20000 in
set_option maxHeartbeats 4000000 in
theorem b_X6_readsPlace_0 (B : wx_B p s m args meth c cX6_readsPlace 2 (some .boolean) wsX6_readsPlace RX6 D ad ca A)    {r : Int32} {σ' : wx_St}   {σ : wx_St}  (h : f_X6_readsPlace σ = some (r, σ')) {H : Heap} {locs : List Loc} (Z : wx_Z D ad rd ca A σ H) (hS : va_S A s.heap H locs) {ls : Array Slot} (hl : lv_has ls 2 [(0, .ref (ad 16 99))]) : W p l e ({ frames := 3, cells := 0, slots := 0, locals := 62 } : Room) s m args below meth c H locs 0 0 (MQ below (wx_Q D ad rd ca A (some (.int r)) σ') args s 0 0 A) (F0 m 0 ls []) := by
  obtain ⟨hx, hb, hml, hr, hts, hown, hlk, hC, hA⟩ := id B
  unfold f_X6_readsPlace at h
  refine lv_aload_n hx hb dX6_readsPlace_0 rfl (lv_at hl 0 rfl) ?_
  obtain ⟨v1, hc1, h⟩ := wx_o_ok h
  refine wx_call (va_runV (As := []) (rest := []) ⟨hx, hb, hml, hown, hts⟩ (c_X6_isColumn l (D := D) (ad := ad) (rd := rd) (ca := ca) (A := A) (σ := σ) hc1) (cwV 0 hts gX6_readsPlace_X6_isColumn rfl rfl rfl (by decide +kernel) ⟨Nat.le_of_ble_eq_true rfl, Nat.le_of_ble_eq_true rfl⟩) (wx_preV hC Z hS hA rfl (rfl : vwCl[6]? = some (RX6, TX6, 25))) rfl rfl hl.1 rfl (lv_room (Nat.le_of_ble_eq_true rfl)) dX6_readsPlace_1 ⟨Nat.zero_le _, Nat.zero_le _⟩) hS (fun H locs Z hS => ?_)
  refine lv_if_ne (tgt := 9) hx hb dX6_readsPlace_4 (by decide) (fun c4 => ?_) (fun c4 => ?_)
  · replace h := wx_iff c4 h
    refine lv_aload_n hx hb dX6_readsPlace_9 rfl (lv_at hl 0 rfl) ?_
    refine lv_aload_n hx hb dX6_readsPlace_10 rfl (lv_at hl 0 rfl) ?_
    refine lv_aload_n hx hb dX6_readsPlace_11 rfl (lv_at hl 0 rfl) ?_
    refine wx_get (own := RX6) hx hb hts i_X6_readsPlace_6 hown hC.1 Z (o := 16) (ci := 6) rfl (rfl : vwCl[6]? = some (RX6, TX6, 25)) 20 (by decide) (hts _ k_X6_readsPlace_w0) (fun _ h9 => h9) (f := 1) rfl rfl dX6_readsPlace_12 ?_
    obtain ⟨v15, hc15, h⟩ := wx_o_ok h
    refine wx_call (va_runV (As := [.int (σ.2.2.1 16 20)]) (rest := [.ref (ad 16 99)]) ⟨hx, hb, hml, hown, hts⟩ (c_X6_character l (D := D) (ad := ad) (rd := rd) (ca := ca) (A := A) (σ := σ) hc15) (cwV 1 hts gX6_readsPlace_X6_character rfl rfl rfl (by decide +kernel) ⟨Nat.le_of_ble_eq_true rfl, Nat.le_of_ble_eq_true rfl⟩) (wx_preV hC Z hS hA rfl (rfl : vwCl[6]? = some (RX6, TX6, 25))) rfl rfl hl.1 rfl (lv_room (Nat.le_of_ble_eq_true rfl)) dX6_readsPlace_15 ⟨Nat.zero_le _, Nat.zero_le _⟩) hS (fun H locs Z hS => ?_)
    refine lv_bipush (v := 97) hx hb dX6_readsPlace_18 (by decide) ?_
    refine lv_isub hx hb dX6_readsPlace_20 ?_
    obtain ⟨σ21, e21, h⟩ := wx_l_ok h
    refine wx_put (own := RX6) hx hb hts i_X6_readsPlace_6 tyX6 tyX6_ok nmX6 hown hC.1 Z hS (o := 16) (ci := 6) rfl (rfl : vwCl[6]? = some (RX6, TX6, 25)) 23 (by decide) (hts _ k_X6_readsPlace_w1) (fun _ h9 => h9) rfl (by decide +kernel) rfl dX6_readsPlace_21 e21 (fun H locs Z hS => ?_)
    refine lv_aload_n hx hb dX6_readsPlace_24 rfl (lv_at hl 0 rfl) ?_
    refine lv_dup hx hb dX6_readsPlace_25 rfl ?_
    refine wx_get (own := RX6) hx hb hts i_X6_readsPlace_6 hown hC.1 Z (o := 16) (ci := 6) rfl (rfl : vwCl[6]? = some (RX6, TX6, 25)) 20 (by decide) (hts _ k_X6_readsPlace_w0) (fun _ h9 => h9) (f := 1) rfl rfl dX6_readsPlace_26 ?_
    refine lv_iconst (v := 1) hx hb dX6_readsPlace_29 (by decide) ?_
    refine lv_iadd hx hb dX6_readsPlace_30 ?_
    obtain ⟨σ31, e31, h⟩ := wx_l_ok h
    refine wx_put (own := RX6) hx hb hts i_X6_readsPlace_6 tyX6 tyX6_ok nmX6 hown hC.1 Z hS (o := 16) (ci := 6) rfl (rfl : vwCl[6]? = some (RX6, TX6, 25)) 20 (by decide) (hts _ k_X6_readsPlace_w0) (fun _ h9 => h9) rfl (by decide +kernel) rfl dX6_readsPlace_31 e31 (fun H locs Z hS => ?_)
    refine lv_aload_n hx hb dX6_readsPlace_34 rfl (lv_at hl 0 rfl) ?_
    obtain ⟨v35, σ35, hc35, h⟩ := wx_b_ok h
    refine wx_call (va_runV (As := []) (rest := []) ⟨hx, hb, hml, hown, hts⟩ (c_X6_readsDigit l (D := D) (ad := ad) (rd := rd) (ca := ca) (A := A) (σ := σ31) hc35) (cwV 0 hts gX6_readsPlace_X6_readsDigit rfl rfl rfl (by decide +kernel) ⟨Nat.le_of_ble_eq_true rfl, Nat.le_of_ble_eq_true rfl⟩) (wx_preV hC Z hS hA rfl (rfl : vwCl[6]? = some (RX6, TX6, 25))) rfl rfl hl.1 rfl (lv_room (Nat.le_of_ble_eq_true rfl)) dX6_readsPlace_35 ⟨Nat.zero_le _, Nat.zero_le _⟩) hS (fun H locs Z hS => ?_)
    refine lv_istore_n (lv' := [(1, .int v35), (0, .ref (ad 16 99))]) hx hb dX6_readsPlace_38 rfl hl (by decide) rfl (fun ls hl => ?_)
    refine lv_aload_n hx hb dX6_readsPlace_39 rfl (lv_at hl 1 rfl) ?_
    refine lv_aload_n hx hb dX6_readsPlace_40 rfl (lv_at hl 1 rfl) ?_
    refine wx_get (own := RX6) hx hb hts i_X6_readsPlace_6 hown hC.1 Z (o := 16) (ci := 6) rfl (rfl : vwCl[6]? = some (RX6, TX6, 25)) 24 (by decide) (hts _ k_X6_readsPlace_w2) (fun _ h9 => h9) (f := 1) rfl rfl dX6_readsPlace_41 ?_
    obtain ⟨σ44, e44, h⟩ := wx_l_ok h
    refine wx_put (own := RX6) hx hb hts i_X6_readsPlace_6 tyX6 tyX6_ok nmX6 hown hC.1 Z hS (o := 16) (ci := 6) rfl (rfl : vwCl[6]? = some (RX6, TX6, 25)) 22 (by decide) (hts _ k_X6_readsPlace_w3) (fun _ h9 => h9) rfl (by decide +kernel) rfl dX6_readsPlace_44 e44 (fun H locs Z hS => ?_)
    refine lv_iload_n hx hb dX6_readsPlace_47 rfl (lv_at hl 0 rfl) ?_
    obtain ⟨hz, h⟩ := wx_z_ok h
    obtain ⟨rfl, rfl⟩ := wx_ret_ok h
    exact W.zret hx hb hr (wx_nb hz) (fun t ht hW => ⟨rfl, by rw [ht]; exact Z, hS.F ht⟩) hS.2.2 dX6_readsPlace_48
  · replace h := wx_ift c4 h
    refine lv_iconst (v := 0) hx hb dX6_readsPlace_7 (by decide) ?_
    obtain ⟨rfl, rfl⟩ := wx_ret_ok h
    exact W.zret hx hb hr rfl (fun t ht hW => ⟨rfl, by rw [ht]; exact Z, hS.F ht⟩) hS.2.2 dX6_readsPlace_8
set_option maxRecDepth 20000 in
theorem c_X6_readsPlace (l : Launch) {D : va_G} {ad : Nat → Nat → Nat} {rd : Nat → Nat} {ca : Nat → ClassId} {A : Nat → Prop} {σ : wx_St}     {r : Int32} {σ' : wx_St} (h : f_X6_readsPlace σ = some (r, σ')) : wx_M l yX6_readsPlace wsX6_readsPlace 3 62 D ad rd ca A [.ref (ad 16 99)] σ (some (.int r)) σ' := by
  refine Met.ofW (cc := cX6_readsPlace) (maxL := 2) (ret := (some .boolean)) (by decide +kernel) rfl ?_
  intro p e s m args below meth c s₁ B0 hml hv
  obtain ⟨rfl, hC, Z, hA⟩ := hv
  have hl := lv_entry ([.ref (ad 16 99)]) (n := 2) (Nat.le_of_ble_eq_true rfl)
  rw [lg_entry_eq]
  generalize (lg_sl ([.ref (ad 16 99)]) ++ List.replicate (2 - (lg_sl ([.ref (ad 16 99)])).length) Slot.unset).toArray = ls at hl ⊢
  exact b_X6_readsPlace_0 ⟨B0.exec, B0.bytes, hml, B0.returns, atoms_spec (ws := wsX6_readsPlace) B0.pre, findClass_of_methodNamed B0.named, B0.notSynchronized, hC, hA⟩   h Z va_S.rf hl
theorem i_X6_readsOrder_6 : ∀ w ∈ wsX60, w ∈ wsX6_readsOrder := by decide +kernel
theorem k_X6_readsOrder_w0 : Cond.fieldLink RX6 249 "WarmProbesModel" "at" "I" ∈ wsX6_readsOrder := by decide +kernel
theorem k_X6_readsOrder_w1 : Cond.fieldLink RX6 274 "WarmProbesModel" "letter" "I" ∈ wsX6_readsOrder := by decide +kernel
theorem k_X6_readsOrder_w2 : Cond.fieldLink RX6 259 "WarmProbesModel" "number" "I" ∈ wsX6_readsOrder := by decide +kernel
theorem k_X6_readsOrder_w3 : Cond.fieldLink RX6 271 "WarmProbesModel" "one" "I" ∈ wsX6_readsOrder := by decide +kernel
set_option maxRecDepth 20000 in
set_option maxHeartbeats 4000000 in
theorem b_X6_readsOrder_146 (B : wx_B p s m args meth c cX6_readsOrder 2 (some .boolean) wsX6_readsOrder RX6 D ad ca A)    {r : Int32} {σ' : wx_St}  {x1 : Int32} {y0 : Int32} {σ : wx_St}  (h : f_X6_readsOrder_146 x1 y0 σ = some (r, σ')) {H : Heap} {locs : List Loc} (Z : wx_Z D ad rd ca A σ H) (hS : va_S A s.heap H locs) {ls : Array Slot} (hl : lv_has ls 2 [(0, .ref (ad 16 99)), (1, .int x1)]) : W p l e ({ frames := 4, cells := 0, slots := 0, locals := 83 } : Room) s m args below meth c H locs 0 0 (MQ below (wx_Q D ad rd ca A (some (.int r)) σ') args s 0 0 A) (F0 m 146 ls [.int y0]) := by
  obtain ⟨hx, hb, hml, hr, hts, hown, hlk, hC, hA⟩ := id B
  unfold f_X6_readsOrder_146 at h
  obtain ⟨hz, h⟩ := wx_z_ok h
  obtain ⟨rfl, rfl⟩ := wx_ret_ok h
  exact W.zret hx hb hr (wx_nb hz) (fun t ht hW => ⟨rfl, by rw [ht]; exact Z, hS.F ht⟩) hS.2.2 dX6_readsOrder_146
set_option maxRecDepth 20000 in
set_option maxHeartbeats 4000000 in
theorem b_X6_readsOrder_145 (B : wx_B p s m args meth c cX6_readsOrder 2 (some .boolean) wsX6_readsOrder RX6 D ad ca A)    {r : Int32} {σ' : wx_St}  {x1 : Int32} {σ : wx_St}  (h : f_X6_readsOrder_145 x1 σ = some (r, σ')) {H : Heap} {locs : List Loc} (Z : wx_Z D ad rd ca A σ H) (hS : va_S A s.heap H locs) {ls : Array Slot} (hl : lv_has ls 2 [(0, .ref (ad 16 99)), (1, .int x1)]) : W p l e ({ frames := 4, cells := 0, slots := 0, locals := 83 } : Room) s m args below meth c H locs 0 0 (MQ below (wx_Q D ad rd ca A (some (.int r)) σ') args s 0 0 A) (F0 m 145 ls []) := by
  obtain ⟨hx, hb, hml, hr, hts, hown, hlk, hC, hA⟩ := id B
  unfold f_X6_readsOrder_145 at h
  refine lv_iconst (v := 0) hx hb dX6_readsOrder_145 (by decide) ?_
  exact b_X6_readsOrder_146 B h Z hS (lv_sub hl [0, 1] rfl)
set_option maxRecDepth 20000 in
set_option maxHeartbeats 4000000 in
theorem b_X6_readsOrder_175 (B : wx_B p s m args meth c cX6_readsOrder 2 (some .boolean) wsX6_readsOrder RX6 D ad ca A)    {r : Int32} {σ' : wx_St}  {y0 : Int32} {σ : wx_St}  (h : f_X6_readsOrder_175 y0 σ = some (r, σ')) {H : Heap} {locs : List Loc} (Z : wx_Z D ad rd ca A σ H) (hS : va_S A s.heap H locs) {ls : Array Slot} (hl : lv_has ls 2 [(0, .ref (ad 16 99))]) : W p l e ({ frames := 4, cells := 0, slots := 0, locals := 83 } : Room) s m args below meth c H locs 0 0 (MQ below (wx_Q D ad rd ca A (some (.int r)) σ') args s 0 0 A) (F0 m 175 ls [.int y0]) := by
  obtain ⟨hx, hb, hml, hr, hts, hown, hlk, hC, hA⟩ := id B
  unfold f_X6_readsOrder_175 at h
  obtain ⟨hz, h⟩ := wx_z_ok h
  obtain ⟨rfl, rfl⟩ := wx_ret_ok h
  exact W.zret hx hb hr (wx_nb hz) (fun t ht hW => ⟨rfl, by rw [ht]; exact Z, hS.F ht⟩) hS.2.2 dX6_readsOrder_175
set_option maxRecDepth 20000 in
set_option maxHeartbeats 4000000 in
theorem b_X6_readsOrder_174 (B : wx_B p s m args meth c cX6_readsOrder 2 (some .boolean) wsX6_readsOrder RX6 D ad ca A)    {r : Int32} {σ' : wx_St}   {σ : wx_St}  (h : f_X6_readsOrder_174 σ = some (r, σ')) {H : Heap} {locs : List Loc} (Z : wx_Z D ad rd ca A σ H) (hS : va_S A s.heap H locs) {ls : Array Slot} (hl : lv_has ls 2 [(0, .ref (ad 16 99))]) : W p l e ({ frames := 4, cells := 0, slots := 0, locals := 83 } : Room) s m args below meth c H locs 0 0 (MQ below (wx_Q D ad rd ca A (some (.int r)) σ') args s 0 0 A) (F0 m 174 ls []) := by
  obtain ⟨hx, hb, hml, hr, hts, hown, hlk, hC, hA⟩ := id B
  unfold f_X6_readsOrder_174 at h
  refine lv_iconst (v := 0) hx hb dX6_readsOrder_174 (by decide) ?_
  exact b_X6_readsOrder_175 B h Z hS (lv_sub hl [0] rfl)
set_option maxRecDepth 20000 in
set_option maxHeartbeats 4000000 in
theorem b_X6_readsOrder_0 (B : wx_B p s m args meth c cX6_readsOrder 2 (some .boolean) wsX6_readsOrder RX6 D ad ca A)    {r : Int32} {σ' : wx_St}   {σ : wx_St}  (h : f_X6_readsOrder σ = some (r, σ')) {H : Heap} {locs : List Loc} (Z : wx_Z D ad rd ca A σ H) (hS : va_S A s.heap H locs) {ls : Array Slot} (hl : lv_has ls 2 [(0, .ref (ad 16 99))]) : W p l e ({ frames := 4, cells := 0, slots := 0, locals := 83 } : Room) s m args below meth c H locs 0 0 (MQ below (wx_Q D ad rd ca A (some (.int r)) σ') args s 0 0 A) (F0 m 0 ls []) := by
  obtain ⟨hx, hb, hml, hr, hts, hown, hlk, hC, hA⟩ := id B
  unfold f_X6_readsOrder at h
  refine lv_aload_n hx hb dX6_readsOrder_0 rfl (lv_at hl 0 rfl) ?_
  refine lv_aload_n hx hb dX6_readsOrder_1 rfl (lv_at hl 0 rfl) ?_
  refine lv_aload_n hx hb dX6_readsOrder_2 rfl (lv_at hl 0 rfl) ?_
  refine wx_get (own := RX6) hx hb hts i_X6_readsOrder_6 hown hC.1 Z (o := 16) (ci := 6) rfl (rfl : vwCl[6]? = some (RX6, TX6, 25)) 20 (by decide) (hts _ k_X6_readsOrder_w0) (fun _ h9 => h9) (f := 1) rfl rfl dX6_readsOrder_3 ?_
  obtain ⟨v6, hc6, h⟩ := wx_o_ok h
  refine wx_call (va_runV (As := [.int (σ.2.2.1 16 20)]) (rest := [.ref (ad 16 99)]) ⟨hx, hb, hml, hown, hts⟩ (c_X6_character l (D := D) (ad := ad) (rd := rd) (ca := ca) (A := A) (σ := σ) hc6) (cwV 1 hts gX6_readsOrder_X6_character rfl rfl rfl (by decide +kernel) ⟨Nat.le_of_ble_eq_true rfl, Nat.le_of_ble_eq_true rfl⟩) (wx_preV hC Z hS hA rfl (rfl : vwCl[6]? = some (RX6, TX6, 25))) rfl rfl hl.1 rfl (lv_room (Nat.le_of_ble_eq_true rfl)) dX6_readsOrder_6 ⟨Nat.zero_le _, Nat.zero_le _⟩) hS (fun H locs Z hS => ?_)
  obtain ⟨σ9, e9, h⟩ := wx_l_ok h
  refine wx_put (own := RX6) hx hb hts i_X6_readsOrder_6 tyX6 tyX6_ok nmX6 hown hC.1 Z hS (o := 16) (ci := 6) rfl (rfl : vwCl[6]? = some (RX6, TX6, 25)) 21 (by decide) (hts _ k_X6_readsOrder_w1) (fun _ h9 => h9) rfl (by decide +kernel) rfl dX6_readsOrder_9 e9 (fun H locs Z hS => ?_)
  refine lv_aload_n hx hb dX6_readsOrder_12 rfl (lv_at hl 0 rfl) ?_
  refine lv_dup hx hb dX6_readsOrder_13 rfl ?_
  refine wx_get (own := RX6) hx hb hts i_X6_readsOrder_6 hown hC.1 Z (o := 16) (ci := 6) rfl (rfl : vwCl[6]? = some (RX6, TX6, 25)) 20 (by decide) (hts _ k_X6_readsOrder_w0) (fun _ h9 => h9) (f := 1) rfl rfl dX6_readsOrder_14 ?_
  refine lv_iconst (v := 1) hx hb dX6_readsOrder_17 (by decide) ?_
  refine lv_iadd hx hb dX6_readsOrder_18 ?_
  obtain ⟨σ19, e19, h⟩ := wx_l_ok h
  refine wx_put (own := RX6) hx hb hts i_X6_readsOrder_6 tyX6 tyX6_ok nmX6 hown hC.1 Z hS (o := 16) (ci := 6) rfl (rfl : vwCl[6]? = some (RX6, TX6, 25)) 20 (by decide) (hts _ k_X6_readsOrder_w0) (fun _ h9 => h9) rfl (by decide +kernel) rfl dX6_readsOrder_19 e19 (fun H locs Z hS => ?_)
  refine lv_aload_n hx hb dX6_readsOrder_22 rfl (lv_at hl 0 rfl) ?_
  refine wx_get (own := RX6) hx hb hts i_X6_readsOrder_6 hown hC.1 Z (o := 16) (ci := 6) rfl (rfl : vwCl[6]? = some (RX6, TX6, 25)) 21 (by decide) (hts _ k_X6_readsOrder_w1) (fun _ h9 => h9) (f := 1) rfl rfl dX6_readsOrder_23 ?_
  by_cases c26_0 : (σ19.2.2.1 16 21) = 102
  · replace h := wx_ift c26_0 h
    refine lv_tableIn (off := 91) (tgt := 117) hx hb dX6_readsOrder_26 (by rw [c26_0]; decide) (by rw [c26_0]; decide) (by rw [c26_0]; rfl) (by decide) ?_
    refine lv_aload_n hx hb dX6_readsOrder_117 rfl (lv_at hl 0 rfl) ?_
    obtain ⟨v118, σ118, hc118, h⟩ := wx_b_ok h
    refine wx_call (va_runV (As := []) (rest := []) ⟨hx, hb, hml, hown, hts⟩ (c_X6_readsDigit l (D := D) (ad := ad) (rd := rd) (ca := ca) (A := A) (σ := σ19) hc118) (cwV 0 hts gX6_readsOrder_X6_readsDigit rfl rfl rfl (by decide +kernel) ⟨Nat.le_of_ble_eq_true rfl, Nat.le_of_ble_eq_true rfl⟩) (wx_preV hC Z hS hA rfl (rfl : vwCl[6]? = some (RX6, TX6, 25))) rfl rfl hl.1 rfl (lv_room (Nat.le_of_ble_eq_true rfl)) dX6_readsOrder_118 ⟨Nat.zero_le _, Nat.zero_le _⟩) hS (fun H locs Z hS => ?_)
    refine lv_istore_n (lv' := [(1, .int v118), (0, .ref (ad 16 99))]) hx hb dX6_readsOrder_121 rfl hl (by decide) rfl (fun ls hl => ?_)
    refine lv_aload_n hx hb dX6_readsOrder_122 rfl (lv_at hl 1 rfl) ?_
    refine lv_aload_n hx hb dX6_readsOrder_123 rfl (lv_at hl 1 rfl) ?_
    refine wx_get (own := RX6) hx hb hts i_X6_readsOrder_6 hown hC.1 Z (o := 16) (ci := 6) rfl (rfl : vwCl[6]? = some (RX6, TX6, 25)) 24 (by decide) (hts _ k_X6_readsOrder_w2) (fun _ h9 => h9) (f := 1) rfl rfl dX6_readsOrder_124 ?_
    obtain ⟨σ127, e127, h⟩ := wx_l_ok h
    refine wx_put (own := RX6) hx hb hts i_X6_readsOrder_6 tyX6 tyX6_ok nmX6 hown hC.1 Z hS (o := 16) (ci := 6) rfl (rfl : vwCl[6]? = some (RX6, TX6, 25)) 22 (by decide) (hts _ k_X6_readsOrder_w3) (fun _ h9 => h9) rfl (by decide +kernel) rfl dX6_readsOrder_127 e127 (fun H locs Z hS => ?_)
    refine lv_iload_n hx hb dX6_readsOrder_130 rfl (lv_at hl 0 rfl) ?_
    refine lv_if_eq (tgt := 145) hx hb dX6_readsOrder_131 (by decide) (fun c131 => ?_) (fun c131 => ?_)
    · replace h := wx_ift c131 h
      exact b_X6_readsOrder_145 B h Z hS (lv_sub hl [1, 0] rfl)
    · replace h := wx_iff c131 h
      refine lv_aload_n hx hb dX6_readsOrder_134 rfl (lv_at hl 1 rfl) ?_
      obtain ⟨v135, σ135, hc135, h⟩ := wx_b_ok h
      refine wx_call (va_runV (As := []) (rest := []) ⟨hx, hb, hml, hown, hts⟩ (c_X6_readsDigit l (D := D) (ad := ad) (rd := rd) (ca := ca) (A := A) (σ := σ127) hc135) (cwV 0 hts gX6_readsOrder_X6_readsDigit rfl rfl rfl (by decide +kernel) ⟨Nat.le_of_ble_eq_true rfl, Nat.le_of_ble_eq_true rfl⟩) (wx_preV hC Z hS hA rfl (rfl : vwCl[6]? = some (RX6, TX6, 25))) rfl rfl hl.1 rfl (lv_room (Nat.le_of_ble_eq_true rfl)) dX6_readsOrder_135 ⟨Nat.zero_le _, Nat.zero_le _⟩) hS (fun H locs Z hS => ?_)
      refine lv_if_eq (tgt := 145) hx hb dX6_readsOrder_138 (by decide) (fun c138 => ?_) (fun c138 => ?_)
      · replace h := wx_ift c138 h
        exact b_X6_readsOrder_145 B h Z hS (lv_sub hl [1, 0] rfl)
      · replace h := wx_iff c138 h
        refine lv_iconst (v := 1) hx hb dX6_readsOrder_141 (by decide) ?_
        refine lv_goto (tgt := 146) hx hb dX6_readsOrder_142 (by decide) ?_
        exact b_X6_readsOrder_146 B h Z hS (lv_sub hl [1, 0] rfl)
  · replace h := wx_iff c26_0 h
    by_cases c26_1 : (σ19.2.2.1 16 21) = 103
    · replace h := wx_ift c26_1 h
      refine lv_tableIn (off := 160) (tgt := 186) hx hb dX6_readsOrder_26 (by rw [c26_1]; decide) (by rw [c26_1]; decide) (by rw [c26_1]; rfl) (by decide) ?_
      refine lv_aload_n hx hb dX6_readsOrder_186 rfl (lv_at hl 0 rfl) ?_
      refine lv_dup hx hb dX6_readsOrder_187 rfl ?_
      refine wx_get (own := RX6) hx hb hts i_X6_readsOrder_6 hown hC.1 Z (o := 16) (ci := 6) rfl (rfl : vwCl[6]? = some (RX6, TX6, 25)) 20 (by decide) (hts _ k_X6_readsOrder_w0) (fun _ h9 => h9) (f := 1) rfl rfl dX6_readsOrder_188 ?_
      refine lv_iconst (v := 1) hx hb dX6_readsOrder_191 (by decide) ?_
      refine lv_isub hx hb dX6_readsOrder_192 ?_
      obtain ⟨σ193, e193, h⟩ := wx_l_ok h
      refine wx_put (own := RX6) hx hb hts i_X6_readsOrder_6 tyX6 tyX6_ok nmX6 hown hC.1 Z hS (o := 16) (ci := 6) rfl (rfl : vwCl[6]? = some (RX6, TX6, 25)) 20 (by decide) (hts _ k_X6_readsOrder_w0) (fun _ h9 => h9) rfl (by decide +kernel) rfl dX6_readsOrder_193 e193 (fun H locs Z hS => ?_)
      refine lv_iconst (v := 0) hx hb dX6_readsOrder_196 (by decide) ?_
      obtain ⟨rfl, rfl⟩ := wx_ret_ok h
      exact W.zret hx hb hr rfl (fun t ht hW => ⟨rfl, by rw [ht]; exact Z, hS.F ht⟩) hS.2.2 dX6_readsOrder_197
    · replace h := wx_iff c26_1 h
      by_cases c26_2 : (σ19.2.2.1 16 21) = 104
      · replace h := wx_ift c26_2 h
        refine lv_tableIn (off := 160) (tgt := 186) hx hb dX6_readsOrder_26 (by rw [c26_2]; decide) (by rw [c26_2]; decide) (by rw [c26_2]; rfl) (by decide) ?_
        refine lv_aload_n hx hb dX6_readsOrder_186 rfl (lv_at hl 0 rfl) ?_
        refine lv_dup hx hb dX6_readsOrder_187 rfl ?_
        refine wx_get (own := RX6) hx hb hts i_X6_readsOrder_6 hown hC.1 Z (o := 16) (ci := 6) rfl (rfl : vwCl[6]? = some (RX6, TX6, 25)) 20 (by decide) (hts _ k_X6_readsOrder_w0) (fun _ h9 => h9) (f := 1) rfl rfl dX6_readsOrder_188 ?_
        refine lv_iconst (v := 1) hx hb dX6_readsOrder_191 (by decide) ?_
        refine lv_isub hx hb dX6_readsOrder_192 ?_
        obtain ⟨σ193, e193, h⟩ := wx_l_ok h
        refine wx_put (own := RX6) hx hb hts i_X6_readsOrder_6 tyX6 tyX6_ok nmX6 hown hC.1 Z hS (o := 16) (ci := 6) rfl (rfl : vwCl[6]? = some (RX6, TX6, 25)) 20 (by decide) (hts _ k_X6_readsOrder_w0) (fun _ h9 => h9) rfl (by decide +kernel) rfl dX6_readsOrder_193 e193 (fun H locs Z hS => ?_)
        refine lv_iconst (v := 0) hx hb dX6_readsOrder_196 (by decide) ?_
        obtain ⟨rfl, rfl⟩ := wx_ret_ok h
        exact W.zret hx hb hr rfl (fun t ht hW => ⟨rfl, by rw [ht]; exact Z, hS.F ht⟩) hS.2.2 dX6_readsOrder_197
      · replace h := wx_iff c26_2 h
        by_cases c26_3 : (σ19.2.2.1 16 21) = 105
        · replace h := wx_ift c26_3 h
          refine lv_tableIn (off := 160) (tgt := 186) hx hb dX6_readsOrder_26 (by rw [c26_3]; decide) (by rw [c26_3]; decide) (by rw [c26_3]; rfl) (by decide) ?_
          refine lv_aload_n hx hb dX6_readsOrder_186 rfl (lv_at hl 0 rfl) ?_
          refine lv_dup hx hb dX6_readsOrder_187 rfl ?_
          refine wx_get (own := RX6) hx hb hts i_X6_readsOrder_6 hown hC.1 Z (o := 16) (ci := 6) rfl (rfl : vwCl[6]? = some (RX6, TX6, 25)) 20 (by decide) (hts _ k_X6_readsOrder_w0) (fun _ h9 => h9) (f := 1) rfl rfl dX6_readsOrder_188 ?_
          refine lv_iconst (v := 1) hx hb dX6_readsOrder_191 (by decide) ?_
          refine lv_isub hx hb dX6_readsOrder_192 ?_
          obtain ⟨σ193, e193, h⟩ := wx_l_ok h
          refine wx_put (own := RX6) hx hb hts i_X6_readsOrder_6 tyX6 tyX6_ok nmX6 hown hC.1 Z hS (o := 16) (ci := 6) rfl (rfl : vwCl[6]? = some (RX6, TX6, 25)) 20 (by decide) (hts _ k_X6_readsOrder_w0) (fun _ h9 => h9) rfl (by decide +kernel) rfl dX6_readsOrder_193 e193 (fun H locs Z hS => ?_)
          refine lv_iconst (v := 0) hx hb dX6_readsOrder_196 (by decide) ?_
          obtain ⟨rfl, rfl⟩ := wx_ret_ok h
          exact W.zret hx hb hr rfl (fun t ht hW => ⟨rfl, by rw [ht]; exact Z, hS.F ht⟩) hS.2.2 dX6_readsOrder_197
        · replace h := wx_iff c26_3 h
          by_cases c26_4 : (σ19.2.2.1 16 21) = 106
          · replace h := wx_ift c26_4 h
            refine lv_tableIn (off := 160) (tgt := 186) hx hb dX6_readsOrder_26 (by rw [c26_4]; decide) (by rw [c26_4]; decide) (by rw [c26_4]; rfl) (by decide) ?_
            refine lv_aload_n hx hb dX6_readsOrder_186 rfl (lv_at hl 0 rfl) ?_
            refine lv_dup hx hb dX6_readsOrder_187 rfl ?_
            refine wx_get (own := RX6) hx hb hts i_X6_readsOrder_6 hown hC.1 Z (o := 16) (ci := 6) rfl (rfl : vwCl[6]? = some (RX6, TX6, 25)) 20 (by decide) (hts _ k_X6_readsOrder_w0) (fun _ h9 => h9) (f := 1) rfl rfl dX6_readsOrder_188 ?_
            refine lv_iconst (v := 1) hx hb dX6_readsOrder_191 (by decide) ?_
            refine lv_isub hx hb dX6_readsOrder_192 ?_
            obtain ⟨σ193, e193, h⟩ := wx_l_ok h
            refine wx_put (own := RX6) hx hb hts i_X6_readsOrder_6 tyX6 tyX6_ok nmX6 hown hC.1 Z hS (o := 16) (ci := 6) rfl (rfl : vwCl[6]? = some (RX6, TX6, 25)) 20 (by decide) (hts _ k_X6_readsOrder_w0) (fun _ h9 => h9) rfl (by decide +kernel) rfl dX6_readsOrder_193 e193 (fun H locs Z hS => ?_)
            refine lv_iconst (v := 0) hx hb dX6_readsOrder_196 (by decide) ?_
            obtain ⟨rfl, rfl⟩ := wx_ret_ok h
            exact W.zret hx hb hr rfl (fun t ht hW => ⟨rfl, by rw [ht]; exact Z, hS.F ht⟩) hS.2.2 dX6_readsOrder_197
          · replace h := wx_iff c26_4 h
            by_cases c26_5 : (σ19.2.2.1 16 21) = 107
            · replace h := wx_ift c26_5 h
              refine lv_tableIn (off := 160) (tgt := 186) hx hb dX6_readsOrder_26 (by rw [c26_5]; decide) (by rw [c26_5]; decide) (by rw [c26_5]; rfl) (by decide) ?_
              refine lv_aload_n hx hb dX6_readsOrder_186 rfl (lv_at hl 0 rfl) ?_
              refine lv_dup hx hb dX6_readsOrder_187 rfl ?_
              refine wx_get (own := RX6) hx hb hts i_X6_readsOrder_6 hown hC.1 Z (o := 16) (ci := 6) rfl (rfl : vwCl[6]? = some (RX6, TX6, 25)) 20 (by decide) (hts _ k_X6_readsOrder_w0) (fun _ h9 => h9) (f := 1) rfl rfl dX6_readsOrder_188 ?_
              refine lv_iconst (v := 1) hx hb dX6_readsOrder_191 (by decide) ?_
              refine lv_isub hx hb dX6_readsOrder_192 ?_
              obtain ⟨σ193, e193, h⟩ := wx_l_ok h
              refine wx_put (own := RX6) hx hb hts i_X6_readsOrder_6 tyX6 tyX6_ok nmX6 hown hC.1 Z hS (o := 16) (ci := 6) rfl (rfl : vwCl[6]? = some (RX6, TX6, 25)) 20 (by decide) (hts _ k_X6_readsOrder_w0) (fun _ h9 => h9) rfl (by decide +kernel) rfl dX6_readsOrder_193 e193 (fun H locs Z hS => ?_)
              refine lv_iconst (v := 0) hx hb dX6_readsOrder_196 (by decide) ?_
              obtain ⟨rfl, rfl⟩ := wx_ret_ok h
              exact W.zret hx hb hr rfl (fun t ht hW => ⟨rfl, by rw [ht]; exact Z, hS.F ht⟩) hS.2.2 dX6_readsOrder_197
            · replace h := wx_iff c26_5 h
              by_cases c26_6 : (σ19.2.2.1 16 21) = 108
              · replace h := wx_ift c26_6 h
                refine lv_tableIn (off := 160) (tgt := 186) hx hb dX6_readsOrder_26 (by rw [c26_6]; decide) (by rw [c26_6]; decide) (by rw [c26_6]; rfl) (by decide) ?_
                refine lv_aload_n hx hb dX6_readsOrder_186 rfl (lv_at hl 0 rfl) ?_
                refine lv_dup hx hb dX6_readsOrder_187 rfl ?_
                refine wx_get (own := RX6) hx hb hts i_X6_readsOrder_6 hown hC.1 Z (o := 16) (ci := 6) rfl (rfl : vwCl[6]? = some (RX6, TX6, 25)) 20 (by decide) (hts _ k_X6_readsOrder_w0) (fun _ h9 => h9) (f := 1) rfl rfl dX6_readsOrder_188 ?_
                refine lv_iconst (v := 1) hx hb dX6_readsOrder_191 (by decide) ?_
                refine lv_isub hx hb dX6_readsOrder_192 ?_
                obtain ⟨σ193, e193, h⟩ := wx_l_ok h
                refine wx_put (own := RX6) hx hb hts i_X6_readsOrder_6 tyX6 tyX6_ok nmX6 hown hC.1 Z hS (o := 16) (ci := 6) rfl (rfl : vwCl[6]? = some (RX6, TX6, 25)) 20 (by decide) (hts _ k_X6_readsOrder_w0) (fun _ h9 => h9) rfl (by decide +kernel) rfl dX6_readsOrder_193 e193 (fun H locs Z hS => ?_)
                refine lv_iconst (v := 0) hx hb dX6_readsOrder_196 (by decide) ?_
                obtain ⟨rfl, rfl⟩ := wx_ret_ok h
                exact W.zret hx hb hr rfl (fun t ht hW => ⟨rfl, by rw [ht]; exact Z, hS.F ht⟩) hS.2.2 dX6_readsOrder_197
              · replace h := wx_iff c26_6 h
                by_cases c26_7 : (σ19.2.2.1 16 21) = 109
                · replace h := wx_ift c26_7 h
                  refine lv_tableIn (off := 86) (tgt := 112) hx hb dX6_readsOrder_26 (by rw [c26_7]; decide) (by rw [c26_7]; decide) (by rw [c26_7]; rfl) (by decide) ?_
                  refine lv_aload_n hx hb dX6_readsOrder_112 rfl (lv_at hl 0 rfl) ?_
                  obtain ⟨v113, σ113, hc113, h⟩ := wx_b_ok h
                  refine wx_call (va_runV (As := []) (rest := []) ⟨hx, hb, hml, hown, hts⟩ (c_X6_readsDigit l (D := D) (ad := ad) (rd := rd) (ca := ca) (A := A) (σ := σ19) hc113) (cwV 0 hts gX6_readsOrder_X6_readsDigit rfl rfl rfl (by decide +kernel) ⟨Nat.le_of_ble_eq_true rfl, Nat.le_of_ble_eq_true rfl⟩) (wx_preV hC Z hS hA rfl (rfl : vwCl[6]? = some (RX6, TX6, 25))) rfl rfl hl.1 rfl (lv_room (Nat.le_of_ble_eq_true rfl)) dX6_readsOrder_113 ⟨Nat.zero_le _, Nat.zero_le _⟩) hS (fun H locs Z hS => ?_)
                  obtain ⟨hz, h⟩ := wx_z_ok h
                  obtain ⟨rfl, rfl⟩ := wx_ret_ok h
                  exact W.zret hx hb hr (wx_nb hz) (fun t ht hW => ⟨rfl, by rw [ht]; exact Z, hS.F ht⟩) hS.2.2 dX6_readsOrder_116
                · replace h := wx_iff c26_7 h
                  by_cases c26_8 : (σ19.2.2.1 16 21) = 110
                  · replace h := wx_ift c26_8 h
                    refine lv_tableIn (off := 160) (tgt := 186) hx hb dX6_readsOrder_26 (by rw [c26_8]; decide) (by rw [c26_8]; decide) (by rw [c26_8]; rfl) (by decide) ?_
                    refine lv_aload_n hx hb dX6_readsOrder_186 rfl (lv_at hl 0 rfl) ?_
                    refine lv_dup hx hb dX6_readsOrder_187 rfl ?_
                    refine wx_get (own := RX6) hx hb hts i_X6_readsOrder_6 hown hC.1 Z (o := 16) (ci := 6) rfl (rfl : vwCl[6]? = some (RX6, TX6, 25)) 20 (by decide) (hts _ k_X6_readsOrder_w0) (fun _ h9 => h9) (f := 1) rfl rfl dX6_readsOrder_188 ?_
                    refine lv_iconst (v := 1) hx hb dX6_readsOrder_191 (by decide) ?_
                    refine lv_isub hx hb dX6_readsOrder_192 ?_
                    obtain ⟨σ193, e193, h⟩ := wx_l_ok h
                    refine wx_put (own := RX6) hx hb hts i_X6_readsOrder_6 tyX6 tyX6_ok nmX6 hown hC.1 Z hS (o := 16) (ci := 6) rfl (rfl : vwCl[6]? = some (RX6, TX6, 25)) 20 (by decide) (hts _ k_X6_readsOrder_w0) (fun _ h9 => h9) rfl (by decide +kernel) rfl dX6_readsOrder_193 e193 (fun H locs Z hS => ?_)
                    refine lv_iconst (v := 0) hx hb dX6_readsOrder_196 (by decide) ?_
                    obtain ⟨rfl, rfl⟩ := wx_ret_ok h
                    exact W.zret hx hb hr rfl (fun t ht hW => ⟨rfl, by rw [ht]; exact Z, hS.F ht⟩) hS.2.2 dX6_readsOrder_197
                  · replace h := wx_iff c26_8 h
                    by_cases c26_9 : (σ19.2.2.1 16 21) = 111
                    · replace h := wx_ift c26_9 h
                      refine lv_tableIn (off := 160) (tgt := 186) hx hb dX6_readsOrder_26 (by rw [c26_9]; decide) (by rw [c26_9]; decide) (by rw [c26_9]; rfl) (by decide) ?_
                      refine lv_aload_n hx hb dX6_readsOrder_186 rfl (lv_at hl 0 rfl) ?_
                      refine lv_dup hx hb dX6_readsOrder_187 rfl ?_
                      refine wx_get (own := RX6) hx hb hts i_X6_readsOrder_6 hown hC.1 Z (o := 16) (ci := 6) rfl (rfl : vwCl[6]? = some (RX6, TX6, 25)) 20 (by decide) (hts _ k_X6_readsOrder_w0) (fun _ h9 => h9) (f := 1) rfl rfl dX6_readsOrder_188 ?_
                      refine lv_iconst (v := 1) hx hb dX6_readsOrder_191 (by decide) ?_
                      refine lv_isub hx hb dX6_readsOrder_192 ?_
                      obtain ⟨σ193, e193, h⟩ := wx_l_ok h
                      refine wx_put (own := RX6) hx hb hts i_X6_readsOrder_6 tyX6 tyX6_ok nmX6 hown hC.1 Z hS (o := 16) (ci := 6) rfl (rfl : vwCl[6]? = some (RX6, TX6, 25)) 20 (by decide) (hts _ k_X6_readsOrder_w0) (fun _ h9 => h9) rfl (by decide +kernel) rfl dX6_readsOrder_193 e193 (fun H locs Z hS => ?_)
                      refine lv_iconst (v := 0) hx hb dX6_readsOrder_196 (by decide) ?_
                      obtain ⟨rfl, rfl⟩ := wx_ret_ok h
                      exact W.zret hx hb hr rfl (fun t ht hW => ⟨rfl, by rw [ht]; exact Z, hS.F ht⟩) hS.2.2 dX6_readsOrder_197
                    · replace h := wx_iff c26_9 h
                      by_cases c26_10 : (σ19.2.2.1 16 21) = 112
                      · replace h := wx_ift c26_10 h
                        refine lv_tableIn (off := 155) (tgt := 181) hx hb dX6_readsOrder_26 (by rw [c26_10]; decide) (by rw [c26_10]; decide) (by rw [c26_10]; rfl) (by decide) ?_
                        refine lv_aload_n hx hb dX6_readsOrder_181 rfl (lv_at hl 0 rfl) ?_
                        obtain ⟨v182, σ182, hc182, h⟩ := wx_b_ok h
                        refine wx_call (va_runV (As := []) (rest := []) ⟨hx, hb, hml, hown, hts⟩ (c_X6_readsPlace l (D := D) (ad := ad) (rd := rd) (ca := ca) (A := A) (σ := σ19) hc182) (cwV 0 hts gX6_readsOrder_X6_readsPlace rfl rfl rfl (by decide +kernel) ⟨Nat.le_of_ble_eq_true rfl, Nat.le_of_ble_eq_true rfl⟩) (wx_preV hC Z hS hA rfl (rfl : vwCl[6]? = some (RX6, TX6, 25))) rfl rfl hl.1 rfl (lv_room (Nat.le_of_ble_eq_true rfl)) dX6_readsOrder_182 ⟨Nat.zero_le _, Nat.zero_le _⟩) hS (fun H locs Z hS => ?_)
                        obtain ⟨hz, h⟩ := wx_z_ok h
                        obtain ⟨rfl, rfl⟩ := wx_ret_ok h
                        exact W.zret hx hb hr (wx_nb hz) (fun t ht hW => ⟨rfl, by rw [ht]; exact Z, hS.F ht⟩) hS.2.2 dX6_readsOrder_185
                      · replace h := wx_iff c26_10 h
                        by_cases c26_11 : (σ19.2.2.1 16 21) = 113
                        · replace h := wx_ift c26_11 h
                          refine lv_tableIn (off := 160) (tgt := 186) hx hb dX6_readsOrder_26 (by rw [c26_11]; decide) (by rw [c26_11]; decide) (by rw [c26_11]; rfl) (by decide) ?_
                          refine lv_aload_n hx hb dX6_readsOrder_186 rfl (lv_at hl 0 rfl) ?_
                          refine lv_dup hx hb dX6_readsOrder_187 rfl ?_
                          refine wx_get (own := RX6) hx hb hts i_X6_readsOrder_6 hown hC.1 Z (o := 16) (ci := 6) rfl (rfl : vwCl[6]? = some (RX6, TX6, 25)) 20 (by decide) (hts _ k_X6_readsOrder_w0) (fun _ h9 => h9) (f := 1) rfl rfl dX6_readsOrder_188 ?_
                          refine lv_iconst (v := 1) hx hb dX6_readsOrder_191 (by decide) ?_
                          refine lv_isub hx hb dX6_readsOrder_192 ?_
                          obtain ⟨σ193, e193, h⟩ := wx_l_ok h
                          refine wx_put (own := RX6) hx hb hts i_X6_readsOrder_6 tyX6 tyX6_ok nmX6 hown hC.1 Z hS (o := 16) (ci := 6) rfl (rfl : vwCl[6]? = some (RX6, TX6, 25)) 20 (by decide) (hts _ k_X6_readsOrder_w0) (fun _ h9 => h9) rfl (by decide +kernel) rfl dX6_readsOrder_193 e193 (fun H locs Z hS => ?_)
                          refine lv_iconst (v := 0) hx hb dX6_readsOrder_196 (by decide) ?_
                          obtain ⟨rfl, rfl⟩ := wx_ret_ok h
                          exact W.zret hx hb hr rfl (fun t ht hW => ⟨rfl, by rw [ht]; exact Z, hS.F ht⟩) hS.2.2 dX6_readsOrder_197
                        · replace h := wx_iff c26_11 h
                          by_cases c26_12 : (σ19.2.2.1 16 21) = 114
                          · replace h := wx_ift c26_12 h
                            refine lv_tableIn (off := 160) (tgt := 186) hx hb dX6_readsOrder_26 (by rw [c26_12]; decide) (by rw [c26_12]; decide) (by rw [c26_12]; rfl) (by decide) ?_
                            refine lv_aload_n hx hb dX6_readsOrder_186 rfl (lv_at hl 0 rfl) ?_
                            refine lv_dup hx hb dX6_readsOrder_187 rfl ?_
                            refine wx_get (own := RX6) hx hb hts i_X6_readsOrder_6 hown hC.1 Z (o := 16) (ci := 6) rfl (rfl : vwCl[6]? = some (RX6, TX6, 25)) 20 (by decide) (hts _ k_X6_readsOrder_w0) (fun _ h9 => h9) (f := 1) rfl rfl dX6_readsOrder_188 ?_
                            refine lv_iconst (v := 1) hx hb dX6_readsOrder_191 (by decide) ?_
                            refine lv_isub hx hb dX6_readsOrder_192 ?_
                            obtain ⟨σ193, e193, h⟩ := wx_l_ok h
                            refine wx_put (own := RX6) hx hb hts i_X6_readsOrder_6 tyX6 tyX6_ok nmX6 hown hC.1 Z hS (o := 16) (ci := 6) rfl (rfl : vwCl[6]? = some (RX6, TX6, 25)) 20 (by decide) (hts _ k_X6_readsOrder_w0) (fun _ h9 => h9) rfl (by decide +kernel) rfl dX6_readsOrder_193 e193 (fun H locs Z hS => ?_)
                            refine lv_iconst (v := 0) hx hb dX6_readsOrder_196 (by decide) ?_
                            obtain ⟨rfl, rfl⟩ := wx_ret_ok h
                            exact W.zret hx hb hr rfl (fun t ht hW => ⟨rfl, by rw [ht]; exact Z, hS.F ht⟩) hS.2.2 dX6_readsOrder_197
                          · replace h := wx_iff c26_12 h
                            by_cases c26_13 : (σ19.2.2.1 16 21) = 115
                            · replace h := wx_ift c26_13 h
                              refine lv_tableIn (off := 121) (tgt := 147) hx hb dX6_readsOrder_26 (by rw [c26_13]; decide) (by rw [c26_13]; decide) (by rw [c26_13]; rfl) (by decide) ?_
                              refine lv_aload_n hx hb dX6_readsOrder_147 rfl (lv_at hl 0 rfl) ?_
                              obtain ⟨v148, σ148, hc148, h⟩ := wx_b_ok h
                              refine wx_call (va_runV (As := []) (rest := []) ⟨hx, hb, hml, hown, hts⟩ (c_X6_readsPlace l (D := D) (ad := ad) (rd := rd) (ca := ca) (A := A) (σ := σ19) hc148) (cwV 0 hts gX6_readsOrder_X6_readsPlace rfl rfl rfl (by decide +kernel) ⟨Nat.le_of_ble_eq_true rfl, Nat.le_of_ble_eq_true rfl⟩) (wx_preV hC Z hS hA rfl (rfl : vwCl[6]? = some (RX6, TX6, 25))) rfl rfl hl.1 rfl (lv_room (Nat.le_of_ble_eq_true rfl)) dX6_readsOrder_148 ⟨Nat.zero_le _, Nat.zero_le _⟩) hS (fun H locs Z hS => ?_)
                              refine lv_if_eq (tgt := 174) hx hb dX6_readsOrder_151 (by decide) (fun c151 => ?_) (fun c151 => ?_)
                              · replace h := wx_ift c151 h
                                exact b_X6_readsOrder_174 B h Z hS (lv_sub hl [0] rfl)
                              · replace h := wx_iff c151 h
                                refine lv_aload_n hx hb dX6_readsOrder_154 rfl (lv_at hl 0 rfl) ?_
                                refine lv_bipush (v := 61) hx hb dX6_readsOrder_155 (by decide) ?_
                                obtain ⟨v157, σ157, hc157, h⟩ := wx_b_ok h
                                refine wx_call (va_runV (As := [.int 61]) (rest := []) ⟨hx, hb, hml, hown, hts⟩ (c_X6_isNext l (D := D) (ad := ad) (rd := rd) (ca := ca) (A := A) (σ := σ148) hc157) (cwV 1 hts gX6_readsOrder_X6_isNext rfl rfl rfl (by decide +kernel) ⟨Nat.le_of_ble_eq_true rfl, Nat.le_of_ble_eq_true rfl⟩) (wx_preV hC Z hS hA rfl (rfl : vwCl[6]? = some (RX6, TX6, 25))) rfl rfl hl.1 rfl (lv_room (Nat.le_of_ble_eq_true rfl)) dX6_readsOrder_157 ⟨Nat.zero_le _, Nat.zero_le _⟩) hS (fun H locs Z hS => ?_)
                                refine lv_if_eq (tgt := 174) hx hb dX6_readsOrder_160 (by decide) (fun c160 => ?_) (fun c160 => ?_)
                                · replace h := wx_ift c160 h
                                  exact b_X6_readsOrder_174 B h Z hS (lv_sub hl [0] rfl)
                                · replace h := wx_iff c160 h
                                  refine lv_aload_n hx hb dX6_readsOrder_163 rfl (lv_at hl 0 rfl) ?_
                                  obtain ⟨v164, σ164, hc164, h⟩ := wx_b_ok h
                                  refine wx_call (va_runV (As := []) (rest := []) ⟨hx, hb, hml, hown, hts⟩ (c_X6_readsDigit l (D := D) (ad := ad) (rd := rd) (ca := ca) (A := A) (σ := σ157) hc164) (cwV 0 hts gX6_readsOrder_X6_readsDigit rfl rfl rfl (by decide +kernel) ⟨Nat.le_of_ble_eq_true rfl, Nat.le_of_ble_eq_true rfl⟩) (wx_preV hC Z hS hA rfl (rfl : vwCl[6]? = some (RX6, TX6, 25))) rfl rfl hl.1 rfl (lv_room (Nat.le_of_ble_eq_true rfl)) dX6_readsOrder_164 ⟨Nat.zero_le _, Nat.zero_le _⟩) hS (fun H locs Z hS => ?_)
                                  refine lv_if_eq (tgt := 174) hx hb dX6_readsOrder_167 (by decide) (fun c167 => ?_) (fun c167 => ?_)
                                  · replace h := wx_ift c167 h
                                    exact b_X6_readsOrder_174 B h Z hS (lv_sub hl [0] rfl)
                                  · replace h := wx_iff c167 h
                                    refine lv_iconst (v := 1) hx hb dX6_readsOrder_170 (by decide) ?_
                                    refine lv_goto (tgt := 175) hx hb dX6_readsOrder_171 (by decide) ?_
                                    exact b_X6_readsOrder_175 B h Z hS (lv_sub hl [0] rfl)
                            · replace h := wx_iff c26_13 h
                              by_cases c26_14 : (σ19.2.2.1 16 21) = 116
                              · replace h := wx_ift c26_14 h
                                refine lv_tableIn (off := 86) (tgt := 112) hx hb dX6_readsOrder_26 (by rw [c26_14]; decide) (by rw [c26_14]; decide) (by rw [c26_14]; rfl) (by decide) ?_
                                refine lv_aload_n hx hb dX6_readsOrder_112 rfl (lv_at hl 0 rfl) ?_
                                obtain ⟨v113, σ113, hc113, h⟩ := wx_b_ok h
                                refine wx_call (va_runV (As := []) (rest := []) ⟨hx, hb, hml, hown, hts⟩ (c_X6_readsDigit l (D := D) (ad := ad) (rd := rd) (ca := ca) (A := A) (σ := σ19) hc113) (cwV 0 hts gX6_readsOrder_X6_readsDigit rfl rfl rfl (by decide +kernel) ⟨Nat.le_of_ble_eq_true rfl, Nat.le_of_ble_eq_true rfl⟩) (wx_preV hC Z hS hA rfl (rfl : vwCl[6]? = some (RX6, TX6, 25))) rfl rfl hl.1 rfl (lv_room (Nat.le_of_ble_eq_true rfl)) dX6_readsOrder_113 ⟨Nat.zero_le _, Nat.zero_le _⟩) hS (fun H locs Z hS => ?_)
                                obtain ⟨hz, h⟩ := wx_z_ok h
                                obtain ⟨rfl, rfl⟩ := wx_ret_ok h
                                exact W.zret hx hb hr (wx_nb hz) (fun t ht hW => ⟨rfl, by rw [ht]; exact Z, hS.F ht⟩) hS.2.2 dX6_readsOrder_116
                              · replace h := wx_iff c26_14 h
                                by_cases c26_15 : (σ19.2.2.1 16 21) = 117
                                · replace h := wx_ift c26_15 h
                                  refine lv_tableIn (off := 160) (tgt := 186) hx hb dX6_readsOrder_26 (by rw [c26_15]; decide) (by rw [c26_15]; decide) (by rw [c26_15]; rfl) (by decide) ?_
                                  refine lv_aload_n hx hb dX6_readsOrder_186 rfl (lv_at hl 0 rfl) ?_
                                  refine lv_dup hx hb dX6_readsOrder_187 rfl ?_
                                  refine wx_get (own := RX6) hx hb hts i_X6_readsOrder_6 hown hC.1 Z (o := 16) (ci := 6) rfl (rfl : vwCl[6]? = some (RX6, TX6, 25)) 20 (by decide) (hts _ k_X6_readsOrder_w0) (fun _ h9 => h9) (f := 1) rfl rfl dX6_readsOrder_188 ?_
                                  refine lv_iconst (v := 1) hx hb dX6_readsOrder_191 (by decide) ?_
                                  refine lv_isub hx hb dX6_readsOrder_192 ?_
                                  obtain ⟨σ193, e193, h⟩ := wx_l_ok h
                                  refine wx_put (own := RX6) hx hb hts i_X6_readsOrder_6 tyX6 tyX6_ok nmX6 hown hC.1 Z hS (o := 16) (ci := 6) rfl (rfl : vwCl[6]? = some (RX6, TX6, 25)) 20 (by decide) (hts _ k_X6_readsOrder_w0) (fun _ h9 => h9) rfl (by decide +kernel) rfl dX6_readsOrder_193 e193 (fun H locs Z hS => ?_)
                                  refine lv_iconst (v := 0) hx hb dX6_readsOrder_196 (by decide) ?_
                                  obtain ⟨rfl, rfl⟩ := wx_ret_ok h
                                  exact W.zret hx hb hr rfl (fun t ht hW => ⟨rfl, by rw [ht]; exact Z, hS.F ht⟩) hS.2.2 dX6_readsOrder_197
                                · replace h := wx_iff c26_15 h
                                  by_cases c26_16 : (σ19.2.2.1 16 21) = 118
                                  · replace h := wx_ift c26_16 h
                                    refine lv_tableIn (off := 160) (tgt := 186) hx hb dX6_readsOrder_26 (by rw [c26_16]; decide) (by rw [c26_16]; decide) (by rw [c26_16]; rfl) (by decide) ?_
                                    refine lv_aload_n hx hb dX6_readsOrder_186 rfl (lv_at hl 0 rfl) ?_
                                    refine lv_dup hx hb dX6_readsOrder_187 rfl ?_
                                    refine wx_get (own := RX6) hx hb hts i_X6_readsOrder_6 hown hC.1 Z (o := 16) (ci := 6) rfl (rfl : vwCl[6]? = some (RX6, TX6, 25)) 20 (by decide) (hts _ k_X6_readsOrder_w0) (fun _ h9 => h9) (f := 1) rfl rfl dX6_readsOrder_188 ?_
                                    refine lv_iconst (v := 1) hx hb dX6_readsOrder_191 (by decide) ?_
                                    refine lv_isub hx hb dX6_readsOrder_192 ?_
                                    obtain ⟨σ193, e193, h⟩ := wx_l_ok h
                                    refine wx_put (own := RX6) hx hb hts i_X6_readsOrder_6 tyX6 tyX6_ok nmX6 hown hC.1 Z hS (o := 16) (ci := 6) rfl (rfl : vwCl[6]? = some (RX6, TX6, 25)) 20 (by decide) (hts _ k_X6_readsOrder_w0) (fun _ h9 => h9) rfl (by decide +kernel) rfl dX6_readsOrder_193 e193 (fun H locs Z hS => ?_)
                                    refine lv_iconst (v := 0) hx hb dX6_readsOrder_196 (by decide) ?_
                                    obtain ⟨rfl, rfl⟩ := wx_ret_ok h
                                    exact W.zret hx hb hr rfl (fun t ht hW => ⟨rfl, by rw [ht]; exact Z, hS.F ht⟩) hS.2.2 dX6_readsOrder_197
                                  · replace h := wx_iff c26_16 h
                                    by_cases c26_17 : (σ19.2.2.1 16 21) = 119
                                    · replace h := wx_ift c26_17 h
                                      refine lv_tableIn (off := 150) (tgt := 176) hx hb dX6_readsOrder_26 (by rw [c26_17]; decide) (by rw [c26_17]; decide) (by rw [c26_17]; rfl) (by decide) ?_
                                      refine lv_aload_n hx hb dX6_readsOrder_176 rfl (lv_at hl 0 rfl) ?_
                                      obtain ⟨v177, σ177, hc177, h⟩ := wx_b_ok h
                                      refine wx_call (va_runV (As := []) (rest := []) ⟨hx, hb, hml, hown, hts⟩ (c_X6_readsNumber l (D := D) (ad := ad) (rd := rd) (ca := ca) (A := A) (σ := σ19) hc177) (cwV 0 hts gX6_readsOrder_X6_readsNumber rfl rfl rfl (by decide +kernel) ⟨Nat.le_of_ble_eq_true rfl, Nat.le_of_ble_eq_true rfl⟩) (wx_preV hC Z hS hA rfl (rfl : vwCl[6]? = some (RX6, TX6, 25))) rfl rfl hl.1 rfl (lv_room (Nat.le_of_ble_eq_true rfl)) dX6_readsOrder_177 ⟨Nat.zero_le _, Nat.zero_le _⟩) hS (fun H locs Z hS => ?_)
                                      obtain ⟨hz, h⟩ := wx_z_ok h
                                      obtain ⟨rfl, rfl⟩ := wx_ret_ok h
                                      exact W.zret hx hb hr (wx_nb hz) (fun t ht hW => ⟨rfl, by rw [ht]; exact Z, hS.F ht⟩) hS.2.2 dX6_readsOrder_180
                                    · replace h := wx_iff c26_17 h
                                      have n26_0 := wx_ni c26_0
                                      have n26_1 := wx_ni c26_1
                                      have n26_2 := wx_ni c26_2
                                      have n26_3 := wx_ni c26_3
                                      have n26_4 := wx_ni c26_4
                                      have n26_5 := wx_ni c26_5
                                      have n26_6 := wx_ni c26_6
                                      have n26_7 := wx_ni c26_7
                                      have n26_8 := wx_ni c26_8
                                      have n26_9 := wx_ni c26_9
                                      have n26_10 := wx_ni c26_10
                                      have n26_11 := wx_ni c26_11
                                      have n26_12 := wx_ni c26_12
                                      have n26_13 := wx_ni c26_13
                                      have n26_14 := wx_ni c26_14
                                      have n26_15 := wx_ni c26_15
                                      have n26_16 := wx_ni c26_16
                                      have n26_17 := wx_ni c26_17
                                      rw [show (102 : Int32).toInt = 102 from by decide] at n26_0
                                      rw [show (103 : Int32).toInt = 103 from by decide] at n26_1
                                      rw [show (104 : Int32).toInt = 104 from by decide] at n26_2
                                      rw [show (105 : Int32).toInt = 105 from by decide] at n26_3
                                      rw [show (106 : Int32).toInt = 106 from by decide] at n26_4
                                      rw [show (107 : Int32).toInt = 107 from by decide] at n26_5
                                      rw [show (108 : Int32).toInt = 108 from by decide] at n26_6
                                      rw [show (109 : Int32).toInt = 109 from by decide] at n26_7
                                      rw [show (110 : Int32).toInt = 110 from by decide] at n26_8
                                      rw [show (111 : Int32).toInt = 111 from by decide] at n26_9
                                      rw [show (112 : Int32).toInt = 112 from by decide] at n26_10
                                      rw [show (113 : Int32).toInt = 113 from by decide] at n26_11
                                      rw [show (114 : Int32).toInt = 114 from by decide] at n26_12
                                      rw [show (115 : Int32).toInt = 115 from by decide] at n26_13
                                      rw [show (116 : Int32).toInt = 116 from by decide] at n26_14
                                      rw [show (117 : Int32).toInt = 117 from by decide] at n26_15
                                      rw [show (118 : Int32).toInt = 118 from by decide] at n26_16
                                      rw [show (119 : Int32).toInt = 119 from by decide] at n26_17
                                      refine lv_tableOut (tgt := 186) hx hb dX6_readsOrder_26 (by omega) (by decide) ?_
                                      refine lv_aload_n hx hb dX6_readsOrder_186 rfl (lv_at hl 0 rfl) ?_
                                      refine lv_dup hx hb dX6_readsOrder_187 rfl ?_
                                      refine wx_get (own := RX6) hx hb hts i_X6_readsOrder_6 hown hC.1 Z (o := 16) (ci := 6) rfl (rfl : vwCl[6]? = some (RX6, TX6, 25)) 20 (by decide) (hts _ k_X6_readsOrder_w0) (fun _ h9 => h9) (f := 1) rfl rfl dX6_readsOrder_188 ?_
                                      refine lv_iconst (v := 1) hx hb dX6_readsOrder_191 (by decide) ?_
                                      refine lv_isub hx hb dX6_readsOrder_192 ?_
                                      obtain ⟨σ193, e193, h⟩ := wx_l_ok h
                                      refine wx_put (own := RX6) hx hb hts i_X6_readsOrder_6 tyX6 tyX6_ok nmX6 hown hC.1 Z hS (o := 16) (ci := 6) rfl (rfl : vwCl[6]? = some (RX6, TX6, 25)) 20 (by decide) (hts _ k_X6_readsOrder_w0) (fun _ h9 => h9) rfl (by decide +kernel) rfl dX6_readsOrder_193 e193 (fun H locs Z hS => ?_)
                                      refine lv_iconst (v := 0) hx hb dX6_readsOrder_196 (by decide) ?_
                                      obtain ⟨rfl, rfl⟩ := wx_ret_ok h
                                      exact W.zret hx hb hr rfl (fun t ht hW => ⟨rfl, by rw [ht]; exact Z, hS.F ht⟩) hS.2.2 dX6_readsOrder_197
set_option maxRecDepth 20000 in
theorem c_X6_readsOrder (l : Launch) {D : va_G} {ad : Nat → Nat → Nat} {rd : Nat → Nat} {ca : Nat → ClassId} {A : Nat → Prop} {σ : wx_St}     {r : Int32} {σ' : wx_St} (h : f_X6_readsOrder σ = some (r, σ')) : wx_M l yX6_readsOrder wsX6_readsOrder 4 83 D ad rd ca A [.ref (ad 16 99)] σ (some (.int r)) σ' := by
  refine Met.ofW (cc := cX6_readsOrder) (maxL := 2) (ret := (some .boolean)) (by decide +kernel) rfl ?_
  intro p e s m args below meth c s₁ B0 hml hv
  obtain ⟨rfl, hC, Z, hA⟩ := hv
  have hl := lv_entry ([.ref (ad 16 99)]) (n := 2) (Nat.le_of_ble_eq_true rfl)
  rw [lg_entry_eq]
  generalize (lg_sl ([.ref (ad 16 99)]) ++ List.replicate (2 - (lg_sl ([.ref (ad 16 99)])).length) Slot.unset).toArray = ls at hl ⊢
  exact b_X6_readsOrder_0 ⟨B0.exec, B0.bytes, hml, B0.returns, atoms_spec (ws := wsX6_readsOrder) B0.pre, findClass_of_methodNamed B0.named, B0.notSynchronized, hC, hA⟩   h Z va_S.rf hl
set_option maxRecDepth 20000 in
set_option maxHeartbeats 4000000 in
theorem b_X6_readsPlaces_24 (B : wx_B p s m args meth c cX6_readsPlaces 2 (some .boolean) wsX6_readsPlaces RX6 D ad ca A)    {r : Int32} {σ' : wx_St}  {x1 : Int32} {σ : wx_St}  (h : f_X6_readsPlaces_24 x1 σ = some (r, σ')) {H : Heap} {locs : List Loc} (Z : wx_Z D ad rd ca A σ H) (hS : va_S A s.heap H locs) {ls : Array Slot} (hl : lv_has ls 2 [(0, .ref (ad 16 99)), (1, .int x1)]) : W p l e ({ frames := 4, cells := 0, slots := 0, locals := 83 } : Room) s m args below meth c H locs 0 0 (MQ below (wx_Q D ad rd ca A (some (.int r)) σ') args s 0 0 A) (F0 m 24 ls []) := by
  obtain ⟨hx, hb, hml, hr, hts, hown, hlk, hC, hA⟩ := id B
  unfold f_X6_readsPlaces_24 at h
  refine lv_iload_n hx hb dX6_readsPlaces_24 rfl (lv_at hl 1 rfl) ?_
  obtain ⟨hz, h⟩ := wx_z_ok h
  obtain ⟨rfl, rfl⟩ := wx_ret_ok h
  exact W.zret hx hb hr (wx_nb hz) (fun t ht hW => ⟨rfl, by rw [ht]; exact Z, hS.F ht⟩) hS.2.2 dX6_readsPlaces_25
set_option maxRecDepth 20000 in
set_option maxHeartbeats 4000000 in
theorem b_X6_readsPlaces_5 (B : wx_B p s m args meth c cX6_readsPlaces 2 (some .boolean) wsX6_readsPlaces RX6 D ad ca A)    {r : Int32} {σ' : wx_St}   :
    ∀ {n : Nat} {x1 : Int32} {σ : wx_St}  (h : f_X6_readsPlaces_5 n x1 σ = some (r, σ')) {H : Heap} {locs : List Loc} (Z : wx_Z D ad rd ca A σ H) (hS : va_S A s.heap H locs) {ls : Array Slot} (hl : lv_has ls 2 [(0, .ref (ad 16 99)), (1, .int x1)]), W p l e ({ frames := 4, cells := 0, slots := 0, locals := 83 } : Room) s m args below meth c H locs 0 0 (MQ below (wx_Q D ad rd ca A (some (.int r)) σ') args s 0 0 A) (F0 m 5 ls []) := by
  obtain ⟨hx, hb, hml, hr, hts, hown, hlk, hC, hA⟩ := id B
  intro n
  induction n with
  | zero => intro x1 σ  h H locs Z hS ls hl; exact wx_no h
  | succ n ih =>
    intro x1 σ  h H locs Z hS ls hl
    rw [f_X6_readsPlaces_5] at h
    refine lv_iload_n hx hb dX6_readsPlaces_5 rfl (lv_at hl 1 rfl) ?_
    refine lv_if_eq (tgt := 24) hx hb dX6_readsPlaces_6 (by decide) (fun c6 => ?_) (fun c6 => ?_)
    · replace h := wx_ift c6 h
      exact b_X6_readsPlaces_24 B h Z hS (lv_sub hl [0, 1] rfl)
    · replace h := wx_iff c6 h
      refine lv_aload_n hx hb dX6_readsPlaces_9 rfl (lv_at hl 0 rfl) ?_
      obtain ⟨v10, hc10, h⟩ := wx_o_ok h
      refine wx_call (va_runV (As := []) (rest := []) ⟨hx, hb, hml, hown, hts⟩ (c_X6_isColumn l (D := D) (ad := ad) (rd := rd) (ca := ca) (A := A) (σ := σ) hc10) (cwV 0 hts gX6_readsPlaces_X6_isColumn rfl rfl rfl (by decide +kernel) ⟨Nat.le_of_ble_eq_true rfl, Nat.le_of_ble_eq_true rfl⟩) (wx_preV hC Z hS hA rfl (rfl : vwCl[6]? = some (RX6, TX6, 25))) rfl rfl hl.1 rfl (lv_room (Nat.le_of_ble_eq_true rfl)) dX6_readsPlaces_10 ⟨Nat.zero_le _, Nat.zero_le _⟩) hS (fun H locs Z hS => ?_)
      refine lv_if_eq (tgt := 24) hx hb dX6_readsPlaces_13 (by decide) (fun c13 => ?_) (fun c13 => ?_)
      · replace h := wx_ift c13 h
        exact b_X6_readsPlaces_24 B h Z hS (lv_sub hl [0, 1] rfl)
      · replace h := wx_iff c13 h
        refine lv_aload_n hx hb dX6_readsPlaces_16 rfl (lv_at hl 0 rfl) ?_
        obtain ⟨v17, σ17, hc17, h⟩ := wx_b_ok h
        refine wx_call (va_runV (As := []) (rest := []) ⟨hx, hb, hml, hown, hts⟩ (c_X6_readsPlace l (D := D) (ad := ad) (rd := rd) (ca := ca) (A := A) (σ := σ) hc17) (cwV 0 hts gX6_readsPlaces_X6_readsPlace rfl rfl rfl (by decide +kernel) ⟨Nat.le_of_ble_eq_true rfl, Nat.le_of_ble_eq_true rfl⟩) (wx_preV hC Z hS hA rfl (rfl : vwCl[6]? = some (RX6, TX6, 25))) rfl rfl hl.1 rfl (lv_room (Nat.le_of_ble_eq_true rfl)) dX6_readsPlaces_17 ⟨Nat.zero_le _, Nat.zero_le _⟩) hS (fun H locs Z hS => ?_)
        refine lv_istore_n (lv' := [(1, .int v17), (0, .ref (ad 16 99))]) hx hb dX6_readsPlaces_20 rfl hl (by decide) rfl (fun ls hl => ?_)
        refine lv_goto (tgt := 5) hx hb dX6_readsPlaces_21 (by decide) ?_
        exact ih h Z hS (lv_sub hl [1, 0] rfl)
set_option maxRecDepth 20000 in
set_option maxHeartbeats 4000000 in
theorem b_X6_readsPlaces_0 (B : wx_B p s m args meth c cX6_readsPlaces 2 (some .boolean) wsX6_readsPlaces RX6 D ad ca A)    {r : Int32} {σ' : wx_St}   {σ : wx_St}  (h : f_X6_readsPlaces σ = some (r, σ')) {H : Heap} {locs : List Loc} (Z : wx_Z D ad rd ca A σ H) (hS : va_S A s.heap H locs) {ls : Array Slot} (hl : lv_has ls 2 [(0, .ref (ad 16 99))]) : W p l e ({ frames := 4, cells := 0, slots := 0, locals := 83 } : Room) s m args below meth c H locs 0 0 (MQ below (wx_Q D ad rd ca A (some (.int r)) σ') args s 0 0 A) (F0 m 0 ls []) := by
  obtain ⟨hx, hb, hml, hr, hts, hown, hlk, hC, hA⟩ := id B
  unfold f_X6_readsPlaces at h
  refine lv_aload_n hx hb dX6_readsPlaces_0 rfl (lv_at hl 0 rfl) ?_
  obtain ⟨v1, σ1, hc1, h⟩ := wx_b_ok h
  refine wx_call (va_runV (As := []) (rest := []) ⟨hx, hb, hml, hown, hts⟩ (c_X6_readsPlace l (D := D) (ad := ad) (rd := rd) (ca := ca) (A := A) (σ := σ) hc1) (cwV 0 hts gX6_readsPlaces_X6_readsPlace rfl rfl rfl (by decide +kernel) ⟨Nat.le_of_ble_eq_true rfl, Nat.le_of_ble_eq_true rfl⟩) (wx_preV hC Z hS hA rfl (rfl : vwCl[6]? = some (RX6, TX6, 25))) rfl rfl hl.1 rfl (lv_room (Nat.le_of_ble_eq_true rfl)) dX6_readsPlaces_1 ⟨Nat.zero_le _, Nat.zero_le _⟩) hS (fun H locs Z hS => ?_)
  refine lv_istore_n (lv' := [(1, .int v1), (0, .ref (ad 16 99))]) hx hb dX6_readsPlaces_4 rfl hl (by decide) rfl (fun ls hl => ?_)
  exact b_X6_readsPlaces_5 B h Z hS (lv_sub hl [1, 0] rfl)
set_option maxRecDepth 20000 in
theorem c_X6_readsPlaces (l : Launch) {D : va_G} {ad : Nat → Nat → Nat} {rd : Nat → Nat} {ca : Nat → ClassId} {A : Nat → Prop} {σ : wx_St}     {r : Int32} {σ' : wx_St} (h : f_X6_readsPlaces σ = some (r, σ')) : wx_M l yX6_readsPlaces wsX6_readsPlaces 4 83 D ad rd ca A [.ref (ad 16 99)] σ (some (.int r)) σ' := by
  refine Met.ofW (cc := cX6_readsPlaces) (maxL := 2) (ret := (some .boolean)) (by decide +kernel) rfl ?_
  intro p e s m args below meth c s₁ B0 hml hv
  obtain ⟨rfl, hC, Z, hA⟩ := hv
  have hl := lv_entry ([.ref (ad 16 99)]) (n := 2) (Nat.le_of_ble_eq_true rfl)
  rw [lg_entry_eq]
  generalize (lg_sl ([.ref (ad 16 99)]) ++ List.replicate (2 - (lg_sl ([.ref (ad 16 99)])).length) Slot.unset).toArray = ls at hl ⊢
  exact b_X6_readsPlaces_0 ⟨B0.exec, B0.bytes, hml, B0.returns, atoms_spec (ws := wsX6_readsPlaces) B0.pre, findClass_of_methodNamed B0.named, B0.notSynchronized, hC, hA⟩   h Z va_S.rf hl
theorem i_X6_findFault_6 : ∀ w ∈ wsX60, w ∈ wsX6_findFault := by decide +kernel
theorem k_X6_findFault_w0 : Cond.fieldLink RX6 249 "WarmProbesModel" "at" "I" ∈ wsX6_findFault := by decide +kernel
theorem k_X6_findFault_w1 : Cond.fieldLink RX6 274 "WarmProbesModel" "letter" "I" ∈ wsX6_findFault := by decide +kernel
theorem k_X6_findFault_w2 : Cond.fieldLink RX6 223 "WarmProbesModel" "padLength" "I" ∈ wsX6_findFault := by decide +kernel
set_option maxRecDepth 20000 in
set_option maxHeartbeats 4000000 in
theorem b_X6_findFault_28 (B : wx_B p s m args meth c cX6_findFault 1 (some .int) wsX6_findFault RX6 D ad ca A)    {r : Int32} {σ' : wx_St}   {σ : wx_St}  (h : f_X6_findFault_28 σ = some (r, σ')) {H : Heap} {locs : List Loc} (Z : wx_Z D ad rd ca A σ H) (hS : va_S A s.heap H locs) {ls : Array Slot} (hl : lv_has ls 1 [(0, .ref (ad 16 99))]) : W p l e ({ frames := 5, cells := 0, slots := 0, locals := 104 } : Room) s m args below meth c H locs 0 0 (MQ below (wx_Q D ad rd ca A (some (.int r)) σ') args s 0 0 A) (F0 m 28 ls []) := by
  obtain ⟨hx, hb, hml, hr, hts, hown, hlk, hC, hA⟩ := id B
  unfold f_X6_findFault_28 at h
  refine lv_aload_n hx hb dX6_findFault_28 rfl (lv_at hl 0 rfl) ?_
  refine wx_get (own := RX6) hx hb hts i_X6_findFault_6 hown hC.1 Z (o := 16) (ci := 6) rfl (rfl : vwCl[6]? = some (RX6, TX6, 25)) 20 (by decide) (hts _ k_X6_findFault_w0) (fun _ h9 => h9) (f := 1) rfl rfl dX6_findFault_29 ?_
  obtain ⟨rfl, rfl⟩ := wx_ret_ok h
  exact W.iret hx hb hr (fun t ht hW => ⟨rfl, by rw [ht]; exact Z, hS.F ht⟩) hS.2.2 dX6_findFault_32
set_option maxRecDepth 20000 in
set_option maxHeartbeats 4000000 in
theorem b_X6_findFault_33 (B : wx_B p s m args meth c cX6_findFault 1 (some .int) wsX6_findFault RX6 D ad ca A)    {r : Int32} {σ' : wx_St} {K5 : wx_St → Option (Int32 × wx_St)} (hK5 : ∀  {σ : wx_St}  (h : K5  σ = some (r, σ')) {H : Heap} {locs : List Loc} (Z : wx_Z D ad rd ca A σ H) (hS : va_S A s.heap H locs) {ls : Array Slot} (hl : lv_has ls 1 [(0, .ref (ad 16 99))]), W p l e ({ frames := 5, cells := 0, slots := 0, locals := 104 } : Room) s m args below meth c H locs 0 0 (MQ below (wx_Q D ad rd ca A (some (.int r)) σ') args s 0 0 A) (F0 m 5 ls []))  {σ : wx_St}  (h : f_X6_findFault_33 K5 σ = some (r, σ')) {H : Heap} {locs : List Loc} (Z : wx_Z D ad rd ca A σ H) (hS : va_S A s.heap H locs) {ls : Array Slot} (hl : lv_has ls 1 [(0, .ref (ad 16 99))]) : W p l e ({ frames := 5, cells := 0, slots := 0, locals := 104 } : Room) s m args below meth c H locs 0 0 (MQ below (wx_Q D ad rd ca A (some (.int r)) σ') args s 0 0 A) (F0 m 33 ls []) := by
  obtain ⟨hx, hb, hml, hr, hts, hown, hlk, hC, hA⟩ := id B
  unfold f_X6_findFault_33 at h
  refine lv_aload_n hx hb dX6_findFault_33 rfl (lv_at hl 0 rfl) ?_
  refine wx_get (own := RX6) hx hb hts i_X6_findFault_6 hown hC.1 Z (o := 16) (ci := 6) rfl (rfl : vwCl[6]? = some (RX6, TX6, 25)) 20 (by decide) (hts _ k_X6_findFault_w0) (fun _ h9 => h9) (f := 1) rfl rfl dX6_findFault_34 ?_
  refine lv_aload_n hx hb dX6_findFault_37 rfl (lv_at hl 0 rfl) ?_
  refine wx_get (own := RX6) hx hb hts i_X6_findFault_6 hown hC.1 Z (o := 16) (ci := 6) rfl (rfl : vwCl[6]? = some (RX6, TX6, 25)) 9 (by decide) (hts _ k_X6_findFault_w2) (fun _ h9 => h9) (f := 1) rfl rfl dX6_findFault_38 ?_
  refine lv_icmp_ne (tgt := 47) hx hb dX6_findFault_41 (by decide) (fun c41 => ?_) (fun c41 => ?_)
  · replace h := wx_iff c41 h
    refine lv_aload_n hx hb dX6_findFault_47 rfl (lv_at hl 0 rfl) ?_
    refine lv_bipush (v := 59) hx hb dX6_findFault_48 (by decide) ?_
    obtain ⟨v50, σ50, hc50, h⟩ := wx_b_ok h
    refine wx_call (va_runV (As := [.int 59]) (rest := []) ⟨hx, hb, hml, hown, hts⟩ (c_X6_isNext l (D := D) (ad := ad) (rd := rd) (ca := ca) (A := A) (σ := σ) hc50) (cwV 1 hts gX6_findFault_X6_isNext rfl rfl rfl (by decide +kernel) ⟨Nat.le_of_ble_eq_true rfl, Nat.le_of_ble_eq_true rfl⟩) (wx_preV hC Z hS hA rfl (rfl : vwCl[6]? = some (RX6, TX6, 25))) rfl rfl hl.1 rfl (lv_room (Nat.le_of_ble_eq_true rfl)) dX6_findFault_50 ⟨Nat.zero_le _, Nat.zero_le _⟩) hS (fun H locs Z hS => ?_)
    refine lv_if_ne (tgt := 5) hx hb dX6_findFault_53 (by decide) (fun c53 => ?_) (fun c53 => ?_)
    · replace h := wx_iff c53 h
      exact hK5 h Z hS (lv_sub hl [0] rfl)
    · replace h := wx_ift c53 h
      refine lv_aload_n hx hb dX6_findFault_56 rfl (lv_at hl 0 rfl) ?_
      refine wx_get (own := RX6) hx hb hts i_X6_findFault_6 hown hC.1 Z (o := 16) (ci := 6) rfl (rfl : vwCl[6]? = some (RX6, TX6, 25)) 20 (by decide) (hts _ k_X6_findFault_w0) (fun _ h9 => h9) (f := 1) rfl rfl dX6_findFault_57 ?_
      obtain ⟨rfl, rfl⟩ := wx_ret_ok h
      exact W.iret hx hb hr (fun t ht hW => ⟨rfl, by rw [ht]; exact Z, hS.F ht⟩) hS.2.2 dX6_findFault_60
  · replace h := wx_ift c41 h
    refine lv_bipush (v := (-6)) hx hb dX6_findFault_44 (by decide) ?_
    obtain ⟨rfl, rfl⟩ := wx_ret_ok h
    exact W.iret hx hb hr (fun t ht hW => ⟨rfl, by rw [ht]; exact Z, hS.F ht⟩) hS.2.2 dX6_findFault_46
set_option maxRecDepth 20000 in
set_option maxHeartbeats 4000000 in
theorem b_X6_findFault_5 (B : wx_B p s m args meth c cX6_findFault 1 (some .int) wsX6_findFault RX6 D ad ca A)    {r : Int32} {σ' : wx_St}   :
    ∀ {n : Nat}  {σ : wx_St}  (h : f_X6_findFault_5 n σ = some (r, σ')) {H : Heap} {locs : List Loc} (Z : wx_Z D ad rd ca A σ H) (hS : va_S A s.heap H locs) {ls : Array Slot} (hl : lv_has ls 1 [(0, .ref (ad 16 99))]), W p l e ({ frames := 5, cells := 0, slots := 0, locals := 104 } : Room) s m args below meth c H locs 0 0 (MQ below (wx_Q D ad rd ca A (some (.int r)) σ') args s 0 0 A) (F0 m 5 ls []) := by
  obtain ⟨hx, hb, hml, hr, hts, hown, hlk, hC, hA⟩ := id B
  intro n
  induction n with
  | zero => intro  σ  h H locs Z hS ls hl; exact wx_no h
  | succ n ih =>
    intro  σ  h H locs Z hS ls hl
    rw [f_X6_findFault_5] at h
    refine lv_aload_n hx hb dX6_findFault_5 rfl (lv_at hl 0 rfl) ?_
    obtain ⟨v6, σ6, hc6, h⟩ := wx_b_ok h
    refine wx_call (va_runV (As := []) (rest := []) ⟨hx, hb, hml, hown, hts⟩ (c_X6_readsOrder l (D := D) (ad := ad) (rd := rd) (ca := ca) (A := A) (σ := σ) hc6) (cwV 0 hts gX6_findFault_X6_readsOrder rfl rfl rfl (by decide +kernel) ⟨Nat.le_of_ble_eq_true rfl, Nat.le_of_ble_eq_true rfl⟩) (wx_preV hC Z hS hA rfl (rfl : vwCl[6]? = some (RX6, TX6, 25))) rfl rfl hl.1 rfl (lv_room (Nat.le_of_ble_eq_true rfl)) dX6_findFault_6 ⟨Nat.zero_le _, Nat.zero_le _⟩) hS (fun H locs Z hS => ?_)
    refine lv_if_eq (tgt := 28) hx hb dX6_findFault_9 (by decide) (fun c9 => ?_) (fun c9 => ?_)
    · replace h := wx_ift c9 h
      exact b_X6_findFault_28 B h Z hS (lv_sub hl [0] rfl)
    · replace h := wx_iff c9 h
      refine lv_aload_n hx hb dX6_findFault_12 rfl (lv_at hl 0 rfl) ?_
      refine wx_get (own := RX6) hx hb hts i_X6_findFault_6 hown hC.1 Z (o := 16) (ci := 6) rfl (rfl : vwCl[6]? = some (RX6, TX6, 25)) 21 (by decide) (hts _ k_X6_findFault_w1) (fun _ h9 => h9) (f := 1) rfl rfl dX6_findFault_13 ?_
      refine lv_bipush (v := 116) hx hb dX6_findFault_16 (by decide) ?_
      refine lv_icmp_ne (tgt := 33) hx hb dX6_findFault_18 (by decide) (fun c18 => ?_) (fun c18 => ?_)
      · replace h := wx_iff c18 h
        exact b_X6_findFault_33 B (K5 := (f_X6_findFault_5 n)) @ih h Z hS (lv_sub hl [0] rfl)
      · replace h := wx_ift c18 h
        refine lv_aload_n hx hb dX6_findFault_21 rfl (lv_at hl 0 rfl) ?_
        obtain ⟨v22, σ22, hc22, h⟩ := wx_b_ok h
        refine wx_call (va_runV (As := []) (rest := []) ⟨hx, hb, hml, hown, hts⟩ (c_X6_readsPlaces l (D := D) (ad := ad) (rd := rd) (ca := ca) (A := A) (σ := σ6) hc22) (cwV 0 hts gX6_findFault_X6_readsPlaces rfl rfl rfl (by decide +kernel) ⟨Nat.le_of_ble_eq_true rfl, Nat.le_of_ble_eq_true rfl⟩) (wx_preV hC Z hS hA rfl (rfl : vwCl[6]? = some (RX6, TX6, 25))) rfl rfl hl.1 rfl (lv_room (Nat.le_of_ble_eq_true rfl)) dX6_findFault_22 ⟨Nat.zero_le _, Nat.zero_le _⟩) hS (fun H locs Z hS => ?_)
        refine lv_if_ne (tgt := 33) hx hb dX6_findFault_25 (by decide) (fun c25 => ?_) (fun c25 => ?_)
        · replace h := wx_iff c25 h
          exact b_X6_findFault_33 B (K5 := (f_X6_findFault_5 n)) @ih h Z hS (lv_sub hl [0] rfl)
        · replace h := wx_ift c25 h
          exact b_X6_findFault_28 B h Z hS (lv_sub hl [0] rfl)
set_option maxRecDepth 20000 in
set_option maxHeartbeats 4000000 in
theorem b_X6_findFault_0 (B : wx_B p s m args meth c cX6_findFault 1 (some .int) wsX6_findFault RX6 D ad ca A)    {r : Int32} {σ' : wx_St}   {σ : wx_St}  (h : f_X6_findFault σ = some (r, σ')) {H : Heap} {locs : List Loc} (Z : wx_Z D ad rd ca A σ H) (hS : va_S A s.heap H locs) {ls : Array Slot} (hl : lv_has ls 1 [(0, .ref (ad 16 99))]) : W p l e ({ frames := 5, cells := 0, slots := 0, locals := 104 } : Room) s m args below meth c H locs 0 0 (MQ below (wx_Q D ad rd ca A (some (.int r)) σ') args s 0 0 A) (F0 m 0 ls []) := by
  obtain ⟨hx, hb, hml, hr, hts, hown, hlk, hC, hA⟩ := id B
  unfold f_X6_findFault at h
  refine lv_aload_n hx hb dX6_findFault_0 rfl (lv_at hl 0 rfl) ?_
  refine lv_iconst (v := 0) hx hb dX6_findFault_1 (by decide) ?_
  obtain ⟨σ2, e2, h⟩ := wx_l_ok h
  refine wx_put (own := RX6) hx hb hts i_X6_findFault_6 tyX6 tyX6_ok nmX6 hown hC.1 Z hS (o := 16) (ci := 6) rfl (rfl : vwCl[6]? = some (RX6, TX6, 25)) 20 (by decide) (hts _ k_X6_findFault_w0) (fun _ h9 => h9) rfl (by decide +kernel) rfl dX6_findFault_2 e2 (fun H locs Z hS => ?_)
  exact b_X6_findFault_5 B h Z hS (lv_sub hl [0] rfl)
set_option maxRecDepth 20000 in
theorem c_X6_findFault (l : Launch) {D : va_G} {ad : Nat → Nat → Nat} {rd : Nat → Nat} {ca : Nat → ClassId} {A : Nat → Prop} {σ : wx_St}     {r : Int32} {σ' : wx_St} (h : f_X6_findFault σ = some (r, σ')) : wx_M l yX6_findFault wsX6_findFault 5 104 D ad rd ca A [.ref (ad 16 99)] σ (some (.int r)) σ' := by
  refine Met.ofW (cc := cX6_findFault) (maxL := 1) (ret := (some .int)) (by decide +kernel) rfl ?_
  intro p e s m args below meth c s₁ B0 hml hv
  obtain ⟨rfl, hC, Z, hA⟩ := hv
  have hl := lv_entry ([.ref (ad 16 99)]) (n := 1) (Nat.le_of_ble_eq_true rfl)
  rw [lg_entry_eq]
  generalize (lg_sl ([.ref (ad 16 99)]) ++ List.replicate (1 - (lg_sl ([.ref (ad 16 99)])).length) Slot.unset).toArray = ls at hl ⊢
  exact b_X6_findFault_0 ⟨B0.exec, B0.bytes, hml, B0.returns, atoms_spec (ws := wsX6_findFault) B0.pre, findClass_of_methodNamed B0.named, B0.notSynchronized, hC, hA⟩   h Z va_S.rf hl
set_option maxRecDepth 20000 in
set_option maxHeartbeats 4000000 in
theorem b_X6_moves_3 (B : wx_B p s m args meth c cX6_moves 5 none wsX6_moves RX6 D ad ca A) {o0 : Nat} {k0 : Nat} {n0 : Nat} {o2 : Nat} {k2 : Nat} {n2 : Nat} {al : Nat → Bool} (hs0 : wx_sh al o0 k0 = (1, n0)) (hs2 : wx_sh al o2 k2 = (1, n2))  {σ' : wx_St}   :
    ∀ {n : Nat} {x1 : Int32} {x3 : Int32} {x4 : Int32} {σ : wx_St}  (h : f_X6_moves_3 o0 k0 n0 o2 k2 n2 n x1 x3 x4 σ = some ((), σ')) {H : Heap} {locs : List Loc} (Z : wx_Z D ad rd ca A σ H) (hS : va_S A s.heap H locs) {ls : Array Slot} (hl : lv_has ls 5 [(0, .ref (wx_ad ad rd o0 k0)), (1, .int x1), (2, .ref (wx_ad ad rd o2 k2)), (3, .int x3), (4, .int x4)]) (hal : σ.2.2.2.2 = al), W p l e ({ frames := 0, cells := 0, slots := 0, locals := 0 } : Room) s m args below meth c H locs 0 0 (MQ below (wx_Q D ad rd ca A none σ') args s 0 0 A) (F0 m 3 ls []) := by
  obtain ⟨hx, hb, hml, hr, hts, hown, hlk, hC, hA⟩ := id B
  intro n
  induction n with
  | zero => intro x1 x3 x4 σ  h H locs Z hS ls hl hal; exact wx_no h
  | succ n ih =>
    intro x1 x3 x4 σ  h H locs Z hS ls hl hal
    rw [f_X6_moves_3] at h
    refine lv_iload hx hb dX6_moves_3 (lv_at hl 4 rfl) ?_
    refine lv_bipush (v := 109) hx hb dX6_moves_5 (by decide) ?_
    refine lv_icmp_ge (tgt := 28) hx hb dX6_moves_7 (by decide) (fun c7 => ?_) (fun c7 => ?_)
    · replace h := wx_ift c7 h
      obtain ⟨-, rfl⟩ := wx_ret_ok h
      exact W.vret hx hb hr (fun t ht hW => ⟨rfl, by rw [ht]; exact Z, hS.F ht⟩) hS.2.2 dX6_moves_28
    · replace h := wx_iff c7 h
      refine lv_aload_n hx hb dX6_moves_10 rfl (lv_at hl 2 rfl) ?_
      refine lv_iload_n hx hb dX6_moves_11 rfl (lv_at hl 3 rfl) ?_
      refine lv_iload hx hb dX6_moves_12 (lv_at hl 4 rfl) ?_
      refine lv_iadd hx hb dX6_moves_14 ?_
      refine lv_aload_n hx hb dX6_moves_15 rfl (lv_at hl 0 rfl) ?_
      refine lv_iload_n hx hb dX6_moves_16 rfl (lv_at hl 1 rfl) ?_
      refine lv_iload hx hb dX6_moves_17 (lv_at hl 4 rfl) ?_
      refine lv_iadd hx hb dX6_moves_19 ?_
      obtain ⟨v20, ev20, iv20, h⟩ := wx_rI_ok h
      refine wx_iald hx hb hC.1 Z (o := o0) (k := k0) (n := n0) (wx_hal hal hs0) rfl iv20 dX6_moves_20 ev20 ?_
      obtain ⟨σ21, e21, i21, h⟩ := wx_w_ok h
      refine wx_iast hx hb hC.1 Z hS (o := o2) (k := k2) (n := n2) (wx_hal hal hs2) rfl i21 dX6_moves_21 e21 (fun H locs Z hS => ?_)
      replace hal := (show σ21.2.2.2.2 = σ.2.2.2.2 from (congrArg (fun z : wx_St => z.2.2.2.2) e21).trans rfl).trans hal
      refine lv_iinc (v := x4 + 1) (lv' := [(4, .int (x4 + 1)), (0, .ref (wx_ad ad rd o0 k0)), (1, .int x1), (2, .ref (wx_ad ad rd o2 k2)), (3, .int x3)]) hx hb dX6_moves_22 hl (k := 4) rfl rfl (by decide) rfl (fun ls hl => ?_)
      refine lv_goto (tgt := 3) hx hb dX6_moves_25 (by decide) ?_
      exact ih h Z hS (lv_sub hl [1, 2, 3, 4, 0] rfl) hal
set_option maxRecDepth 20000 in
set_option maxHeartbeats 4000000 in
theorem b_X6_moves_0 (B : wx_B p s m args meth c cX6_moves 5 none wsX6_moves RX6 D ad ca A) {o0 : Nat} {k0 : Nat} {n0 : Nat} {o2 : Nat} {k2 : Nat} {n2 : Nat} {al : Nat → Bool} (hs0 : wx_sh al o0 k0 = (1, n0)) (hs2 : wx_sh al o2 k2 = (1, n2))  {σ' : wx_St}  {x1 : Int32} {x3 : Int32} {σ : wx_St}  (h : f_X6_moves o0 k0 n0 o2 k2 n2 x1 x3 σ = some ((), σ')) {H : Heap} {locs : List Loc} (Z : wx_Z D ad rd ca A σ H) (hS : va_S A s.heap H locs) {ls : Array Slot} (hl : lv_has ls 5 [(0, .ref (wx_ad ad rd o0 k0)), (1, .int x1), (2, .ref (wx_ad ad rd o2 k2)), (3, .int x3)]) (hal : σ.2.2.2.2 = al) : W p l e ({ frames := 0, cells := 0, slots := 0, locals := 0 } : Room) s m args below meth c H locs 0 0 (MQ below (wx_Q D ad rd ca A none σ') args s 0 0 A) (F0 m 0 ls []) := by
  obtain ⟨hx, hb, hml, hr, hts, hown, hlk, hC, hA⟩ := id B
  unfold f_X6_moves at h
  refine lv_iconst (v := 0) hx hb dX6_moves_0 (by decide) ?_
  refine lv_istore (lv' := [(4, .int 0), (0, .ref (wx_ad ad rd o0 k0)), (1, .int x1), (2, .ref (wx_ad ad rd o2 k2)), (3, .int x3)]) hx hb dX6_moves_1 hl (by decide) rfl (fun ls hl => ?_)
  exact b_X6_moves_3 B hs0 hs2 h Z hS (lv_sub hl [1, 2, 3, 4, 0] rfl) hal
set_option maxRecDepth 20000 in
theorem c_X6_moves (l : Launch) {D : va_G} {ad : Nat → Nat → Nat} {rd : Nat → Nat} {ca : Nat → ClassId} {A : Nat → Prop} {σ : wx_St} {o0 : Nat} {k0 : Nat} {n0 : Nat} {o2 : Nat} {k2 : Nat} {n2 : Nat} {al : Nat → Bool} (hs0 : wx_sh al o0 k0 = (1, n0)) (hs2 : wx_sh al o2 k2 = (1, n2)) (hal : σ.2.2.2.2 = al) {x1 : Int32} {x3 : Int32}  {σ' : wx_St} (h : f_X6_moves o0 k0 n0 o2 k2 n2 x1 x3 σ = some ((), σ')) : wx_M l yX6_moves wsX6_moves 0 0 D ad rd ca A [.ref (wx_ad ad rd o0 k0), .int x1, .ref (wx_ad ad rd o2 k2), .int x3] σ none σ' := by
  refine Met.ofW (cc := cX6_moves) (maxL := 5) (ret := none) (by decide +kernel) rfl ?_
  intro p e s m args below meth c s₁ B0 hml hv
  obtain ⟨rfl, hC, Z, hA⟩ := hv
  have hl := lv_entry ([.ref (wx_ad ad rd o0 k0), .int x1, .ref (wx_ad ad rd o2 k2), .int x3]) (n := 5) (Nat.le_of_ble_eq_true rfl)
  rw [lg_entry_eq]
  generalize (lg_sl ([.ref (wx_ad ad rd o0 k0), .int x1, .ref (wx_ad ad rd o2 k2), .int x3]) ++ List.replicate (5 - (lg_sl ([.ref (wx_ad ad rd o0 k0), .int x1, .ref (wx_ad ad rd o2 k2), .int x3])).length) Slot.unset).toArray = ls at hl ⊢
  exact b_X6_moves_0 ⟨B0.exec, B0.bytes, hml, B0.returns, atoms_spec (ws := wsX6_moves) B0.pre, findClass_of_methodNamed B0.named, B0.notSynchronized, hC, hA⟩ hs0 hs2  h Z va_S.rf hl hal
theorem i_X6_record_6 : ∀ w ∈ wsX60, w ∈ wsX6_record := by decide +kernel
theorem k_X6_record_w0 : Cond.fieldLink RX6 56 "WarmProbesModel" "recorded" "I" ∈ wsX6_record := by decide +kernel
theorem k_X6_record_w1 : Cond.fieldLink RX6 7 "WarmProbesModel" "state" "[I" ∈ wsX6_record := by decide +kernel
theorem k_X6_record_w2 : Cond.fieldLink RX6 17 "WarmProbesModel" "history" "[I" ∈ wsX6_record := by decide +kernel
theorem k_X6_record_w3 : Cond.fieldLink RX6 13 "WarmProbesModel" "warmth" "[F" ∈ wsX6_record := by decide +kernel
theorem k_X6_record_w4 : Cond.fieldLink RX6 20 "WarmProbesModel" "warmHistory" "[F" ∈ wsX6_record := by decide +kernel
set_option maxRecDepth 20000 in
set_option maxHeartbeats 4000000 in
theorem b_X6_record_79 (B : wx_B p s m args meth c cX6_record 2 none wsX6_record RX6 D ad ca A)     {σ' : wx_St}   {σ : wx_St}  (h : f_X6_record_79 σ = some ((), σ')) {H : Heap} {locs : List Loc} (Z : wx_Z D ad rd ca A σ H) (hS : va_S A s.heap H locs) {ls : Array Slot} (hl : lv_has ls 2 [(0, .ref (ad 16 99))]) : W p l e ({ frames := 1, cells := 0, slots := 0, locals := 24 } : Room) s m args below meth c H locs 0 0 (MQ below (wx_Q D ad rd ca A none σ') args s 0 0 A) (F0 m 79 ls []) := by
  obtain ⟨hx, hb, hml, hr, hts, hown, hlk, hC, hA⟩ := id B
  unfold f_X6_record_79 at h
  refine lv_aload_n hx hb dX6_record_79 rfl (lv_at hl 0 rfl) ?_
  refine wx_get (own := RX6) hx hb hts i_X6_record_6 hown hC.1 Z (o := 16) (ci := 6) rfl (rfl : vwCl[6]? = some (RX6, TX6, 25)) 0 (by decide) (hts _ k_X6_record_w1) (fun _ h9 => h9) (f := 0) rfl rfl dX6_record_80 ?_
  refine lv_iconst (v := 0) hx hb dX6_record_83 (by decide) ?_
  refine lv_aload_n hx hb dX6_record_84 rfl (lv_at hl 0 rfl) ?_
  refine wx_get (own := RX6) hx hb hts i_X6_record_6 hown hC.1 Z (o := 16) (ci := 6) rfl (rfl : vwCl[6]? = some (RX6, TX6, 25)) 2 (by decide) (hts _ k_X6_record_w2) (fun _ h9 => h9) (f := 0) rfl rfl dX6_record_85 ?_
  refine lv_aload_n hx hb dX6_record_88 rfl (lv_at hl 0 rfl) ?_
  refine wx_get (own := RX6) hx hb hts i_X6_record_6 hown hC.1 Z (o := 16) (ci := 6) rfl (rfl : vwCl[6]? = some (RX6, TX6, 25)) 4 (by decide) (hts _ k_X6_record_w0) (fun _ h9 => h9) (f := 1) rfl rfl dX6_record_89 ?_
  refine lv_bipush (v := 109) hx hb dX6_record_92 (by decide) ?_
  refine lv_imul hx hb dX6_record_94 ?_
  obtain ⟨v95, σ95, hc95, h⟩ := wx_b_ok h
  refine wx_call (va_runS (As := [.ref (ad 16 0), .int 0, .ref (ad 16 2), .int ((σ.2.2.1 16 4) * 109)]) (rest := []) ⟨hx, hb, hml, hown, hts⟩ (c_X6_moves l (D := D) (ad := ad) (rd := rd) (ca := ca) (A := A) (σ := σ) (o0 := 16) (k0 := 0) (n0 := 109) (o2 := 16) (k2 := 2) (n2 := 654) (al := σ.2.2.2.2) rfl rfl rfl hc95) (va_cwS 4 hts gX6_record_X6_moves rfl rfl rfl (by decide +kernel) ⟨Nat.le_of_ble_eq_true rfl, Nat.le_of_ble_eq_true rfl⟩) (wx_preS hC Z hS hA) rfl rfl hl.1 rfl (lv_room (Nat.le_of_ble_eq_true rfl)) dX6_record_95 ⟨Nat.zero_le _, Nat.zero_le _⟩) hS (fun H locs Z hS => ?_)
  refine lv_aload_n hx hb dX6_record_98 rfl (lv_at hl 0 rfl) ?_
  refine wx_get (own := RX6) hx hb hts i_X6_record_6 hown hC.1 Z (o := 16) (ci := 6) rfl (rfl : vwCl[6]? = some (RX6, TX6, 25)) 1 (by decide) (hts _ k_X6_record_w3) (fun _ h9 => h9) (f := 0) rfl rfl dX6_record_99 ?_
  refine lv_iconst (v := 0) hx hb dX6_record_102 (by decide) ?_
  refine lv_aload_n hx hb dX6_record_103 rfl (lv_at hl 0 rfl) ?_
  refine wx_get (own := RX6) hx hb hts i_X6_record_6 hown hC.1 Z (o := 16) (ci := 6) rfl (rfl : vwCl[6]? = some (RX6, TX6, 25)) 3 (by decide) (hts _ k_X6_record_w4) (fun _ h9 => h9) (f := 0) rfl rfl dX6_record_104 ?_
  refine lv_aload_n hx hb dX6_record_107 rfl (lv_at hl 0 rfl) ?_
  refine wx_get (own := RX6) hx hb hts i_X6_record_6 hown hC.1 Z (o := 16) (ci := 6) rfl (rfl : vwCl[6]? = some (RX6, TX6, 25)) 4 (by decide) (hts _ k_X6_record_w0) (fun _ h9 => h9) (f := 1) rfl rfl dX6_record_108 ?_
  refine lv_bipush (v := 64) hx hb dX6_record_111 (by decide) ?_
  refine lv_imul hx hb dX6_record_113 ?_
  obtain ⟨v114, σ114, hc114, h⟩ := wx_b_ok h
  refine wx_call (va_runS (As := [.ref (ad 16 1), .int 0, .ref (ad 16 3), .int ((σ95.2.2.1 16 4) * 64)]) (rest := []) ⟨hx, hb, hml, hown, hts⟩ (c_X6_movesWarmth l (D := D) (ad := ad) (rd := rd) (ca := ca) (A := A) (σ := σ95) (o0 := 16) (k0 := 1) (n0 := 64) (o2 := 16) (k2 := 3) (n2 := 384) (al := σ95.2.2.2.2) rfl rfl rfl hc114) (va_cwS 4 hts gX6_record_X6_movesWarmth rfl rfl rfl (by decide +kernel) ⟨Nat.le_of_ble_eq_true rfl, Nat.le_of_ble_eq_true rfl⟩) (wx_preS hC Z hS hA) rfl rfl hl.1 rfl (lv_room (Nat.le_of_ble_eq_true rfl)) dX6_record_114 ⟨Nat.zero_le _, Nat.zero_le _⟩) hS (fun H locs Z hS => ?_)
  refine lv_aload_n hx hb dX6_record_117 rfl (lv_at hl 0 rfl) ?_
  refine lv_dup hx hb dX6_record_118 rfl ?_
  refine wx_get (own := RX6) hx hb hts i_X6_record_6 hown hC.1 Z (o := 16) (ci := 6) rfl (rfl : vwCl[6]? = some (RX6, TX6, 25)) 4 (by decide) (hts _ k_X6_record_w0) (fun _ h9 => h9) (f := 1) rfl rfl dX6_record_119 ?_
  refine lv_iconst (v := 1) hx hb dX6_record_122 (by decide) ?_
  refine lv_iadd hx hb dX6_record_123 ?_
  obtain ⟨σ124, e124, h⟩ := wx_l_ok h
  refine wx_put (own := RX6) hx hb hts i_X6_record_6 tyX6 tyX6_ok nmX6 hown hC.1 Z hS (o := 16) (ci := 6) rfl (rfl : vwCl[6]? = some (RX6, TX6, 25)) 4 (by decide) (hts _ k_X6_record_w0) (fun _ h9 => h9) rfl (by decide +kernel) rfl dX6_record_124 e124 (fun H locs Z hS => ?_)
  obtain ⟨-, rfl⟩ := wx_ret_ok h
  exact W.vret hx hb hr (fun t ht hW => ⟨rfl, by rw [ht]; exact Z, hS.F ht⟩) hS.2.2 dX6_record_127
set_option maxRecDepth 20000 in
set_option maxHeartbeats 4000000 in
theorem b_X6_record_41 (B : wx_B p s m args meth c cX6_record 2 none wsX6_record RX6 D ad ca A)     {σ' : wx_St}   :
    ∀ {n : Nat} {x1 : Int32} {σ : wx_St}  (h : f_X6_record_41 n x1 σ = some ((), σ')) {H : Heap} {locs : List Loc} (Z : wx_Z D ad rd ca A σ H) (hS : va_S A s.heap H locs) {ls : Array Slot} (hl : lv_has ls 2 [(0, .ref (ad 16 99)), (1, .int x1)]), W p l e ({ frames := 1, cells := 0, slots := 0, locals := 24 } : Room) s m args below meth c H locs 0 0 (MQ below (wx_Q D ad rd ca A none σ') args s 0 0 A) (F0 m 41 ls []) := by
  obtain ⟨hx, hb, hml, hr, hts, hown, hlk, hC, hA⟩ := id B
  intro n
  induction n with
  | zero => intro x1 σ  h H locs Z hS ls hl; exact wx_no h
  | succ n ih =>
    intro x1 σ  h H locs Z hS ls hl
    rw [f_X6_record_41] at h
    refine lv_iload_n hx hb dX6_record_41 rfl (lv_at hl 1 rfl) ?_
    refine lv_sipush (v := 320) hx hb dX6_record_42 (by decide) ?_
    refine lv_icmp_ge (tgt := 69) hx hb dX6_record_45 (by decide) (fun c45 => ?_) (fun c45 => ?_)
    · replace h := wx_ift c45 h
      refine lv_aload_n hx hb dX6_record_69 rfl (lv_at hl 0 rfl) ?_
      refine lv_dup hx hb dX6_record_70 rfl ?_
      refine wx_get (own := RX6) hx hb hts i_X6_record_6 hown hC.1 Z (o := 16) (ci := 6) rfl (rfl : vwCl[6]? = some (RX6, TX6, 25)) 4 (by decide) (hts _ k_X6_record_w0) (fun _ h9 => h9) (f := 1) rfl rfl dX6_record_71 ?_
      refine lv_iconst (v := 1) hx hb dX6_record_74 (by decide) ?_
      refine lv_isub hx hb dX6_record_75 ?_
      obtain ⟨σ76, e76, h⟩ := wx_l_ok h
      refine wx_put (own := RX6) hx hb hts i_X6_record_6 tyX6 tyX6_ok nmX6 hown hC.1 Z hS (o := 16) (ci := 6) rfl (rfl : vwCl[6]? = some (RX6, TX6, 25)) 4 (by decide) (hts _ k_X6_record_w0) (fun _ h9 => h9) rfl (by decide +kernel) rfl dX6_record_76 e76 (fun H locs Z hS => ?_)
      exact b_X6_record_79 B h Z hS (lv_sub hl [0] rfl)
    · replace h := wx_iff c45 h
      refine lv_aload_n hx hb dX6_record_48 rfl (lv_at hl 0 rfl) ?_
      refine wx_get (own := RX6) hx hb hts i_X6_record_6 hown hC.1 Z (o := 16) (ci := 6) rfl (rfl : vwCl[6]? = some (RX6, TX6, 25)) 3 (by decide) (hts _ k_X6_record_w4) (fun _ h9 => h9) (f := 0) rfl rfl dX6_record_49 ?_
      refine lv_iload_n hx hb dX6_record_52 rfl (lv_at hl 1 rfl) ?_
      refine lv_aload_n hx hb dX6_record_53 rfl (lv_at hl 0 rfl) ?_
      refine wx_get (own := RX6) hx hb hts i_X6_record_6 hown hC.1 Z (o := 16) (ci := 6) rfl (rfl : vwCl[6]? = some (RX6, TX6, 25)) 3 (by decide) (hts _ k_X6_record_w4) (fun _ h9 => h9) (f := 0) rfl rfl dX6_record_54 ?_
      refine lv_iload_n hx hb dX6_record_57 rfl (lv_at hl 1 rfl) ?_
      refine lv_bipush (v := 64) hx hb dX6_record_58 (by decide) ?_
      refine lv_iadd hx hb dX6_record_60 ?_
      obtain ⟨v61, ev61, iv61, h⟩ := wx_rF_ok h
      refine wx_fald hx hb hC.1 Z (o := 16) (k := 3) (n := 384) rfl rfl iv61 dX6_record_61 ev61 ?_
      obtain ⟨σ62, e62, i62, h⟩ := wx_w_ok h
      refine wx_fast hx hb hC.1 Z hS (o := 16) (k := 3) (n := 384) rfl rfl i62 dX6_record_62 e62 (fun H locs Z hS => ?_)
      refine lv_iinc (v := x1 + 1) (lv' := [(1, .int (x1 + 1)), (0, .ref (ad 16 99))]) hx hb dX6_record_63 hl (k := 1) rfl rfl (by decide) rfl (fun ls hl => ?_)
      refine lv_goto (tgt := 41) hx hb dX6_record_66 (by decide) ?_
      exact ih h Z hS (lv_sub hl [1, 0] rfl)
set_option maxRecDepth 20000 in
set_option maxHeartbeats 4000000 in
theorem b_X6_record_11 (B : wx_B p s m args meth c cX6_record 2 none wsX6_record RX6 D ad ca A)     {σ' : wx_St}   :
    ∀ {n : Nat} {x1 : Int32} {σ : wx_St}  (h : f_X6_record_11 n x1 σ = some ((), σ')) {H : Heap} {locs : List Loc} (Z : wx_Z D ad rd ca A σ H) (hS : va_S A s.heap H locs) {ls : Array Slot} (hl : lv_has ls 2 [(0, .ref (ad 16 99)), (1, .int x1)]), W p l e ({ frames := 1, cells := 0, slots := 0, locals := 24 } : Room) s m args below meth c H locs 0 0 (MQ below (wx_Q D ad rd ca A none σ') args s 0 0 A) (F0 m 11 ls []) := by
  obtain ⟨hx, hb, hml, hr, hts, hown, hlk, hC, hA⟩ := id B
  intro n
  induction n with
  | zero => intro x1 σ  h H locs Z hS ls hl; exact wx_no h
  | succ n ih =>
    intro x1 σ  h H locs Z hS ls hl
    rw [f_X6_record_11] at h
    refine lv_iload_n hx hb dX6_record_11 rfl (lv_at hl 1 rfl) ?_
    refine lv_sipush (v := 545) hx hb dX6_record_12 (by decide) ?_
    refine lv_icmp_ge (tgt := 39) hx hb dX6_record_15 (by decide) (fun c15 => ?_) (fun c15 => ?_)
    · replace h := wx_ift c15 h
      refine lv_iconst (v := 0) hx hb dX6_record_39 (by decide) ?_
      refine lv_istore_n (lv' := [(1, .int 0), (0, .ref (ad 16 99))]) hx hb dX6_record_40 rfl hl (by decide) rfl (fun ls hl => ?_)
      exact b_X6_record_41 B h Z hS (lv_sub hl [1, 0] rfl)
    · replace h := wx_iff c15 h
      refine lv_aload_n hx hb dX6_record_18 rfl (lv_at hl 0 rfl) ?_
      refine wx_get (own := RX6) hx hb hts i_X6_record_6 hown hC.1 Z (o := 16) (ci := 6) rfl (rfl : vwCl[6]? = some (RX6, TX6, 25)) 2 (by decide) (hts _ k_X6_record_w2) (fun _ h9 => h9) (f := 0) rfl rfl dX6_record_19 ?_
      refine lv_iload_n hx hb dX6_record_22 rfl (lv_at hl 1 rfl) ?_
      refine lv_aload_n hx hb dX6_record_23 rfl (lv_at hl 0 rfl) ?_
      refine wx_get (own := RX6) hx hb hts i_X6_record_6 hown hC.1 Z (o := 16) (ci := 6) rfl (rfl : vwCl[6]? = some (RX6, TX6, 25)) 2 (by decide) (hts _ k_X6_record_w2) (fun _ h9 => h9) (f := 0) rfl rfl dX6_record_24 ?_
      refine lv_iload_n hx hb dX6_record_27 rfl (lv_at hl 1 rfl) ?_
      refine lv_bipush (v := 109) hx hb dX6_record_28 (by decide) ?_
      refine lv_iadd hx hb dX6_record_30 ?_
      obtain ⟨v31, ev31, iv31, h⟩ := wx_rI_ok h
      refine wx_iald hx hb hC.1 Z (o := 16) (k := 2) (n := 654) rfl rfl iv31 dX6_record_31 ev31 ?_
      obtain ⟨σ32, e32, i32, h⟩ := wx_w_ok h
      refine wx_iast hx hb hC.1 Z hS (o := 16) (k := 2) (n := 654) rfl rfl i32 dX6_record_32 e32 (fun H locs Z hS => ?_)
      refine lv_iinc (v := x1 + 1) (lv' := [(1, .int (x1 + 1)), (0, .ref (ad 16 99))]) hx hb dX6_record_33 hl (k := 1) rfl rfl (by decide) rfl (fun ls hl => ?_)
      refine lv_goto (tgt := 11) hx hb dX6_record_36 (by decide) ?_
      exact ih h Z hS (lv_sub hl [1, 0] rfl)
set_option maxRecDepth 20000 in
set_option maxHeartbeats 4000000 in
theorem b_X6_record_0 (B : wx_B p s m args meth c cX6_record 2 none wsX6_record RX6 D ad ca A)     {σ' : wx_St}   {σ : wx_St}  (h : f_X6_record σ = some ((), σ')) {H : Heap} {locs : List Loc} (Z : wx_Z D ad rd ca A σ H) (hS : va_S A s.heap H locs) {ls : Array Slot} (hl : lv_has ls 2 [(0, .ref (ad 16 99))]) : W p l e ({ frames := 1, cells := 0, slots := 0, locals := 24 } : Room) s m args below meth c H locs 0 0 (MQ below (wx_Q D ad rd ca A none σ') args s 0 0 A) (F0 m 0 ls []) := by
  obtain ⟨hx, hb, hml, hr, hts, hown, hlk, hC, hA⟩ := id B
  unfold f_X6_record at h
  refine lv_aload_n hx hb dX6_record_0 rfl (lv_at hl 0 rfl) ?_
  refine wx_get (own := RX6) hx hb hts i_X6_record_6 hown hC.1 Z (o := 16) (ci := 6) rfl (rfl : vwCl[6]? = some (RX6, TX6, 25)) 4 (by decide) (hts _ k_X6_record_w0) (fun _ h9 => h9) (f := 1) rfl rfl dX6_record_1 ?_
  refine lv_bipush (v := 6) hx hb dX6_record_4 (by decide) ?_
  refine lv_icmp_ne (tgt := 79) hx hb dX6_record_6 (by decide) (fun c6 => ?_) (fun c6 => ?_)
  · replace h := wx_iff c6 h
    exact b_X6_record_79 B h Z hS (lv_sub hl [0] rfl)
  · replace h := wx_ift c6 h
    refine lv_iconst (v := 0) hx hb dX6_record_9 (by decide) ?_
    refine lv_istore_n (lv' := [(1, .int 0), (0, .ref (ad 16 99))]) hx hb dX6_record_10 rfl hl (by decide) rfl (fun ls hl => ?_)
    exact b_X6_record_11 B h Z hS (lv_sub hl [1, 0] rfl)
set_option maxRecDepth 20000 in
theorem c_X6_record (l : Launch) {D : va_G} {ad : Nat → Nat → Nat} {rd : Nat → Nat} {ca : Nat → ClassId} {A : Nat → Prop} {σ : wx_St}      {σ' : wx_St} (h : f_X6_record σ = some ((), σ')) : wx_M l yX6_record wsX6_record 1 24 D ad rd ca A [.ref (ad 16 99)] σ none σ' := by
  refine Met.ofW (cc := cX6_record) (maxL := 2) (ret := none) (by decide +kernel) rfl ?_
  intro p e s m args below meth c s₁ B0 hml hv
  obtain ⟨rfl, hC, Z, hA⟩ := hv
  have hl := lv_entry ([.ref (ad 16 99)]) (n := 2) (Nat.le_of_ble_eq_true rfl)
  rw [lg_entry_eq]
  generalize (lg_sl ([.ref (ad 16 99)]) ++ List.replicate (2 - (lg_sl ([.ref (ad 16 99)])).length) Slot.unset).toArray = ls at hl ⊢
  exact b_X6_record_0 ⟨B0.exec, B0.bytes, hml, B0.returns, atoms_spec (ws := wsX6_record) B0.pre, findClass_of_methodNamed B0.named, B0.notSynchronized, hC, hA⟩   h Z va_S.rf hl
theorem i_X6_isTouch_6 : ∀ w ∈ wsX60, w ∈ wsX6_isTouch := by decide +kernel
theorem k_X6_isTouch_w0 : Cond.fieldLink RX6 7 "WarmProbesModel" "state" "[I" ∈ wsX6_isTouch := by decide +kernel
set_option maxRecDepth 20000 in
set_option maxHeartbeats 4000000 in
theorem b_X6_isTouch_0 (B : wx_B p s m args meth c cX6_isTouch 2 (some .boolean) wsX6_isTouch RX6 D ad ca A)    {r : Int32} {σ : wx_St}  {x1 : Int32}   (h : f_X6_isTouch x1 σ = some r) {H : Heap} {locs : List Loc} (Z : wx_Z D ad rd ca A σ H) (hS : va_S A s.heap H locs) {ls : Array Slot} (hl : lv_has ls 2 [(0, .ref (ad 16 99)), (1, .int x1)]) : W p l e ({ frames := 1, cells := 0, slots := 0, locals := 22 } : Room) s m args below meth c H locs 0 0 (MQ below (wx_Q D ad rd ca A (some (.int r)) σ) args s 0 0 A) (F0 m 0 ls []) := by
  obtain ⟨hx, hb, hml, hr, hts, hown, hlk, hC, hA⟩ := id B
  unfold f_X6_isTouch at h
  refine lv_iload_n hx hb dX6_isTouch_0 rfl (lv_at hl 1 rfl) ?_
  refine lv_iconst (v := 0) hx hb dX6_isTouch_1 (by decide) ?_
  refine lv_aload_n hx hb dX6_isTouch_2 rfl (lv_at hl 0 rfl) ?_
  refine wx_get (own := RX6) hx hb hts i_X6_isTouch_6 hown hC.1 Z (o := 16) (ci := 6) rfl (rfl : vwCl[6]? = some (RX6, TX6, 25)) 0 (by decide) (hts _ k_X6_isTouch_w0) (fun _ h9 => h9) (f := 0) rfl rfl dX6_isTouch_3 ?_
  refine lv_iconst (v := 5) hx hb dX6_isTouch_6 (by decide) ?_
  obtain ⟨v7, ev7, iv7, h⟩ := wx_rI_ok h
  refine wx_iald hx hb hC.1 Z (o := 16) (k := 0) (n := 109) rfl rfl iv7 dX6_isTouch_7 ev7 ?_
  refine lv_iconst (v := 1) hx hb dX6_isTouch_8 (by decide) ?_
  refine lv_isub hx hb dX6_isTouch_9 ?_
  obtain ⟨v10, hc10, h⟩ := wx_o_ok h
  refine wx_call (va_runS (As := [.int x1, .int 0, .int (v7 - 1)]) (rest := []) ⟨hx, hb, hml, hown, hts⟩ (c_X6_within l (D := D) (ad := ad) (rd := rd) (ca := ca) (A := A) (σ := σ) hc10) (va_cwS 3 hts gX6_isTouch_X6_within rfl rfl rfl (by decide +kernel) ⟨Nat.le_of_ble_eq_true rfl, Nat.le_of_ble_eq_true rfl⟩) (wx_preS hC Z hS hA) rfl rfl hl.1 rfl (lv_room (Nat.le_of_ble_eq_true rfl)) dX6_isTouch_10 ⟨Nat.zero_le _, Nat.zero_le _⟩) hS (fun H locs Z hS => ?_)
  obtain ⟨hz, h⟩ := wx_z_ok h
  obtain rfl := Option.some.inj h
  exact W.zret hx hb hr (wx_nb hz) (fun t ht hW => ⟨rfl, by rw [ht]; exact Z, hS.F ht⟩) hS.2.2 dX6_isTouch_13
set_option maxRecDepth 20000 in
theorem c_X6_isTouch (l : Launch) {D : va_G} {ad : Nat → Nat → Nat} {rd : Nat → Nat} {ca : Nat → ClassId} {A : Nat → Prop} {σ : wx_St}    {x1 : Int32} {r : Int32} (h : f_X6_isTouch x1 σ = some r) : wx_M l yX6_isTouch wsX6_isTouch 1 22 D ad rd ca A [.ref (ad 16 99), .int x1] σ (some (.int r)) σ := by
  refine Met.ofW (cc := cX6_isTouch) (maxL := 2) (ret := (some .boolean)) (by decide +kernel) rfl ?_
  intro p e s m args below meth c s₁ B0 hml hv
  obtain ⟨rfl, hC, Z, hA⟩ := hv
  have hl := lv_entry ([.ref (ad 16 99), .int x1]) (n := 2) (Nat.le_of_ble_eq_true rfl)
  rw [lg_entry_eq]
  generalize (lg_sl ([.ref (ad 16 99), .int x1]) ++ List.replicate (2 - (lg_sl ([.ref (ad 16 99), .int x1])).length) Slot.unset).toArray = ls at hl ⊢
  exact b_X6_isTouch_0 ⟨B0.exec, B0.bytes, hml, B0.returns, atoms_spec (ws := wsX6_isTouch) B0.pre, findClass_of_methodNamed B0.named, B0.notSynchronized, hC, hA⟩   h Z va_S.rf hl
set_option maxRecDepth 20000 in
set_option maxHeartbeats 4000000 in
theorem b_X6_isNet_0 (B : wx_B p s m args meth c cX6_isNet 1 (some .boolean) wsX6_isNet RX6 D ad ca A)    {r : Int32} {σ : wx_St}  {x0 : Int32}   (h : f_X6_isNet x0 = some r) {H : Heap} {locs : List Loc} (Z : wx_Z D ad rd ca A σ H) (hS : va_S A s.heap H locs) {ls : Array Slot} (hl : lv_has ls 1 [(0, .int x0)]) : W p l e ({ frames := 1, cells := 0, slots := 0, locals := 22 } : Room) s m args below meth c H locs 0 0 (MQ below (wx_Q D ad rd ca A (some (.int r)) σ) args s 0 0 A) (F0 m 0 ls []) := by
  obtain ⟨hx, hb, hml, hr, hts, hown, hlk, hC, hA⟩ := id B
  unfold f_X6_isNet at h
  refine lv_iload_n hx hb dX6_isNet_0 rfl (lv_at hl 0 rfl) ?_
  refine lv_iconst (v := 1) hx hb dX6_isNet_1 (by decide) ?_
  refine lv_bipush (v := 7) hx hb dX6_isNet_2 (by decide) ?_
  obtain ⟨v4, hc4, h⟩ := wx_o_ok h
  refine wx_call (va_runS (As := [.int x0, .int 1, .int 7]) (rest := []) ⟨hx, hb, hml, hown, hts⟩ (c_X6_within l (D := D) (ad := ad) (rd := rd) (ca := ca) (A := A) (σ := σ) hc4) (va_cwS 3 hts gX6_isNet_X6_within rfl rfl rfl (by decide +kernel) ⟨Nat.le_of_ble_eq_true rfl, Nat.le_of_ble_eq_true rfl⟩) (wx_preS hC Z hS hA) rfl rfl hl.1 rfl (lv_room (Nat.le_of_ble_eq_true rfl)) dX6_isNet_4 ⟨Nat.zero_le _, Nat.zero_le _⟩) hS (fun H locs Z hS => ?_)
  obtain ⟨hz, h⟩ := wx_z_ok h
  obtain rfl := Option.some.inj h
  exact W.zret hx hb hr (wx_nb hz) (fun t ht hW => ⟨rfl, by rw [ht]; exact Z, hS.F ht⟩) hS.2.2 dX6_isNet_7
set_option maxRecDepth 20000 in
theorem c_X6_isNet (l : Launch) {D : va_G} {ad : Nat → Nat → Nat} {rd : Nat → Nat} {ca : Nat → ClassId} {A : Nat → Prop} {σ : wx_St}    {x0 : Int32} {r : Int32} (h : f_X6_isNet x0 = some r) : wx_M l yX6_isNet wsX6_isNet 1 22 D ad rd ca A [.int x0] σ (some (.int r)) σ := by
  refine Met.ofW (cc := cX6_isNet) (maxL := 1) (ret := (some .boolean)) (by decide +kernel) rfl ?_
  intro p e s m args below meth c s₁ B0 hml hv
  obtain ⟨rfl, hC, Z, hA⟩ := hv
  have hl := lv_entry ([.int x0]) (n := 1) (Nat.le_of_ble_eq_true rfl)
  rw [lg_entry_eq]
  generalize (lg_sl ([.int x0]) ++ List.replicate (1 - (lg_sl ([.int x0])).length) Slot.unset).toArray = ls at hl ⊢
  exact b_X6_isNet_0 ⟨B0.exec, B0.bytes, hml, B0.returns, atoms_spec (ws := wsX6_isNet) B0.pre, findClass_of_methodNamed B0.named, B0.notSynchronized, hC, hA⟩   h Z va_S.rf hl
set_option maxRecDepth 20000 in
set_option maxHeartbeats 4000000 in
theorem b_X6_whyNotFed_29 (B : wx_B p s m args meth c cX6_whyNotFed 2 (some .int) wsX6_whyNotFed RX6 D ad ca A)    {r : Int32} {σ : wx_St}  {x0 : Int32} {x1 : Int32} {y0 : Int32}   (h : f_X6_whyNotFed_29 x0 x1 y0 = some r) {H : Heap} {locs : List Loc} (Z : wx_Z D ad rd ca A σ H) (hS : va_S A s.heap H locs) {ls : Array Slot} (hl : lv_has ls 2 [(0, .int x0), (1, .int x1)]) : W p l e ({ frames := 2, cells := 0, slots := 0, locals := 42 } : Room) s m args below meth c H locs 0 0 (MQ below (wx_Q D ad rd ca A (some (.int r)) σ) args s 0 0 A) (F0 m 29 ls [.int y0]) := by
  obtain ⟨hx, hb, hml, hr, hts, hown, hlk, hC, hA⟩ := id B
  unfold f_X6_whyNotFed_29 at h
  obtain rfl := Option.some.inj h
  exact W.iret hx hb hr (fun t ht hW => ⟨rfl, by rw [ht]; exact Z, hS.F ht⟩) hS.2.2 dX6_whyNotFed_29
set_option maxRecDepth 20000 in
set_option maxHeartbeats 4000000 in
theorem b_X6_whyNotFed_14 (B : wx_B p s m args meth c cX6_whyNotFed 2 (some .int) wsX6_whyNotFed RX6 D ad ca A)    {r : Int32} {σ : wx_St}  {x0 : Int32} {x1 : Int32}   (h : f_X6_whyNotFed_14 x0 x1 = some r) {H : Heap} {locs : List Loc} (Z : wx_Z D ad rd ca A σ H) (hS : va_S A s.heap H locs) {ls : Array Slot} (hl : lv_has ls 2 [(0, .int x0), (1, .int x1)]) : W p l e ({ frames := 2, cells := 0, slots := 0, locals := 42 } : Room) s m args below meth c H locs 0 0 (MQ below (wx_Q D ad rd ca A (some (.int r)) σ) args s 0 0 A) (F0 m 14 ls []) := by
  obtain ⟨hx, hb, hml, hr, hts, hown, hlk, hC, hA⟩ := id B
  unfold f_X6_whyNotFed_14 at h
  refine lv_iconst (v := (-1)) hx hb dX6_whyNotFed_14 (by decide) ?_
  refine lv_goto (tgt := 29) hx hb dX6_whyNotFed_15 (by decide) ?_
  exact b_X6_whyNotFed_29 B h Z hS (lv_sub hl [0, 1] rfl)
set_option maxRecDepth 20000 in
set_option maxHeartbeats 4000000 in
theorem b_X6_whyNotFed_0 (B : wx_B p s m args meth c cX6_whyNotFed 2 (some .int) wsX6_whyNotFed RX6 D ad ca A)    {r : Int32} {σ : wx_St}  {x0 : Int32} {x1 : Int32}   (h : f_X6_whyNotFed x0 x1 = some r) {H : Heap} {locs : List Loc} (Z : wx_Z D ad rd ca A σ H) (hS : va_S A s.heap H locs) {ls : Array Slot} (hl : lv_has ls 2 [(0, .int x0), (1, .int x1)]) : W p l e ({ frames := 2, cells := 0, slots := 0, locals := 42 } : Room) s m args below meth c H locs 0 0 (MQ below (wx_Q D ad rd ca A (some (.int r)) σ) args s 0 0 A) (F0 m 0 ls []) := by
  obtain ⟨hx, hb, hml, hr, hts, hown, hlk, hC, hA⟩ := id B
  unfold f_X6_whyNotFed at h
  refine lv_iload_n hx hb dX6_whyNotFed_0 rfl (lv_at hl 0 rfl) ?_
  obtain ⟨v1, hc1, h⟩ := wx_o_ok h
  refine wx_call (va_runS (As := [.int x0]) (rest := []) ⟨hx, hb, hml, hown, hts⟩ (c_X6_isNet l (D := D) (ad := ad) (rd := rd) (ca := ca) (A := A) (σ := σ) hc1) (va_cwS 1 hts gX6_whyNotFed_X6_isNet rfl rfl rfl (by decide +kernel) ⟨Nat.le_of_ble_eq_true rfl, Nat.le_of_ble_eq_true rfl⟩) (wx_preS hC Z hS hA) rfl rfl hl.1 rfl (lv_room (Nat.le_of_ble_eq_true rfl)) dX6_whyNotFed_1 ⟨Nat.zero_le _, Nat.zero_le _⟩) hS (fun H locs Z hS => ?_)
  refine lv_if_eq (tgt := 14) hx hb dX6_whyNotFed_4 (by decide) (fun c4 => ?_) (fun c4 => ?_)
  · replace h := wx_ift c4 h
    exact b_X6_whyNotFed_14 B h Z hS (lv_sub hl [0, 1] rfl)
  · replace h := wx_iff c4 h
    refine lv_iload_n hx hb dX6_whyNotFed_7 rfl (lv_at hl 1 rfl) ?_
    obtain ⟨v8, hc8, h⟩ := wx_o_ok h
    refine wx_call (va_runS (As := [.int x1]) (rest := []) ⟨hx, hb, hml, hown, hts⟩ (c_X6_isNet l (D := D) (ad := ad) (rd := rd) (ca := ca) (A := A) (σ := σ) hc8) (va_cwS 1 hts gX6_whyNotFed_X6_isNet rfl rfl rfl (by decide +kernel) ⟨Nat.le_of_ble_eq_true rfl, Nat.le_of_ble_eq_true rfl⟩) (wx_preS hC Z hS hA) rfl rfl hl.1 rfl (lv_room (Nat.le_of_ble_eq_true rfl)) dX6_whyNotFed_8 ⟨Nat.zero_le _, Nat.zero_le _⟩) hS (fun H locs Z hS => ?_)
    refine lv_if_ne (tgt := 18) hx hb dX6_whyNotFed_11 (by decide) (fun c11 => ?_) (fun c11 => ?_)
    · replace h := wx_iff c11 h
      refine lv_iload_n hx hb dX6_whyNotFed_18 rfl (lv_at hl 0 rfl) ?_
      refine lv_iload_n hx hb dX6_whyNotFed_19 rfl (lv_at hl 1 rfl) ?_
      refine lv_icmp_ne (tgt := 28) hx hb dX6_whyNotFed_20 (by decide) (fun c20 => ?_) (fun c20 => ?_)
      · replace h := wx_iff c20 h
        refine lv_iconst (v := 0) hx hb dX6_whyNotFed_28 (by decide) ?_
        exact b_X6_whyNotFed_29 B h Z hS (lv_sub hl [0, 1] rfl)
      · replace h := wx_ift c20 h
        refine lv_bipush (v := (-2)) hx hb dX6_whyNotFed_23 (by decide) ?_
        refine lv_goto (tgt := 29) hx hb dX6_whyNotFed_25 (by decide) ?_
        exact b_X6_whyNotFed_29 B h Z hS (lv_sub hl [0, 1] rfl)
    · replace h := wx_ift c11 h
      exact b_X6_whyNotFed_14 B h Z hS (lv_sub hl [0, 1] rfl)
set_option maxRecDepth 20000 in
theorem c_X6_whyNotFed (l : Launch) {D : va_G} {ad : Nat → Nat → Nat} {rd : Nat → Nat} {ca : Nat → ClassId} {A : Nat → Prop} {σ : wx_St}    {x0 : Int32} {x1 : Int32} {r : Int32} (h : f_X6_whyNotFed x0 x1 = some r) : wx_M l yX6_whyNotFed wsX6_whyNotFed 2 42 D ad rd ca A [.int x0, .int x1] σ (some (.int r)) σ := by
  refine Met.ofW (cc := cX6_whyNotFed) (maxL := 2) (ret := (some .int)) (by decide +kernel) rfl ?_
  intro p e s m args below meth c s₁ B0 hml hv
  obtain ⟨rfl, hC, Z, hA⟩ := hv
  have hl := lv_entry ([.int x0, .int x1]) (n := 2) (Nat.le_of_ble_eq_true rfl)
  rw [lg_entry_eq]
  generalize (lg_sl ([.int x0, .int x1]) ++ List.replicate (2 - (lg_sl ([.int x0, .int x1])).length) Slot.unset).toArray = ls at hl ⊢
  exact b_X6_whyNotFed_0 ⟨B0.exec, B0.bytes, hml, B0.returns, atoms_spec (ws := wsX6_whyNotFed) B0.pre, findClass_of_methodNamed B0.named, B0.notSynchronized, hC, hA⟩   h Z va_S.rf hl
theorem i_X6_whyNotProbed_6 : ∀ w ∈ wsX60, w ∈ wsX6_whyNotProbed := by decide +kernel
theorem k_X6_whyNotProbed_w0 : Cond.fieldLink RX6 7 "WarmProbesModel" "state" "[I" ∈ wsX6_whyNotProbed := by decide +kernel
set_option maxRecDepth 20000 in
set_option maxHeartbeats 4000000 in
theorem b_X6_whyNotProbed_30 (B : wx_B p s m args meth c cX6_whyNotProbed 3 (some .int) wsX6_whyNotProbed RX6 D ad ca A)    {r : Int32} {σ : wx_St}  {x1 : Int32} {x2 : Int32} {y0 : Int32}   (h : f_X6_whyNotProbed_30 x1 x2 y0 σ = some r) {H : Heap} {locs : List Loc} (Z : wx_Z D ad rd ca A σ H) (hS : va_S A s.heap H locs) {ls : Array Slot} (hl : lv_has ls 3 [(0, .ref (ad 16 99)), (1, .int x1), (2, .int x2)]) : W p l e ({ frames := 3, cells := 0, slots := 0, locals := 63 } : Room) s m args below meth c H locs 0 0 (MQ below (wx_Q D ad rd ca A (some (.int r)) σ) args s 0 0 A) (F0 m 30 ls [.int y0]) := by
  obtain ⟨hx, hb, hml, hr, hts, hown, hlk, hC, hA⟩ := id B
  unfold f_X6_whyNotProbed_30 at h
  obtain rfl := Option.some.inj h
  exact W.iret hx hb hr (fun t ht hW => ⟨rfl, by rw [ht]; exact Z, hS.F ht⟩) hS.2.2 dX6_whyNotProbed_30
set_option maxRecDepth 20000 in
set_option maxHeartbeats 4000000 in
theorem b_X6_whyNotProbed_0 (B : wx_B p s m args meth c cX6_whyNotProbed 3 (some .int) wsX6_whyNotProbed RX6 D ad ca A)    {r : Int32} {σ : wx_St}  {x1 : Int32} {x2 : Int32}   (h : f_X6_whyNotProbed x1 x2 σ = some r) {H : Heap} {locs : List Loc} (Z : wx_Z D ad rd ca A σ H) (hS : va_S A s.heap H locs) {ls : Array Slot} (hl : lv_has ls 3 [(0, .ref (ad 16 99)), (1, .int x1), (2, .int x2)]) : W p l e ({ frames := 3, cells := 0, slots := 0, locals := 63 } : Room) s m args below meth c H locs 0 0 (MQ below (wx_Q D ad rd ca A (some (.int r)) σ) args s 0 0 A) (F0 m 0 ls []) := by
  obtain ⟨hx, hb, hml, hr, hts, hown, hlk, hC, hA⟩ := id B
  unfold f_X6_whyNotProbed at h
  refine lv_iload_n hx hb dX6_whyNotProbed_0 rfl (lv_at hl 1 rfl) ?_
  refine lv_iload_n hx hb dX6_whyNotProbed_1 rfl (lv_at hl 2 rfl) ?_
  obtain ⟨v2, hc2, h⟩ := wx_o_ok h
  refine wx_call (va_runS (As := [.int x1, .int x2]) (rest := []) ⟨hx, hb, hml, hown, hts⟩ (c_X6_isPlace l (D := D) (ad := ad) (rd := rd) (ca := ca) (A := A) (σ := σ) hc2) (va_cwS 2 hts gX6_whyNotProbed_X6_isPlace rfl rfl rfl (by decide +kernel) ⟨Nat.le_of_ble_eq_true rfl, Nat.le_of_ble_eq_true rfl⟩) (wx_preS hC Z hS hA) rfl rfl hl.1 rfl (lv_room (Nat.le_of_ble_eq_true rfl)) dX6_whyNotProbed_2 ⟨Nat.zero_le _, Nat.zero_le _⟩) hS (fun H locs Z hS => ?_)
  refine lv_if_ne (tgt := 12) hx hb dX6_whyNotProbed_5 (by decide) (fun c5 => ?_) (fun c5 => ?_)
  · replace h := wx_iff c5 h
    refine lv_aload_n hx hb dX6_whyNotProbed_12 rfl (lv_at hl 0 rfl) ?_
    refine wx_get (own := RX6) hx hb hts i_X6_whyNotProbed_6 hown hC.1 Z (o := 16) (ci := 6) rfl (rfl : vwCl[6]? = some (RX6, TX6, 25)) 0 (by decide) (hts _ k_X6_whyNotProbed_w0) (fun _ h9 => h9) (f := 0) rfl rfl dX6_whyNotProbed_13 ?_
    refine lv_bipush (v := 6) hx hb dX6_whyNotProbed_16 (by decide) ?_
    obtain ⟨v18, ev18, iv18, h⟩ := wx_rI_ok h
    refine wx_iald hx hb hC.1 Z (o := 16) (k := 0) (n := 109) rfl rfl iv18 dX6_whyNotProbed_18 ev18 ?_
    refine lv_bipush (v := 8) hx hb dX6_whyNotProbed_19 (by decide) ?_
    refine lv_icmp_ne (tgt := 29) hx hb dX6_whyNotProbed_21 (by decide) (fun c21 => ?_) (fun c21 => ?_)
    · replace h := wx_iff c21 h
      refine lv_iconst (v := 0) hx hb dX6_whyNotProbed_29 (by decide) ?_
      exact b_X6_whyNotProbed_30 B h Z hS (lv_sub hl [0, 1, 2] rfl)
    · replace h := wx_ift c21 h
      refine lv_bipush (v := (-4)) hx hb dX6_whyNotProbed_24 (by decide) ?_
      refine lv_goto (tgt := 30) hx hb dX6_whyNotProbed_26 (by decide) ?_
      exact b_X6_whyNotProbed_30 B h Z hS (lv_sub hl [0, 1, 2] rfl)
  · replace h := wx_ift c5 h
    refine lv_iconst (v := (-1)) hx hb dX6_whyNotProbed_8 (by decide) ?_
    refine lv_goto (tgt := 30) hx hb dX6_whyNotProbed_9 (by decide) ?_
    exact b_X6_whyNotProbed_30 B h Z hS (lv_sub hl [0, 1, 2] rfl)
set_option maxRecDepth 20000 in
theorem c_X6_whyNotProbed (l : Launch) {D : va_G} {ad : Nat → Nat → Nat} {rd : Nat → Nat} {ca : Nat → ClassId} {A : Nat → Prop} {σ : wx_St}    {x1 : Int32} {x2 : Int32} {r : Int32} (h : f_X6_whyNotProbed x1 x2 σ = some r) : wx_M l yX6_whyNotProbed wsX6_whyNotProbed 3 63 D ad rd ca A [.ref (ad 16 99), .int x1, .int x2] σ (some (.int r)) σ := by
  refine Met.ofW (cc := cX6_whyNotProbed) (maxL := 3) (ret := (some .int)) (by decide +kernel) rfl ?_
  intro p e s m args below meth c s₁ B0 hml hv
  obtain ⟨rfl, hC, Z, hA⟩ := hv
  have hl := lv_entry ([.ref (ad 16 99), .int x1, .int x2]) (n := 3) (Nat.le_of_ble_eq_true rfl)
  rw [lg_entry_eq]
  generalize (lg_sl ([.ref (ad 16 99), .int x1, .int x2]) ++ List.replicate (3 - (lg_sl ([.ref (ad 16 99), .int x1, .int x2])).length) Slot.unset).toArray = ls at hl ⊢
  exact b_X6_whyNotProbed_0 ⟨B0.exec, B0.bytes, hml, B0.returns, atoms_spec (ws := wsX6_whyNotProbed) B0.pre, findClass_of_methodNamed B0.named, B0.notSynchronized, hC, hA⟩   h Z va_S.rf hl
set_option maxRecDepth 20000 in
set_option maxHeartbeats 4000000 in
theorem b_X6_hasNeighbourOf_45 (B : wx_B p s m args meth c cX6_hasNeighbourOf 6 (some .boolean) wsX6_hasNeighbourOf RX6 D ad ca A)    {r : Int32} {σ : wx_St} {K5 : Int32 → Int32 → Int32 → Int32 → wx_St → Option Int32} (hK5 : ∀ {x1 : Int32} {x2 : Int32} {x3 : Int32} {x4 : Int32}   (h : K5 x1 x2 x3 x4 σ = some r) {H : Heap} {locs : List Loc} (Z : wx_Z D ad rd ca A σ H) (hS : va_S A s.heap H locs) {ls : Array Slot} (hl : lv_has ls 6 [(0, .ref (ad 16 99)), (1, .int x1), (2, .int x2), (3, .int x3), (4, .int x4)]), W p l e ({ frames := 4, cells := 0, slots := 0, locals := 86 } : Room) s m args below meth c H locs 0 0 (MQ below (wx_Q D ad rd ca A (some (.int r)) σ) args s 0 0 A) (F0 m 5 ls [])) {x1 : Int32} {x2 : Int32} {x3 : Int32} {x4 : Int32} {x5 : Int32} {y0 : Int32}   (h : f_X6_hasNeighbourOf_45 K5 x1 x2 x3 x4 x5 y0 σ = some r) {H : Heap} {locs : List Loc} (Z : wx_Z D ad rd ca A σ H) (hS : va_S A s.heap H locs) {ls : Array Slot} (hl : lv_has ls 6 [(0, .ref (ad 16 99)), (1, .int x1), (2, .int x2), (3, .int x3), (4, .int x4), (5, .int x5)]) : W p l e ({ frames := 4, cells := 0, slots := 0, locals := 86 } : Room) s m args below meth c H locs 0 0 (MQ below (wx_Q D ad rd ca A (some (.int r)) σ) args s 0 0 A) (F0 m 45 ls [.int y0]) := by
  obtain ⟨hx, hb, hml, hr, hts, hown, hlk, hC, hA⟩ := id B
  unfold f_X6_hasNeighbourOf_45 at h
  refine lv_istore_n (lv' := [(3, .int y0), (0, .ref (ad 16 99)), (1, .int x1), (2, .int x2), (4, .int x4), (5, .int x5)]) hx hb dX6_hasNeighbourOf_45 rfl hl (by decide) rfl (fun ls hl => ?_)
  refine lv_iinc (v := x4 + 1) (lv' := [(4, .int (x4 + 1)), (3, .int y0), (0, .ref (ad 16 99)), (1, .int x1), (2, .int x2), (5, .int x5)]) hx hb dX6_hasNeighbourOf_46 hl (k := 4) rfl rfl (by decide) rfl (fun ls hl => ?_)
  refine lv_goto (tgt := 5) hx hb dX6_hasNeighbourOf_49 (by decide) ?_
  exact hK5 h Z hS (lv_sub hl [2, 3, 4, 1, 0] rfl)
set_option maxRecDepth 20000 in
set_option maxHeartbeats 4000000 in
theorem b_X6_hasNeighbourOf_40 (B : wx_B p s m args meth c cX6_hasNeighbourOf 6 (some .boolean) wsX6_hasNeighbourOf RX6 D ad ca A)    {r : Int32} {σ : wx_St} {K5 : Int32 → Int32 → Int32 → Int32 → wx_St → Option Int32} (hK5 : ∀ {x1 : Int32} {x2 : Int32} {x3 : Int32} {x4 : Int32}   (h : K5 x1 x2 x3 x4 σ = some r) {H : Heap} {locs : List Loc} (Z : wx_Z D ad rd ca A σ H) (hS : va_S A s.heap H locs) {ls : Array Slot} (hl : lv_has ls 6 [(0, .ref (ad 16 99)), (1, .int x1), (2, .int x2), (3, .int x3), (4, .int x4)]), W p l e ({ frames := 4, cells := 0, slots := 0, locals := 86 } : Room) s m args below meth c H locs 0 0 (MQ below (wx_Q D ad rd ca A (some (.int r)) σ) args s 0 0 A) (F0 m 5 ls [])) {x1 : Int32} {x2 : Int32} {x3 : Int32} {x4 : Int32} {x5 : Int32}   (h : f_X6_hasNeighbourOf_40 K5 x1 x2 x3 x4 x5 σ = some r) {H : Heap} {locs : List Loc} (Z : wx_Z D ad rd ca A σ H) (hS : va_S A s.heap H locs) {ls : Array Slot} (hl : lv_has ls 6 [(0, .ref (ad 16 99)), (1, .int x1), (2, .int x2), (3, .int x3), (4, .int x4), (5, .int x5)]) : W p l e ({ frames := 4, cells := 0, slots := 0, locals := 86 } : Room) s m args below meth c H locs 0 0 (MQ below (wx_Q D ad rd ca A (some (.int r)) σ) args s 0 0 A) (F0 m 40 ls []) := by
  obtain ⟨hx, hb, hml, hr, hts, hown, hlk, hC, hA⟩ := id B
  unfold f_X6_hasNeighbourOf_40 at h
  refine lv_iconst (v := 1) hx hb dX6_hasNeighbourOf_40 (by decide) ?_
  refine lv_goto (tgt := 45) hx hb dX6_hasNeighbourOf_41 (by decide) ?_
  exact b_X6_hasNeighbourOf_45 B (K5 := K5) @hK5 h Z hS (lv_sub hl [0, 1, 2, 3, 4, 5] rfl)
set_option maxRecDepth 20000 in
set_option maxHeartbeats 4000000 in
theorem b_X6_hasNeighbourOf_44 (B : wx_B p s m args meth c cX6_hasNeighbourOf 6 (some .boolean) wsX6_hasNeighbourOf RX6 D ad ca A)    {r : Int32} {σ : wx_St} {K5 : Int32 → Int32 → Int32 → Int32 → wx_St → Option Int32} (hK5 : ∀ {x1 : Int32} {x2 : Int32} {x3 : Int32} {x4 : Int32}   (h : K5 x1 x2 x3 x4 σ = some r) {H : Heap} {locs : List Loc} (Z : wx_Z D ad rd ca A σ H) (hS : va_S A s.heap H locs) {ls : Array Slot} (hl : lv_has ls 6 [(0, .ref (ad 16 99)), (1, .int x1), (2, .int x2), (3, .int x3), (4, .int x4)]), W p l e ({ frames := 4, cells := 0, slots := 0, locals := 86 } : Room) s m args below meth c H locs 0 0 (MQ below (wx_Q D ad rd ca A (some (.int r)) σ) args s 0 0 A) (F0 m 5 ls [])) {x1 : Int32} {x2 : Int32} {x3 : Int32} {x4 : Int32} {x5 : Int32}   (h : f_X6_hasNeighbourOf_44 K5 x1 x2 x3 x4 x5 σ = some r) {H : Heap} {locs : List Loc} (Z : wx_Z D ad rd ca A σ H) (hS : va_S A s.heap H locs) {ls : Array Slot} (hl : lv_has ls 6 [(0, .ref (ad 16 99)), (1, .int x1), (2, .int x2), (3, .int x3), (4, .int x4), (5, .int x5)]) : W p l e ({ frames := 4, cells := 0, slots := 0, locals := 86 } : Room) s m args below meth c H locs 0 0 (MQ below (wx_Q D ad rd ca A (some (.int r)) σ) args s 0 0 A) (F0 m 44 ls []) := by
  obtain ⟨hx, hb, hml, hr, hts, hown, hlk, hC, hA⟩ := id B
  unfold f_X6_hasNeighbourOf_44 at h
  refine lv_iconst (v := 0) hx hb dX6_hasNeighbourOf_44 (by decide) ?_
  exact b_X6_hasNeighbourOf_45 B (K5 := K5) @hK5 h Z hS (lv_sub hl [0, 1, 2, 3, 4, 5] rfl)
set_option maxRecDepth 20000 in
set_option maxHeartbeats 4000000 in
theorem b_X6_hasNeighbourOf_5 (B : wx_B p s m args meth c cX6_hasNeighbourOf 6 (some .boolean) wsX6_hasNeighbourOf RX6 D ad ca A)    {r : Int32} {σ : wx_St}   :
    ∀ {n : Nat} {x1 : Int32} {x2 : Int32} {x3 : Int32} {x4 : Int32}   (h : f_X6_hasNeighbourOf_5 n x1 x2 x3 x4 σ = some r) {H : Heap} {locs : List Loc} (Z : wx_Z D ad rd ca A σ H) (hS : va_S A s.heap H locs) {ls : Array Slot} (hl : lv_has ls 6 [(0, .ref (ad 16 99)), (1, .int x1), (2, .int x2), (3, .int x3), (4, .int x4)]), W p l e ({ frames := 4, cells := 0, slots := 0, locals := 86 } : Room) s m args below meth c H locs 0 0 (MQ below (wx_Q D ad rd ca A (some (.int r)) σ) args s 0 0 A) (F0 m 5 ls []) := by
  obtain ⟨hx, hb, hml, hr, hts, hown, hlk, hC, hA⟩ := id B
  intro n
  induction n with
  | zero => intro x1 x2 x3 x4   h H locs Z hS ls hl; exact wx_no h
  | succ n ih =>
    intro x1 x2 x3 x4   h H locs Z hS ls hl
    rw [f_X6_hasNeighbourOf_5] at h
    refine lv_iload hx hb dX6_hasNeighbourOf_5 (lv_at hl 4 rfl) ?_
    refine lv_iconst (v := 4) hx hb dX6_hasNeighbourOf_7 (by decide) ?_
    refine lv_icmp_ge (tgt := 52) hx hb dX6_hasNeighbourOf_8 (by decide) (fun c8 => ?_) (fun c8 => ?_)
    · replace h := wx_ift c8 h
      refine lv_iload_n hx hb dX6_hasNeighbourOf_52 rfl (lv_at hl 3 rfl) ?_
      obtain ⟨hz, h⟩ := wx_z_ok h
      obtain rfl := Option.some.inj h
      exact W.zret hx hb hr (wx_nb hz) (fun t ht hW => ⟨rfl, by rw [ht]; exact Z, hS.F ht⟩) hS.2.2 dX6_hasNeighbourOf_53
    · replace h := wx_iff c8 h
      refine lv_iload_n hx hb dX6_hasNeighbourOf_11 rfl (lv_at hl 1 rfl) ?_
      refine lv_iload hx hb dX6_hasNeighbourOf_12 (lv_at hl 4 rfl) ?_
      obtain ⟨v14, hc14, h⟩ := wx_o_ok h
      refine wx_call (va_runS (As := [.int x1, .int x4]) (rest := []) ⟨hx, hb, hml, hown, hts⟩ (c_X6_neighbour l (D := D) (ad := ad) (rd := rd) (ca := ca) (A := A) (σ := σ) hc14) (va_cwS 2 hts gX6_hasNeighbourOf_X6_neighbour rfl rfl rfl (by decide +kernel) ⟨Nat.le_of_ble_eq_true rfl, Nat.le_of_ble_eq_true rfl⟩) (wx_preS hC Z hS hA) rfl rfl hl.1 rfl (lv_room (Nat.le_of_ble_eq_true rfl)) dX6_hasNeighbourOf_14 ⟨Nat.zero_le _, Nat.zero_le _⟩) hS (fun H locs Z hS => ?_)
      refine lv_istore (lv' := [(5, .int v14), (0, .ref (ad 16 99)), (1, .int x1), (2, .int x2), (3, .int x3), (4, .int x4)]) hx hb dX6_hasNeighbourOf_17 hl (by decide) rfl (fun ls hl => ?_)
      refine lv_iload_n hx hb dX6_hasNeighbourOf_19 rfl (lv_at hl 4 rfl) ?_
      refine lv_if_ne (tgt := 40) hx hb dX6_hasNeighbourOf_20 (by decide) (fun c20 => ?_) (fun c20 => ?_)
      · replace h := wx_iff c20 h
        exact b_X6_hasNeighbourOf_40 B (K5 := (f_X6_hasNeighbourOf_5 n)) @ih h Z hS (lv_sub hl [1, 2, 3, 4, 5, 0] rfl)
      · replace h := wx_ift c20 h
        refine lv_iload hx hb dX6_hasNeighbourOf_23 (lv_at hl 0 rfl) ?_
        refine lv_bipush (v := (-6)) hx hb dX6_hasNeighbourOf_25 (by decide) ?_
        refine lv_icmp_eq (tgt := 44) hx hb dX6_hasNeighbourOf_27 (by decide) (fun c27 => ?_) (fun c27 => ?_)
        · replace h := wx_ift c27 h
          exact b_X6_hasNeighbourOf_44 B (K5 := (f_X6_hasNeighbourOf_5 n)) @ih h Z hS (lv_sub hl [1, 2, 3, 4, 5, 0] rfl)
        · replace h := wx_iff c27 h
          refine lv_aload_n hx hb dX6_hasNeighbourOf_30 rfl (lv_at hl 1 rfl) ?_
          refine lv_iload hx hb dX6_hasNeighbourOf_31 (lv_at hl 0 rfl) ?_
          obtain ⟨v33, hc33, h⟩ := wx_o_ok h
          refine wx_call (va_runV (As := [.int v14]) (rest := []) ⟨hx, hb, hml, hown, hts⟩ (c_X6_netAt l (D := D) (ad := ad) (rd := rd) (ca := ca) (A := A) (σ := σ) hc33) (cwV 1 hts gX6_hasNeighbourOf_X6_netAt rfl rfl rfl (by decide +kernel) ⟨Nat.le_of_ble_eq_true rfl, Nat.le_of_ble_eq_true rfl⟩) (wx_preV hC Z hS hA rfl (rfl : vwCl[6]? = some (RX6, TX6, 25))) rfl rfl hl.1 rfl (lv_room (Nat.le_of_ble_eq_true rfl)) dX6_hasNeighbourOf_33 ⟨Nat.zero_le _, Nat.zero_le _⟩) hS (fun H locs Z hS => ?_)
          refine lv_iload_n hx hb dX6_hasNeighbourOf_36 rfl (lv_at hl 3 rfl) ?_
          refine lv_icmp_ne (tgt := 44) hx hb dX6_hasNeighbourOf_37 (by decide) (fun c37 => ?_) (fun c37 => ?_)
          · replace h := wx_iff c37 h
            exact b_X6_hasNeighbourOf_44 B (K5 := (f_X6_hasNeighbourOf_5 n)) @ih h Z hS (lv_sub hl [1, 2, 3, 4, 5, 0] rfl)
          · replace h := wx_ift c37 h
            exact b_X6_hasNeighbourOf_40 B (K5 := (f_X6_hasNeighbourOf_5 n)) @ih h Z hS (lv_sub hl [1, 2, 3, 4, 5, 0] rfl)
set_option maxRecDepth 20000 in
set_option maxHeartbeats 4000000 in
theorem b_X6_hasNeighbourOf_0 (B : wx_B p s m args meth c cX6_hasNeighbourOf 6 (some .boolean) wsX6_hasNeighbourOf RX6 D ad ca A)    {r : Int32} {σ : wx_St}  {x1 : Int32} {x2 : Int32}   (h : f_X6_hasNeighbourOf x1 x2 σ = some r) {H : Heap} {locs : List Loc} (Z : wx_Z D ad rd ca A σ H) (hS : va_S A s.heap H locs) {ls : Array Slot} (hl : lv_has ls 6 [(0, .ref (ad 16 99)), (1, .int x1), (2, .int x2)]) : W p l e ({ frames := 4, cells := 0, slots := 0, locals := 86 } : Room) s m args below meth c H locs 0 0 (MQ below (wx_Q D ad rd ca A (some (.int r)) σ) args s 0 0 A) (F0 m 0 ls []) := by
  obtain ⟨hx, hb, hml, hr, hts, hown, hlk, hC, hA⟩ := id B
  unfold f_X6_hasNeighbourOf at h
  refine lv_iconst (v := 0) hx hb dX6_hasNeighbourOf_0 (by decide) ?_
  refine lv_istore_n (lv' := [(3, .int 0), (0, .ref (ad 16 99)), (1, .int x1), (2, .int x2)]) hx hb dX6_hasNeighbourOf_1 rfl hl (by decide) rfl (fun ls hl => ?_)
  refine lv_iconst (v := 0) hx hb dX6_hasNeighbourOf_2 (by decide) ?_
  refine lv_istore (lv' := [(4, .int 0), (3, .int 0), (0, .ref (ad 16 99)), (1, .int x1), (2, .int x2)]) hx hb dX6_hasNeighbourOf_3 hl (by decide) rfl (fun ls hl => ?_)
  exact b_X6_hasNeighbourOf_5 B h Z hS (lv_sub hl [2, 3, 4, 1, 0] rfl)
set_option maxRecDepth 20000 in
theorem c_X6_hasNeighbourOf (l : Launch) {D : va_G} {ad : Nat → Nat → Nat} {rd : Nat → Nat} {ca : Nat → ClassId} {A : Nat → Prop} {σ : wx_St}    {x1 : Int32} {x2 : Int32} {r : Int32} (h : f_X6_hasNeighbourOf x1 x2 σ = some r) : wx_M l yX6_hasNeighbourOf wsX6_hasNeighbourOf 4 86 D ad rd ca A [.ref (ad 16 99), .int x1, .int x2] σ (some (.int r)) σ := by
  refine Met.ofW (cc := cX6_hasNeighbourOf) (maxL := 6) (ret := (some .boolean)) (by decide +kernel) rfl ?_
  intro p e s m args below meth c s₁ B0 hml hv
  obtain ⟨rfl, hC, Z, hA⟩ := hv
  have hl := lv_entry ([.ref (ad 16 99), .int x1, .int x2]) (n := 6) (Nat.le_of_ble_eq_true rfl)
  rw [lg_entry_eq]
  generalize (lg_sl ([.ref (ad 16 99), .int x1, .int x2]) ++ List.replicate (6 - (lg_sl ([.ref (ad 16 99), .int x1, .int x2])).length) Slot.unset).toArray = ls at hl ⊢
  exact b_X6_hasNeighbourOf_0 ⟨B0.exec, B0.bytes, hml, B0.returns, atoms_spec (ws := wsX6_hasNeighbourOf) B0.pre, findClass_of_methodNamed B0.named, B0.notSynchronized, hC, hA⟩   h Z va_S.rf hl
theorem i_X6_whyNotTouched_6 : ∀ w ∈ wsX60, w ∈ wsX6_whyNotTouched := by decide +kernel
theorem k_X6_whyNotTouched_w0 : Cond.fieldLink RX6 7 "WarmProbesModel" "state" "[I" ∈ wsX6_whyNotTouched := by decide +kernel
set_option maxRecDepth 20000 in
set_option maxHeartbeats 4000000 in
theorem b_X6_whyNotTouched_67 (B : wx_B p s m args meth c cX6_whyNotTouched 5 (some .int) wsX6_whyNotTouched RX6 D ad ca A)    {r : Int32} {σ : wx_St}  {x1 : Int32} {x2 : Int32} {x3 : Int32} {x4 : Int32}   (h : f_X6_whyNotTouched_67 x1 x2 x3 x4 σ = some r) {H : Heap} {locs : List Loc} (Z : wx_Z D ad rd ca A σ H) (hS : va_S A s.heap H locs) {ls : Array Slot} (hl : lv_has ls 5 [(0, .ref (ad 16 99)), (1, .int x1), (2, .int x2), (3, .int x3), (4, .int x4)]) : W p l e ({ frames := 5, cells := 0, slots := 0, locals := 111 } : Room) s m args below meth c H locs 0 0 (MQ below (wx_Q D ad rd ca A (some (.int r)) σ) args s 0 0 A) (F0 m 67 ls []) := by
  obtain ⟨hx, hb, hml, hr, hts, hown, hlk, hC, hA⟩ := id B
  unfold f_X6_whyNotTouched_67 at h
  refine lv_bipush (v := (-5)) hx hb dX6_whyNotTouched_67 (by decide) ?_
  obtain rfl := Option.some.inj h
  exact W.iret hx hb hr (fun t ht hW => ⟨rfl, by rw [ht]; exact Z, hS.F ht⟩) hS.2.2 dX6_whyNotTouched_69
set_option maxRecDepth 20000 in
set_option maxHeartbeats 4000000 in
theorem b_X6_whyNotTouched_86 (B : wx_B p s m args meth c cX6_whyNotTouched 5 (some .int) wsX6_whyNotTouched RX6 D ad ca A)    {r : Int32} {σ : wx_St}  {x1 : Int32} {x2 : Int32} {x3 : Int32} {x4 : Int32} {y0 : Int32}   (h : f_X6_whyNotTouched_86 x1 x2 x3 x4 y0 σ = some r) {H : Heap} {locs : List Loc} (Z : wx_Z D ad rd ca A σ H) (hS : va_S A s.heap H locs) {ls : Array Slot} (hl : lv_has ls 5 [(0, .ref (ad 16 99)), (1, .int x1), (2, .int x2), (3, .int x3), (4, .int x4)]) : W p l e ({ frames := 5, cells := 0, slots := 0, locals := 111 } : Room) s m args below meth c H locs 0 0 (MQ below (wx_Q D ad rd ca A (some (.int r)) σ) args s 0 0 A) (F0 m 86 ls [.int y0]) := by
  obtain ⟨hx, hb, hml, hr, hts, hown, hlk, hC, hA⟩ := id B
  unfold f_X6_whyNotTouched_86 at h
  obtain rfl := Option.some.inj h
  exact W.iret hx hb hr (fun t ht hW => ⟨rfl, by rw [ht]; exact Z, hS.F ht⟩) hS.2.2 dX6_whyNotTouched_86
set_option maxRecDepth 20000 in
set_option maxHeartbeats 4000000 in
theorem b_X6_whyNotTouched_0 (B : wx_B p s m args meth c cX6_whyNotTouched 5 (some .int) wsX6_whyNotTouched RX6 D ad ca A)    {r : Int32} {σ : wx_St}  {x1 : Int32} {x2 : Int32} {x3 : Int32}   (h : f_X6_whyNotTouched x1 x2 x3 σ = some r) {H : Heap} {locs : List Loc} (Z : wx_Z D ad rd ca A σ H) (hS : va_S A s.heap H locs) {ls : Array Slot} (hl : lv_has ls 5 [(0, .ref (ad 16 99)), (1, .int x1), (2, .int x2), (3, .int x3)]) : W p l e ({ frames := 5, cells := 0, slots := 0, locals := 111 } : Room) s m args below meth c H locs 0 0 (MQ below (wx_Q D ad rd ca A (some (.int r)) σ) args s 0 0 A) (F0 m 0 ls []) := by
  obtain ⟨hx, hb, hml, hr, hts, hown, hlk, hC, hA⟩ := id B
  unfold f_X6_whyNotTouched at h
  refine lv_iload_n hx hb dX6_whyNotTouched_0 rfl (lv_at hl 1 rfl) ?_
  refine lv_iload_n hx hb dX6_whyNotTouched_1 rfl (lv_at hl 2 rfl) ?_
  obtain ⟨v2, hc2, h⟩ := wx_o_ok h
  refine wx_call (va_runS (As := [.int x1, .int x2]) (rest := []) ⟨hx, hb, hml, hown, hts⟩ (c_X6_isPlace l (D := D) (ad := ad) (rd := rd) (ca := ca) (A := A) (σ := σ) hc2) (va_cwS 2 hts gX6_whyNotTouched_X6_isPlace rfl rfl rfl (by decide +kernel) ⟨Nat.le_of_ble_eq_true rfl, Nat.le_of_ble_eq_true rfl⟩) (wx_preS hC Z hS hA) rfl rfl hl.1 rfl (lv_room (Nat.le_of_ble_eq_true rfl)) dX6_whyNotTouched_2 ⟨Nat.zero_le _, Nat.zero_le _⟩) hS (fun H locs Z hS => ?_)
  refine lv_if_ne (tgt := 10) hx hb dX6_whyNotTouched_5 (by decide) (fun c5 => ?_) (fun c5 => ?_)
  · replace h := wx_iff c5 h
    refine lv_iload_n hx hb dX6_whyNotTouched_10 rfl (lv_at hl 3 rfl) ?_
    obtain ⟨v11, hc11, h⟩ := wx_o_ok h
    refine wx_call (va_runS (As := [.int x3]) (rest := []) ⟨hx, hb, hml, hown, hts⟩ (c_X6_isNet l (D := D) (ad := ad) (rd := rd) (ca := ca) (A := A) (σ := σ) hc11) (va_cwS 1 hts gX6_whyNotTouched_X6_isNet rfl rfl rfl (by decide +kernel) ⟨Nat.le_of_ble_eq_true rfl, Nat.le_of_ble_eq_true rfl⟩) (wx_preS hC Z hS hA) rfl rfl hl.1 rfl (lv_room (Nat.le_of_ble_eq_true rfl)) dX6_whyNotTouched_11 ⟨Nat.zero_le _, Nat.zero_le _⟩) hS (fun H locs Z hS => ?_)
    refine lv_if_ne (tgt := 20) hx hb dX6_whyNotTouched_14 (by decide) (fun c14 => ?_) (fun c14 => ?_)
    · replace h := wx_iff c14 h
      refine lv_iload_n hx hb dX6_whyNotTouched_20 rfl (lv_at hl 1 rfl) ?_
      refine lv_iload_n hx hb dX6_whyNotTouched_21 rfl (lv_at hl 2 rfl) ?_
      obtain ⟨v22, hc22, h⟩ := wx_o_ok h
      refine wx_call (va_runS (As := [.int x1, .int x2]) (rest := []) ⟨hx, hb, hml, hown, hts⟩ (c_X6_placeOf l (D := D) (ad := ad) (rd := rd) (ca := ca) (A := A) (σ := σ) hc22) (va_cwS 2 hts gX6_whyNotTouched_X6_placeOf rfl rfl rfl (by decide +kernel) ⟨Nat.le_of_ble_eq_true rfl, Nat.le_of_ble_eq_true rfl⟩) (wx_preS hC Z hS hA) rfl rfl hl.1 rfl (lv_room (Nat.le_of_ble_eq_true rfl)) dX6_whyNotTouched_22 ⟨Nat.zero_le _, Nat.zero_le _⟩) hS (fun H locs Z hS => ?_)
      refine lv_istore (lv' := [(4, .int v22), (0, .ref (ad 16 99)), (1, .int x1), (2, .int x2), (3, .int x3)]) hx hb dX6_whyNotTouched_25 hl (by decide) rfl (fun ls hl => ?_)
      refine lv_aload_n hx hb dX6_whyNotTouched_27 rfl (lv_at hl 1 rfl) ?_
      refine lv_iload hx hb dX6_whyNotTouched_28 (lv_at hl 0 rfl) ?_
      obtain ⟨v30, hc30, h⟩ := wx_o_ok h
      refine wx_call (va_runV (As := [.int v22]) (rest := []) ⟨hx, hb, hml, hown, hts⟩ (c_X6_netAt l (D := D) (ad := ad) (rd := rd) (ca := ca) (A := A) (σ := σ) hc30) (cwV 1 hts gX6_whyNotTouched_X6_netAt rfl rfl rfl (by decide +kernel) ⟨Nat.le_of_ble_eq_true rfl, Nat.le_of_ble_eq_true rfl⟩) (wx_preV hC Z hS hA rfl (rfl : vwCl[6]? = some (RX6, TX6, 25))) rfl rfl hl.1 rfl (lv_room (Nat.le_of_ble_eq_true rfl)) dX6_whyNotTouched_30 ⟨Nat.zero_le _, Nat.zero_le _⟩) hS (fun H locs Z hS => ?_)
      refine lv_if_eq (tgt := 67) hx hb dX6_whyNotTouched_33 (by decide) (fun c33 => ?_) (fun c33 => ?_)
      · replace h := wx_ift c33 h
        exact b_X6_whyNotTouched_67 B h Z hS (lv_sub hl [1, 2, 3, 4, 0] rfl)
      · replace h := wx_iff c33 h
        refine lv_aload_n hx hb dX6_whyNotTouched_36 rfl (lv_at hl 1 rfl) ?_
        refine lv_iload hx hb dX6_whyNotTouched_37 (lv_at hl 0 rfl) ?_
        obtain ⟨v39, hc39, h⟩ := wx_o_ok h
        refine wx_call (va_runV (As := [.int v22]) (rest := []) ⟨hx, hb, hml, hown, hts⟩ (c_X6_netAt l (D := D) (ad := ad) (rd := rd) (ca := ca) (A := A) (σ := σ) hc39) (cwV 1 hts gX6_whyNotTouched_X6_netAt rfl rfl rfl (by decide +kernel) ⟨Nat.le_of_ble_eq_true rfl, Nat.le_of_ble_eq_true rfl⟩) (wx_preV hC Z hS hA rfl (rfl : vwCl[6]? = some (RX6, TX6, 25))) rfl rfl hl.1 rfl (lv_room (Nat.le_of_ble_eq_true rfl)) dX6_whyNotTouched_39 ⟨Nat.zero_le _, Nat.zero_le _⟩) hS (fun H locs Z hS => ?_)
        refine lv_iload_n hx hb dX6_whyNotTouched_42 rfl (lv_at hl 4 rfl) ?_
        refine lv_icmp_eq (tgt := 67) hx hb dX6_whyNotTouched_43 (by decide) (fun c43 => ?_) (fun c43 => ?_)
        · replace h := wx_ift c43 h
          exact b_X6_whyNotTouched_67 B h Z hS (lv_sub hl [1, 2, 3, 4, 0] rfl)
        · replace h := wx_iff c43 h
          refine lv_aload_n hx hb dX6_whyNotTouched_46 rfl (lv_at hl 1 rfl) ?_
          refine lv_iload hx hb dX6_whyNotTouched_47 (lv_at hl 0 rfl) ?_
          obtain ⟨v49, hc49, h⟩ := wx_o_ok h
          refine wx_call (va_runV (As := [.int v22]) (rest := []) ⟨hx, hb, hml, hown, hts⟩ (c_X6_touchAt l (D := D) (ad := ad) (rd := rd) (ca := ca) (A := A) (σ := σ) hc49) (cwV 1 hts gX6_whyNotTouched_X6_touchAt rfl rfl rfl (by decide +kernel) ⟨Nat.le_of_ble_eq_true rfl, Nat.le_of_ble_eq_true rfl⟩) (wx_preV hC Z hS hA rfl (rfl : vwCl[6]? = some (RX6, TX6, 25))) rfl rfl hl.1 rfl (lv_room (Nat.le_of_ble_eq_true rfl)) dX6_whyNotTouched_49 ⟨Nat.zero_le _, Nat.zero_le _⟩) hS (fun H locs Z hS => ?_)
          refine lv_bipush (v := (-6)) hx hb dX6_whyNotTouched_52 (by decide) ?_
          refine lv_icmp_ne (tgt := 67) hx hb dX6_whyNotTouched_54 (by decide) (fun c54 => ?_) (fun c54 => ?_)
          · replace h := wx_iff c54 h
            exact b_X6_whyNotTouched_67 B h Z hS (lv_sub hl [1, 2, 3, 4, 0] rfl)
          · replace h := wx_ift c54 h
            refine lv_aload_n hx hb dX6_whyNotTouched_57 rfl (lv_at hl 1 rfl) ?_
            refine lv_iload hx hb dX6_whyNotTouched_58 (lv_at hl 0 rfl) ?_
            refine lv_iload_n hx hb dX6_whyNotTouched_60 rfl (lv_at hl 4 rfl) ?_
            obtain ⟨v61, hc61, h⟩ := wx_o_ok h
            refine wx_call (va_runV (As := [.int v22, .int x3]) (rest := []) ⟨hx, hb, hml, hown, hts⟩ (c_X6_hasNeighbourOf l (D := D) (ad := ad) (rd := rd) (ca := ca) (A := A) (σ := σ) hc61) (cwV 2 hts gX6_whyNotTouched_X6_hasNeighbourOf rfl rfl rfl (by decide +kernel) ⟨Nat.le_of_ble_eq_true rfl, Nat.le_of_ble_eq_true rfl⟩) (wx_preV hC Z hS hA rfl (rfl : vwCl[6]? = some (RX6, TX6, 25))) rfl rfl hl.1 rfl (lv_room (Nat.le_of_ble_eq_true rfl)) dX6_whyNotTouched_61 ⟨Nat.zero_le _, Nat.zero_le _⟩) hS (fun H locs Z hS => ?_)
            refine lv_if_ne (tgt := 70) hx hb dX6_whyNotTouched_64 (by decide) (fun c64 => ?_) (fun c64 => ?_)
            · replace h := wx_iff c64 h
              refine lv_aload_n hx hb dX6_whyNotTouched_70 rfl (lv_at hl 1 rfl) ?_
              refine wx_get (own := RX6) hx hb hts i_X6_whyNotTouched_6 hown hC.1 Z (o := 16) (ci := 6) rfl (rfl : vwCl[6]? = some (RX6, TX6, 25)) 0 (by decide) (hts _ k_X6_whyNotTouched_w0) (fun _ h9 => h9) (f := 0) rfl rfl dX6_whyNotTouched_71 ?_
              refine lv_iconst (v := 5) hx hb dX6_whyNotTouched_74 (by decide) ?_
              obtain ⟨v75, ev75, iv75, h⟩ := wx_rI_ok h
              refine wx_iald hx hb hC.1 Z (o := 16) (k := 0) (n := 109) rfl rfl iv75 dX6_whyNotTouched_75 ev75 ?_
              refine lv_iconst (v := 3) hx hb dX6_whyNotTouched_76 (by decide) ?_
              refine lv_icmp_ne (tgt := 85) hx hb dX6_whyNotTouched_77 (by decide) (fun c77 => ?_) (fun c77 => ?_)
              · replace h := wx_iff c77 h
                refine lv_iconst (v := 0) hx hb dX6_whyNotTouched_85 (by decide) ?_
                exact b_X6_whyNotTouched_86 B h Z hS (lv_sub hl [1, 2, 3, 4, 0] rfl)
              · replace h := wx_ift c77 h
                refine lv_bipush (v := (-4)) hx hb dX6_whyNotTouched_80 (by decide) ?_
                refine lv_goto (tgt := 86) hx hb dX6_whyNotTouched_82 (by decide) ?_
                exact b_X6_whyNotTouched_86 B h Z hS (lv_sub hl [1, 2, 3, 4, 0] rfl)
            · replace h := wx_ift c64 h
              exact b_X6_whyNotTouched_67 B h Z hS (lv_sub hl [1, 2, 3, 4, 0] rfl)
    · replace h := wx_ift c14 h
      refine lv_bipush (v := (-2)) hx hb dX6_whyNotTouched_17 (by decide) ?_
      obtain rfl := Option.some.inj h
      exact W.iret hx hb hr (fun t ht hW => ⟨rfl, by rw [ht]; exact Z, hS.F ht⟩) hS.2.2 dX6_whyNotTouched_19
  · replace h := wx_ift c5 h
    refine lv_iconst (v := (-1)) hx hb dX6_whyNotTouched_8 (by decide) ?_
    obtain rfl := Option.some.inj h
    exact W.iret hx hb hr (fun t ht hW => ⟨rfl, by rw [ht]; exact Z, hS.F ht⟩) hS.2.2 dX6_whyNotTouched_9
set_option maxRecDepth 20000 in
theorem c_X6_whyNotTouched (l : Launch) {D : va_G} {ad : Nat → Nat → Nat} {rd : Nat → Nat} {ca : Nat → ClassId} {A : Nat → Prop} {σ : wx_St}    {x1 : Int32} {x2 : Int32} {x3 : Int32} {r : Int32} (h : f_X6_whyNotTouched x1 x2 x3 σ = some r) : wx_M l yX6_whyNotTouched wsX6_whyNotTouched 5 111 D ad rd ca A [.ref (ad 16 99), .int x1, .int x2, .int x3] σ (some (.int r)) σ := by
  refine Met.ofW (cc := cX6_whyNotTouched) (maxL := 5) (ret := (some .int)) (by decide +kernel) rfl ?_
  intro p e s m args below meth c s₁ B0 hml hv
  obtain ⟨rfl, hC, Z, hA⟩ := hv
  have hl := lv_entry ([.ref (ad 16 99), .int x1, .int x2, .int x3]) (n := 5) (Nat.le_of_ble_eq_true rfl)
  rw [lg_entry_eq]
  generalize (lg_sl ([.ref (ad 16 99), .int x1, .int x2, .int x3]) ++ List.replicate (5 - (lg_sl ([.ref (ad 16 99), .int x1, .int x2, .int x3])).length) Slot.unset).toArray = ls at hl ⊢
  exact b_X6_whyNotTouched_0 ⟨B0.exec, B0.bytes, hml, B0.returns, atoms_spec (ws := wsX6_whyNotTouched) B0.pre, findClass_of_methodNamed B0.named, B0.notSynchronized, hC, hA⟩   h Z va_S.rf hl
set_option maxRecDepth 20000 in
set_option maxHeartbeats 4000000 in
theorem b_X6_whyNotTracked_119 (B : wx_B p s m args meth c cX6_whyNotTracked 9 (some .int) wsX6_whyNotTracked RX6 D ad ca A)    {r : Int32} {σ : wx_St} {K51 : Int32 → Int32 → Int32 → Int32 → Int32 → Int32 → wx_St → Option Int32} (hK51 : ∀ {x1 : Int32} {x2 : Int32} {x3 : Int32} {x4 : Int32} {x5 : Int32} {x6 : Int32}   (h : K51 x1 x2 x3 x4 x5 x6 σ = some r) {H : Heap} {locs : List Loc} (Z : wx_Z D ad rd ca A σ H) (hS : va_S A s.heap H locs) {ls : Array Slot} (hl : lv_has ls 9 [(0, .ref (ad 16 99)), (1, .int x1), (2, .int x2), (3, .int x3), (4, .int x4), (5, .int x5), (6, .int x6)]), W p l e ({ frames := 4, cells := 0, slots := 0, locals := 86 } : Room) s m args below meth c H locs 0 0 (MQ below (wx_Q D ad rd ca A (some (.int r)) σ) args s 0 0 A) (F0 m 51 ls [])) {x1 : Int32} {x2 : Int32} {x3 : Int32} {x4 : Int32} {x5 : Int32} {x6 : Int32} {x7 : Int32} {x8 : Int32} {y0 : Int32}   (h : f_X6_whyNotTracked_119 K51 x1 x2 x3 x4 x5 x6 x7 x8 y0 σ = some r) {H : Heap} {locs : List Loc} (Z : wx_Z D ad rd ca A σ H) (hS : va_S A s.heap H locs) {ls : Array Slot} (hl : lv_has ls 9 [(0, .ref (ad 16 99)), (1, .int x1), (2, .int x2), (3, .int x3), (4, .int x4), (5, .int x5), (6, .int x6), (7, .int x7), (8, .int x8)]) : W p l e ({ frames := 4, cells := 0, slots := 0, locals := 86 } : Room) s m args below meth c H locs 0 0 (MQ below (wx_Q D ad rd ca A (some (.int r)) σ) args s 0 0 A) (F0 m 119 ls [.int y0]) := by
  obtain ⟨hx, hb, hml, hr, hts, hown, hlk, hC, hA⟩ := id B
  unfold f_X6_whyNotTracked_119 at h
  refine lv_istore (lv' := [(5, .int y0), (0, .ref (ad 16 99)), (1, .int x1), (2, .int x2), (3, .int x3), (4, .int x4), (6, .int x6), (7, .int x7), (8, .int x8)]) hx hb dX6_whyNotTracked_119 hl (by decide) rfl (fun ls hl => ?_)
  refine lv_iinc (v := x6 + 1) (lv' := [(6, .int (x6 + 1)), (5, .int y0), (0, .ref (ad 16 99)), (1, .int x1), (2, .int x2), (3, .int x3), (4, .int x4), (7, .int x7), (8, .int x8)]) hx hb dX6_whyNotTracked_121 hl (k := 6) rfl rfl (by decide) rfl (fun ls hl => ?_)
  refine lv_goto (tgt := 51) hx hb dX6_whyNotTracked_124 (by decide) ?_
  exact hK51 h Z hS (lv_sub hl [2, 3, 4, 5, 6, 1, 0] rfl)
set_option maxRecDepth 20000 in
set_option maxHeartbeats 4000000 in
theorem b_X6_whyNotTracked_114 (B : wx_B p s m args meth c cX6_whyNotTracked 9 (some .int) wsX6_whyNotTracked RX6 D ad ca A)    {r : Int32} {σ : wx_St} {K51 : Int32 → Int32 → Int32 → Int32 → Int32 → Int32 → wx_St → Option Int32} (hK51 : ∀ {x1 : Int32} {x2 : Int32} {x3 : Int32} {x4 : Int32} {x5 : Int32} {x6 : Int32}   (h : K51 x1 x2 x3 x4 x5 x6 σ = some r) {H : Heap} {locs : List Loc} (Z : wx_Z D ad rd ca A σ H) (hS : va_S A s.heap H locs) {ls : Array Slot} (hl : lv_has ls 9 [(0, .ref (ad 16 99)), (1, .int x1), (2, .int x2), (3, .int x3), (4, .int x4), (5, .int x5), (6, .int x6)]), W p l e ({ frames := 4, cells := 0, slots := 0, locals := 86 } : Room) s m args below meth c H locs 0 0 (MQ below (wx_Q D ad rd ca A (some (.int r)) σ) args s 0 0 A) (F0 m 51 ls [])) {x1 : Int32} {x2 : Int32} {x3 : Int32} {x4 : Int32} {x5 : Int32} {x6 : Int32} {x7 : Int32} {x8 : Int32}   (h : f_X6_whyNotTracked_114 K51 x1 x2 x3 x4 x5 x6 x7 x8 σ = some r) {H : Heap} {locs : List Loc} (Z : wx_Z D ad rd ca A σ H) (hS : va_S A s.heap H locs) {ls : Array Slot} (hl : lv_has ls 9 [(0, .ref (ad 16 99)), (1, .int x1), (2, .int x2), (3, .int x3), (4, .int x4), (5, .int x5), (6, .int x6), (7, .int x7), (8, .int x8)]) : W p l e ({ frames := 4, cells := 0, slots := 0, locals := 86 } : Room) s m args below meth c H locs 0 0 (MQ below (wx_Q D ad rd ca A (some (.int r)) σ) args s 0 0 A) (F0 m 114 ls []) := by
  obtain ⟨hx, hb, hml, hr, hts, hown, hlk, hC, hA⟩ := id B
  unfold f_X6_whyNotTracked_114 at h
  refine lv_iconst (v := 1) hx hb dX6_whyNotTracked_114 (by decide) ?_
  refine lv_goto (tgt := 119) hx hb dX6_whyNotTracked_115 (by decide) ?_
  exact b_X6_whyNotTracked_119 B (K51 := K51) @hK51 h Z hS (lv_sub hl [0, 1, 2, 3, 4, 5, 6, 7, 8] rfl)
set_option maxRecDepth 20000 in
set_option maxHeartbeats 4000000 in
theorem b_X6_whyNotTracked_118 (B : wx_B p s m args meth c cX6_whyNotTracked 9 (some .int) wsX6_whyNotTracked RX6 D ad ca A)    {r : Int32} {σ : wx_St} {K51 : Int32 → Int32 → Int32 → Int32 → Int32 → Int32 → wx_St → Option Int32} (hK51 : ∀ {x1 : Int32} {x2 : Int32} {x3 : Int32} {x4 : Int32} {x5 : Int32} {x6 : Int32}   (h : K51 x1 x2 x3 x4 x5 x6 σ = some r) {H : Heap} {locs : List Loc} (Z : wx_Z D ad rd ca A σ H) (hS : va_S A s.heap H locs) {ls : Array Slot} (hl : lv_has ls 9 [(0, .ref (ad 16 99)), (1, .int x1), (2, .int x2), (3, .int x3), (4, .int x4), (5, .int x5), (6, .int x6)]), W p l e ({ frames := 4, cells := 0, slots := 0, locals := 86 } : Room) s m args below meth c H locs 0 0 (MQ below (wx_Q D ad rd ca A (some (.int r)) σ) args s 0 0 A) (F0 m 51 ls [])) {x1 : Int32} {x2 : Int32} {x3 : Int32} {x4 : Int32} {x5 : Int32} {x6 : Int32} {x7 : Int32} {x8 : Int32}   (h : f_X6_whyNotTracked_118 K51 x1 x2 x3 x4 x5 x6 x7 x8 σ = some r) {H : Heap} {locs : List Loc} (Z : wx_Z D ad rd ca A σ H) (hS : va_S A s.heap H locs) {ls : Array Slot} (hl : lv_has ls 9 [(0, .ref (ad 16 99)), (1, .int x1), (2, .int x2), (3, .int x3), (4, .int x4), (5, .int x5), (6, .int x6), (7, .int x7), (8, .int x8)]) : W p l e ({ frames := 4, cells := 0, slots := 0, locals := 86 } : Room) s m args below meth c H locs 0 0 (MQ below (wx_Q D ad rd ca A (some (.int r)) σ) args s 0 0 A) (F0 m 118 ls []) := by
  obtain ⟨hx, hb, hml, hr, hts, hown, hlk, hC, hA⟩ := id B
  unfold f_X6_whyNotTracked_118 at h
  refine lv_iconst (v := 0) hx hb dX6_whyNotTracked_118 (by decide) ?_
  exact b_X6_whyNotTracked_119 B (K51 := K51) @hK51 h Z hS (lv_sub hl [0, 1, 2, 3, 4, 5, 6, 7, 8] rfl)
set_option maxRecDepth 20000 in
set_option maxHeartbeats 4000000 in
theorem b_X6_whyNotTracked_84 (B : wx_B p s m args meth c cX6_whyNotTracked 9 (some .int) wsX6_whyNotTracked RX6 D ad ca A)    {r : Int32} {σ : wx_St} {K51 : Int32 → Int32 → Int32 → Int32 → Int32 → Int32 → wx_St → Option Int32} (hK51 : ∀ {x1 : Int32} {x2 : Int32} {x3 : Int32} {x4 : Int32} {x5 : Int32} {x6 : Int32}   (h : K51 x1 x2 x3 x4 x5 x6 σ = some r) {H : Heap} {locs : List Loc} (Z : wx_Z D ad rd ca A σ H) (hS : va_S A s.heap H locs) {ls : Array Slot} (hl : lv_has ls 9 [(0, .ref (ad 16 99)), (1, .int x1), (2, .int x2), (3, .int x3), (4, .int x4), (5, .int x5), (6, .int x6)]), W p l e ({ frames := 4, cells := 0, slots := 0, locals := 86 } : Room) s m args below meth c H locs 0 0 (MQ below (wx_Q D ad rd ca A (some (.int r)) σ) args s 0 0 A) (F0 m 51 ls [])) {x1 : Int32} {x2 : Int32} {x3 : Int32} {x4 : Int32} {x5 : Int32} {x6 : Int32} {x7 : Int32} {y0 : Int32}   (h : f_X6_whyNotTracked_84 K51 x1 x2 x3 x4 x5 x6 x7 y0 σ = some r) {H : Heap} {locs : List Loc} (Z : wx_Z D ad rd ca A σ H) (hS : va_S A s.heap H locs) {ls : Array Slot} (hl : lv_has ls 9 [(0, .ref (ad 16 99)), (1, .int x1), (2, .int x2), (3, .int x3), (4, .int x4), (5, .int x5), (6, .int x6), (7, .int x7)]) : W p l e ({ frames := 4, cells := 0, slots := 0, locals := 86 } : Room) s m args below meth c H locs 0 0 (MQ below (wx_Q D ad rd ca A (some (.int r)) σ) args s 0 0 A) (F0 m 84 ls [.int y0]) := by
  obtain ⟨hx, hb, hml, hr, hts, hown, hlk, hC, hA⟩ := id B
  unfold f_X6_whyNotTracked_84 at h
  refine lv_istore (lv' := [(8, .int y0), (0, .ref (ad 16 99)), (1, .int x1), (2, .int x2), (3, .int x3), (4, .int x4), (5, .int x5), (6, .int x6), (7, .int x7)]) hx hb dX6_whyNotTracked_84 hl (by decide) rfl (fun ls hl => ?_)
  refine lv_iload hx hb dX6_whyNotTracked_86 (lv_at hl 6 rfl) ?_
  refine lv_if_ne (tgt := 114) hx hb dX6_whyNotTracked_88 (by decide) (fun c88 => ?_) (fun c88 => ?_)
  · replace h := wx_iff c88 h
    exact b_X6_whyNotTracked_114 B (K51 := K51) @hK51 h Z hS (lv_sub hl [1, 2, 3, 4, 5, 6, 7, 8, 0] rfl)
  · replace h := wx_ift c88 h
    refine lv_iload hx hb dX6_whyNotTracked_91 (lv_at hl 0 rfl) ?_
    refine lv_bipush (v := (-6)) hx hb dX6_whyNotTracked_93 (by decide) ?_
    refine lv_icmp_eq (tgt := 118) hx hb dX6_whyNotTracked_95 (by decide) (fun c95 => ?_) (fun c95 => ?_)
    · replace h := wx_ift c95 h
      exact b_X6_whyNotTracked_118 B (K51 := K51) @hK51 h Z hS (lv_sub hl [1, 2, 3, 4, 5, 6, 7, 8, 0] rfl)
    · replace h := wx_iff c95 h
      refine lv_aload_n hx hb dX6_whyNotTracked_98 rfl (lv_at hl 1 rfl) ?_
      refine lv_iload hx hb dX6_whyNotTracked_99 (lv_at hl 0 rfl) ?_
      refine lv_iconst (v := 1) hx hb dX6_whyNotTracked_101 (by decide) ?_
      obtain ⟨v102, hc102, h⟩ := wx_o_ok h
      refine wx_call (va_runV (As := [.int y0, .int 1]) (rest := []) ⟨hx, hb, hml, hown, hts⟩ (c_X6_touchPart l (D := D) (ad := ad) (rd := rd) (ca := ca) (A := A) (σ := σ) hc102) (cwV 2 hts gX6_whyNotTracked_X6_touchPart rfl rfl rfl (by decide +kernel) ⟨Nat.le_of_ble_eq_true rfl, Nat.le_of_ble_eq_true rfl⟩) (wx_preV hC Z hS hA rfl (rfl : vwCl[6]? = some (RX6, TX6, 25))) rfl rfl hl.1 rfl (lv_room (Nat.le_of_ble_eq_true rfl)) dX6_whyNotTracked_102 ⟨Nat.zero_le _, Nat.zero_le _⟩) hS (fun H locs Z hS => ?_)
      refine lv_aload_n hx hb dX6_whyNotTracked_105 rfl (lv_at hl 1 rfl) ?_
      refine lv_iload hx hb dX6_whyNotTracked_106 (lv_at hl 5 rfl) ?_
      obtain ⟨v108, hc108, h⟩ := wx_o_ok h
      refine wx_call (va_runV (As := [.int x4]) (rest := [.int v102]) ⟨hx, hb, hml, hown, hts⟩ (c_X6_netAt l (D := D) (ad := ad) (rd := rd) (ca := ca) (A := A) (σ := σ) hc108) (cwV 1 hts gX6_whyNotTracked_X6_netAt rfl rfl rfl (by decide +kernel) ⟨Nat.le_of_ble_eq_true rfl, Nat.le_of_ble_eq_true rfl⟩) (wx_preV hC Z hS hA rfl (rfl : vwCl[6]? = some (RX6, TX6, 25))) rfl rfl hl.1 rfl (lv_room (Nat.le_of_ble_eq_true rfl)) dX6_whyNotTracked_108 ⟨Nat.zero_le _, Nat.zero_le _⟩) hS (fun H locs Z hS => ?_)
      refine lv_icmp_ne (tgt := 118) hx hb dX6_whyNotTracked_111 (by decide) (fun c111 => ?_) (fun c111 => ?_)
      · replace h := wx_iff c111 h
        exact b_X6_whyNotTracked_118 B (K51 := K51) @hK51 h Z hS (lv_sub hl [1, 2, 3, 4, 5, 6, 7, 8, 0] rfl)
      · replace h := wx_ift c111 h
        exact b_X6_whyNotTracked_114 B (K51 := K51) @hK51 h Z hS (lv_sub hl [1, 2, 3, 4, 5, 6, 7, 8, 0] rfl)
set_option maxRecDepth 20000 in
set_option maxHeartbeats 4000000 in
theorem b_X6_whyNotTracked_138 (B : wx_B p s m args meth c cX6_whyNotTracked 9 (some .int) wsX6_whyNotTracked RX6 D ad ca A)    {r : Int32} {σ : wx_St}  {x1 : Int32} {x2 : Int32} {x3 : Int32} {x4 : Int32} {x5 : Int32} {x6 : Int32} {y0 : Int32}   (h : f_X6_whyNotTracked_138 x1 x2 x3 x4 x5 x6 y0 σ = some r) {H : Heap} {locs : List Loc} (Z : wx_Z D ad rd ca A σ H) (hS : va_S A s.heap H locs) {ls : Array Slot} (hl : lv_has ls 9 [(0, .ref (ad 16 99)), (1, .int x1), (2, .int x2), (3, .int x3), (4, .int x4), (5, .int x5), (6, .int x6)]) : W p l e ({ frames := 4, cells := 0, slots := 0, locals := 86 } : Room) s m args below meth c H locs 0 0 (MQ below (wx_Q D ad rd ca A (some (.int r)) σ) args s 0 0 A) (F0 m 138 ls [.int y0]) := by
  obtain ⟨hx, hb, hml, hr, hts, hown, hlk, hC, hA⟩ := id B
  unfold f_X6_whyNotTracked_138 at h
  obtain rfl := Option.some.inj h
  exact W.iret hx hb hr (fun t ht hW => ⟨rfl, by rw [ht]; exact Z, hS.F ht⟩) hS.2.2 dX6_whyNotTracked_138
set_option maxRecDepth 20000 in
set_option maxHeartbeats 4000000 in
theorem b_X6_whyNotTracked_51 (B : wx_B p s m args meth c cX6_whyNotTracked 9 (some .int) wsX6_whyNotTracked RX6 D ad ca A)    {r : Int32} {σ : wx_St}   :
    ∀ {n : Nat} {x1 : Int32} {x2 : Int32} {x3 : Int32} {x4 : Int32} {x5 : Int32} {x6 : Int32}   (h : f_X6_whyNotTracked_51 n x1 x2 x3 x4 x5 x6 σ = some r) {H : Heap} {locs : List Loc} (Z : wx_Z D ad rd ca A σ H) (hS : va_S A s.heap H locs) {ls : Array Slot} (hl : lv_has ls 9 [(0, .ref (ad 16 99)), (1, .int x1), (2, .int x2), (3, .int x3), (4, .int x4), (5, .int x5), (6, .int x6)]), W p l e ({ frames := 4, cells := 0, slots := 0, locals := 86 } : Room) s m args below meth c H locs 0 0 (MQ below (wx_Q D ad rd ca A (some (.int r)) σ) args s 0 0 A) (F0 m 51 ls []) := by
  obtain ⟨hx, hb, hml, hr, hts, hown, hlk, hC, hA⟩ := id B
  intro n
  induction n with
  | zero => intro x1 x2 x3 x4 x5 x6   h H locs Z hS ls hl; exact wx_no h
  | succ n ih =>
    intro x1 x2 x3 x4 x5 x6   h H locs Z hS ls hl
    rw [f_X6_whyNotTracked_51] at h
    refine lv_iload hx hb dX6_whyNotTracked_51 (lv_at hl 6 rfl) ?_
    refine lv_iconst (v := 4) hx hb dX6_whyNotTracked_53 (by decide) ?_
    refine lv_icmp_ge (tgt := 127) hx hb dX6_whyNotTracked_54 (by decide) (fun c54 => ?_) (fun c54 => ?_)
    · replace h := wx_ift c54 h
      refine lv_iload hx hb dX6_whyNotTracked_127 (lv_at hl 5 rfl) ?_
      refine lv_if_eq (tgt := 137) hx hb dX6_whyNotTracked_129 (by decide) (fun c129 => ?_) (fun c129 => ?_)
      · replace h := wx_ift c129 h
        refine lv_iconst (v := 0) hx hb dX6_whyNotTracked_137 (by decide) ?_
        exact b_X6_whyNotTracked_138 B h Z hS (lv_sub hl [0, 1, 2, 3, 4, 5, 6] rfl)
      · replace h := wx_iff c129 h
        refine lv_bipush (v := (-5)) hx hb dX6_whyNotTracked_132 (by decide) ?_
        refine lv_goto (tgt := 138) hx hb dX6_whyNotTracked_134 (by decide) ?_
        exact b_X6_whyNotTracked_138 B h Z hS (lv_sub hl [0, 1, 2, 3, 4, 5, 6] rfl)
    · replace h := wx_iff c54 h
      refine lv_iload hx hb dX6_whyNotTracked_57 (lv_at hl 4 rfl) ?_
      refine lv_iload hx hb dX6_whyNotTracked_59 (lv_at hl 6 rfl) ?_
      obtain ⟨v61, hc61, h⟩ := wx_o_ok h
      refine wx_call (va_runS (As := [.int x4, .int x6]) (rest := []) ⟨hx, hb, hml, hown, hts⟩ (c_X6_neighbour l (D := D) (ad := ad) (rd := rd) (ca := ca) (A := A) (σ := σ) hc61) (va_cwS 2 hts gX6_whyNotTracked_X6_neighbour rfl rfl rfl (by decide +kernel) ⟨Nat.le_of_ble_eq_true rfl, Nat.le_of_ble_eq_true rfl⟩) (wx_preS hC Z hS hA) rfl rfl hl.1 rfl (lv_room (Nat.le_of_ble_eq_true rfl)) dX6_whyNotTracked_61 ⟨Nat.zero_le _, Nat.zero_le _⟩) hS (fun H locs Z hS => ?_)
      refine lv_istore (lv' := [(7, .int v61), (0, .ref (ad 16 99)), (1, .int x1), (2, .int x2), (3, .int x3), (4, .int x4), (5, .int x5), (6, .int x6)]) hx hb dX6_whyNotTracked_64 hl (by decide) rfl (fun ls hl => ?_)
      refine lv_iload hx hb dX6_whyNotTracked_66 (lv_at hl 0 rfl) ?_
      refine lv_bipush (v := (-6)) hx hb dX6_whyNotTracked_68 (by decide) ?_
      refine lv_icmp_ne (tgt := 78) hx hb dX6_whyNotTracked_70 (by decide) (fun c70 => ?_) (fun c70 => ?_)
      · replace h := wx_iff c70 h
        refine lv_aload_n hx hb dX6_whyNotTracked_78 rfl (lv_at hl 1 rfl) ?_
        refine lv_iload hx hb dX6_whyNotTracked_79 (lv_at hl 0 rfl) ?_
        obtain ⟨v81, hc81, h⟩ := wx_o_ok h
        refine wx_call (va_runV (As := [.int v61]) (rest := []) ⟨hx, hb, hml, hown, hts⟩ (c_X6_touchAt l (D := D) (ad := ad) (rd := rd) (ca := ca) (A := A) (σ := σ) hc81) (cwV 1 hts gX6_whyNotTracked_X6_touchAt rfl rfl rfl (by decide +kernel) ⟨Nat.le_of_ble_eq_true rfl, Nat.le_of_ble_eq_true rfl⟩) (wx_preV hC Z hS hA rfl (rfl : vwCl[6]? = some (RX6, TX6, 25))) rfl rfl hl.1 rfl (lv_room (Nat.le_of_ble_eq_true rfl)) dX6_whyNotTracked_81 ⟨Nat.zero_le _, Nat.zero_le _⟩) hS (fun H locs Z hS => ?_)
        exact b_X6_whyNotTracked_84 B (K51 := (f_X6_whyNotTracked_51 n)) @ih h Z hS (lv_sub hl [1, 2, 3, 4, 5, 6, 7, 0] rfl)
      · replace h := wx_ift c70 h
        refine lv_bipush (v := (-6)) hx hb dX6_whyNotTracked_73 (by decide) ?_
        refine lv_goto (tgt := 84) hx hb dX6_whyNotTracked_75 (by decide) ?_
        exact b_X6_whyNotTracked_84 B (K51 := (f_X6_whyNotTracked_51 n)) @ih h Z hS (lv_sub hl [1, 2, 3, 4, 5, 6, 7, 0] rfl)
set_option maxRecDepth 20000 in
set_option maxHeartbeats 4000000 in
theorem b_X6_whyNotTracked_46 (B : wx_B p s m args meth c cX6_whyNotTracked 9 (some .int) wsX6_whyNotTracked RX6 D ad ca A)    {r : Int32} {σ : wx_St}  {x1 : Int32} {x2 : Int32} {x3 : Int32} {x4 : Int32} {y0 : Int32}   (h : f_X6_whyNotTracked_46 x1 x2 x3 x4 y0 σ = some r) {H : Heap} {locs : List Loc} (Z : wx_Z D ad rd ca A σ H) (hS : va_S A s.heap H locs) {ls : Array Slot} (hl : lv_has ls 9 [(0, .ref (ad 16 99)), (1, .int x1), (2, .int x2), (3, .int x3), (4, .int x4)]) : W p l e ({ frames := 4, cells := 0, slots := 0, locals := 86 } : Room) s m args below meth c H locs 0 0 (MQ below (wx_Q D ad rd ca A (some (.int r)) σ) args s 0 0 A) (F0 m 46 ls [.int y0]) := by
  obtain ⟨hx, hb, hml, hr, hts, hown, hlk, hC, hA⟩ := id B
  unfold f_X6_whyNotTracked_46 at h
  refine lv_istore (lv' := [(5, .int y0), (0, .ref (ad 16 99)), (1, .int x1), (2, .int x2), (3, .int x3), (4, .int x4)]) hx hb dX6_whyNotTracked_46 hl (by decide) rfl (fun ls hl => ?_)
  refine lv_iconst (v := 0) hx hb dX6_whyNotTracked_48 (by decide) ?_
  refine lv_istore (lv' := [(6, .int 0), (5, .int y0), (0, .ref (ad 16 99)), (1, .int x1), (2, .int x2), (3, .int x3), (4, .int x4)]) hx hb dX6_whyNotTracked_49 hl (by decide) rfl (fun ls hl => ?_)
  exact b_X6_whyNotTracked_51 B h Z hS (lv_sub hl [2, 3, 4, 5, 6, 1, 0] rfl)
set_option maxRecDepth 20000 in
set_option maxHeartbeats 4000000 in
theorem b_X6_whyNotTracked_0 (B : wx_B p s m args meth c cX6_whyNotTracked 9 (some .int) wsX6_whyNotTracked RX6 D ad ca A)    {r : Int32} {σ : wx_St}  {x1 : Int32} {x2 : Int32} {x3 : Int32}   (h : f_X6_whyNotTracked x1 x2 x3 σ = some r) {H : Heap} {locs : List Loc} (Z : wx_Z D ad rd ca A σ H) (hS : va_S A s.heap H locs) {ls : Array Slot} (hl : lv_has ls 9 [(0, .ref (ad 16 99)), (1, .int x1), (2, .int x2), (3, .int x3)]) : W p l e ({ frames := 4, cells := 0, slots := 0, locals := 86 } : Room) s m args below meth c H locs 0 0 (MQ below (wx_Q D ad rd ca A (some (.int r)) σ) args s 0 0 A) (F0 m 0 ls []) := by
  obtain ⟨hx, hb, hml, hr, hts, hown, hlk, hC, hA⟩ := id B
  unfold f_X6_whyNotTracked at h
  refine lv_iload_n hx hb dX6_whyNotTracked_0 rfl (lv_at hl 1 rfl) ?_
  refine lv_iload_n hx hb dX6_whyNotTracked_1 rfl (lv_at hl 2 rfl) ?_
  obtain ⟨v2, hc2, h⟩ := wx_o_ok h
  refine wx_call (va_runS (As := [.int x1, .int x2]) (rest := []) ⟨hx, hb, hml, hown, hts⟩ (c_X6_isPlace l (D := D) (ad := ad) (rd := rd) (ca := ca) (A := A) (σ := σ) hc2) (va_cwS 2 hts gX6_whyNotTracked_X6_isPlace rfl rfl rfl (by decide +kernel) ⟨Nat.le_of_ble_eq_true rfl, Nat.le_of_ble_eq_true rfl⟩) (wx_preS hC Z hS hA) rfl rfl hl.1 rfl (lv_room (Nat.le_of_ble_eq_true rfl)) dX6_whyNotTracked_2 ⟨Nat.zero_le _, Nat.zero_le _⟩) hS (fun H locs Z hS => ?_)
  refine lv_if_ne (tgt := 10) hx hb dX6_whyNotTracked_5 (by decide) (fun c5 => ?_) (fun c5 => ?_)
  · replace h := wx_iff c5 h
    refine lv_iload_n hx hb dX6_whyNotTracked_10 rfl (lv_at hl 3 rfl) ?_
    refine lv_iconst (v := 0) hx hb dX6_whyNotTracked_11 (by decide) ?_
    refine lv_bipush (v := 7) hx hb dX6_whyNotTracked_12 (by decide) ?_
    obtain ⟨v14, hc14, h⟩ := wx_o_ok h
    refine wx_call (va_runS (As := [.int x3, .int 0, .int 7]) (rest := []) ⟨hx, hb, hml, hown, hts⟩ (c_X6_within l (D := D) (ad := ad) (rd := rd) (ca := ca) (A := A) (σ := σ) hc14) (va_cwS 3 hts gX6_whyNotTracked_X6_within rfl rfl rfl (by decide +kernel) ⟨Nat.le_of_ble_eq_true rfl, Nat.le_of_ble_eq_true rfl⟩) (wx_preS hC Z hS hA) rfl rfl hl.1 rfl (lv_room (Nat.le_of_ble_eq_true rfl)) dX6_whyNotTracked_14 ⟨Nat.zero_le _, Nat.zero_le _⟩) hS (fun H locs Z hS => ?_)
    refine lv_if_ne (tgt := 23) hx hb dX6_whyNotTracked_17 (by decide) (fun c17 => ?_) (fun c17 => ?_)
    · replace h := wx_iff c17 h
      refine lv_iload_n hx hb dX6_whyNotTracked_23 rfl (lv_at hl 1 rfl) ?_
      refine lv_iload_n hx hb dX6_whyNotTracked_24 rfl (lv_at hl 2 rfl) ?_
      obtain ⟨v25, hc25, h⟩ := wx_o_ok h
      refine wx_call (va_runS (As := [.int x1, .int x2]) (rest := []) ⟨hx, hb, hml, hown, hts⟩ (c_X6_placeOf l (D := D) (ad := ad) (rd := rd) (ca := ca) (A := A) (σ := σ) hc25) (va_cwS 2 hts gX6_whyNotTracked_X6_placeOf rfl rfl rfl (by decide +kernel) ⟨Nat.le_of_ble_eq_true rfl, Nat.le_of_ble_eq_true rfl⟩) (wx_preS hC Z hS hA) rfl rfl hl.1 rfl (lv_room (Nat.le_of_ble_eq_true rfl)) dX6_whyNotTracked_25 ⟨Nat.zero_le _, Nat.zero_le _⟩) hS (fun H locs Z hS => ?_)
      refine lv_istore (lv' := [(4, .int v25), (0, .ref (ad 16 99)), (1, .int x1), (2, .int x2), (3, .int x3)]) hx hb dX6_whyNotTracked_28 hl (by decide) rfl (fun ls hl => ?_)
      refine lv_aload_n hx hb dX6_whyNotTracked_30 rfl (lv_at hl 1 rfl) ?_
      refine lv_iload hx hb dX6_whyNotTracked_31 (lv_at hl 0 rfl) ?_
      obtain ⟨v33, hc33, h⟩ := wx_o_ok h
      refine wx_call (va_runV (As := [.int v25]) (rest := []) ⟨hx, hb, hml, hown, hts⟩ (c_X6_touchAt l (D := D) (ad := ad) (rd := rd) (ca := ca) (A := A) (σ := σ) hc33) (cwV 1 hts gX6_whyNotTracked_X6_touchAt rfl rfl rfl (by decide +kernel) ⟨Nat.le_of_ble_eq_true rfl, Nat.le_of_ble_eq_true rfl⟩) (wx_preV hC Z hS hA rfl (rfl : vwCl[6]? = some (RX6, TX6, 25))) rfl rfl hl.1 rfl (lv_room (Nat.le_of_ble_eq_true rfl)) dX6_whyNotTracked_33 ⟨Nat.zero_le _, Nat.zero_le _⟩) hS (fun H locs Z hS => ?_)
      refine lv_bipush (v := (-6)) hx hb dX6_whyNotTracked_36 (by decide) ?_
      refine lv_icmp_eq (tgt := 45) hx hb dX6_whyNotTracked_38 (by decide) (fun c38 => ?_) (fun c38 => ?_)
      · replace h := wx_ift c38 h
        refine lv_iconst (v := 0) hx hb dX6_whyNotTracked_45 (by decide) ?_
        exact b_X6_whyNotTracked_46 B h Z hS (lv_sub hl [1, 2, 3, 4, 0] rfl)
      · replace h := wx_iff c38 h
        refine lv_iconst (v := 1) hx hb dX6_whyNotTracked_41 (by decide) ?_
        refine lv_goto (tgt := 46) hx hb dX6_whyNotTracked_42 (by decide) ?_
        exact b_X6_whyNotTracked_46 B h Z hS (lv_sub hl [1, 2, 3, 4, 0] rfl)
    · replace h := wx_ift c17 h
      refine lv_bipush (v := (-2)) hx hb dX6_whyNotTracked_20 (by decide) ?_
      obtain rfl := Option.some.inj h
      exact W.iret hx hb hr (fun t ht hW => ⟨rfl, by rw [ht]; exact Z, hS.F ht⟩) hS.2.2 dX6_whyNotTracked_22
  · replace h := wx_ift c5 h
    refine lv_iconst (v := (-1)) hx hb dX6_whyNotTracked_8 (by decide) ?_
    obtain rfl := Option.some.inj h
    exact W.iret hx hb hr (fun t ht hW => ⟨rfl, by rw [ht]; exact Z, hS.F ht⟩) hS.2.2 dX6_whyNotTracked_9
set_option maxRecDepth 20000 in
theorem c_X6_whyNotTracked (l : Launch) {D : va_G} {ad : Nat → Nat → Nat} {rd : Nat → Nat} {ca : Nat → ClassId} {A : Nat → Prop} {σ : wx_St}    {x1 : Int32} {x2 : Int32} {x3 : Int32} {r : Int32} (h : f_X6_whyNotTracked x1 x2 x3 σ = some r) : wx_M l yX6_whyNotTracked wsX6_whyNotTracked 4 86 D ad rd ca A [.ref (ad 16 99), .int x1, .int x2, .int x3] σ (some (.int r)) σ := by
  refine Met.ofW (cc := cX6_whyNotTracked) (maxL := 9) (ret := (some .int)) (by decide +kernel) rfl ?_
  intro p e s m args below meth c s₁ B0 hml hv
  obtain ⟨rfl, hC, Z, hA⟩ := hv
  have hl := lv_entry ([.ref (ad 16 99), .int x1, .int x2, .int x3]) (n := 9) (Nat.le_of_ble_eq_true rfl)
  rw [lg_entry_eq]
  generalize (lg_sl ([.ref (ad 16 99), .int x1, .int x2, .int x3]) ++ List.replicate (9 - (lg_sl ([.ref (ad 16 99), .int x1, .int x2, .int x3])).length) Slot.unset).toArray = ls at hl ⊢
  exact b_X6_whyNotTracked_0 ⟨B0.exec, B0.bytes, hml, B0.returns, atoms_spec (ws := wsX6_whyNotTracked) B0.pre, findClass_of_methodNamed B0.named, B0.notSynchronized, hC, hA⟩   h Z va_S.rf hl
theorem i_X6_whyNotWarmed_6 : ∀ w ∈ wsX60, w ∈ wsX6_whyNotWarmed := by decide +kernel
theorem k_X6_whyNotWarmed_w0 : Cond.fieldLink RX6 7 "WarmProbesModel" "state" "[I" ∈ wsX6_whyNotWarmed := by decide +kernel
set_option maxRecDepth 20000 in
set_option maxHeartbeats 4000000 in
theorem b_X6_whyNotWarmed_34 (B : wx_B p s m args meth c cX6_whyNotWarmed 2 (some .int) wsX6_whyNotWarmed RX6 D ad ca A)    {r : Int32} {σ : wx_St}  {x1 : Int32} {y0 : Int32}   (h : f_X6_whyNotWarmed_34 x1 y0 σ = some r) {H : Heap} {locs : List Loc} (Z : wx_Z D ad rd ca A σ H) (hS : va_S A s.heap H locs) {ls : Array Slot} (hl : lv_has ls 2 [(0, .ref (ad 16 99)), (1, .int x1)]) : W p l e ({ frames := 1, cells := 0, slots := 0, locals := 22 } : Room) s m args below meth c H locs 0 0 (MQ below (wx_Q D ad rd ca A (some (.int r)) σ) args s 0 0 A) (F0 m 34 ls [.int y0]) := by
  obtain ⟨hx, hb, hml, hr, hts, hown, hlk, hC, hA⟩ := id B
  unfold f_X6_whyNotWarmed_34 at h
  obtain rfl := Option.some.inj h
  exact W.iret hx hb hr (fun t ht hW => ⟨rfl, by rw [ht]; exact Z, hS.F ht⟩) hS.2.2 dX6_whyNotWarmed_34
set_option maxRecDepth 20000 in
set_option maxHeartbeats 4000000 in
theorem b_X6_whyNotWarmed_0 (B : wx_B p s m args meth c cX6_whyNotWarmed 2 (some .int) wsX6_whyNotWarmed RX6 D ad ca A)    {r : Int32} {σ : wx_St}  {x1 : Int32}   (h : f_X6_whyNotWarmed x1 σ = some r) {H : Heap} {locs : List Loc} (Z : wx_Z D ad rd ca A σ H) (hS : va_S A s.heap H locs) {ls : Array Slot} (hl : lv_has ls 2 [(0, .ref (ad 16 99)), (1, .int x1)]) : W p l e ({ frames := 1, cells := 0, slots := 0, locals := 22 } : Room) s m args below meth c H locs 0 0 (MQ below (wx_Q D ad rd ca A (some (.int r)) σ) args s 0 0 A) (F0 m 0 ls []) := by
  obtain ⟨hx, hb, hml, hr, hts, hown, hlk, hC, hA⟩ := id B
  unfold f_X6_whyNotWarmed at h
  refine lv_iload_n hx hb dX6_whyNotWarmed_0 rfl (lv_at hl 1 rfl) ?_
  refine lv_iconst (v := 1) hx hb dX6_whyNotWarmed_1 (by decide) ?_
  refine lv_bipush (v := 50) hx hb dX6_whyNotWarmed_2 (by decide) ?_
  obtain ⟨v4, hc4, h⟩ := wx_o_ok h
  refine wx_call (va_runS (As := [.int x1, .int 1, .int 50]) (rest := []) ⟨hx, hb, hml, hown, hts⟩ (c_X6_within l (D := D) (ad := ad) (rd := rd) (ca := ca) (A := A) (σ := σ) hc4) (va_cwS 3 hts gX6_whyNotWarmed_X6_within rfl rfl rfl (by decide +kernel) ⟨Nat.le_of_ble_eq_true rfl, Nat.le_of_ble_eq_true rfl⟩) (wx_preS hC Z hS hA) rfl rfl hl.1 rfl (lv_room (Nat.le_of_ble_eq_true rfl)) dX6_whyNotWarmed_4 ⟨Nat.zero_le _, Nat.zero_le _⟩) hS (fun H locs Z hS => ?_)
  refine lv_if_ne (tgt := 15) hx hb dX6_whyNotWarmed_7 (by decide) (fun c7 => ?_) (fun c7 => ?_)
  · replace h := wx_iff c7 h
    refine lv_aload_n hx hb dX6_whyNotWarmed_15 rfl (lv_at hl 0 rfl) ?_
    refine wx_get (own := RX6) hx hb hts i_X6_whyNotWarmed_6 hown hC.1 Z (o := 16) (ci := 6) rfl (rfl : vwCl[6]? = some (RX6, TX6, 25)) 0 (by decide) (hts _ k_X6_whyNotWarmed_w0) (fun _ h9 => h9) (f := 0) rfl rfl dX6_whyNotWarmed_16 ?_
    refine lv_iconst (v := 4) hx hb dX6_whyNotWarmed_19 (by decide) ?_
    obtain ⟨v20, ev20, iv20, h⟩ := wx_rI_ok h
    refine wx_iald hx hb hC.1 Z (o := 16) (k := 0) (n := 109) rfl rfl iv20 dX6_whyNotWarmed_20 ev20 ?_
    refine lv_iload_n hx hb dX6_whyNotWarmed_21 rfl (lv_at hl 1 rfl) ?_
    refine lv_iadd hx hb dX6_whyNotWarmed_22 ?_
    refine lv_bipush (v := 100) hx hb dX6_whyNotWarmed_23 (by decide) ?_
    refine lv_icmp_le (tgt := 33) hx hb dX6_whyNotWarmed_25 (by decide) (fun c25 => ?_) (fun c25 => ?_)
    · replace h := wx_ift c25 h
      refine lv_iconst (v := 0) hx hb dX6_whyNotWarmed_33 (by decide) ?_
      exact b_X6_whyNotWarmed_34 B h Z hS (lv_sub hl [0, 1] rfl)
    · replace h := wx_iff c25 h
      refine lv_bipush (v := (-5)) hx hb dX6_whyNotWarmed_28 (by decide) ?_
      refine lv_goto (tgt := 34) hx hb dX6_whyNotWarmed_30 (by decide) ?_
      exact b_X6_whyNotWarmed_34 B h Z hS (lv_sub hl [0, 1] rfl)
  · replace h := wx_ift c7 h
    refine lv_bipush (v := (-2)) hx hb dX6_whyNotWarmed_10 (by decide) ?_
    refine lv_goto (tgt := 34) hx hb dX6_whyNotWarmed_12 (by decide) ?_
    exact b_X6_whyNotWarmed_34 B h Z hS (lv_sub hl [0, 1] rfl)
set_option maxRecDepth 20000 in
theorem c_X6_whyNotWarmed (l : Launch) {D : va_G} {ad : Nat → Nat → Nat} {rd : Nat → Nat} {ca : Nat → ClassId} {A : Nat → Prop} {σ : wx_St}    {x1 : Int32} {r : Int32} (h : f_X6_whyNotWarmed x1 σ = some r) : wx_M l yX6_whyNotWarmed wsX6_whyNotWarmed 1 22 D ad rd ca A [.ref (ad 16 99), .int x1] σ (some (.int r)) σ := by
  refine Met.ofW (cc := cX6_whyNotWarmed) (maxL := 2) (ret := (some .int)) (by decide +kernel) rfl ?_
  intro p e s m args below meth c s₁ B0 hml hv
  obtain ⟨rfl, hC, Z, hA⟩ := hv
  have hl := lv_entry ([.ref (ad 16 99), .int x1]) (n := 2) (Nat.le_of_ble_eq_true rfl)
  rw [lg_entry_eq]
  generalize (lg_sl ([.ref (ad 16 99), .int x1]) ++ List.replicate (2 - (lg_sl ([.ref (ad 16 99), .int x1])).length) Slot.unset).toArray = ls at hl ⊢
  exact b_X6_whyNotWarmed_0 ⟨B0.exec, B0.bytes, hml, B0.returns, atoms_spec (ws := wsX6_whyNotWarmed) B0.pre, findClass_of_methodNamed B0.named, B0.notSynchronized, hC, hA⟩   h Z va_S.rf hl
theorem i_X6_whyNotDone_6 : ∀ w ∈ wsX60, w ∈ wsX6_whyNotDone := by decide +kernel
theorem k_X6_whyNotDone_w0 : Cond.fieldLink RX6 274 "WarmProbesModel" "letter" "I" ∈ wsX6_whyNotDone := by decide +kernel
theorem k_X6_whyNotDone_w1 : Cond.fieldLink RX6 271 "WarmProbesModel" "one" "I" ∈ wsX6_whyNotDone := by decide +kernel
theorem k_X6_whyNotDone_w2 : Cond.fieldLink RX6 268 "WarmProbesModel" "two" "I" ∈ wsX6_whyNotDone := by decide +kernel
set_option maxRecDepth 20000 in
set_option maxHeartbeats 4000000 in
theorem b_X6_whyNotDone_106 (B : wx_B p s m args meth c cX6_whyNotDone 2 (some .int) wsX6_whyNotDone RX6 D ad ca A)    {r : Int32} {σ : wx_St}  {x1 : Int32} {y0 : Int32}   (h : f_X6_whyNotDone_106 x1 y0 σ = some r) {H : Heap} {locs : List Loc} (Z : wx_Z D ad rd ca A σ H) (hS : va_S A s.heap H locs) {ls : Array Slot} (hl : lv_has ls 2 [(0, .ref (ad 16 99)), (1, .int x1)]) : W p l e ({ frames := 6, cells := 0, slots := 0, locals := 135 } : Room) s m args below meth c H locs 0 0 (MQ below (wx_Q D ad rd ca A (some (.int r)) σ) args s 0 0 A) (F0 m 106 ls [.int y0]) := by
  obtain ⟨hx, hb, hml, hr, hts, hown, hlk, hC, hA⟩ := id B
  unfold f_X6_whyNotDone_106 at h
  obtain rfl := Option.some.inj h
  exact W.iret hx hb hr (fun t ht hW => ⟨rfl, by rw [ht]; exact Z, hS.F ht⟩) hS.2.2 dX6_whyNotDone_106
set_option maxRecDepth 20000 in
set_option maxHeartbeats 4000000 in
theorem b_X6_whyNotDone_0 (B : wx_B p s m args meth c cX6_whyNotDone 2 (some .int) wsX6_whyNotDone RX6 D ad ca A)    {r : Int32} {σ : wx_St}  {x1 : Int32}   (h : f_X6_whyNotDone x1 σ = some r) {H : Heap} {locs : List Loc} (Z : wx_Z D ad rd ca A σ H) (hS : va_S A s.heap H locs) {ls : Array Slot} (hl : lv_has ls 2 [(0, .ref (ad 16 99)), (1, .int x1)]) : W p l e ({ frames := 6, cells := 0, slots := 0, locals := 135 } : Room) s m args below meth c H locs 0 0 (MQ below (wx_Q D ad rd ca A (some (.int r)) σ) args s 0 0 A) (F0 m 0 ls []) := by
  obtain ⟨hx, hb, hml, hr, hts, hown, hlk, hC, hA⟩ := id B
  unfold f_X6_whyNotDone at h
  refine lv_aload_n hx hb dX6_whyNotDone_0 rfl (lv_at hl 0 rfl) ?_
  refine wx_get (own := RX6) hx hb hts i_X6_whyNotDone_6 hown hC.1 Z (o := 16) (ci := 6) rfl (rfl : vwCl[6]? = some (RX6, TX6, 25)) 21 (by decide) (hts _ k_X6_whyNotDone_w0) (fun _ h9 => h9) (f := 1) rfl rfl dX6_whyNotDone_1 ?_
  by_cases c4_0 : (σ.2.2.1 16 21) = 102
  · replace h := wx_ift c4_0 h
    refine lv_lookup (off := 66) (tgt := 70) hx hb dX6_whyNotDone_4 (by decide) (by rw [c4_0]; decide) (by decide) ?_
    refine lv_aload_n hx hb dX6_whyNotDone_70 rfl (lv_at hl 0 rfl) ?_
    refine wx_get (own := RX6) hx hb hts i_X6_whyNotDone_6 hown hC.1 Z (o := 16) (ci := 6) rfl (rfl : vwCl[6]? = some (RX6, TX6, 25)) 22 (by decide) (hts _ k_X6_whyNotDone_w1) (fun _ h9 => h9) (f := 1) rfl rfl dX6_whyNotDone_71 ?_
    refine lv_iload_n hx hb dX6_whyNotDone_74 rfl (lv_at hl 1 rfl) ?_
    obtain ⟨v75, hc75, h⟩ := wx_o_ok h
    refine wx_call (va_runS (As := [.int (σ.2.2.1 16 22), .int x1]) (rest := []) ⟨hx, hb, hml, hown, hts⟩ (c_X6_whyNotFed l (D := D) (ad := ad) (rd := rd) (ca := ca) (A := A) (σ := σ) hc75) (va_cwS 2 hts gX6_whyNotDone_X6_whyNotFed rfl rfl rfl (by decide +kernel) ⟨Nat.le_of_ble_eq_true rfl, Nat.le_of_ble_eq_true rfl⟩) (wx_preS hC Z hS hA) rfl rfl hl.1 rfl (lv_room (Nat.le_of_ble_eq_true rfl)) dX6_whyNotDone_75 ⟨Nat.zero_le _, Nat.zero_le _⟩) hS (fun H locs Z hS => ?_)
    obtain rfl := Option.some.inj h
    exact W.iret hx hb hr (fun t ht hW => ⟨rfl, by rw [ht]; exact Z, hS.F ht⟩) hS.2.2 dX6_whyNotDone_78
  · replace h := wx_iff c4_0 h
    by_cases c4_1 : (σ.2.2.1 16 21) = 109
    · replace h := wx_ift c4_1 h
      refine lv_lookup (off := 89) (tgt := 93) hx hb dX6_whyNotDone_4 (by decide) (by rw [c4_1]; decide) (by decide) ?_
      refine lv_aload_n hx hb dX6_whyNotDone_93 rfl (lv_at hl 0 rfl) ?_
      refine lv_iload_n hx hb dX6_whyNotDone_94 rfl (lv_at hl 1 rfl) ?_
      obtain ⟨v95, hc95, h⟩ := wx_o_ok h
      refine wx_call (va_runV (As := [.int x1]) (rest := []) ⟨hx, hb, hml, hown, hts⟩ (c_X6_isTouch l (D := D) (ad := ad) (rd := rd) (ca := ca) (A := A) (σ := σ) hc95) (cwV 1 hts gX6_whyNotDone_X6_isTouch rfl rfl rfl (by decide +kernel) ⟨Nat.le_of_ble_eq_true rfl, Nat.le_of_ble_eq_true rfl⟩) (wx_preV hC Z hS hA rfl (rfl : vwCl[6]? = some (RX6, TX6, 25))) rfl rfl hl.1 rfl (lv_room (Nat.le_of_ble_eq_true rfl)) dX6_whyNotDone_95 ⟨Nat.zero_le _, Nat.zero_le _⟩) hS (fun H locs Z hS => ?_)
      refine lv_if_eq (tgt := 105) hx hb dX6_whyNotDone_98 (by decide) (fun c98 => ?_) (fun c98 => ?_)
      · replace h := wx_ift c98 h
        refine lv_iconst (v := (-1)) hx hb dX6_whyNotDone_105 (by decide) ?_
        exact b_X6_whyNotDone_106 B h Z hS (lv_sub hl [0, 1] rfl)
      · replace h := wx_iff c98 h
        refine lv_iconst (v := 0) hx hb dX6_whyNotDone_101 (by decide) ?_
        refine lv_goto (tgt := 106) hx hb dX6_whyNotDone_102 (by decide) ?_
        exact b_X6_whyNotDone_106 B h Z hS (lv_sub hl [0, 1] rfl)
    · replace h := wx_iff c4_1 h
      by_cases c4_2 : (σ.2.2.1 16 21) = 115
      · replace h := wx_ift c4_2 h
        refine lv_lookup (off := 75) (tgt := 79) hx hb dX6_whyNotDone_4 (by decide) (by rw [c4_2]; decide) (by decide) ?_
        refine lv_aload_n hx hb dX6_whyNotDone_79 rfl (lv_at hl 0 rfl) ?_
        refine lv_aload_n hx hb dX6_whyNotDone_80 rfl (lv_at hl 0 rfl) ?_
        refine wx_get (own := RX6) hx hb hts i_X6_whyNotDone_6 hown hC.1 Z (o := 16) (ci := 6) rfl (rfl : vwCl[6]? = some (RX6, TX6, 25)) 22 (by decide) (hts _ k_X6_whyNotDone_w1) (fun _ h9 => h9) (f := 1) rfl rfl dX6_whyNotDone_81 ?_
        refine lv_aload_n hx hb dX6_whyNotDone_84 rfl (lv_at hl 0 rfl) ?_
        refine wx_get (own := RX6) hx hb hts i_X6_whyNotDone_6 hown hC.1 Z (o := 16) (ci := 6) rfl (rfl : vwCl[6]? = some (RX6, TX6, 25)) 23 (by decide) (hts _ k_X6_whyNotDone_w2) (fun _ h9 => h9) (f := 1) rfl rfl dX6_whyNotDone_85 ?_
        refine lv_iload_n hx hb dX6_whyNotDone_88 rfl (lv_at hl 1 rfl) ?_
        obtain ⟨v89, hc89, h⟩ := wx_o_ok h
        refine wx_call (va_runV (As := [.int (σ.2.2.1 16 22), .int (σ.2.2.1 16 23), .int x1]) (rest := []) ⟨hx, hb, hml, hown, hts⟩ (c_X6_whyNotTouched l (D := D) (ad := ad) (rd := rd) (ca := ca) (A := A) (σ := σ) hc89) (cwV 3 hts gX6_whyNotDone_X6_whyNotTouched rfl rfl rfl (by decide +kernel) ⟨Nat.le_of_ble_eq_true rfl, Nat.le_of_ble_eq_true rfl⟩) (wx_preV hC Z hS hA rfl (rfl : vwCl[6]? = some (RX6, TX6, 25))) rfl rfl hl.1 rfl (lv_room (Nat.le_of_ble_eq_true rfl)) dX6_whyNotDone_89 ⟨Nat.zero_le _, Nat.zero_le _⟩) hS (fun H locs Z hS => ?_)
        obtain rfl := Option.some.inj h
        exact W.iret hx hb hr (fun t ht hW => ⟨rfl, by rw [ht]; exact Z, hS.F ht⟩) hS.2.2 dX6_whyNotDone_92
      · replace h := wx_iff c4_2 h
        by_cases c4_3 : (σ.2.2.1 16 21) = 116
        · replace h := wx_ift c4_3 h
          refine lv_lookup (off := 52) (tgt := 56) hx hb dX6_whyNotDone_4 (by decide) (by rw [c4_3]; decide) (by decide) ?_
          refine lv_aload_n hx hb dX6_whyNotDone_56 rfl (lv_at hl 0 rfl) ?_
          refine lv_aload_n hx hb dX6_whyNotDone_57 rfl (lv_at hl 0 rfl) ?_
          refine wx_get (own := RX6) hx hb hts i_X6_whyNotDone_6 hown hC.1 Z (o := 16) (ci := 6) rfl (rfl : vwCl[6]? = some (RX6, TX6, 25)) 22 (by decide) (hts _ k_X6_whyNotDone_w1) (fun _ h9 => h9) (f := 1) rfl rfl dX6_whyNotDone_58 ?_
          refine lv_aload_n hx hb dX6_whyNotDone_61 rfl (lv_at hl 0 rfl) ?_
          refine wx_get (own := RX6) hx hb hts i_X6_whyNotDone_6 hown hC.1 Z (o := 16) (ci := 6) rfl (rfl : vwCl[6]? = some (RX6, TX6, 25)) 23 (by decide) (hts _ k_X6_whyNotDone_w2) (fun _ h9 => h9) (f := 1) rfl rfl dX6_whyNotDone_62 ?_
          refine lv_iload_n hx hb dX6_whyNotDone_65 rfl (lv_at hl 1 rfl) ?_
          obtain ⟨v66, hc66, h⟩ := wx_o_ok h
          refine wx_call (va_runV (As := [.int (σ.2.2.1 16 22), .int (σ.2.2.1 16 23), .int x1]) (rest := []) ⟨hx, hb, hml, hown, hts⟩ (c_X6_whyNotTracked l (D := D) (ad := ad) (rd := rd) (ca := ca) (A := A) (σ := σ) hc66) (cwV 3 hts gX6_whyNotDone_X6_whyNotTracked rfl rfl rfl (by decide +kernel) ⟨Nat.le_of_ble_eq_true rfl, Nat.le_of_ble_eq_true rfl⟩) (wx_preV hC Z hS hA rfl (rfl : vwCl[6]? = some (RX6, TX6, 25))) rfl rfl hl.1 rfl (lv_room (Nat.le_of_ble_eq_true rfl)) dX6_whyNotDone_66 ⟨Nat.zero_le _, Nat.zero_le _⟩) hS (fun H locs Z hS => ?_)
          obtain rfl := Option.some.inj h
          exact W.iret hx hb hr (fun t ht hW => ⟨rfl, by rw [ht]; exact Z, hS.F ht⟩) hS.2.2 dX6_whyNotDone_69
        · replace h := wx_iff c4_3 h
          by_cases c4_4 : (σ.2.2.1 16 21) = 119
          · replace h := wx_ift c4_4 h
            refine lv_lookup (off := 103) (tgt := 107) hx hb dX6_whyNotDone_4 (by decide) (by rw [c4_4]; decide) (by decide) ?_
            refine lv_aload_n hx hb dX6_whyNotDone_107 rfl (lv_at hl 0 rfl) ?_
            refine lv_iload_n hx hb dX6_whyNotDone_108 rfl (lv_at hl 1 rfl) ?_
            obtain ⟨v109, hc109, h⟩ := wx_o_ok h
            refine wx_call (va_runV (As := [.int x1]) (rest := []) ⟨hx, hb, hml, hown, hts⟩ (c_X6_whyNotWarmed l (D := D) (ad := ad) (rd := rd) (ca := ca) (A := A) (σ := σ) hc109) (cwV 1 hts gX6_whyNotDone_X6_whyNotWarmed rfl rfl rfl (by decide +kernel) ⟨Nat.le_of_ble_eq_true rfl, Nat.le_of_ble_eq_true rfl⟩) (wx_preV hC Z hS hA rfl (rfl : vwCl[6]? = some (RX6, TX6, 25))) rfl rfl hl.1 rfl (lv_room (Nat.le_of_ble_eq_true rfl)) dX6_whyNotDone_109 ⟨Nat.zero_le _, Nat.zero_le _⟩) hS (fun H locs Z hS => ?_)
            obtain rfl := Option.some.inj h
            exact W.iret hx hb hr (fun t ht hW => ⟨rfl, by rw [ht]; exact Z, hS.F ht⟩) hS.2.2 dX6_whyNotDone_112
          · replace h := wx_iff c4_4 h
            refine lv_lookup (off := 109) (tgt := 113) hx hb dX6_whyNotDone_4 (by decide) (by have hz : ∀ v : Int32, ¬ (σ.2.2.1 16 21) = v → ¬ v.toInt = ((σ.2.2.1 16 21)).toInt := fun v h1 h2 => h1 (Int32.toInt_inj.mp h2.symm); simp [Op.lookupswitch.offset, show ¬ (102 : Int) = ((σ.2.2.1 16 21)).toInt from hz 102 c4_0, show ¬ (109 : Int) = ((σ.2.2.1 16 21)).toInt from hz 109 c4_1, show ¬ (115 : Int) = ((σ.2.2.1 16 21)).toInt from hz 115 c4_2, show ¬ (116 : Int) = ((σ.2.2.1 16 21)).toInt from hz 116 c4_3, show ¬ (119 : Int) = ((σ.2.2.1 16 21)).toInt from hz 119 c4_4]) (by decide) ?_
            refine lv_aload_n hx hb dX6_whyNotDone_113 rfl (lv_at hl 0 rfl) ?_
            refine lv_aload_n hx hb dX6_whyNotDone_114 rfl (lv_at hl 0 rfl) ?_
            refine wx_get (own := RX6) hx hb hts i_X6_whyNotDone_6 hown hC.1 Z (o := 16) (ci := 6) rfl (rfl : vwCl[6]? = some (RX6, TX6, 25)) 22 (by decide) (hts _ k_X6_whyNotDone_w1) (fun _ h9 => h9) (f := 1) rfl rfl dX6_whyNotDone_115 ?_
            refine lv_aload_n hx hb dX6_whyNotDone_118 rfl (lv_at hl 0 rfl) ?_
            refine wx_get (own := RX6) hx hb hts i_X6_whyNotDone_6 hown hC.1 Z (o := 16) (ci := 6) rfl (rfl : vwCl[6]? = some (RX6, TX6, 25)) 23 (by decide) (hts _ k_X6_whyNotDone_w2) (fun _ h9 => h9) (f := 1) rfl rfl dX6_whyNotDone_119 ?_
            obtain ⟨v122, hc122, h⟩ := wx_o_ok h
            refine wx_call (va_runV (As := [.int (σ.2.2.1 16 22), .int (σ.2.2.1 16 23)]) (rest := []) ⟨hx, hb, hml, hown, hts⟩ (c_X6_whyNotProbed l (D := D) (ad := ad) (rd := rd) (ca := ca) (A := A) (σ := σ) hc122) (cwV 2 hts gX6_whyNotDone_X6_whyNotProbed rfl rfl rfl (by decide +kernel) ⟨Nat.le_of_ble_eq_true rfl, Nat.le_of_ble_eq_true rfl⟩) (wx_preV hC Z hS hA rfl (rfl : vwCl[6]? = some (RX6, TX6, 25))) rfl rfl hl.1 rfl (lv_room (Nat.le_of_ble_eq_true rfl)) dX6_whyNotDone_122 ⟨Nat.zero_le _, Nat.zero_le _⟩) hS (fun H locs Z hS => ?_)
            obtain rfl := Option.some.inj h
            exact W.iret hx hb hr (fun t ht hW => ⟨rfl, by rw [ht]; exact Z, hS.F ht⟩) hS.2.2 dX6_whyNotDone_125
set_option maxRecDepth 20000 in
theorem c_X6_whyNotDone (l : Launch) {D : va_G} {ad : Nat → Nat → Nat} {rd : Nat → Nat} {ca : Nat → ClassId} {A : Nat → Prop} {σ : wx_St}    {x1 : Int32} {r : Int32} (h : f_X6_whyNotDone x1 σ = some r) : wx_M l yX6_whyNotDone wsX6_whyNotDone 6 135 D ad rd ca A [.ref (ad 16 99), .int x1] σ (some (.int r)) σ := by
  refine Met.ofW (cc := cX6_whyNotDone) (maxL := 2) (ret := (some .int)) (by decide +kernel) rfl ?_
  intro p e s m args below meth c s₁ B0 hml hv
  obtain ⟨rfl, hC, Z, hA⟩ := hv
  have hl := lv_entry ([.ref (ad 16 99), .int x1]) (n := 2) (Nat.le_of_ble_eq_true rfl)
  rw [lg_entry_eq]
  generalize (lg_sl ([.ref (ad 16 99), .int x1]) ++ List.replicate (2 - (lg_sl ([.ref (ad 16 99), .int x1])).length) Slot.unset).toArray = ls at hl ⊢
  exact b_X6_whyNotDone_0 ⟨B0.exec, B0.bytes, hml, B0.returns, atoms_spec (ws := wsX6_whyNotDone) B0.pre, findClass_of_methodNamed B0.named, B0.notSynchronized, hC, hA⟩   h Z va_S.rf hl
theorem i_X6_carryOut_6 : ∀ w ∈ wsX60, w ∈ wsX6_carryOut := by decide +kernel
theorem k_X6_carryOut_w0 : Cond.fieldLink RX6 249 "WarmProbesModel" "at" "I" ∈ wsX6_carryOut := by decide +kernel
theorem k_X6_carryOut_w1 : Cond.fieldLink RX6 223 "WarmProbesModel" "padLength" "I" ∈ wsX6_carryOut := by decide +kernel
theorem k_X6_carryOut_w2 : Cond.fieldLink RX6 259 "WarmProbesModel" "number" "I" ∈ wsX6_carryOut := by decide +kernel
theorem k_X6_carryOut_w3 : Cond.fieldLink RX6 274 "WarmProbesModel" "letter" "I" ∈ wsX6_carryOut := by decide +kernel
set_option maxRecDepth 20000 in
set_option maxHeartbeats 4000000 in
theorem b_X6_carryOut_118 (B : wx_B p s m args meth c cX6_carryOut 5 (some .int) wsX6_carryOut RX6 D ad ca A)    {r : Int32} {σ' : wx_St} {K25 : Int32 → Int32 → wx_St → Option (Int32 × wx_St)} (hK25 : ∀ {x1 : Int32} {x2 : Int32} {σ : wx_St}  (h : K25 x1 x2 σ = some (r, σ')) {H : Heap} {locs : List Loc} (Z : wx_Z D ad rd ca A σ H) (hS : va_S A s.heap H locs) {ls : Array Slot} (hl : lv_has ls 5 [(0, .ref (ad 16 99)), (1, .int x1), (2, .int x2)]), W p l e ({ frames := 7, cells := 0, slots := 0, locals := 156 } : Room) s m args below meth c H locs 0 0 (MQ below (wx_Q D ad rd ca A (some (.int r)) σ') args s 0 0 A) (F0 m 25 ls [])) {x1 : Int32} {x2 : Int32} {x3 : Int32} {x4 : Int32} {σ : wx_St}  (h : f_X6_carryOut_118 K25 x1 x2 x3 x4 σ = some (r, σ')) {H : Heap} {locs : List Loc} (Z : wx_Z D ad rd ca A σ H) (hS : va_S A s.heap H locs) {ls : Array Slot} (hl : lv_has ls 5 [(0, .ref (ad 16 99)), (1, .int x1), (2, .int x2), (3, .int x3), (4, .int x4)]) : W p l e ({ frames := 7, cells := 0, slots := 0, locals := 156 } : Room) s m args below meth c H locs 0 0 (MQ below (wx_Q D ad rd ca A (some (.int r)) σ') args s 0 0 A) (F0 m 118 ls []) := by
  obtain ⟨hx, hb, hml, hr, hts, hown, hlk, hC, hA⟩ := id B
  unfold f_X6_carryOut_118 at h
  refine lv_aload_n hx hb dX6_carryOut_118 rfl (lv_at hl 0 rfl) ?_
  refine lv_bipush (v := 59) hx hb dX6_carryOut_119 (by decide) ?_
  obtain ⟨v121, σ121, hc121, h⟩ := wx_b_ok h
  refine wx_call (va_runV (As := [.int 59]) (rest := []) ⟨hx, hb, hml, hown, hts⟩ (c_X6_isNext l (D := D) (ad := ad) (rd := rd) (ca := ca) (A := A) (σ := σ) hc121) (cwV 1 hts gX6_carryOut_X6_isNext rfl rfl rfl (by decide +kernel) ⟨Nat.le_of_ble_eq_true rfl, Nat.le_of_ble_eq_true rfl⟩) (wx_preV hC Z hS hA rfl (rfl : vwCl[6]? = some (RX6, TX6, 25))) rfl rfl hl.1 rfl (lv_room (Nat.le_of_ble_eq_true rfl)) dX6_carryOut_121 ⟨Nat.zero_le _, Nat.zero_le _⟩) hS (fun H locs Z hS => ?_)
  refine lv_pop hx hb dX6_carryOut_124 rfl ?_
  refine lv_goto (tgt := 25) hx hb dX6_carryOut_125 (by decide) ?_
  exact hK25 h Z hS (lv_sub hl [0, 1, 2] rfl)
set_option maxRecDepth 20000 in
set_option maxHeartbeats 4000000 in
theorem b_X6_carryOut_102 (B : wx_B p s m args meth c cX6_carryOut 5 (some .int) wsX6_carryOut RX6 D ad ca A)    {r : Int32} {σ' : wx_St} {K25 : Int32 → Int32 → wx_St → Option (Int32 × wx_St)} (hK25 : ∀ {x1 : Int32} {x2 : Int32} {σ : wx_St}  (h : K25 x1 x2 σ = some (r, σ')) {H : Heap} {locs : List Loc} (Z : wx_Z D ad rd ca A σ H) (hS : va_S A s.heap H locs) {ls : Array Slot} (hl : lv_has ls 5 [(0, .ref (ad 16 99)), (1, .int x1), (2, .int x2)]), W p l e ({ frames := 7, cells := 0, slots := 0, locals := 156 } : Room) s m args below meth c H locs 0 0 (MQ below (wx_Q D ad rd ca A (some (.int r)) σ') args s 0 0 A) (F0 m 25 ls [])) {K66 : Int32 → Int32 → Int32 → Int32 → wx_St → Option (Int32 × wx_St)} (hK66 : ∀ {x1 : Int32} {x2 : Int32} {x3 : Int32} {x4 : Int32} {σ : wx_St}  (h : K66 x1 x2 x3 x4 σ = some (r, σ')) {H : Heap} {locs : List Loc} (Z : wx_Z D ad rd ca A σ H) (hS : va_S A s.heap H locs) {ls : Array Slot} (hl : lv_has ls 5 [(0, .ref (ad 16 99)), (1, .int x1), (2, .int x2), (3, .int x3), (4, .int x4)]), W p l e ({ frames := 7, cells := 0, slots := 0, locals := 156 } : Room) s m args below meth c H locs 0 0 (MQ below (wx_Q D ad rd ca A (some (.int r)) σ') args s 0 0 A) (F0 m 66 ls [])) {x1 : Int32} {x2 : Int32} {x3 : Int32} {x4 : Int32} {σ : wx_St}  (h : f_X6_carryOut_102 K25 K66 x1 x2 x3 x4 σ = some (r, σ')) {H : Heap} {locs : List Loc} (Z : wx_Z D ad rd ca A σ H) (hS : va_S A s.heap H locs) {ls : Array Slot} (hl : lv_has ls 5 [(0, .ref (ad 16 99)), (1, .int x1), (2, .int x2), (3, .int x3), (4, .int x4)]) : W p l e ({ frames := 7, cells := 0, slots := 0, locals := 156 } : Room) s m args below meth c H locs 0 0 (MQ below (wx_Q D ad rd ca A (some (.int r)) σ') args s 0 0 A) (F0 m 102 ls []) := by
  obtain ⟨hx, hb, hml, hr, hts, hown, hlk, hC, hA⟩ := id B
  unfold f_X6_carryOut_102 at h
  refine lv_iload_n hx hb dX6_carryOut_102 rfl (lv_at hl 2 rfl) ?_
  refine lv_if_eq (tgt := 118) hx hb dX6_carryOut_103 (by decide) (fun c103 => ?_) (fun c103 => ?_)
  · replace h := wx_ift c103 h
    exact b_X6_carryOut_118 B (K25 := K25) @hK25 h Z hS (lv_sub hl [0, 1, 2, 3, 4] rfl)
  · replace h := wx_iff c103 h
    refine lv_iload hx hb dX6_carryOut_106 (lv_at hl 4 rfl) ?_
    refine lv_if_eq (tgt := 118) hx hb dX6_carryOut_108 (by decide) (fun c108 => ?_) (fun c108 => ?_)
    · replace h := wx_ift c108 h
      exact b_X6_carryOut_118 B (K25 := K25) @hK25 h Z hS (lv_sub hl [0, 1, 2, 3, 4] rfl)
    · replace h := wx_iff c108 h
      refine lv_aload_n hx hb dX6_carryOut_111 rfl (lv_at hl 0 rfl) ?_
      obtain ⟨v112, hc112, h⟩ := wx_o_ok h
      refine wx_call (va_runV (As := []) (rest := []) ⟨hx, hb, hml, hown, hts⟩ (c_X6_isColumn l (D := D) (ad := ad) (rd := rd) (ca := ca) (A := A) (σ := σ) hc112) (cwV 0 hts gX6_carryOut_X6_isColumn rfl rfl rfl (by decide +kernel) ⟨Nat.le_of_ble_eq_true rfl, Nat.le_of_ble_eq_true rfl⟩) (wx_preV hC Z hS hA rfl (rfl : vwCl[6]? = some (RX6, TX6, 25))) rfl rfl hl.1 rfl (lv_room (Nat.le_of_ble_eq_true rfl)) dX6_carryOut_112 ⟨Nat.zero_le _, Nat.zero_le _⟩) hS (fun H locs Z hS => ?_)
      refine lv_if_ne (tgt := 66) hx hb dX6_carryOut_115 (by decide) (fun c115 => ?_) (fun c115 => ?_)
      · replace h := wx_iff c115 h
        exact hK66 h Z hS (lv_sub hl [0, 1, 2, 3, 4] rfl)
      · replace h := wx_ift c115 h
        exact b_X6_carryOut_118 B (K25 := K25) @hK25 h Z hS (lv_sub hl [0, 1, 2, 3, 4] rfl)
set_option maxRecDepth 20000 in
set_option maxHeartbeats 4000000 in
theorem b_X6_carryOut_89 (B : wx_B p s m args meth c cX6_carryOut 5 (some .int) wsX6_carryOut RX6 D ad ca A)    {r : Int32} {σ' : wx_St} {K25 : Int32 → Int32 → wx_St → Option (Int32 × wx_St)} (hK25 : ∀ {x1 : Int32} {x2 : Int32} {σ : wx_St}  (h : K25 x1 x2 σ = some (r, σ')) {H : Heap} {locs : List Loc} (Z : wx_Z D ad rd ca A σ H) (hS : va_S A s.heap H locs) {ls : Array Slot} (hl : lv_has ls 5 [(0, .ref (ad 16 99)), (1, .int x1), (2, .int x2)]), W p l e ({ frames := 7, cells := 0, slots := 0, locals := 156 } : Room) s m args below meth c H locs 0 0 (MQ below (wx_Q D ad rd ca A (some (.int r)) σ') args s 0 0 A) (F0 m 25 ls [])) {K66 : Int32 → Int32 → Int32 → Int32 → wx_St → Option (Int32 × wx_St)} (hK66 : ∀ {x1 : Int32} {x2 : Int32} {x3 : Int32} {x4 : Int32} {σ : wx_St}  (h : K66 x1 x2 x3 x4 σ = some (r, σ')) {H : Heap} {locs : List Loc} (Z : wx_Z D ad rd ca A σ H) (hS : va_S A s.heap H locs) {ls : Array Slot} (hl : lv_has ls 5 [(0, .ref (ad 16 99)), (1, .int x1), (2, .int x2), (3, .int x3), (4, .int x4)]), W p l e ({ frames := 7, cells := 0, slots := 0, locals := 156 } : Room) s m args below meth c H locs 0 0 (MQ below (wx_Q D ad rd ca A (some (.int r)) σ') args s 0 0 A) (F0 m 66 ls [])) {x1 : Int32} {x2 : Int32} {x3 : Int32} {x4 : Int32} {y0 : Int32} {σ : wx_St}  (h : f_X6_carryOut_89 K25 K66 x1 x2 x3 x4 y0 σ = some (r, σ')) {H : Heap} {locs : List Loc} (Z : wx_Z D ad rd ca A σ H) (hS : va_S A s.heap H locs) {ls : Array Slot} (hl : lv_has ls 5 [(0, .ref (ad 16 99)), (1, .int x1), (2, .int x2), (3, .int x3), (4, .int x4)]) : W p l e ({ frames := 7, cells := 0, slots := 0, locals := 156 } : Room) s m args below meth c H locs 0 0 (MQ below (wx_Q D ad rd ca A (some (.int r)) σ') args s 0 0 A) (F0 m 89 ls [.int y0]) := by
  obtain ⟨hx, hb, hml, hr, hts, hown, hlk, hC, hA⟩ := id B
  unfold f_X6_carryOut_89 at h
  refine lv_istore_n (lv' := [(2, .int y0), (0, .ref (ad 16 99)), (1, .int x1), (3, .int x3), (4, .int x4)]) hx hb dX6_carryOut_89 rfl hl (by decide) rfl (fun ls hl => ?_)
  refine lv_iload_n hx hb dX6_carryOut_90 rfl (lv_at hl 0 rfl) ?_
  refine lv_if_eq (tgt := 102) hx hb dX6_carryOut_91 (by decide) (fun c91 => ?_) (fun c91 => ?_)
  · replace h := wx_ift c91 h
    exact b_X6_carryOut_102 B (K25 := K25) @hK25 (K66 := K66) @hK66 h Z hS (lv_sub hl [1, 2, 0, 3, 4] rfl)
  · replace h := wx_iff c91 h
    refine lv_aload_n hx hb dX6_carryOut_94 rfl (lv_at hl 1 rfl) ?_
    refine lv_iload_n hx hb dX6_carryOut_95 rfl (lv_at hl 3 rfl) ?_
    obtain ⟨v96, σ96, hc96, h⟩ := wx_b_ok h
    refine wx_call (va_runV (As := [.int x3]) (rest := []) ⟨hx, hb, hml, hown, hts⟩ (c_X6_does l (D := D) (ad := ad) (rd := rd) (ca := ca) (A := A) (σ := σ) hc96) (cwV 1 hts gX6_carryOut_X6_does rfl rfl rfl (by decide +kernel) ⟨Nat.le_of_ble_eq_true rfl, Nat.le_of_ble_eq_true rfl⟩) (wx_preV hC Z hS hA rfl (rfl : vwCl[6]? = some (RX6, TX6, 25))) rfl rfl hl.1 rfl (lv_room (Nat.le_of_ble_eq_true rfl)) dX6_carryOut_96 ⟨Nat.zero_le _, Nat.zero_le _⟩) hS (fun H locs Z hS => ?_)
    refine lv_iinc (v := x1 + 1) (lv' := [(1, .int (x1 + 1)), (2, .int y0), (0, .ref (ad 16 99)), (3, .int x3), (4, .int x4)]) hx hb dX6_carryOut_99 hl (k := 2) rfl rfl (by decide) rfl (fun ls hl => ?_)
    exact b_X6_carryOut_102 B (K25 := K25) @hK25 (K66 := K66) @hK66 h Z hS (lv_sub hl [2, 0, 1, 3, 4] rfl)
set_option maxRecDepth 20000 in
set_option maxHeartbeats 4000000 in
theorem b_X6_carryOut_76 (B : wx_B p s m args meth c cX6_carryOut 5 (some .int) wsX6_carryOut RX6 D ad ca A)    {r : Int32} {σ' : wx_St} {K25 : Int32 → Int32 → wx_St → Option (Int32 × wx_St)} (hK25 : ∀ {x1 : Int32} {x2 : Int32} {σ : wx_St}  (h : K25 x1 x2 σ = some (r, σ')) {H : Heap} {locs : List Loc} (Z : wx_Z D ad rd ca A σ H) (hS : va_S A s.heap H locs) {ls : Array Slot} (hl : lv_has ls 5 [(0, .ref (ad 16 99)), (1, .int x1), (2, .int x2)]), W p l e ({ frames := 7, cells := 0, slots := 0, locals := 156 } : Room) s m args below meth c H locs 0 0 (MQ below (wx_Q D ad rd ca A (some (.int r)) σ') args s 0 0 A) (F0 m 25 ls [])) {K66 : Int32 → Int32 → Int32 → Int32 → wx_St → Option (Int32 × wx_St)} (hK66 : ∀ {x1 : Int32} {x2 : Int32} {x3 : Int32} {x4 : Int32} {σ : wx_St}  (h : K66 x1 x2 x3 x4 σ = some (r, σ')) {H : Heap} {locs : List Loc} (Z : wx_Z D ad rd ca A σ H) (hS : va_S A s.heap H locs) {ls : Array Slot} (hl : lv_has ls 5 [(0, .ref (ad 16 99)), (1, .int x1), (2, .int x2), (3, .int x3), (4, .int x4)]), W p l e ({ frames := 7, cells := 0, slots := 0, locals := 156 } : Room) s m args below meth c H locs 0 0 (MQ below (wx_Q D ad rd ca A (some (.int r)) σ') args s 0 0 A) (F0 m 66 ls [])) {x1 : Int32} {x2 : Int32} {x3 : Int32} {x4 : Int32} {σ : wx_St}  (h : f_X6_carryOut_76 K25 K66 x1 x2 x3 x4 σ = some (r, σ')) {H : Heap} {locs : List Loc} (Z : wx_Z D ad rd ca A σ H) (hS : va_S A s.heap H locs) {ls : Array Slot} (hl : lv_has ls 5 [(0, .ref (ad 16 99)), (1, .int x1), (2, .int x2), (3, .int x3), (4, .int x4)]) : W p l e ({ frames := 7, cells := 0, slots := 0, locals := 156 } : Room) s m args below meth c H locs 0 0 (MQ below (wx_Q D ad rd ca A (some (.int r)) σ') args s 0 0 A) (F0 m 76 ls []) := by
  obtain ⟨hx, hb, hml, hr, hts, hown, hlk, hC, hA⟩ := id B
  unfold f_X6_carryOut_76 at h
  refine lv_aload_n hx hb dX6_carryOut_76 rfl (lv_at hl 0 rfl) ?_
  refine lv_iload_n hx hb dX6_carryOut_77 rfl (lv_at hl 3 rfl) ?_
  obtain ⟨v78, hc78, h⟩ := wx_o_ok h
  refine wx_call (va_runV (As := [.int x3]) (rest := []) ⟨hx, hb, hml, hown, hts⟩ (c_X6_whyNotDone l (D := D) (ad := ad) (rd := rd) (ca := ca) (A := A) (σ := σ) hc78) (cwV 1 hts gX6_carryOut_X6_whyNotDone rfl rfl rfl (by decide +kernel) ⟨Nat.le_of_ble_eq_true rfl, Nat.le_of_ble_eq_true rfl⟩) (wx_preV hC Z hS hA rfl (rfl : vwCl[6]? = some (RX6, TX6, 25))) rfl rfl hl.1 rfl (lv_room (Nat.le_of_ble_eq_true rfl)) dX6_carryOut_78 ⟨Nat.zero_le _, Nat.zero_le _⟩) hS (fun H locs Z hS => ?_)
  refine lv_if_ne (tgt := 88) hx hb dX6_carryOut_81 (by decide) (fun c81 => ?_) (fun c81 => ?_)
  · replace h := wx_iff c81 h
    refine lv_iconst (v := 0) hx hb dX6_carryOut_88 (by decide) ?_
    exact b_X6_carryOut_89 B (K25 := K25) @hK25 (K66 := K66) @hK66 h Z hS (lv_sub hl [0, 1, 2, 3, 4] rfl)
  · replace h := wx_ift c81 h
    refine lv_iconst (v := 1) hx hb dX6_carryOut_84 (by decide) ?_
    refine lv_goto (tgt := 89) hx hb dX6_carryOut_85 (by decide) ?_
    exact b_X6_carryOut_89 B (K25 := K25) @hK25 (K66 := K66) @hK66 h Z hS (lv_sub hl [0, 1, 2, 3, 4] rfl)
set_option maxRecDepth 20000 in
set_option maxHeartbeats 4000000 in
theorem b_X6_carryOut_66 (B : wx_B p s m args meth c cX6_carryOut 5 (some .int) wsX6_carryOut RX6 D ad ca A)    {r : Int32} {σ' : wx_St} {K25 : Int32 → Int32 → wx_St → Option (Int32 × wx_St)} (hK25 : ∀ {x1 : Int32} {x2 : Int32} {σ : wx_St}  (h : K25 x1 x2 σ = some (r, σ')) {H : Heap} {locs : List Loc} (Z : wx_Z D ad rd ca A σ H) (hS : va_S A s.heap H locs) {ls : Array Slot} (hl : lv_has ls 5 [(0, .ref (ad 16 99)), (1, .int x1), (2, .int x2)]), W p l e ({ frames := 7, cells := 0, slots := 0, locals := 156 } : Room) s m args below meth c H locs 0 0 (MQ below (wx_Q D ad rd ca A (some (.int r)) σ') args s 0 0 A) (F0 m 25 ls []))  :
    ∀ {n : Nat} {x1 : Int32} {x2 : Int32} {x3 : Int32} {x4 : Int32} {σ : wx_St}  (h : f_X6_carryOut_66 K25 n x1 x2 x3 x4 σ = some (r, σ')) {H : Heap} {locs : List Loc} (Z : wx_Z D ad rd ca A σ H) (hS : va_S A s.heap H locs) {ls : Array Slot} (hl : lv_has ls 5 [(0, .ref (ad 16 99)), (1, .int x1), (2, .int x2), (3, .int x3), (4, .int x4)]), W p l e ({ frames := 7, cells := 0, slots := 0, locals := 156 } : Room) s m args below meth c H locs 0 0 (MQ below (wx_Q D ad rd ca A (some (.int r)) σ') args s 0 0 A) (F0 m 66 ls []) := by
  obtain ⟨hx, hb, hml, hr, hts, hown, hlk, hC, hA⟩ := id B
  intro n
  induction n with
  | zero => intro x1 x2 x3 x4 σ  h H locs Z hS ls hl; exact wx_no h
  | succ n ih =>
    intro x1 x2 x3 x4 σ  h H locs Z hS ls hl
    rw [f_X6_carryOut_66] at h
    refine lv_iload hx hb dX6_carryOut_66 (lv_at hl 4 rfl) ?_
    refine lv_if_eq (tgt := 76) hx hb dX6_carryOut_68 (by decide) (fun c68 => ?_) (fun c68 => ?_)
    · replace h := wx_ift c68 h
      exact b_X6_carryOut_76 B (K25 := K25) @hK25 (K66 := (f_X6_carryOut_66 K25 n)) @ih h Z hS (lv_sub hl [0, 1, 2, 3, 4] rfl)
    · replace h := wx_iff c68 h
      refine lv_aload_n hx hb dX6_carryOut_71 rfl (lv_at hl 0 rfl) ?_
      obtain ⟨v72, σ72, hc72, h⟩ := wx_b_ok h
      refine wx_call (va_runV (As := []) (rest := []) ⟨hx, hb, hml, hown, hts⟩ (c_X6_readsPlace l (D := D) (ad := ad) (rd := rd) (ca := ca) (A := A) (σ := σ) hc72) (cwV 0 hts gX6_carryOut_X6_readsPlace rfl rfl rfl (by decide +kernel) ⟨Nat.le_of_ble_eq_true rfl, Nat.le_of_ble_eq_true rfl⟩) (wx_preV hC Z hS hA rfl (rfl : vwCl[6]? = some (RX6, TX6, 25))) rfl rfl hl.1 rfl (lv_room (Nat.le_of_ble_eq_true rfl)) dX6_carryOut_72 ⟨Nat.zero_le _, Nat.zero_le _⟩) hS (fun H locs Z hS => ?_)
      refine lv_pop hx hb dX6_carryOut_75 rfl ?_
      exact b_X6_carryOut_76 B (K25 := K25) @hK25 (K66 := (f_X6_carryOut_66 K25 n)) @ih h Z hS (lv_sub hl [0, 1, 2, 3, 4] rfl)
set_option maxRecDepth 20000 in
set_option maxHeartbeats 4000000 in
theorem b_X6_carryOut_64 (B : wx_B p s m args meth c cX6_carryOut 5 (some .int) wsX6_carryOut RX6 D ad ca A)    {r : Int32} {σ' : wx_St} {K25 : Int32 → Int32 → wx_St → Option (Int32 × wx_St)} (hK25 : ∀ {x1 : Int32} {x2 : Int32} {σ : wx_St}  (h : K25 x1 x2 σ = some (r, σ')) {H : Heap} {locs : List Loc} (Z : wx_Z D ad rd ca A σ H) (hS : va_S A s.heap H locs) {ls : Array Slot} (hl : lv_has ls 5 [(0, .ref (ad 16 99)), (1, .int x1), (2, .int x2)]), W p l e ({ frames := 7, cells := 0, slots := 0, locals := 156 } : Room) s m args below meth c H locs 0 0 (MQ below (wx_Q D ad rd ca A (some (.int r)) σ') args s 0 0 A) (F0 m 25 ls [])) {x1 : Int32} {x2 : Int32} {x3 : Int32} {y0 : Int32} {σ : wx_St}  (h : f_X6_carryOut_64 K25 x1 x2 x3 y0 σ = some (r, σ')) {H : Heap} {locs : List Loc} (Z : wx_Z D ad rd ca A σ H) (hS : va_S A s.heap H locs) {ls : Array Slot} (hl : lv_has ls 5 [(0, .ref (ad 16 99)), (1, .int x1), (2, .int x2), (3, .int x3)]) : W p l e ({ frames := 7, cells := 0, slots := 0, locals := 156 } : Room) s m args below meth c H locs 0 0 (MQ below (wx_Q D ad rd ca A (some (.int r)) σ') args s 0 0 A) (F0 m 64 ls [.int y0]) := by
  obtain ⟨hx, hb, hml, hr, hts, hown, hlk, hC, hA⟩ := id B
  unfold f_X6_carryOut_64 at h
  refine lv_istore (lv' := [(4, .int y0), (0, .ref (ad 16 99)), (1, .int x1), (2, .int x2), (3, .int x3)]) hx hb dX6_carryOut_64 hl (by decide) rfl (fun ls hl => ?_)
  exact b_X6_carryOut_66 B (K25 := K25) @hK25 h Z hS (lv_sub hl [1, 2, 3, 4, 0] rfl)
set_option maxRecDepth 20000 in
set_option maxHeartbeats 4000000 in
theorem b_X6_carryOut_128 (B : wx_B p s m args meth c cX6_carryOut 5 (some .int) wsX6_carryOut RX6 D ad ca A)    {r : Int32} {σ' : wx_St}  {x1 : Int32} {x2 : Int32} {σ : wx_St}  (h : f_X6_carryOut_128 x1 x2 σ = some (r, σ')) {H : Heap} {locs : List Loc} (Z : wx_Z D ad rd ca A σ H) (hS : va_S A s.heap H locs) {ls : Array Slot} (hl : lv_has ls 5 [(0, .ref (ad 16 99)), (1, .int x1), (2, .int x2)]) : W p l e ({ frames := 7, cells := 0, slots := 0, locals := 156 } : Room) s m args below meth c H locs 0 0 (MQ below (wx_Q D ad rd ca A (some (.int r)) σ') args s 0 0 A) (F0 m 128 ls []) := by
  obtain ⟨hx, hb, hml, hr, hts, hown, hlk, hC, hA⟩ := id B
  unfold f_X6_carryOut_128 at h
  refine lv_aload_n hx hb dX6_carryOut_128 rfl (lv_at hl 0 rfl) ?_
  refine lv_iconst (v := 0) hx hb dX6_carryOut_129 (by decide) ?_
  obtain ⟨σ130, e130, h⟩ := wx_l_ok h
  refine wx_put (own := RX6) hx hb hts i_X6_carryOut_6 tyX6 tyX6_ok nmX6 hown hC.1 Z hS (o := 16) (ci := 6) rfl (rfl : vwCl[6]? = some (RX6, TX6, 25)) 9 (by decide) (hts _ k_X6_carryOut_w1) (fun _ h9 => h9) rfl (by decide +kernel) rfl dX6_carryOut_130 e130 (fun H locs Z hS => ?_)
  refine lv_iload_n hx hb dX6_carryOut_133 rfl (lv_at hl 1 rfl) ?_
  obtain ⟨rfl, rfl⟩ := wx_ret_ok h
  exact W.iret hx hb hr (fun t ht hW => ⟨rfl, by rw [ht]; exact Z, hS.F ht⟩) hS.2.2 dX6_carryOut_134
set_option maxRecDepth 20000 in
set_option maxHeartbeats 4000000 in
theorem b_X6_carryOut_25 (B : wx_B p s m args meth c cX6_carryOut 5 (some .int) wsX6_carryOut RX6 D ad ca A)    {r : Int32} {σ' : wx_St}   :
    ∀ {n : Nat} {x1 : Int32} {x2 : Int32} {σ : wx_St}  (h : f_X6_carryOut_25 n x1 x2 σ = some (r, σ')) {H : Heap} {locs : List Loc} (Z : wx_Z D ad rd ca A σ H) (hS : va_S A s.heap H locs) {ls : Array Slot} (hl : lv_has ls 5 [(0, .ref (ad 16 99)), (1, .int x1), (2, .int x2)]), W p l e ({ frames := 7, cells := 0, slots := 0, locals := 156 } : Room) s m args below meth c H locs 0 0 (MQ below (wx_Q D ad rd ca A (some (.int r)) σ') args s 0 0 A) (F0 m 25 ls []) := by
  obtain ⟨hx, hb, hml, hr, hts, hown, hlk, hC, hA⟩ := id B
  intro n
  induction n with
  | zero => intro x1 x2 σ  h H locs Z hS ls hl; exact wx_no h
  | succ n ih =>
    intro x1 x2 σ  h H locs Z hS ls hl
    rw [f_X6_carryOut_25] at h
    refine lv_iload_n hx hb dX6_carryOut_25 rfl (lv_at hl 2 rfl) ?_
    refine lv_if_eq (tgt := 128) hx hb dX6_carryOut_26 (by decide) (fun c26 => ?_) (fun c26 => ?_)
    · replace h := wx_ift c26 h
      exact b_X6_carryOut_128 B h Z hS (lv_sub hl [0, 1, 2] rfl)
    · replace h := wx_iff c26 h
      refine lv_aload_n hx hb dX6_carryOut_29 rfl (lv_at hl 0 rfl) ?_
      refine wx_get (own := RX6) hx hb hts i_X6_carryOut_6 hown hC.1 Z (o := 16) (ci := 6) rfl (rfl : vwCl[6]? = some (RX6, TX6, 25)) 20 (by decide) (hts _ k_X6_carryOut_w0) (fun _ h9 => h9) (f := 1) rfl rfl dX6_carryOut_30 ?_
      refine lv_aload_n hx hb dX6_carryOut_33 rfl (lv_at hl 0 rfl) ?_
      refine wx_get (own := RX6) hx hb hts i_X6_carryOut_6 hown hC.1 Z (o := 16) (ci := 6) rfl (rfl : vwCl[6]? = some (RX6, TX6, 25)) 9 (by decide) (hts _ k_X6_carryOut_w1) (fun _ h9 => h9) (f := 1) rfl rfl dX6_carryOut_34 ?_
      refine lv_icmp_ge (tgt := 128) hx hb dX6_carryOut_37 (by decide) (fun c37 => ?_) (fun c37 => ?_)
      · replace h := wx_ift c37 h
        exact b_X6_carryOut_128 B h Z hS (lv_sub hl [0, 1, 2] rfl)
      · replace h := wx_iff c37 h
        refine lv_aload_n hx hb dX6_carryOut_40 rfl (lv_at hl 0 rfl) ?_
        obtain ⟨v41, σ41, hc41, h⟩ := wx_b_ok h
        refine wx_call (va_runV (As := []) (rest := []) ⟨hx, hb, hml, hown, hts⟩ (c_X6_readsOrder l (D := D) (ad := ad) (rd := rd) (ca := ca) (A := A) (σ := σ) hc41) (cwV 0 hts gX6_carryOut_X6_readsOrder rfl rfl rfl (by decide +kernel) ⟨Nat.le_of_ble_eq_true rfl, Nat.le_of_ble_eq_true rfl⟩) (wx_preV hC Z hS hA rfl (rfl : vwCl[6]? = some (RX6, TX6, 25))) rfl rfl hl.1 rfl (lv_room (Nat.le_of_ble_eq_true rfl)) dX6_carryOut_41 ⟨Nat.zero_le _, Nat.zero_le _⟩) hS (fun H locs Z hS => ?_)
        refine lv_pop hx hb dX6_carryOut_44 rfl ?_
        refine lv_aload_n hx hb dX6_carryOut_45 rfl (lv_at hl 0 rfl) ?_
        refine wx_get (own := RX6) hx hb hts i_X6_carryOut_6 hown hC.1 Z (o := 16) (ci := 6) rfl (rfl : vwCl[6]? = some (RX6, TX6, 25)) 24 (by decide) (hts _ k_X6_carryOut_w2) (fun _ h9 => h9) (f := 1) rfl rfl dX6_carryOut_46 ?_
        refine lv_istore_n (lv' := [(3, .int (σ41.2.2.1 16 24)), (0, .ref (ad 16 99)), (1, .int x1), (2, .int x2)]) hx hb dX6_carryOut_49 rfl hl (by decide) rfl (fun ls hl => ?_)
        refine lv_aload_n hx hb dX6_carryOut_50 rfl (lv_at hl 1 rfl) ?_
        refine wx_get (own := RX6) hx hb hts i_X6_carryOut_6 hown hC.1 Z (o := 16) (ci := 6) rfl (rfl : vwCl[6]? = some (RX6, TX6, 25)) 21 (by decide) (hts _ k_X6_carryOut_w3) (fun _ h9 => h9) (f := 1) rfl rfl dX6_carryOut_51 ?_
        refine lv_bipush (v := 116) hx hb dX6_carryOut_54 (by decide) ?_
        refine lv_icmp_ne (tgt := 63) hx hb dX6_carryOut_56 (by decide) (fun c56 => ?_) (fun c56 => ?_)
        · replace h := wx_iff c56 h
          refine lv_iconst (v := 0) hx hb dX6_carryOut_63 (by decide) ?_
          exact b_X6_carryOut_64 B (K25 := (f_X6_carryOut_25 n)) @ih h Z hS (lv_sub hl [1, 2, 3, 0] rfl)
        · replace h := wx_ift c56 h
          refine lv_iconst (v := 1) hx hb dX6_carryOut_59 (by decide) ?_
          refine lv_goto (tgt := 64) hx hb dX6_carryOut_60 (by decide) ?_
          exact b_X6_carryOut_64 B (K25 := (f_X6_carryOut_25 n)) @ih h Z hS (lv_sub hl [1, 2, 3, 0] rfl)
set_option maxRecDepth 20000 in
set_option maxHeartbeats 4000000 in
theorem b_X6_carryOut_0 (B : wx_B p s m args meth c cX6_carryOut 5 (some .int) wsX6_carryOut RX6 D ad ca A)    {r : Int32} {σ' : wx_St}   {σ : wx_St}  (h : f_X6_carryOut σ = some (r, σ')) {H : Heap} {locs : List Loc} (Z : wx_Z D ad rd ca A σ H) (hS : va_S A s.heap H locs) {ls : Array Slot} (hl : lv_has ls 5 [(0, .ref (ad 16 99))]) : W p l e ({ frames := 7, cells := 0, slots := 0, locals := 156 } : Room) s m args below meth c H locs 0 0 (MQ below (wx_Q D ad rd ca A (some (.int r)) σ') args s 0 0 A) (F0 m 0 ls []) := by
  obtain ⟨hx, hb, hml, hr, hts, hown, hlk, hC, hA⟩ := id B
  unfold f_X6_carryOut at h
  refine lv_aload_n hx hb dX6_carryOut_0 rfl (lv_at hl 0 rfl) ?_
  obtain ⟨v1, σ1, hc1, h⟩ := wx_b_ok h
  refine wx_call (va_runV (As := []) (rest := []) ⟨hx, hb, hml, hown, hts⟩ (c_X6_findFault l (D := D) (ad := ad) (rd := rd) (ca := ca) (A := A) (σ := σ) hc1) (cwV 0 hts gX6_carryOut_X6_findFault rfl rfl rfl (by decide +kernel) ⟨Nat.le_of_ble_eq_true rfl, Nat.le_of_ble_eq_true rfl⟩) (wx_preV hC Z hS hA rfl (rfl : vwCl[6]? = some (RX6, TX6, 25))) rfl rfl hl.1 rfl (lv_room (Nat.le_of_ble_eq_true rfl)) dX6_carryOut_1 ⟨Nat.zero_le _, Nat.zero_le _⟩) hS (fun H locs Z hS => ?_)
  refine lv_bipush (v := (-6)) hx hb dX6_carryOut_4 (by decide) ?_
  refine lv_icmp_eq (tgt := 12) hx hb dX6_carryOut_6 (by decide) (fun c6 => ?_) (fun c6 => ?_)
  · replace h := wx_ift c6 h
    refine lv_aload_n hx hb dX6_carryOut_12 rfl (lv_at hl 0 rfl) ?_
    obtain ⟨v13, σ13, hc13, h⟩ := wx_b_ok h
    refine wx_call (va_runV (As := []) (rest := []) ⟨hx, hb, hml, hown, hts⟩ (c_X6_record l (D := D) (ad := ad) (rd := rd) (ca := ca) (A := A) (σ := σ1) hc13) (cwV 0 hts gX6_carryOut_X6_record rfl rfl rfl (by decide +kernel) ⟨Nat.le_of_ble_eq_true rfl, Nat.le_of_ble_eq_true rfl⟩) (wx_preV hC Z hS hA rfl (rfl : vwCl[6]? = some (RX6, TX6, 25))) rfl rfl hl.1 rfl (lv_room (Nat.le_of_ble_eq_true rfl)) dX6_carryOut_13 ⟨Nat.zero_le _, Nat.zero_le _⟩) hS (fun H locs Z hS => ?_)
    refine lv_iconst (v := 0) hx hb dX6_carryOut_16 (by decide) ?_
    refine lv_istore_n (lv' := [(1, .int 0), (0, .ref (ad 16 99))]) hx hb dX6_carryOut_17 rfl hl (by decide) rfl (fun ls hl => ?_)
    refine lv_aload_n hx hb dX6_carryOut_18 rfl (lv_at hl 1 rfl) ?_
    refine lv_iconst (v := 0) hx hb dX6_carryOut_19 (by decide) ?_
    obtain ⟨σ20, e20, h⟩ := wx_l_ok h
    refine wx_put (own := RX6) hx hb hts i_X6_carryOut_6 tyX6 tyX6_ok nmX6 hown hC.1 Z hS (o := 16) (ci := 6) rfl (rfl : vwCl[6]? = some (RX6, TX6, 25)) 20 (by decide) (hts _ k_X6_carryOut_w0) (fun _ h9 => h9) rfl (by decide +kernel) rfl dX6_carryOut_20 e20 (fun H locs Z hS => ?_)
    refine lv_iconst (v := 1) hx hb dX6_carryOut_23 (by decide) ?_
    refine lv_istore_n (lv' := [(2, .int 1), (1, .int 0), (0, .ref (ad 16 99))]) hx hb dX6_carryOut_24 rfl hl (by decide) rfl (fun ls hl => ?_)
    exact b_X6_carryOut_25 B h Z hS (lv_sub hl [2, 1, 0] rfl)
  · replace h := wx_iff c6 h
    refine lv_bipush (v := (-3)) hx hb dX6_carryOut_9 (by decide) ?_
    obtain ⟨rfl, rfl⟩ := wx_ret_ok h
    exact W.iret hx hb hr (fun t ht hW => ⟨rfl, by rw [ht]; exact Z, hS.F ht⟩) hS.2.2 dX6_carryOut_11
set_option maxRecDepth 20000 in
theorem c_X6_carryOut (l : Launch) {D : va_G} {ad : Nat → Nat → Nat} {rd : Nat → Nat} {ca : Nat → ClassId} {A : Nat → Prop} {σ : wx_St}     {r : Int32} {σ' : wx_St} (h : f_X6_carryOut σ = some (r, σ')) : wx_M l yX6_carryOut wsX6_carryOut 7 156 D ad rd ca A [.ref (ad 16 99)] σ (some (.int r)) σ' := by
  refine Met.ofW (cc := cX6_carryOut) (maxL := 5) (ret := (some .int)) (by decide +kernel) rfl ?_
  intro p e s m args below meth c s₁ B0 hml hv
  obtain ⟨rfl, hC, Z, hA⟩ := hv
  have hl := lv_entry ([.ref (ad 16 99)]) (n := 5) (Nat.le_of_ble_eq_true rfl)
  rw [lg_entry_eq]
  generalize (lg_sl ([.ref (ad 16 99)]) ++ List.replicate (5 - (lg_sl ([.ref (ad 16 99)])).length) Slot.unset).toArray = ls at hl ⊢
  exact b_X6_carryOut_0 ⟨B0.exec, B0.bytes, hml, B0.returns, atoms_spec (ws := wsX6_carryOut) B0.pre, findClass_of_methodNamed B0.named, B0.notSynchronized, hC, hA⟩   h Z va_S.rf hl
theorem i_X6_cool_6 : ∀ w ∈ wsX60, w ∈ wsX6_cool := by decide +kernel
theorem k_X6_cool_w0 : Cond.fieldLink RX6 7 "WarmProbesModel" "state" "[I" ∈ wsX6_cool := by decide +kernel
set_option maxRecDepth 20000 in
set_option maxHeartbeats 4000000 in
theorem b_X6_cool_0 (B : wx_B p s m args meth c cX6_cool 2 (some .int) wsX6_cool RX6 D ad ca A)    {r : Int32} {σ' : wx_St}   {σ : wx_St}  (h : f_X6_cool σ = some (r, σ')) {H : Heap} {locs : List Loc} (Z : wx_Z D ad rd ca A σ H) (hS : va_S A s.heap H locs) {ls : Array Slot} (hl : lv_has ls 2 [(0, .ref (ad 16 99))]) : W p l e ({ frames := 2, cells := 0, slots := 0, locals := 45 } : Room) s m args below meth c H locs 0 0 (MQ below (wx_Q D ad rd ca A (some (.int r)) σ') args s 0 0 A) (F0 m 0 ls []) := by
  obtain ⟨hx, hb, hml, hr, hts, hown, hlk, hC, hA⟩ := id B
  unfold f_X6_cool at h
  refine lv_aload_n hx hb dX6_cool_0 rfl (lv_at hl 0 rfl) ?_
  obtain ⟨v1, σ1, hc1, h⟩ := wx_b_ok h
  refine wx_call (va_runV (As := []) (rest := []) ⟨hx, hb, hml, hown, hts⟩ (c_X6_record l (D := D) (ad := ad) (rd := rd) (ca := ca) (A := A) (σ := σ) hc1) (cwV 0 hts gX6_cool_X6_record rfl rfl rfl (by decide +kernel) ⟨Nat.le_of_ble_eq_true rfl, Nat.le_of_ble_eq_true rfl⟩) (wx_preV hC Z hS hA rfl (rfl : vwCl[6]? = some (RX6, TX6, 25))) rfl rfl hl.1 rfl (lv_room (Nat.le_of_ble_eq_true rfl)) dX6_cool_1 ⟨Nat.zero_le _, Nat.zero_le _⟩) hS (fun H locs Z hS => ?_)
  refine lv_aload_n hx hb dX6_cool_4 rfl (lv_at hl 0 rfl) ?_
  refine wx_get (own := RX6) hx hb hts i_X6_cool_6 hown hC.1 Z (o := 16) (ci := 6) rfl (rfl : vwCl[6]? = some (RX6, TX6, 25)) 0 (by decide) (hts _ k_X6_cool_w0) (fun _ h9 => h9) (f := 0) rfl rfl dX6_cool_5 ?_
  refine lv_iconst (v := 4) hx hb dX6_cool_8 (by decide) ?_
  obtain ⟨v9, ev9, iv9, h⟩ := wx_rI_ok h
  refine wx_iald hx hb hC.1 Z (o := 16) (k := 0) (n := 109) rfl rfl iv9 dX6_cool_9 ev9 ?_
  refine lv_istore_n (lv' := [(1, .int v9), (0, .ref (ad 16 99))]) hx hb dX6_cool_10 rfl hl (by decide) rfl (fun ls hl => ?_)
  refine lv_aload_n hx hb dX6_cool_11 rfl (lv_at hl 1 rfl) ?_
  obtain ⟨v12, σ12, hc12, h⟩ := wx_b_ok h
  refine wx_call (va_runV (As := []) (rest := []) ⟨hx, hb, hml, hown, hts⟩ (c_X6_beginsRun l (D := D) (ad := ad) (rd := rd) (ca := ca) (A := A) (σ := σ1) hc12) (cwV 0 hts gX6_cool_X6_beginsRun rfl rfl rfl (by decide +kernel) ⟨Nat.le_of_ble_eq_true rfl, Nat.le_of_ble_eq_true rfl⟩) (wx_preV hC Z hS hA rfl (rfl : vwCl[6]? = some (RX6, TX6, 25))) rfl rfl hl.1 rfl (lv_room (Nat.le_of_ble_eq_true rfl)) dX6_cool_12 ⟨Nat.zero_le _, Nat.zero_le _⟩) hS (fun H locs Z hS => ?_)
  refine lv_iload_n hx hb dX6_cool_15 rfl (lv_at hl 0 rfl) ?_
  obtain ⟨rfl, rfl⟩ := wx_ret_ok h
  exact W.iret hx hb hr (fun t ht hW => ⟨rfl, by rw [ht]; exact Z, hS.F ht⟩) hS.2.2 dX6_cool_16
set_option maxRecDepth 20000 in
theorem c_X6_cool (l : Launch) {D : va_G} {ad : Nat → Nat → Nat} {rd : Nat → Nat} {ca : Nat → ClassId} {A : Nat → Prop} {σ : wx_St}     {r : Int32} {σ' : wx_St} (h : f_X6_cool σ = some (r, σ')) : wx_M l yX6_cool wsX6_cool 2 45 D ad rd ca A [.ref (ad 16 99)] σ (some (.int r)) σ' := by
  refine Met.ofW (cc := cX6_cool) (maxL := 2) (ret := (some .int)) (by decide +kernel) rfl ?_
  intro p e s m args below meth c s₁ B0 hml hv
  obtain ⟨rfl, hC, Z, hA⟩ := hv
  have hl := lv_entry ([.ref (ad 16 99)]) (n := 2) (Nat.le_of_ble_eq_true rfl)
  rw [lg_entry_eq]
  generalize (lg_sl ([.ref (ad 16 99)]) ++ List.replicate (2 - (lg_sl ([.ref (ad 16 99)])).length) Slot.unset).toArray = ls at hl ⊢
  exact b_X6_cool_0 ⟨B0.exec, B0.bytes, hml, B0.returns, atoms_spec (ws := wsX6_cool) B0.pre, findClass_of_methodNamed B0.named, B0.notSynchronized, hC, hA⟩   h Z va_S.rf hl
theorem i_X6_liveMany_6 : ∀ w ∈ wsX60, w ∈ wsX6_liveMany := by decide +kernel
theorem k_X6_liveMany_w0 : Cond.fieldLink RX6 7 "WarmProbesModel" "state" "[I" ∈ wsX6_liveMany := by decide +kernel
set_option maxRecDepth 20000 in
set_option maxHeartbeats 4000000 in
theorem b_X6_liveMany_28 (B : wx_B p s m args meth c cX6_liveMany 3 (some .int) wsX6_liveMany RX6 D ad ca A)    {r : Int32} {σ : wx_St} {K4 : Int32 → Int32 → wx_St → Option Int32} (hK4 : ∀ {x1 : Int32} {x2 : Int32}   (h : K4 x1 x2 σ = some r) {H : Heap} {locs : List Loc} (Z : wx_Z D ad rd ca A σ H) (hS : va_S A s.heap H locs) {ls : Array Slot} (hl : lv_has ls 3 [(0, .ref (ad 16 99)), (1, .int x1), (2, .int x2)]), W p l e ({ frames := 2, cells := 0, slots := 0, locals := 43 } : Room) s m args below meth c H locs 0 0 (MQ below (wx_Q D ad rd ca A (some (.int r)) σ) args s 0 0 A) (F0 m 4 ls [])) {x1 : Int32} {x2 : Int32} {y0 : Int32} {y1 : Int32}   (h : f_X6_liveMany_28 K4 x1 x2 y0 y1 σ = some r) {H : Heap} {locs : List Loc} (Z : wx_Z D ad rd ca A σ H) (hS : va_S A s.heap H locs) {ls : Array Slot} (hl : lv_has ls 3 [(0, .ref (ad 16 99)), (1, .int x1), (2, .int x2)]) : W p l e ({ frames := 2, cells := 0, slots := 0, locals := 43 } : Room) s m args below meth c H locs 0 0 (MQ below (wx_Q D ad rd ca A (some (.int r)) σ) args s 0 0 A) (F0 m 28 ls [.int y1, .int y0]) := by
  obtain ⟨hx, hb, hml, hr, hts, hown, hlk, hC, hA⟩ := id B
  unfold f_X6_liveMany_28 at h
  refine lv_iadd hx hb dX6_liveMany_28 ?_
  refine lv_istore_n (lv' := [(1, .int (y0 + y1)), (0, .ref (ad 16 99)), (2, .int x2)]) hx hb dX6_liveMany_29 rfl hl (by decide) rfl (fun ls hl => ?_)
  refine lv_iinc (v := x2 + 1) (lv' := [(2, .int (x2 + 1)), (1, .int (y0 + y1)), (0, .ref (ad 16 99))]) hx hb dX6_liveMany_30 hl (k := 2) rfl rfl (by decide) rfl (fun ls hl => ?_)
  refine lv_goto (tgt := 4) hx hb dX6_liveMany_33 (by decide) ?_
  exact hK4 h Z hS (lv_sub hl [2, 1, 0] rfl)
set_option maxRecDepth 20000 in
set_option maxHeartbeats 4000000 in
theorem b_X6_liveMany_4 (B : wx_B p s m args meth c cX6_liveMany 3 (some .int) wsX6_liveMany RX6 D ad ca A)    {r : Int32} {σ : wx_St}   :
    ∀ {n : Nat} {x1 : Int32} {x2 : Int32}   (h : f_X6_liveMany_4 n x1 x2 σ = some r) {H : Heap} {locs : List Loc} (Z : wx_Z D ad rd ca A σ H) (hS : va_S A s.heap H locs) {ls : Array Slot} (hl : lv_has ls 3 [(0, .ref (ad 16 99)), (1, .int x1), (2, .int x2)]), W p l e ({ frames := 2, cells := 0, slots := 0, locals := 43 } : Room) s m args below meth c H locs 0 0 (MQ below (wx_Q D ad rd ca A (some (.int r)) σ) args s 0 0 A) (F0 m 4 ls []) := by
  obtain ⟨hx, hb, hml, hr, hts, hown, hlk, hC, hA⟩ := id B
  intro n
  induction n with
  | zero => intro x1 x2   h H locs Z hS ls hl; exact wx_no h
  | succ n ih =>
    intro x1 x2   h H locs Z hS ls hl
    rw [f_X6_liveMany_4] at h
    refine lv_iload_n hx hb dX6_liveMany_4 rfl (lv_at hl 2 rfl) ?_
    refine lv_aload_n hx hb dX6_liveMany_5 rfl (lv_at hl 0 rfl) ?_
    refine wx_get (own := RX6) hx hb hts i_X6_liveMany_6 hown hC.1 Z (o := 16) (ci := 6) rfl (rfl : vwCl[6]? = some (RX6, TX6, 25)) 0 (by decide) (hts _ k_X6_liveMany_w0) (fun _ h9 => h9) (f := 0) rfl rfl dX6_liveMany_6 ?_
    refine lv_iconst (v := 5) hx hb dX6_liveMany_9 (by decide) ?_
    obtain ⟨v10, ev10, iv10, h⟩ := wx_rI_ok h
    refine wx_iald hx hb hC.1 Z (o := 16) (k := 0) (n := 109) rfl rfl iv10 dX6_liveMany_10 ev10 ?_
    refine lv_icmp_ge (tgt := 36) hx hb dX6_liveMany_11 (by decide) (fun c11 => ?_) (fun c11 => ?_)
    · replace h := wx_ift c11 h
      refine lv_iload_n hx hb dX6_liveMany_36 rfl (lv_at hl 1 rfl) ?_
      obtain rfl := Option.some.inj h
      exact W.iret hx hb hr (fun t ht hW => ⟨rfl, by rw [ht]; exact Z, hS.F ht⟩) hS.2.2 dX6_liveMany_37
    · replace h := wx_iff c11 h
      refine lv_iload_n hx hb dX6_liveMany_14 rfl (lv_at hl 1 rfl) ?_
      refine lv_aload_n hx hb dX6_liveMany_15 rfl (lv_at hl 0 rfl) ?_
      refine lv_iload_n hx hb dX6_liveMany_16 rfl (lv_at hl 2 rfl) ?_
      obtain ⟨v17, hc17, h⟩ := wx_o_ok h
      refine wx_call (va_runV (As := [.int x2]) (rest := [.int x1]) ⟨hx, hb, hml, hown, hts⟩ (c_X6_isLive l (D := D) (ad := ad) (rd := rd) (ca := ca) (A := A) (σ := σ) hc17) (cwV 1 hts gX6_liveMany_X6_isLive rfl rfl rfl (by decide +kernel) ⟨Nat.le_of_ble_eq_true rfl, Nat.le_of_ble_eq_true rfl⟩) (wx_preV hC Z hS hA rfl (rfl : vwCl[6]? = some (RX6, TX6, 25))) rfl rfl hl.1 rfl (lv_room (Nat.le_of_ble_eq_true rfl)) dX6_liveMany_17 ⟨Nat.zero_le _, Nat.zero_le _⟩) hS (fun H locs Z hS => ?_)
      refine lv_if_eq (tgt := 27) hx hb dX6_liveMany_20 (by decide) (fun c20 => ?_) (fun c20 => ?_)
      · replace h := wx_ift c20 h
        refine lv_iconst (v := 0) hx hb dX6_liveMany_27 (by decide) ?_
        exact b_X6_liveMany_28 B (K4 := (f_X6_liveMany_4 n)) @ih h Z hS (lv_sub hl [0, 1, 2] rfl)
      · replace h := wx_iff c20 h
        refine lv_iconst (v := 1) hx hb dX6_liveMany_23 (by decide) ?_
        refine lv_goto (tgt := 28) hx hb dX6_liveMany_24 (by decide) ?_
        exact b_X6_liveMany_28 B (K4 := (f_X6_liveMany_4 n)) @ih h Z hS (lv_sub hl [0, 1, 2] rfl)
set_option maxRecDepth 20000 in
set_option maxHeartbeats 4000000 in
theorem b_X6_liveMany_0 (B : wx_B p s m args meth c cX6_liveMany 3 (some .int) wsX6_liveMany RX6 D ad ca A)    {r : Int32} {σ : wx_St}     (h : f_X6_liveMany σ = some r) {H : Heap} {locs : List Loc} (Z : wx_Z D ad rd ca A σ H) (hS : va_S A s.heap H locs) {ls : Array Slot} (hl : lv_has ls 3 [(0, .ref (ad 16 99))]) : W p l e ({ frames := 2, cells := 0, slots := 0, locals := 43 } : Room) s m args below meth c H locs 0 0 (MQ below (wx_Q D ad rd ca A (some (.int r)) σ) args s 0 0 A) (F0 m 0 ls []) := by
  obtain ⟨hx, hb, hml, hr, hts, hown, hlk, hC, hA⟩ := id B
  unfold f_X6_liveMany at h
  refine lv_iconst (v := 0) hx hb dX6_liveMany_0 (by decide) ?_
  refine lv_istore_n (lv' := [(1, .int 0), (0, .ref (ad 16 99))]) hx hb dX6_liveMany_1 rfl hl (by decide) rfl (fun ls hl => ?_)
  refine lv_iconst (v := 0) hx hb dX6_liveMany_2 (by decide) ?_
  refine lv_istore_n (lv' := [(2, .int 0), (1, .int 0), (0, .ref (ad 16 99))]) hx hb dX6_liveMany_3 rfl hl (by decide) rfl (fun ls hl => ?_)
  exact b_X6_liveMany_4 B h Z hS (lv_sub hl [2, 1, 0] rfl)
set_option maxRecDepth 20000 in
theorem c_X6_liveMany (l : Launch) {D : va_G} {ad : Nat → Nat → Nat} {rd : Nat → Nat} {ca : Nat → ClassId} {A : Nat → Prop} {σ : wx_St}     {r : Int32} (h : f_X6_liveMany σ = some r) : wx_M l yX6_liveMany wsX6_liveMany 2 43 D ad rd ca A [.ref (ad 16 99)] σ (some (.int r)) σ := by
  refine Met.ofW (cc := cX6_liveMany) (maxL := 3) (ret := (some .int)) (by decide +kernel) rfl ?_
  intro p e s m args below meth c s₁ B0 hml hv
  obtain ⟨rfl, hC, Z, hA⟩ := hv
  have hl := lv_entry ([.ref (ad 16 99)]) (n := 3) (Nat.le_of_ble_eq_true rfl)
  rw [lg_entry_eq]
  generalize (lg_sl ([.ref (ad 16 99)]) ++ List.replicate (3 - (lg_sl ([.ref (ad 16 99)])).length) Slot.unset).toArray = ls at hl ⊢
  exact b_X6_liveMany_0 ⟨B0.exec, B0.bytes, hml, B0.returns, atoms_spec (ws := wsX6_liveMany) B0.pre, findClass_of_methodNamed B0.named, B0.notSynchronized, hC, hA⟩   h Z va_S.rf hl
theorem i_X6_pairsMany_6 : ∀ w ∈ wsX60, w ∈ wsX6_pairsMany := by decide +kernel
theorem k_X6_pairsMany_w0 : Cond.fieldLink RX6 138 "WarmProbesModel" "pairs" "I" ∈ wsX6_pairsMany := by decide +kernel
set_option maxRecDepth 20000 in
set_option maxHeartbeats 4000000 in
theorem b_X6_pairsMany_0 (B : wx_B p s m args meth c cX6_pairsMany 1 (some .int) wsX6_pairsMany RX6 D ad ca A)    {r : Int32} {σ' : wx_St}   {σ : wx_St}  (h : f_X6_pairsMany σ = some (r, σ')) {H : Heap} {locs : List Loc} (Z : wx_Z D ad rd ca A σ H) (hS : va_S A s.heap H locs) {ls : Array Slot} (hl : lv_has ls 1 [(0, .ref (ad 16 99))]) : W p l e ({ frames := 8, cells := 0, slots := 0, locals := 178 } : Room) s m args below meth c H locs 0 0 (MQ below (wx_Q D ad rd ca A (some (.int r)) σ') args s 0 0 A) (F0 m 0 ls []) := by
  obtain ⟨hx, hb, hml, hr, hts, hown, hlk, hC, hA⟩ := id B
  unfold f_X6_pairsMany at h
  refine lv_aload_n hx hb dX6_pairsMany_0 rfl (lv_at hl 0 rfl) ?_
  obtain ⟨v1, σ1, hc1, h⟩ := wx_b_ok h
  refine wx_call (va_runV (As := []) (rest := []) ⟨hx, hb, hml, hown, hts⟩ (c_X6_findPairs l (D := D) (ad := ad) (rd := rd) (ca := ca) (A := A) (σ := σ) hc1) (cwV 0 hts gX6_pairsMany_X6_findPairs rfl rfl rfl (by decide +kernel) ⟨Nat.le_of_ble_eq_true rfl, Nat.le_of_ble_eq_true rfl⟩) (wx_preV hC Z hS hA rfl (rfl : vwCl[6]? = some (RX6, TX6, 25))) rfl rfl hl.1 rfl (lv_room (Nat.le_of_ble_eq_true rfl)) dX6_pairsMany_1 ⟨Nat.zero_le _, Nat.zero_le _⟩) hS (fun H locs Z hS => ?_)
  refine lv_aload_n hx hb dX6_pairsMany_4 rfl (lv_at hl 0 rfl) ?_
  refine wx_get (own := RX6) hx hb hts i_X6_pairsMany_6 hown hC.1 Z (o := 16) (ci := 6) rfl (rfl : vwCl[6]? = some (RX6, TX6, 25)) 16 (by decide) (hts _ k_X6_pairsMany_w0) (fun _ h9 => h9) (f := 1) rfl rfl dX6_pairsMany_5 ?_
  obtain ⟨rfl, rfl⟩ := wx_ret_ok h
  exact W.iret hx hb hr (fun t ht hW => ⟨rfl, by rw [ht]; exact Z, hS.F ht⟩) hS.2.2 dX6_pairsMany_8
set_option maxRecDepth 20000 in
theorem c_X6_pairsMany (l : Launch) {D : va_G} {ad : Nat → Nat → Nat} {rd : Nat → Nat} {ca : Nat → ClassId} {A : Nat → Prop} {σ : wx_St}     {r : Int32} {σ' : wx_St} (h : f_X6_pairsMany σ = some (r, σ')) : wx_M l yX6_pairsMany wsX6_pairsMany 8 178 D ad rd ca A [.ref (ad 16 99)] σ (some (.int r)) σ' := by
  refine Met.ofW (cc := cX6_pairsMany) (maxL := 1) (ret := (some .int)) (by decide +kernel) rfl ?_
  intro p e s m args below meth c s₁ B0 hml hv
  obtain ⟨rfl, hC, Z, hA⟩ := hv
  have hl := lv_entry ([.ref (ad 16 99)]) (n := 1) (Nat.le_of_ble_eq_true rfl)
  rw [lg_entry_eq]
  generalize (lg_sl ([.ref (ad 16 99)]) ++ List.replicate (1 - (lg_sl ([.ref (ad 16 99)])).length) Slot.unset).toArray = ls at hl ⊢
  exact b_X6_pairsMany_0 ⟨B0.exec, B0.bytes, hml, B0.returns, atoms_spec (ws := wsX6_pairsMany) B0.pre, findClass_of_methodNamed B0.named, B0.notSynchronized, hC, hA⟩   h Z va_S.rf hl
set_option maxRecDepth 20000 in
set_option maxHeartbeats 4000000 in
theorem b_X6_suspectsMany_24 (B : wx_B p s m args meth c cX6_suspectsMany 3 (some .int) wsX6_suspectsMany RX6 D ad ca A)    {r : Int32} {σ : wx_St} {K4 : Int32 → Int32 → wx_St → Option Int32} (hK4 : ∀ {x1 : Int32} {x2 : Int32}   (h : K4 x1 x2 σ = some r) {H : Heap} {locs : List Loc} (Z : wx_Z D ad rd ca A σ H) (hS : va_S A s.heap H locs) {ls : Array Slot} (hl : lv_has ls 3 [(0, .ref (ad 16 99)), (1, .int x1), (2, .int x2)]), W p l e ({ frames := 5, cells := 0, slots := 0, locals := 110 } : Room) s m args below meth c H locs 0 0 (MQ below (wx_Q D ad rd ca A (some (.int r)) σ) args s 0 0 A) (F0 m 4 ls [])) {x1 : Int32} {x2 : Int32} {y0 : Int32} {y1 : Int32}   (h : f_X6_suspectsMany_24 K4 x1 x2 y0 y1 σ = some r) {H : Heap} {locs : List Loc} (Z : wx_Z D ad rd ca A σ H) (hS : va_S A s.heap H locs) {ls : Array Slot} (hl : lv_has ls 3 [(0, .ref (ad 16 99)), (1, .int x1), (2, .int x2)]) : W p l e ({ frames := 5, cells := 0, slots := 0, locals := 110 } : Room) s m args below meth c H locs 0 0 (MQ below (wx_Q D ad rd ca A (some (.int r)) σ) args s 0 0 A) (F0 m 24 ls [.int y1, .int y0]) := by
  obtain ⟨hx, hb, hml, hr, hts, hown, hlk, hC, hA⟩ := id B
  unfold f_X6_suspectsMany_24 at h
  refine lv_iadd hx hb dX6_suspectsMany_24 ?_
  refine lv_istore_n (lv' := [(1, .int (y0 + y1)), (0, .ref (ad 16 99)), (2, .int x2)]) hx hb dX6_suspectsMany_25 rfl hl (by decide) rfl (fun ls hl => ?_)
  refine lv_iinc (v := x2 + 1) (lv' := [(2, .int (x2 + 1)), (1, .int (y0 + y1)), (0, .ref (ad 16 99))]) hx hb dX6_suspectsMany_26 hl (k := 2) rfl rfl (by decide) rfl (fun ls hl => ?_)
  refine lv_goto (tgt := 4) hx hb dX6_suspectsMany_29 (by decide) ?_
  exact hK4 h Z hS (lv_sub hl [2, 1, 0] rfl)
set_option maxRecDepth 20000 in
set_option maxHeartbeats 4000000 in
theorem b_X6_suspectsMany_4 (B : wx_B p s m args meth c cX6_suspectsMany 3 (some .int) wsX6_suspectsMany RX6 D ad ca A)    {r : Int32} {σ : wx_St}   :
    ∀ {n : Nat} {x1 : Int32} {x2 : Int32}   (h : f_X6_suspectsMany_4 n x1 x2 σ = some r) {H : Heap} {locs : List Loc} (Z : wx_Z D ad rd ca A σ H) (hS : va_S A s.heap H locs) {ls : Array Slot} (hl : lv_has ls 3 [(0, .ref (ad 16 99)), (1, .int x1), (2, .int x2)]), W p l e ({ frames := 5, cells := 0, slots := 0, locals := 110 } : Room) s m args below meth c H locs 0 0 (MQ below (wx_Q D ad rd ca A (some (.int r)) σ) args s 0 0 A) (F0 m 4 ls []) := by
  obtain ⟨hx, hb, hml, hr, hts, hown, hlk, hC, hA⟩ := id B
  intro n
  induction n with
  | zero => intro x1 x2   h H locs Z hS ls hl; exact wx_no h
  | succ n ih =>
    intro x1 x2   h H locs Z hS ls hl
    rw [f_X6_suspectsMany_4] at h
    refine lv_iload_n hx hb dX6_suspectsMany_4 rfl (lv_at hl 2 rfl) ?_
    refine lv_bipush (v := 64) hx hb dX6_suspectsMany_5 (by decide) ?_
    refine lv_icmp_ge (tgt := 32) hx hb dX6_suspectsMany_7 (by decide) (fun c7 => ?_) (fun c7 => ?_)
    · replace h := wx_ift c7 h
      refine lv_iload_n hx hb dX6_suspectsMany_32 rfl (lv_at hl 1 rfl) ?_
      obtain rfl := Option.some.inj h
      exact W.iret hx hb hr (fun t ht hW => ⟨rfl, by rw [ht]; exact Z, hS.F ht⟩) hS.2.2 dX6_suspectsMany_33
    · replace h := wx_iff c7 h
      refine lv_iload_n hx hb dX6_suspectsMany_10 rfl (lv_at hl 1 rfl) ?_
      refine lv_aload_n hx hb dX6_suspectsMany_11 rfl (lv_at hl 0 rfl) ?_
      refine lv_iload_n hx hb dX6_suspectsMany_12 rfl (lv_at hl 2 rfl) ?_
      obtain ⟨v13, hc13, h⟩ := wx_o_ok h
      refine wx_call (va_runV (As := [.int x2]) (rest := [.int x1]) ⟨hx, hb, hml, hown, hts⟩ (c_X6_isSuspect l (D := D) (ad := ad) (rd := rd) (ca := ca) (A := A) (σ := σ) hc13) (cwV 1 hts gX6_suspectsMany_X6_isSuspect rfl rfl rfl (by decide +kernel) ⟨Nat.le_of_ble_eq_true rfl, Nat.le_of_ble_eq_true rfl⟩) (wx_preV hC Z hS hA rfl (rfl : vwCl[6]? = some (RX6, TX6, 25))) rfl rfl hl.1 rfl (lv_room (Nat.le_of_ble_eq_true rfl)) dX6_suspectsMany_13 ⟨Nat.zero_le _, Nat.zero_le _⟩) hS (fun H locs Z hS => ?_)
      refine lv_if_eq (tgt := 23) hx hb dX6_suspectsMany_16 (by decide) (fun c16 => ?_) (fun c16 => ?_)
      · replace h := wx_ift c16 h
        refine lv_iconst (v := 0) hx hb dX6_suspectsMany_23 (by decide) ?_
        exact b_X6_suspectsMany_24 B (K4 := (f_X6_suspectsMany_4 n)) @ih h Z hS (lv_sub hl [0, 1, 2] rfl)
      · replace h := wx_iff c16 h
        refine lv_iconst (v := 1) hx hb dX6_suspectsMany_19 (by decide) ?_
        refine lv_goto (tgt := 24) hx hb dX6_suspectsMany_20 (by decide) ?_
        exact b_X6_suspectsMany_24 B (K4 := (f_X6_suspectsMany_4 n)) @ih h Z hS (lv_sub hl [0, 1, 2] rfl)
set_option maxRecDepth 20000 in
set_option maxHeartbeats 4000000 in
theorem b_X6_suspectsMany_0 (B : wx_B p s m args meth c cX6_suspectsMany 3 (some .int) wsX6_suspectsMany RX6 D ad ca A)    {r : Int32} {σ : wx_St}     (h : f_X6_suspectsMany σ = some r) {H : Heap} {locs : List Loc} (Z : wx_Z D ad rd ca A σ H) (hS : va_S A s.heap H locs) {ls : Array Slot} (hl : lv_has ls 3 [(0, .ref (ad 16 99))]) : W p l e ({ frames := 5, cells := 0, slots := 0, locals := 110 } : Room) s m args below meth c H locs 0 0 (MQ below (wx_Q D ad rd ca A (some (.int r)) σ) args s 0 0 A) (F0 m 0 ls []) := by
  obtain ⟨hx, hb, hml, hr, hts, hown, hlk, hC, hA⟩ := id B
  unfold f_X6_suspectsMany at h
  refine lv_iconst (v := 0) hx hb dX6_suspectsMany_0 (by decide) ?_
  refine lv_istore_n (lv' := [(1, .int 0), (0, .ref (ad 16 99))]) hx hb dX6_suspectsMany_1 rfl hl (by decide) rfl (fun ls hl => ?_)
  refine lv_iconst (v := 0) hx hb dX6_suspectsMany_2 (by decide) ?_
  refine lv_istore_n (lv' := [(2, .int 0), (1, .int 0), (0, .ref (ad 16 99))]) hx hb dX6_suspectsMany_3 rfl hl (by decide) rfl (fun ls hl => ?_)
  exact b_X6_suspectsMany_4 B h Z hS (lv_sub hl [2, 1, 0] rfl)
set_option maxRecDepth 20000 in
theorem c_X6_suspectsMany (l : Launch) {D : va_G} {ad : Nat → Nat → Nat} {rd : Nat → Nat} {ca : Nat → ClassId} {A : Nat → Prop} {σ : wx_St}     {r : Int32} (h : f_X6_suspectsMany σ = some r) : wx_M l yX6_suspectsMany wsX6_suspectsMany 5 110 D ad rd ca A [.ref (ad 16 99)] σ (some (.int r)) σ := by
  refine Met.ofW (cc := cX6_suspectsMany) (maxL := 3) (ret := (some .int)) (by decide +kernel) rfl ?_
  intro p e s m args below meth c s₁ B0 hml hv
  obtain ⟨rfl, hC, Z, hA⟩ := hv
  have hl := lv_entry ([.ref (ad 16 99)]) (n := 3) (Nat.le_of_ble_eq_true rfl)
  rw [lg_entry_eq]
  generalize (lg_sl ([.ref (ad 16 99)]) ++ List.replicate (3 - (lg_sl ([.ref (ad 16 99)])).length) Slot.unset).toArray = ls at hl ⊢
  exact b_X6_suspectsMany_0 ⟨B0.exec, B0.bytes, hml, B0.returns, atoms_spec (ws := wsX6_suspectsMany) B0.pre, findClass_of_methodNamed B0.named, B0.notSynchronized, hC, hA⟩   h Z va_S.rf hl
set_option maxRecDepth 20000 in
set_option maxHeartbeats 4000000 in
theorem b_X6_tracksMany_24 (B : wx_B p s m args meth c cX6_tracksMany 3 (some .int) wsX6_tracksMany RX6 D ad ca A)    {r : Int32} {σ : wx_St} {K4 : Int32 → Int32 → wx_St → Option Int32} (hK4 : ∀ {x1 : Int32} {x2 : Int32}   (h : K4 x1 x2 σ = some r) {H : Heap} {locs : List Loc} (Z : wx_Z D ad rd ca A σ H) (hS : va_S A s.heap H locs) {ls : Array Slot} (hl : lv_has ls 3 [(0, .ref (ad 16 99)), (1, .int x1), (2, .int x2)]), W p l e ({ frames := 1, cells := 0, slots := 0, locals := 21 } : Room) s m args below meth c H locs 0 0 (MQ below (wx_Q D ad rd ca A (some (.int r)) σ) args s 0 0 A) (F0 m 4 ls [])) {x1 : Int32} {x2 : Int32} {y0 : Int32} {y1 : Int32}   (h : f_X6_tracksMany_24 K4 x1 x2 y0 y1 σ = some r) {H : Heap} {locs : List Loc} (Z : wx_Z D ad rd ca A σ H) (hS : va_S A s.heap H locs) {ls : Array Slot} (hl : lv_has ls 3 [(0, .ref (ad 16 99)), (1, .int x1), (2, .int x2)]) : W p l e ({ frames := 1, cells := 0, slots := 0, locals := 21 } : Room) s m args below meth c H locs 0 0 (MQ below (wx_Q D ad rd ca A (some (.int r)) σ) args s 0 0 A) (F0 m 24 ls [.int y1, .int y0]) := by
  obtain ⟨hx, hb, hml, hr, hts, hown, hlk, hC, hA⟩ := id B
  unfold f_X6_tracksMany_24 at h
  refine lv_iadd hx hb dX6_tracksMany_24 ?_
  refine lv_istore_n (lv' := [(1, .int (y0 + y1)), (0, .ref (ad 16 99)), (2, .int x2)]) hx hb dX6_tracksMany_25 rfl hl (by decide) rfl (fun ls hl => ?_)
  refine lv_iinc (v := x2 + 1) (lv' := [(2, .int (x2 + 1)), (1, .int (y0 + y1)), (0, .ref (ad 16 99))]) hx hb dX6_tracksMany_26 hl (k := 2) rfl rfl (by decide) rfl (fun ls hl => ?_)
  refine lv_goto (tgt := 4) hx hb dX6_tracksMany_29 (by decide) ?_
  exact hK4 h Z hS (lv_sub hl [2, 1, 0] rfl)
set_option maxRecDepth 20000 in
set_option maxHeartbeats 4000000 in
theorem b_X6_tracksMany_4 (B : wx_B p s m args meth c cX6_tracksMany 3 (some .int) wsX6_tracksMany RX6 D ad ca A)    {r : Int32} {σ : wx_St}   :
    ∀ {n : Nat} {x1 : Int32} {x2 : Int32}   (h : f_X6_tracksMany_4 n x1 x2 σ = some r) {H : Heap} {locs : List Loc} (Z : wx_Z D ad rd ca A σ H) (hS : va_S A s.heap H locs) {ls : Array Slot} (hl : lv_has ls 3 [(0, .ref (ad 16 99)), (1, .int x1), (2, .int x2)]), W p l e ({ frames := 1, cells := 0, slots := 0, locals := 21 } : Room) s m args below meth c H locs 0 0 (MQ below (wx_Q D ad rd ca A (some (.int r)) σ) args s 0 0 A) (F0 m 4 ls []) := by
  obtain ⟨hx, hb, hml, hr, hts, hown, hlk, hC, hA⟩ := id B
  intro n
  induction n with
  | zero => intro x1 x2   h H locs Z hS ls hl; exact wx_no h
  | succ n ih =>
    intro x1 x2   h H locs Z hS ls hl
    rw [f_X6_tracksMany_4] at h
    refine lv_iload_n hx hb dX6_tracksMany_4 rfl (lv_at hl 2 rfl) ?_
    refine lv_bipush (v := 64) hx hb dX6_tracksMany_5 (by decide) ?_
    refine lv_icmp_ge (tgt := 32) hx hb dX6_tracksMany_7 (by decide) (fun c7 => ?_) (fun c7 => ?_)
    · replace h := wx_ift c7 h
      refine lv_iload_n hx hb dX6_tracksMany_32 rfl (lv_at hl 1 rfl) ?_
      obtain rfl := Option.some.inj h
      exact W.iret hx hb hr (fun t ht hW => ⟨rfl, by rw [ht]; exact Z, hS.F ht⟩) hS.2.2 dX6_tracksMany_33
    · replace h := wx_iff c7 h
      refine lv_iload_n hx hb dX6_tracksMany_10 rfl (lv_at hl 1 rfl) ?_
      refine lv_aload_n hx hb dX6_tracksMany_11 rfl (lv_at hl 0 rfl) ?_
      refine lv_iload_n hx hb dX6_tracksMany_12 rfl (lv_at hl 2 rfl) ?_
      obtain ⟨v13, hc13, h⟩ := wx_o_ok h
      refine wx_call (va_runV (As := [.int x2]) (rest := [.int x1]) ⟨hx, hb, hml, hown, hts⟩ (c_X6_netAt l (D := D) (ad := ad) (rd := rd) (ca := ca) (A := A) (σ := σ) hc13) (cwV 1 hts gX6_tracksMany_X6_netAt rfl rfl rfl (by decide +kernel) ⟨Nat.le_of_ble_eq_true rfl, Nat.le_of_ble_eq_true rfl⟩) (wx_preV hC Z hS hA rfl (rfl : vwCl[6]? = some (RX6, TX6, 25))) rfl rfl hl.1 rfl (lv_room (Nat.le_of_ble_eq_true rfl)) dX6_tracksMany_13 ⟨Nat.zero_le _, Nat.zero_le _⟩) hS (fun H locs Z hS => ?_)
      refine lv_if_le (tgt := 23) hx hb dX6_tracksMany_16 (by decide) (fun c16 => ?_) (fun c16 => ?_)
      · replace h := wx_ift c16 h
        refine lv_iconst (v := 0) hx hb dX6_tracksMany_23 (by decide) ?_
        exact b_X6_tracksMany_24 B (K4 := (f_X6_tracksMany_4 n)) @ih h Z hS (lv_sub hl [0, 1, 2] rfl)
      · replace h := wx_iff c16 h
        refine lv_iconst (v := 1) hx hb dX6_tracksMany_19 (by decide) ?_
        refine lv_goto (tgt := 24) hx hb dX6_tracksMany_20 (by decide) ?_
        exact b_X6_tracksMany_24 B (K4 := (f_X6_tracksMany_4 n)) @ih h Z hS (lv_sub hl [0, 1, 2] rfl)
set_option maxRecDepth 20000 in
set_option maxHeartbeats 4000000 in
theorem b_X6_tracksMany_0 (B : wx_B p s m args meth c cX6_tracksMany 3 (some .int) wsX6_tracksMany RX6 D ad ca A)    {r : Int32} {σ : wx_St}     (h : f_X6_tracksMany σ = some r) {H : Heap} {locs : List Loc} (Z : wx_Z D ad rd ca A σ H) (hS : va_S A s.heap H locs) {ls : Array Slot} (hl : lv_has ls 3 [(0, .ref (ad 16 99))]) : W p l e ({ frames := 1, cells := 0, slots := 0, locals := 21 } : Room) s m args below meth c H locs 0 0 (MQ below (wx_Q D ad rd ca A (some (.int r)) σ) args s 0 0 A) (F0 m 0 ls []) := by
  obtain ⟨hx, hb, hml, hr, hts, hown, hlk, hC, hA⟩ := id B
  unfold f_X6_tracksMany at h
  refine lv_iconst (v := 0) hx hb dX6_tracksMany_0 (by decide) ?_
  refine lv_istore_n (lv' := [(1, .int 0), (0, .ref (ad 16 99))]) hx hb dX6_tracksMany_1 rfl hl (by decide) rfl (fun ls hl => ?_)
  refine lv_iconst (v := 0) hx hb dX6_tracksMany_2 (by decide) ?_
  refine lv_istore_n (lv' := [(2, .int 0), (1, .int 0), (0, .ref (ad 16 99))]) hx hb dX6_tracksMany_3 rfl hl (by decide) rfl (fun ls hl => ?_)
  exact b_X6_tracksMany_4 B h Z hS (lv_sub hl [2, 1, 0] rfl)
set_option maxRecDepth 20000 in
theorem c_X6_tracksMany (l : Launch) {D : va_G} {ad : Nat → Nat → Nat} {rd : Nat → Nat} {ca : Nat → ClassId} {A : Nat → Prop} {σ : wx_St}     {r : Int32} (h : f_X6_tracksMany σ = some r) : wx_M l yX6_tracksMany wsX6_tracksMany 1 21 D ad rd ca A [.ref (ad 16 99)] σ (some (.int r)) σ := by
  refine Met.ofW (cc := cX6_tracksMany) (maxL := 3) (ret := (some .int)) (by decide +kernel) rfl ?_
  intro p e s m args below meth c s₁ B0 hml hv
  obtain ⟨rfl, hC, Z, hA⟩ := hv
  have hl := lv_entry ([.ref (ad 16 99)]) (n := 3) (Nat.le_of_ble_eq_true rfl)
  rw [lg_entry_eq]
  generalize (lg_sl ([.ref (ad 16 99)]) ++ List.replicate (3 - (lg_sl ([.ref (ad 16 99)])).length) Slot.unset).toArray = ls at hl ⊢
  exact b_X6_tracksMany_0 ⟨B0.exec, B0.bytes, hml, B0.returns, atoms_spec (ws := wsX6_tracksMany) B0.pre, findClass_of_methodNamed B0.named, B0.notSynchronized, hC, hA⟩   h Z va_S.rf hl
theorem i_X6_warmest_6 : ∀ w ∈ wsX60, w ∈ wsX6_warmest := by decide +kernel
theorem k_X6_warmest_w0 : Cond.fieldLink RX6 13 "WarmProbesModel" "warmth" "[F" ∈ wsX6_warmest := by decide +kernel
set_option maxRecDepth 20000 in
set_option maxHeartbeats 4000000 in
theorem b_X6_warmest_31 (B : wx_B p s m args meth c cX6_warmest 3 (some .int) wsX6_warmest RX6 D ad ca A)    {r : Int32} {σ : wx_St} {K4 : Int32 → Int32 → wx_St → Option Int32} (hK4 : ∀ {x1 : Int32} {x2 : Int32}   (h : K4 x1 x2 σ = some r) {H : Heap} {locs : List Loc} (Z : wx_Z D ad rd ca A σ H) (hS : va_S A s.heap H locs) {ls : Array Slot} (hl : lv_has ls 3 [(0, .ref (ad 16 99)), (1, .int x1), (2, .int x2)]), W p l e ({ frames := 0, cells := 0, slots := 0, locals := 0 } : Room) s m args below meth c H locs 0 0 (MQ below (wx_Q D ad rd ca A (some (.int r)) σ) args s 0 0 A) (F0 m 4 ls [])) {x1 : Int32} {x2 : Int32} {y0 : Int32}   (h : f_X6_warmest_31 K4 x1 x2 y0 σ = some r) {H : Heap} {locs : List Loc} (Z : wx_Z D ad rd ca A σ H) (hS : va_S A s.heap H locs) {ls : Array Slot} (hl : lv_has ls 3 [(0, .ref (ad 16 99)), (1, .int x1), (2, .int x2)]) : W p l e ({ frames := 0, cells := 0, slots := 0, locals := 0 } : Room) s m args below meth c H locs 0 0 (MQ below (wx_Q D ad rd ca A (some (.int r)) σ) args s 0 0 A) (F0 m 31 ls [.int y0]) := by
  obtain ⟨hx, hb, hml, hr, hts, hown, hlk, hC, hA⟩ := id B
  unfold f_X6_warmest_31 at h
  refine lv_istore_n (lv' := [(1, .int y0), (0, .ref (ad 16 99)), (2, .int x2)]) hx hb dX6_warmest_31 rfl hl (by decide) rfl (fun ls hl => ?_)
  refine lv_iinc (v := x2 + 1) (lv' := [(2, .int (x2 + 1)), (1, .int y0), (0, .ref (ad 16 99))]) hx hb dX6_warmest_32 hl (k := 2) rfl rfl (by decide) rfl (fun ls hl => ?_)
  refine lv_goto (tgt := 4) hx hb dX6_warmest_35 (by decide) ?_
  exact hK4 h Z hS (lv_sub hl [2, 1, 0] rfl)
set_option maxRecDepth 20000 in
set_option maxHeartbeats 4000000 in
theorem b_X6_warmest_4 (B : wx_B p s m args meth c cX6_warmest 3 (some .int) wsX6_warmest RX6 D ad ca A)    {r : Int32} {σ : wx_St}   :
    ∀ {n : Nat} {x1 : Int32} {x2 : Int32}   (h : f_X6_warmest_4 n x1 x2 σ = some r) {H : Heap} {locs : List Loc} (Z : wx_Z D ad rd ca A σ H) (hS : va_S A s.heap H locs) {ls : Array Slot} (hl : lv_has ls 3 [(0, .ref (ad 16 99)), (1, .int x1), (2, .int x2)]), W p l e ({ frames := 0, cells := 0, slots := 0, locals := 0 } : Room) s m args below meth c H locs 0 0 (MQ below (wx_Q D ad rd ca A (some (.int r)) σ) args s 0 0 A) (F0 m 4 ls []) := by
  obtain ⟨hx, hb, hml, hr, hts, hown, hlk, hC, hA⟩ := id B
  intro n
  induction n with
  | zero => intro x1 x2   h H locs Z hS ls hl; exact wx_no h
  | succ n ih =>
    intro x1 x2   h H locs Z hS ls hl
    rw [f_X6_warmest_4] at h
    refine lv_iload_n hx hb dX6_warmest_4 rfl (lv_at hl 2 rfl) ?_
    refine lv_bipush (v := 64) hx hb dX6_warmest_5 (by decide) ?_
    refine lv_icmp_ge (tgt := 38) hx hb dX6_warmest_7 (by decide) (fun c7 => ?_) (fun c7 => ?_)
    · replace h := wx_ift c7 h
      refine lv_iload_n hx hb dX6_warmest_38 rfl (lv_at hl 1 rfl) ?_
      obtain rfl := Option.some.inj h
      exact W.iret hx hb hr (fun t ht hW => ⟨rfl, by rw [ht]; exact Z, hS.F ht⟩) hS.2.2 dX6_warmest_39
    · replace h := wx_iff c7 h
      refine lv_aload_n hx hb dX6_warmest_10 rfl (lv_at hl 0 rfl) ?_
      refine wx_get (own := RX6) hx hb hts i_X6_warmest_6 hown hC.1 Z (o := 16) (ci := 6) rfl (rfl : vwCl[6]? = some (RX6, TX6, 25)) 1 (by decide) (hts _ k_X6_warmest_w0) (fun _ h9 => h9) (f := 0) rfl rfl dX6_warmest_11 ?_
      refine lv_iload_n hx hb dX6_warmest_14 rfl (lv_at hl 2 rfl) ?_
      obtain ⟨v15, ev15, iv15, h⟩ := wx_rF_ok h
      refine wx_fald hx hb hC.1 Z (o := 16) (k := 1) (n := 64) rfl rfl iv15 dX6_warmest_15 ev15 ?_
      refine lv_aload_n hx hb dX6_warmest_16 rfl (lv_at hl 0 rfl) ?_
      refine wx_get (own := RX6) hx hb hts i_X6_warmest_6 hown hC.1 Z (o := 16) (ci := 6) rfl (rfl : vwCl[6]? = some (RX6, TX6, 25)) 1 (by decide) (hts _ k_X6_warmest_w0) (fun _ h9 => h9) (f := 0) rfl rfl dX6_warmest_17 ?_
      refine lv_iload_n hx hb dX6_warmest_20 rfl (lv_at hl 1 rfl) ?_
      obtain ⟨v21, ev21, iv21, h⟩ := wx_rF_ok h
      refine wx_fald hx hb hC.1 Z (o := 16) (k := 1) (n := 64) rfl rfl iv21 dX6_warmest_21 ev21 ?_
      refine lv_fcmp hx hb dX6_warmest_22 ?_
      refine lv_if_le (tgt := 30) hx hb dX6_warmest_23 (by decide) (fun c23 => ?_) (fun c23 => ?_)
      · replace h := wx_ift c23 h
        refine lv_iload_n hx hb dX6_warmest_30 rfl (lv_at hl 1 rfl) ?_
        exact b_X6_warmest_31 B (K4 := (f_X6_warmest_4 n)) @ih h Z hS (lv_sub hl [0, 1, 2] rfl)
      · replace h := wx_iff c23 h
        refine lv_iload_n hx hb dX6_warmest_26 rfl (lv_at hl 2 rfl) ?_
        refine lv_goto (tgt := 31) hx hb dX6_warmest_27 (by decide) ?_
        exact b_X6_warmest_31 B (K4 := (f_X6_warmest_4 n)) @ih h Z hS (lv_sub hl [0, 1, 2] rfl)
set_option maxRecDepth 20000 in
set_option maxHeartbeats 4000000 in
theorem b_X6_warmest_0 (B : wx_B p s m args meth c cX6_warmest 3 (some .int) wsX6_warmest RX6 D ad ca A)    {r : Int32} {σ : wx_St}     (h : f_X6_warmest σ = some r) {H : Heap} {locs : List Loc} (Z : wx_Z D ad rd ca A σ H) (hS : va_S A s.heap H locs) {ls : Array Slot} (hl : lv_has ls 3 [(0, .ref (ad 16 99))]) : W p l e ({ frames := 0, cells := 0, slots := 0, locals := 0 } : Room) s m args below meth c H locs 0 0 (MQ below (wx_Q D ad rd ca A (some (.int r)) σ) args s 0 0 A) (F0 m 0 ls []) := by
  obtain ⟨hx, hb, hml, hr, hts, hown, hlk, hC, hA⟩ := id B
  unfold f_X6_warmest at h
  refine lv_iconst (v := 0) hx hb dX6_warmest_0 (by decide) ?_
  refine lv_istore_n (lv' := [(1, .int 0), (0, .ref (ad 16 99))]) hx hb dX6_warmest_1 rfl hl (by decide) rfl (fun ls hl => ?_)
  refine lv_iconst (v := 1) hx hb dX6_warmest_2 (by decide) ?_
  refine lv_istore_n (lv' := [(2, .int 1), (1, .int 0), (0, .ref (ad 16 99))]) hx hb dX6_warmest_3 rfl hl (by decide) rfl (fun ls hl => ?_)
  exact b_X6_warmest_4 B h Z hS (lv_sub hl [2, 1, 0] rfl)
set_option maxRecDepth 20000 in
theorem c_X6_warmest (l : Launch) {D : va_G} {ad : Nat → Nat → Nat} {rd : Nat → Nat} {ca : Nat → ClassId} {A : Nat → Prop} {σ : wx_St}     {r : Int32} (h : f_X6_warmest σ = some r) : wx_M l yX6_warmest wsX6_warmest 0 0 D ad rd ca A [.ref (ad 16 99)] σ (some (.int r)) σ := by
  refine Met.ofW (cc := cX6_warmest) (maxL := 3) (ret := (some .int)) (by decide +kernel) rfl ?_
  intro p e s m args below meth c s₁ B0 hml hv
  obtain ⟨rfl, hC, Z, hA⟩ := hv
  have hl := lv_entry ([.ref (ad 16 99)]) (n := 3) (Nat.le_of_ble_eq_true rfl)
  rw [lg_entry_eq]
  generalize (lg_sl ([.ref (ad 16 99)]) ++ List.replicate (3 - (lg_sl ([.ref (ad 16 99)])).length) Slot.unset).toArray = ls at hl ⊢
  exact b_X6_warmest_0 ⟨B0.exec, B0.bytes, hml, B0.returns, atoms_spec (ws := wsX6_warmest) B0.pre, findClass_of_methodNamed B0.named, B0.notSynchronized, hC, hA⟩   h Z va_S.rf hl
theorem i_X6_count_6 : ∀ w ∈ wsX60, w ∈ wsX6_count := by decide +kernel
theorem k_X6_count_w0 : Cond.fieldLink RX6 7 "WarmProbesModel" "state" "[I" ∈ wsX6_count := by decide +kernel
theorem k_X6_count_w1 : Cond.fieldLink RX6 223 "WarmProbesModel" "padLength" "I" ∈ wsX6_count := by decide +kernel
theorem k_X6_count_w2 : Cond.fieldLink RX6 56 "WarmProbesModel" "recorded" "I" ∈ wsX6_count := by decide +kernel
set_option maxRecDepth 20000 in
set_option maxHeartbeats 4000000 in
theorem b_X6_count_0 (B : wx_B p s m args meth c cX6_count 2 (some .int) wsX6_count RX6 D ad ca A)    {r : Int32} {σ' : wx_St}  {x1 : Int32} {σ : wx_St}  (h : f_X6_count x1 σ = some (r, σ')) {H : Heap} {locs : List Loc} (Z : wx_Z D ad rd ca A σ H) (hS : va_S A s.heap H locs) {ls : Array Slot} (hl : lv_has ls 2 [(0, .ref (ad 16 99)), (1, .int x1)]) : W p l e ({ frames := 9, cells := 0, slots := 0, locals := 198 } : Room) s m args below meth c H locs 0 0 (MQ below (wx_Q D ad rd ca A (some (.int r)) σ') args s 0 0 A) (F0 m 0 ls []) := by
  obtain ⟨hx, hb, hml, hr, hts, hown, hlk, hC, hA⟩ := id B
  unfold f_X6_count at h
  refine lv_iload_n hx hb dX6_count_0 rfl (lv_at hl 1 rfl) ?_
  by_cases c1_0 : x1 = 0
  · replace h := wx_ift c1_0 h
    refine lv_tableIn (off := 75) (tgt := 76) hx hb dX6_count_1 (by rw [c1_0]; decide) (by rw [c1_0]; decide) (by rw [c1_0]; rfl) (by decide) ?_
    refine lv_aload_n hx hb dX6_count_76 rfl (lv_at hl 0 rfl) ?_
    refine wx_get (own := RX6) hx hb hts i_X6_count_6 hown hC.1 Z (o := 16) (ci := 6) rfl (rfl : vwCl[6]? = some (RX6, TX6, 25)) 0 (by decide) (hts _ k_X6_count_w0) (fun _ h9 => h9) (f := 0) rfl rfl dX6_count_77 ?_
    refine lv_iconst (v := 4) hx hb dX6_count_80 (by decide) ?_
    obtain ⟨v81, ev81, iv81, h⟩ := wx_rI_ok h
    refine wx_iald hx hb hC.1 Z (o := 16) (k := 0) (n := 109) rfl rfl iv81 dX6_count_81 ev81 ?_
    obtain ⟨rfl, rfl⟩ := wx_ret_ok h
    exact W.iret hx hb hr (fun t ht hW => ⟨rfl, by rw [ht]; exact Z, hS.F ht⟩) hS.2.2 dX6_count_82
  · replace h := wx_iff c1_0 h
    by_cases c1_1 : x1 = 1
    · replace h := wx_ift c1_1 h
      refine lv_tableIn (off := 82) (tgt := 83) hx hb dX6_count_1 (by rw [c1_1]; decide) (by rw [c1_1]; decide) (by rw [c1_1]; rfl) (by decide) ?_
      refine lv_aload_n hx hb dX6_count_83 rfl (lv_at hl 0 rfl) ?_
      refine wx_get (own := RX6) hx hb hts i_X6_count_6 hown hC.1 Z (o := 16) (ci := 6) rfl (rfl : vwCl[6]? = some (RX6, TX6, 25)) 0 (by decide) (hts _ k_X6_count_w0) (fun _ h9 => h9) (f := 0) rfl rfl dX6_count_84 ?_
      refine lv_iconst (v := 5) hx hb dX6_count_87 (by decide) ?_
      obtain ⟨v88, ev88, iv88, h⟩ := wx_rI_ok h
      refine wx_iald hx hb hC.1 Z (o := 16) (k := 0) (n := 109) rfl rfl iv88 dX6_count_88 ev88 ?_
      obtain ⟨rfl, rfl⟩ := wx_ret_ok h
      exact W.iret hx hb hr (fun t ht hW => ⟨rfl, by rw [ht]; exact Z, hS.F ht⟩) hS.2.2 dX6_count_89
    · replace h := wx_iff c1_1 h
      by_cases c1_2 : x1 = 2
      · replace h := wx_ift c1_2 h
        refine lv_tableIn (off := 89) (tgt := 90) hx hb dX6_count_1 (by rw [c1_2]; decide) (by rw [c1_2]; decide) (by rw [c1_2]; rfl) (by decide) ?_
        refine lv_aload_n hx hb dX6_count_90 rfl (lv_at hl 0 rfl) ?_
        obtain ⟨v91, hc91, h⟩ := wx_o_ok h
        refine wx_call (va_runV (As := []) (rest := []) ⟨hx, hb, hml, hown, hts⟩ (c_X6_liveMany l (D := D) (ad := ad) (rd := rd) (ca := ca) (A := A) (σ := σ) hc91) (cwV 0 hts gX6_count_X6_liveMany rfl rfl rfl (by decide +kernel) ⟨Nat.le_of_ble_eq_true rfl, Nat.le_of_ble_eq_true rfl⟩) (wx_preV hC Z hS hA rfl (rfl : vwCl[6]? = some (RX6, TX6, 25))) rfl rfl hl.1 rfl (lv_room (Nat.le_of_ble_eq_true rfl)) dX6_count_91 ⟨Nat.zero_le _, Nat.zero_le _⟩) hS (fun H locs Z hS => ?_)
        obtain ⟨rfl, rfl⟩ := wx_ret_ok h
        exact W.iret hx hb hr (fun t ht hW => ⟨rfl, by rw [ht]; exact Z, hS.F ht⟩) hS.2.2 dX6_count_94
      · replace h := wx_iff c1_2 h
        by_cases c1_3 : x1 = 3
        · replace h := wx_ift c1_3 h
          refine lv_tableIn (off := 94) (tgt := 95) hx hb dX6_count_1 (by rw [c1_3]; decide) (by rw [c1_3]; decide) (by rw [c1_3]; rfl) (by decide) ?_
          refine lv_aload_n hx hb dX6_count_95 rfl (lv_at hl 0 rfl) ?_
          refine wx_get (own := RX6) hx hb hts i_X6_count_6 hown hC.1 Z (o := 16) (ci := 6) rfl (rfl : vwCl[6]? = some (RX6, TX6, 25)) 0 (by decide) (hts _ k_X6_count_w0) (fun _ h9 => h9) (f := 0) rfl rfl dX6_count_96 ?_
          refine lv_bipush (v := 6) hx hb dX6_count_99 (by decide) ?_
          obtain ⟨v101, ev101, iv101, h⟩ := wx_rI_ok h
          refine wx_iald hx hb hC.1 Z (o := 16) (k := 0) (n := 109) rfl rfl iv101 dX6_count_101 ev101 ?_
          obtain ⟨rfl, rfl⟩ := wx_ret_ok h
          exact W.iret hx hb hr (fun t ht hW => ⟨rfl, by rw [ht]; exact Z, hS.F ht⟩) hS.2.2 dX6_count_102
        · replace h := wx_iff c1_3 h
          by_cases c1_4 : x1 = 4
          · replace h := wx_ift c1_4 h
            refine lv_tableIn (off := 102) (tgt := 103) hx hb dX6_count_1 (by rw [c1_4]; decide) (by rw [c1_4]; decide) (by rw [c1_4]; rfl) (by decide) ?_
            refine lv_aload_n hx hb dX6_count_103 rfl (lv_at hl 0 rfl) ?_
            obtain ⟨v104, hc104, h⟩ := wx_o_ok h
            refine wx_call (va_runV (As := []) (rest := []) ⟨hx, hb, hml, hown, hts⟩ (c_X6_tracksMany l (D := D) (ad := ad) (rd := rd) (ca := ca) (A := A) (σ := σ) hc104) (cwV 0 hts gX6_count_X6_tracksMany rfl rfl rfl (by decide +kernel) ⟨Nat.le_of_ble_eq_true rfl, Nat.le_of_ble_eq_true rfl⟩) (wx_preV hC Z hS hA rfl (rfl : vwCl[6]? = some (RX6, TX6, 25))) rfl rfl hl.1 rfl (lv_room (Nat.le_of_ble_eq_true rfl)) dX6_count_104 ⟨Nat.zero_le _, Nat.zero_le _⟩) hS (fun H locs Z hS => ?_)
            obtain ⟨rfl, rfl⟩ := wx_ret_ok h
            exact W.iret hx hb hr (fun t ht hW => ⟨rfl, by rw [ht]; exact Z, hS.F ht⟩) hS.2.2 dX6_count_107
          · replace h := wx_iff c1_4 h
            by_cases c1_5 : x1 = 5
            · replace h := wx_ift c1_5 h
              refine lv_tableIn (off := 107) (tgt := 108) hx hb dX6_count_1 (by rw [c1_5]; decide) (by rw [c1_5]; decide) (by rw [c1_5]; rfl) (by decide) ?_
              refine lv_aload_n hx hb dX6_count_108 rfl (lv_at hl 0 rfl) ?_
              obtain ⟨v109, hc109, h⟩ := wx_o_ok h
              refine wx_call (va_runV (As := []) (rest := []) ⟨hx, hb, hml, hown, hts⟩ (c_X6_suspectsMany l (D := D) (ad := ad) (rd := rd) (ca := ca) (A := A) (σ := σ) hc109) (cwV 0 hts gX6_count_X6_suspectsMany rfl rfl rfl (by decide +kernel) ⟨Nat.le_of_ble_eq_true rfl, Nat.le_of_ble_eq_true rfl⟩) (wx_preV hC Z hS hA rfl (rfl : vwCl[6]? = some (RX6, TX6, 25))) rfl rfl hl.1 rfl (lv_room (Nat.le_of_ble_eq_true rfl)) dX6_count_109 ⟨Nat.zero_le _, Nat.zero_le _⟩) hS (fun H locs Z hS => ?_)
              obtain ⟨rfl, rfl⟩ := wx_ret_ok h
              exact W.iret hx hb hr (fun t ht hW => ⟨rfl, by rw [ht]; exact Z, hS.F ht⟩) hS.2.2 dX6_count_112
            · replace h := wx_iff c1_5 h
              by_cases c1_6 : x1 = 6
              · replace h := wx_ift c1_6 h
                refine lv_tableIn (off := 112) (tgt := 113) hx hb dX6_count_1 (by rw [c1_6]; decide) (by rw [c1_6]; decide) (by rw [c1_6]; rfl) (by decide) ?_
                refine lv_aload_n hx hb dX6_count_113 rfl (lv_at hl 0 rfl) ?_
                obtain ⟨v114, σ114, hc114, h⟩ := wx_b_ok h
                refine wx_call (va_runV (As := []) (rest := []) ⟨hx, hb, hml, hown, hts⟩ (c_X6_singlesMany l (D := D) (ad := ad) (rd := rd) (ca := ca) (A := A) (σ := σ) hc114) (cwV 0 hts gX6_count_X6_singlesMany rfl rfl rfl (by decide +kernel) ⟨Nat.le_of_ble_eq_true rfl, Nat.le_of_ble_eq_true rfl⟩) (wx_preV hC Z hS hA rfl (rfl : vwCl[6]? = some (RX6, TX6, 25))) rfl rfl hl.1 rfl (lv_room (Nat.le_of_ble_eq_true rfl)) dX6_count_114 ⟨Nat.zero_le _, Nat.zero_le _⟩) hS (fun H locs Z hS => ?_)
                obtain ⟨rfl, rfl⟩ := wx_ret_ok h
                exact W.iret hx hb hr (fun t ht hW => ⟨rfl, by rw [ht]; exact Z, hS.F ht⟩) hS.2.2 dX6_count_117
              · replace h := wx_iff c1_6 h
                by_cases c1_7 : x1 = 7
                · replace h := wx_ift c1_7 h
                  refine lv_tableIn (off := 117) (tgt := 118) hx hb dX6_count_1 (by rw [c1_7]; decide) (by rw [c1_7]; decide) (by rw [c1_7]; rfl) (by decide) ?_
                  refine lv_aload_n hx hb dX6_count_118 rfl (lv_at hl 0 rfl) ?_
                  obtain ⟨v119, σ119, hc119, h⟩ := wx_b_ok h
                  refine wx_call (va_runV (As := []) (rest := []) ⟨hx, hb, hml, hown, hts⟩ (c_X6_pairsMany l (D := D) (ad := ad) (rd := rd) (ca := ca) (A := A) (σ := σ) hc119) (cwV 0 hts gX6_count_X6_pairsMany rfl rfl rfl (by decide +kernel) ⟨Nat.le_of_ble_eq_true rfl, Nat.le_of_ble_eq_true rfl⟩) (wx_preV hC Z hS hA rfl (rfl : vwCl[6]? = some (RX6, TX6, 25))) rfl rfl hl.1 rfl (lv_room (Nat.le_of_ble_eq_true rfl)) dX6_count_119 ⟨Nat.zero_le _, Nat.zero_le _⟩) hS (fun H locs Z hS => ?_)
                  obtain ⟨rfl, rfl⟩ := wx_ret_ok h
                  exact W.iret hx hb hr (fun t ht hW => ⟨rfl, by rw [ht]; exact Z, hS.F ht⟩) hS.2.2 dX6_count_122
                · replace h := wx_iff c1_7 h
                  by_cases c1_8 : x1 = 8
                  · replace h := wx_ift c1_8 h
                    refine lv_tableIn (off := 122) (tgt := 123) hx hb dX6_count_1 (by rw [c1_8]; decide) (by rw [c1_8]; decide) (by rw [c1_8]; rfl) (by decide) ?_
                    refine lv_aload_n hx hb dX6_count_123 rfl (lv_at hl 0 rfl) ?_
                    obtain ⟨v124, hc124, h⟩ := wx_o_ok h
                    refine wx_call (va_runV (As := []) (rest := []) ⟨hx, hb, hml, hown, hts⟩ (c_X6_warmest l (D := D) (ad := ad) (rd := rd) (ca := ca) (A := A) (σ := σ) hc124) (cwV 0 hts gX6_count_X6_warmest rfl rfl rfl (by decide +kernel) ⟨Nat.le_of_ble_eq_true rfl, Nat.le_of_ble_eq_true rfl⟩) (wx_preV hC Z hS hA rfl (rfl : vwCl[6]? = some (RX6, TX6, 25))) rfl rfl hl.1 rfl (lv_room (Nat.le_of_ble_eq_true rfl)) dX6_count_124 ⟨Nat.zero_le _, Nat.zero_le _⟩) hS (fun H locs Z hS => ?_)
                    obtain ⟨rfl, rfl⟩ := wx_ret_ok h
                    exact W.iret hx hb hr (fun t ht hW => ⟨rfl, by rw [ht]; exact Z, hS.F ht⟩) hS.2.2 dX6_count_127
                  · replace h := wx_iff c1_8 h
                    by_cases c1_9 : x1 = 9
                    · replace h := wx_ift c1_9 h
                      refine lv_tableIn (off := 127) (tgt := 128) hx hb dX6_count_1 (by rw [c1_9]; decide) (by rw [c1_9]; decide) (by rw [c1_9]; rfl) (by decide) ?_
                      refine lv_aload_n hx hb dX6_count_128 rfl (lv_at hl 0 rfl) ?_
                      refine wx_get (own := RX6) hx hb hts i_X6_count_6 hown hC.1 Z (o := 16) (ci := 6) rfl (rfl : vwCl[6]? = some (RX6, TX6, 25)) 0 (by decide) (hts _ k_X6_count_w0) (fun _ h9 => h9) (f := 0) rfl rfl dX6_count_129 ?_
                      refine lv_iconst (v := 0) hx hb dX6_count_132 (by decide) ?_
                      obtain ⟨v133, ev133, iv133, h⟩ := wx_rI_ok h
                      refine wx_iald hx hb hC.1 Z (o := 16) (k := 0) (n := 109) rfl rfl iv133 dX6_count_133 ev133 ?_
                      obtain ⟨rfl, rfl⟩ := wx_ret_ok h
                      exact W.iret hx hb hr (fun t ht hW => ⟨rfl, by rw [ht]; exact Z, hS.F ht⟩) hS.2.2 dX6_count_134
                    · replace h := wx_iff c1_9 h
                      by_cases c1_10 : x1 = 10
                      · replace h := wx_ift c1_10 h
                        refine lv_tableIn (off := 134) (tgt := 135) hx hb dX6_count_1 (by rw [c1_10]; decide) (by rw [c1_10]; decide) (by rw [c1_10]; rfl) (by decide) ?_
                        refine lv_aload_n hx hb dX6_count_135 rfl (lv_at hl 0 rfl) ?_
                        refine wx_get (own := RX6) hx hb hts i_X6_count_6 hown hC.1 Z (o := 16) (ci := 6) rfl (rfl : vwCl[6]? = some (RX6, TX6, 25)) 0 (by decide) (hts _ k_X6_count_w0) (fun _ h9 => h9) (f := 0) rfl rfl dX6_count_136 ?_
                        refine lv_iconst (v := 1) hx hb dX6_count_139 (by decide) ?_
                        obtain ⟨v140, ev140, iv140, h⟩ := wx_rI_ok h
                        refine wx_iald hx hb hC.1 Z (o := 16) (k := 0) (n := 109) rfl rfl iv140 dX6_count_140 ev140 ?_
                        obtain ⟨rfl, rfl⟩ := wx_ret_ok h
                        exact W.iret hx hb hr (fun t ht hW => ⟨rfl, by rw [ht]; exact Z, hS.F ht⟩) hS.2.2 dX6_count_141
                      · replace h := wx_iff c1_10 h
                        by_cases c1_11 : x1 = 11
                        · replace h := wx_ift c1_11 h
                          refine lv_tableIn (off := 141) (tgt := 142) hx hb dX6_count_1 (by rw [c1_11]; decide) (by rw [c1_11]; decide) (by rw [c1_11]; rfl) (by decide) ?_
                          refine lv_aload_n hx hb dX6_count_142 rfl (lv_at hl 0 rfl) ?_
                          refine wx_get (own := RX6) hx hb hts i_X6_count_6 hown hC.1 Z (o := 16) (ci := 6) rfl (rfl : vwCl[6]? = some (RX6, TX6, 25)) 0 (by decide) (hts _ k_X6_count_w0) (fun _ h9 => h9) (f := 0) rfl rfl dX6_count_143 ?_
                          refine lv_iconst (v := 2) hx hb dX6_count_146 (by decide) ?_
                          obtain ⟨v147, ev147, iv147, h⟩ := wx_rI_ok h
                          refine wx_iald hx hb hC.1 Z (o := 16) (k := 0) (n := 109) rfl rfl iv147 dX6_count_147 ev147 ?_
                          obtain ⟨rfl, rfl⟩ := wx_ret_ok h
                          exact W.iret hx hb hr (fun t ht hW => ⟨rfl, by rw [ht]; exact Z, hS.F ht⟩) hS.2.2 dX6_count_148
                        · replace h := wx_iff c1_11 h
                          by_cases c1_12 : x1 = 12
                          · replace h := wx_ift c1_12 h
                            refine lv_tableIn (off := 148) (tgt := 149) hx hb dX6_count_1 (by rw [c1_12]; decide) (by rw [c1_12]; decide) (by rw [c1_12]; rfl) (by decide) ?_
                            refine lv_aload_n hx hb dX6_count_149 rfl (lv_at hl 0 rfl) ?_
                            refine wx_get (own := RX6) hx hb hts i_X6_count_6 hown hC.1 Z (o := 16) (ci := 6) rfl (rfl : vwCl[6]? = some (RX6, TX6, 25)) 0 (by decide) (hts _ k_X6_count_w0) (fun _ h9 => h9) (f := 0) rfl rfl dX6_count_150 ?_
                            refine lv_iconst (v := 3) hx hb dX6_count_153 (by decide) ?_
                            obtain ⟨v154, ev154, iv154, h⟩ := wx_rI_ok h
                            refine wx_iald hx hb hC.1 Z (o := 16) (k := 0) (n := 109) rfl rfl iv154 dX6_count_154 ev154 ?_
                            obtain ⟨rfl, rfl⟩ := wx_ret_ok h
                            exact W.iret hx hb hr (fun t ht hW => ⟨rfl, by rw [ht]; exact Z, hS.F ht⟩) hS.2.2 dX6_count_155
                          · replace h := wx_iff c1_12 h
                            by_cases c1_13 : x1 = 13
                            · replace h := wx_ift c1_13 h
                              refine lv_tableIn (off := 155) (tgt := 156) hx hb dX6_count_1 (by rw [c1_13]; decide) (by rw [c1_13]; decide) (by rw [c1_13]; rfl) (by decide) ?_
                              refine lv_aload_n hx hb dX6_count_156 rfl (lv_at hl 0 rfl) ?_
                              refine wx_get (own := RX6) hx hb hts i_X6_count_6 hown hC.1 Z (o := 16) (ci := 6) rfl (rfl : vwCl[6]? = some (RX6, TX6, 25)) 9 (by decide) (hts _ k_X6_count_w1) (fun _ h9 => h9) (f := 1) rfl rfl dX6_count_157 ?_
                              obtain ⟨rfl, rfl⟩ := wx_ret_ok h
                              exact W.iret hx hb hr (fun t ht hW => ⟨rfl, by rw [ht]; exact Z, hS.F ht⟩) hS.2.2 dX6_count_160
                            · replace h := wx_iff c1_13 h
                              by_cases c1_14 : x1 = 14
                              · replace h := wx_ift c1_14 h
                                refine lv_tableIn (off := 160) (tgt := 161) hx hb dX6_count_1 (by rw [c1_14]; decide) (by rw [c1_14]; decide) (by rw [c1_14]; rfl) (by decide) ?_
                                refine lv_aload_n hx hb dX6_count_161 rfl (lv_at hl 0 rfl) ?_
                                refine wx_get (own := RX6) hx hb hts i_X6_count_6 hown hC.1 Z (o := 16) (ci := 6) rfl (rfl : vwCl[6]? = some (RX6, TX6, 25)) 4 (by decide) (hts _ k_X6_count_w2) (fun _ h9 => h9) (f := 1) rfl rfl dX6_count_162 ?_
                                obtain ⟨rfl, rfl⟩ := wx_ret_ok h
                                exact W.iret hx hb hr (fun t ht hW => ⟨rfl, by rw [ht]; exact Z, hS.F ht⟩) hS.2.2 dX6_count_165
                              · replace h := wx_iff c1_14 h
                                have n1_0 := wx_ni c1_0
                                have n1_1 := wx_ni c1_1
                                have n1_2 := wx_ni c1_2
                                have n1_3 := wx_ni c1_3
                                have n1_4 := wx_ni c1_4
                                have n1_5 := wx_ni c1_5
                                have n1_6 := wx_ni c1_6
                                have n1_7 := wx_ni c1_7
                                have n1_8 := wx_ni c1_8
                                have n1_9 := wx_ni c1_9
                                have n1_10 := wx_ni c1_10
                                have n1_11 := wx_ni c1_11
                                have n1_12 := wx_ni c1_12
                                have n1_13 := wx_ni c1_13
                                have n1_14 := wx_ni c1_14
                                rw [show (0 : Int32).toInt = 0 from by decide] at n1_0
                                rw [show (1 : Int32).toInt = 1 from by decide] at n1_1
                                rw [show (2 : Int32).toInt = 2 from by decide] at n1_2
                                rw [show (3 : Int32).toInt = 3 from by decide] at n1_3
                                rw [show (4 : Int32).toInt = 4 from by decide] at n1_4
                                rw [show (5 : Int32).toInt = 5 from by decide] at n1_5
                                rw [show (6 : Int32).toInt = 6 from by decide] at n1_6
                                rw [show (7 : Int32).toInt = 7 from by decide] at n1_7
                                rw [show (8 : Int32).toInt = 8 from by decide] at n1_8
                                rw [show (9 : Int32).toInt = 9 from by decide] at n1_9
                                rw [show (10 : Int32).toInt = 10 from by decide] at n1_10
                                rw [show (11 : Int32).toInt = 11 from by decide] at n1_11
                                rw [show (12 : Int32).toInt = 12 from by decide] at n1_12
                                rw [show (13 : Int32).toInt = 13 from by decide] at n1_13
                                rw [show (14 : Int32).toInt = 14 from by decide] at n1_14
                                refine lv_tableOut (tgt := 166) hx hb dX6_count_1 (by omega) (by decide) ?_
                                refine lv_bipush (v := (-2)) hx hb dX6_count_166 (by decide) ?_
                                obtain ⟨rfl, rfl⟩ := wx_ret_ok h
                                exact W.iret hx hb hr (fun t ht hW => ⟨rfl, by rw [ht]; exact Z, hS.F ht⟩) hS.2.2 dX6_count_168
set_option maxRecDepth 20000 in
theorem c_X6_count (l : Launch) {D : va_G} {ad : Nat → Nat → Nat} {rd : Nat → Nat} {ca : Nat → ClassId} {A : Nat → Prop} {σ : wx_St}    {x1 : Int32} {r : Int32} {σ' : wx_St} (h : f_X6_count x1 σ = some (r, σ')) : wx_M l yX6_count wsX6_count 9 198 D ad rd ca A [.ref (ad 16 99), .int x1] σ (some (.int r)) σ' := by
  refine Met.ofW (cc := cX6_count) (maxL := 2) (ret := (some .int)) (by decide +kernel) rfl ?_
  intro p e s m args below meth c s₁ B0 hml hv
  obtain ⟨rfl, hC, Z, hA⟩ := hv
  have hl := lv_entry ([.ref (ad 16 99), .int x1]) (n := 2) (Nat.le_of_ble_eq_true rfl)
  rw [lg_entry_eq]
  generalize (lg_sl ([.ref (ad 16 99), .int x1]) ++ List.replicate (2 - (lg_sl ([.ref (ad 16 99), .int x1])).length) Slot.unset).toArray = ls at hl ⊢
  exact b_X6_count_0 ⟨B0.exec, B0.bytes, hml, B0.returns, atoms_spec (ws := wsX6_count) B0.pre, findClass_of_methodNamed B0.named, B0.notSynchronized, hC, hA⟩   h Z va_S.rf hl
set_option maxRecDepth 20000 in
set_option maxHeartbeats 4000000 in
theorem b_X6_fault_0 (B : wx_B p s m args meth c cX6_fault 1 (some .int) wsX6_fault RX6 D ad ca A)    {r : Int32} {σ' : wx_St}   {σ : wx_St}  (h : f_X6_fault σ = some (r, σ')) {H : Heap} {locs : List Loc} (Z : wx_Z D ad rd ca A σ H) (hS : va_S A s.heap H locs) {ls : Array Slot} (hl : lv_has ls 1 [(0, .ref (ad 16 99))]) : W p l e ({ frames := 6, cells := 0, slots := 0, locals := 124 } : Room) s m args below meth c H locs 0 0 (MQ below (wx_Q D ad rd ca A (some (.int r)) σ') args s 0 0 A) (F0 m 0 ls []) := by
  obtain ⟨hx, hb, hml, hr, hts, hown, hlk, hC, hA⟩ := id B
  unfold f_X6_fault at h
  refine lv_aload_n hx hb dX6_fault_0 rfl (lv_at hl 0 rfl) ?_
  obtain ⟨v1, σ1, hc1, h⟩ := wx_b_ok h
  refine wx_call (va_runV (As := []) (rest := []) ⟨hx, hb, hml, hown, hts⟩ (c_X6_findFault l (D := D) (ad := ad) (rd := rd) (ca := ca) (A := A) (σ := σ) hc1) (cwV 0 hts gX6_fault_X6_findFault rfl rfl rfl (by decide +kernel) ⟨Nat.le_of_ble_eq_true rfl, Nat.le_of_ble_eq_true rfl⟩) (wx_preV hC Z hS hA rfl (rfl : vwCl[6]? = some (RX6, TX6, 25))) rfl rfl hl.1 rfl (lv_room (Nat.le_of_ble_eq_true rfl)) dX6_fault_1 ⟨Nat.zero_le _, Nat.zero_le _⟩) hS (fun H locs Z hS => ?_)
  obtain ⟨rfl, rfl⟩ := wx_ret_ok h
  exact W.iret hx hb hr (fun t ht hW => ⟨rfl, by rw [ht]; exact Z, hS.F ht⟩) hS.2.2 dX6_fault_4
set_option maxRecDepth 20000 in
theorem c_X6_fault (l : Launch) {D : va_G} {ad : Nat → Nat → Nat} {rd : Nat → Nat} {ca : Nat → ClassId} {A : Nat → Prop} {σ : wx_St}     {r : Int32} {σ' : wx_St} (h : f_X6_fault σ = some (r, σ')) : wx_M l yX6_fault wsX6_fault 6 124 D ad rd ca A [.ref (ad 16 99)] σ (some (.int r)) σ' := by
  refine Met.ofW (cc := cX6_fault) (maxL := 1) (ret := (some .int)) (by decide +kernel) rfl ?_
  intro p e s m args below meth c s₁ B0 hml hv
  obtain ⟨rfl, hC, Z, hA⟩ := hv
  have hl := lv_entry ([.ref (ad 16 99)]) (n := 1) (Nat.le_of_ble_eq_true rfl)
  rw [lg_entry_eq]
  generalize (lg_sl ([.ref (ad 16 99)]) ++ List.replicate (1 - (lg_sl ([.ref (ad 16 99)])).length) Slot.unset).toArray = ls at hl ⊢
  exact b_X6_fault_0 ⟨B0.exec, B0.bytes, hml, B0.returns, atoms_spec (ws := wsX6_fault) B0.pre, findClass_of_methodNamed B0.named, B0.notSynchronized, hC, hA⟩   h Z va_S.rf hl
set_option maxRecDepth 20000 in
set_option maxHeartbeats 4000000 in
theorem b_X6_feed_0 (B : wx_B p s m args meth c cX6_feed 4 (some .int) wsX6_feed RX6 D ad ca A)    {r : Int32} {σ' : wx_St}  {x1 : Int32} {x2 : Int32} {σ : wx_St}  (h : f_X6_feed x1 x2 σ = some (r, σ')) {H : Heap} {locs : List Loc} (Z : wx_Z D ad rd ca A σ H) (hS : va_S A s.heap H locs) {ls : Array Slot} (hl : lv_has ls 4 [(0, .ref (ad 16 99)), (1, .int x1), (2, .int x2)]) : W p l e ({ frames := 3, cells := 0, slots := 0, locals := 67 } : Room) s m args below meth c H locs 0 0 (MQ below (wx_Q D ad rd ca A (some (.int r)) σ') args s 0 0 A) (F0 m 0 ls []) := by
  obtain ⟨hx, hb, hml, hr, hts, hown, hlk, hC, hA⟩ := id B
  unfold f_X6_feed at h
  refine lv_iload_n hx hb dX6_feed_0 rfl (lv_at hl 1 rfl) ?_
  refine lv_iload_n hx hb dX6_feed_1 rfl (lv_at hl 2 rfl) ?_
  obtain ⟨v2, hc2, h⟩ := wx_o_ok h
  refine wx_call (va_runS (As := [.int x1, .int x2]) (rest := []) ⟨hx, hb, hml, hown, hts⟩ (c_X6_whyNotFed l (D := D) (ad := ad) (rd := rd) (ca := ca) (A := A) (σ := σ) hc2) (va_cwS 2 hts gX6_feed_X6_whyNotFed rfl rfl rfl (by decide +kernel) ⟨Nat.le_of_ble_eq_true rfl, Nat.le_of_ble_eq_true rfl⟩) (wx_preS hC Z hS hA) rfl rfl hl.1 rfl (lv_room (Nat.le_of_ble_eq_true rfl)) dX6_feed_2 ⟨Nat.zero_le _, Nat.zero_le _⟩) hS (fun H locs Z hS => ?_)
  refine lv_istore_n (lv' := [(3, .int v2), (0, .ref (ad 16 99)), (1, .int x1), (2, .int x2)]) hx hb dX6_feed_5 rfl hl (by decide) rfl (fun ls hl => ?_)
  refine lv_iload_n hx hb dX6_feed_6 rfl (lv_at hl 0 rfl) ?_
  refine lv_if_ge (tgt := 12) hx hb dX6_feed_7 (by decide) (fun c7 => ?_) (fun c7 => ?_)
  · replace h := wx_ift c7 h
    refine lv_aload_n hx hb dX6_feed_12 rfl (lv_at hl 1 rfl) ?_
    obtain ⟨v13, σ13, hc13, h⟩ := wx_b_ok h
    refine wx_call (va_runV (As := []) (rest := []) ⟨hx, hb, hml, hown, hts⟩ (c_X6_record l (D := D) (ad := ad) (rd := rd) (ca := ca) (A := A) (σ := σ) hc13) (cwV 0 hts gX6_feed_X6_record rfl rfl rfl (by decide +kernel) ⟨Nat.le_of_ble_eq_true rfl, Nat.le_of_ble_eq_true rfl⟩) (wx_preV hC Z hS hA rfl (rfl : vwCl[6]? = some (RX6, TX6, 25))) rfl rfl hl.1 rfl (lv_room (Nat.le_of_ble_eq_true rfl)) dX6_feed_13 ⟨Nat.zero_le _, Nat.zero_le _⟩) hS (fun H locs Z hS => ?_)
    refine lv_aload_n hx hb dX6_feed_16 rfl (lv_at hl 1 rfl) ?_
    refine lv_iload_n hx hb dX6_feed_17 rfl (lv_at hl 2 rfl) ?_
    refine lv_iload_n hx hb dX6_feed_18 rfl (lv_at hl 3 rfl) ?_
    obtain ⟨v19, σ19, hc19, h⟩ := wx_b_ok h
    refine wx_call (va_runV (As := [.int x1, .int x2]) (rest := []) ⟨hx, hb, hml, hown, hts⟩ (c_X6_feeds l (D := D) (ad := ad) (rd := rd) (ca := ca) (A := A) (σ := σ13) hc19) (cwV 2 hts gX6_feed_X6_feeds rfl rfl rfl (by decide +kernel) ⟨Nat.le_of_ble_eq_true rfl, Nat.le_of_ble_eq_true rfl⟩) (wx_preV hC Z hS hA rfl (rfl : vwCl[6]? = some (RX6, TX6, 25))) rfl rfl hl.1 rfl (lv_room (Nat.le_of_ble_eq_true rfl)) dX6_feed_19 ⟨Nat.zero_le _, Nat.zero_le _⟩) hS (fun H locs Z hS => ?_)
    obtain ⟨rfl, rfl⟩ := wx_ret_ok h
    exact W.iret hx hb hr (fun t ht hW => ⟨rfl, by rw [ht]; exact Z, hS.F ht⟩) hS.2.2 dX6_feed_22
  · replace h := wx_iff c7 h
    refine lv_iload_n hx hb dX6_feed_10 rfl (lv_at hl 0 rfl) ?_
    obtain ⟨rfl, rfl⟩ := wx_ret_ok h
    exact W.iret hx hb hr (fun t ht hW => ⟨rfl, by rw [ht]; exact Z, hS.F ht⟩) hS.2.2 dX6_feed_11
set_option maxRecDepth 20000 in
theorem c_X6_feed (l : Launch) {D : va_G} {ad : Nat → Nat → Nat} {rd : Nat → Nat} {ca : Nat → ClassId} {A : Nat → Prop} {σ : wx_St}    {x1 : Int32} {x2 : Int32} {r : Int32} {σ' : wx_St} (h : f_X6_feed x1 x2 σ = some (r, σ')) : wx_M l yX6_feed wsX6_feed 3 67 D ad rd ca A [.ref (ad 16 99), .int x1, .int x2] σ (some (.int r)) σ' := by
  refine Met.ofW (cc := cX6_feed) (maxL := 4) (ret := (some .int)) (by decide +kernel) rfl ?_
  intro p e s m args below meth c s₁ B0 hml hv
  obtain ⟨rfl, hC, Z, hA⟩ := hv
  have hl := lv_entry ([.ref (ad 16 99), .int x1, .int x2]) (n := 4) (Nat.le_of_ble_eq_true rfl)
  rw [lg_entry_eq]
  generalize (lg_sl ([.ref (ad 16 99), .int x1, .int x2]) ++ List.replicate (4 - (lg_sl ([.ref (ad 16 99), .int x1, .int x2])).length) Slot.unset).toArray = ls at hl ⊢
  exact b_X6_feed_0 ⟨B0.exec, B0.bytes, hml, B0.returns, atoms_spec (ws := wsX6_feed) B0.pre, findClass_of_methodNamed B0.named, B0.notSynchronized, hC, hA⟩   h Z va_S.rf hl
theorem i_X6_mean_6 : ∀ w ∈ wsX60, w ∈ wsX6_mean := by decide +kernel
theorem k_X6_mean_w0 : Cond.constantDouble RX6 226 (4634204016564240384) ∈ wsX6_mean := by decide +kernel
theorem k_X6_mean_w1 : Cond.fieldLink RX6 13 "WarmProbesModel" "warmth" "[F" ∈ wsX6_mean := by decide +kernel
set_option maxRecDepth 20000 in
set_option maxHeartbeats 4000000 in
theorem b_X6_mean_4 (B : wx_B p s m args meth c cX6_mean 4 (some .long) wsX6_mean RX6 D ad ca A)    {r : Int64} {σ : wx_St}   :
    ∀ {n : Nat} {x1 : UInt64} {x3 : Int32}   (h : f_X6_mean_4 n x1 x3 σ = some r) {H : Heap} {locs : List Loc} (Z : wx_Z D ad rd ca A σ H) (hS : va_S A s.heap H locs) {ls : Array Slot} (hl : lv_has ls 4 [(0, .ref (ad 16 99)), (1, .double x1), (3, .int x3)]), W p l e ({ frames := 2, cells := 0, slots := 0, locals := 44 } : Room) s m args below meth c H locs 0 0 (MQ below (wx_Q D ad rd ca A (some (.long r)) σ) args s 0 0 A) (F0 m 4 ls []) := by
  obtain ⟨hx, hb, hml, hr, hts, hown, hlk, hC, hA⟩ := id B
  intro n
  induction n with
  | zero => intro x1 x3   h H locs Z hS ls hl; exact wx_no h
  | succ n ih =>
    intro x1 x3   h H locs Z hS ls hl
    rw [f_X6_mean_4] at h
    refine lv_iload_n hx hb dX6_mean_4 rfl (lv_at hl 2 rfl) ?_
    refine lv_bipush (v := 64) hx hb dX6_mean_5 (by decide) ?_
    refine lv_icmp_ge (tgt := 26) hx hb dX6_mean_7 (by decide) (fun c7 => ?_) (fun c7 => ?_)
    · replace h := wx_ift c7 h
      refine lv_dload_n hx hb dX6_mean_26 rfl (lv_at hl 1 rfl) ?_
      refine lv_ldc2d hx hb hown (hts _ k_X6_mean_w0) dX6_mean_27 ?_
      obtain ⟨v30, ev30, nv30, h⟩ := wx_d_ok h
      refine wx_ddiv hx hb dX6_mean_30 ev30 nv30 ?_
      obtain ⟨v31, hc31, h⟩ := wx_o_ok h
      refine wx_call (va_runS (As := [.double v30]) (rest := []) ⟨hx, hb, hml, hown, hts⟩ (c_Jxe99ae_doubleToLongBits_ccdee l (D := D) (ad := ad) (rd := rd) (ca := ca) (A := A) (σ := σ) hc31) (va_cwS 1 hts gX6_mean_Jxe99ae_doubleToLongBits_ccdee rfl rfl rfl (by decide +kernel) ⟨Nat.le_of_ble_eq_true rfl, Nat.le_of_ble_eq_true rfl⟩) (wx_preS hC Z hS hA) rfl rfl hl.1 rfl (lv_room (Nat.le_of_ble_eq_true rfl)) dX6_mean_31 ⟨Nat.zero_le _, Nat.zero_le _⟩) hS (fun H locs Z hS => ?_)
      obtain rfl := Option.some.inj h
      exact W.lret hx hb hr (fun t ht hW => ⟨rfl, by rw [ht]; exact Z, hS.F ht⟩) hS.2.2 dX6_mean_34
    · replace h := wx_iff c7 h
      refine lv_dload_n hx hb dX6_mean_10 rfl (lv_at hl 1 rfl) ?_
      refine lv_aload_n hx hb dX6_mean_11 rfl (lv_at hl 0 rfl) ?_
      refine wx_get (own := RX6) hx hb hts i_X6_mean_6 hown hC.1 Z (o := 16) (ci := 6) rfl (rfl : vwCl[6]? = some (RX6, TX6, 25)) 1 (by decide) (hts _ k_X6_mean_w1) (fun _ h9 => h9) (f := 0) rfl rfl dX6_mean_12 ?_
      refine lv_iload_n hx hb dX6_mean_15 rfl (lv_at hl 2 rfl) ?_
      obtain ⟨v16, ev16, iv16, h⟩ := wx_rF_ok h
      refine wx_fald hx hb hC.1 Z (o := 16) (k := 1) (n := 64) rfl rfl iv16 dX6_mean_16 ev16 ?_
      obtain ⟨v17, ev17, nv17, h⟩ := wx_d_ok h
      refine wx_f2d hx hb dX6_mean_17 ev17 nv17 ?_
      obtain ⟨v18, ev18, nv18, h⟩ := wx_d_ok h
      refine wx_dadd hx hb dX6_mean_18 ev18 nv18 ?_
      refine lv_dstore_n (lv' := [(1, .double v18), (0, .ref (ad 16 99)), (3, .int x3)]) hx hb dX6_mean_19 rfl hl (by decide) rfl (fun ls hl => ?_)
      refine lv_iinc (v := x3 + 1) (lv' := [(3, .int (x3 + 1)), (1, .double v18), (0, .ref (ad 16 99))]) hx hb dX6_mean_20 hl (k := 2) rfl rfl (by decide) rfl (fun ls hl => ?_)
      refine lv_goto (tgt := 4) hx hb dX6_mean_23 (by decide) ?_
      exact ih h Z hS (lv_sub hl [2, 1, 0] rfl)
set_option maxRecDepth 20000 in
set_option maxHeartbeats 4000000 in
theorem b_X6_mean_0 (B : wx_B p s m args meth c cX6_mean 4 (some .long) wsX6_mean RX6 D ad ca A)    {r : Int64} {σ : wx_St}     (h : f_X6_mean σ = some r) {H : Heap} {locs : List Loc} (Z : wx_Z D ad rd ca A σ H) (hS : va_S A s.heap H locs) {ls : Array Slot} (hl : lv_has ls 4 [(0, .ref (ad 16 99))]) : W p l e ({ frames := 2, cells := 0, slots := 0, locals := 44 } : Room) s m args below meth c H locs 0 0 (MQ below (wx_Q D ad rd ca A (some (.long r)) σ) args s 0 0 A) (F0 m 0 ls []) := by
  obtain ⟨hx, hb, hml, hr, hts, hown, hlk, hC, hA⟩ := id B
  unfold f_X6_mean at h
  refine lv_dconst0 hx hb dX6_mean_0 ?_
  refine lv_dstore_n (lv' := [(1, .double FP.dconst0), (0, .ref (ad 16 99))]) hx hb dX6_mean_1 rfl hl (by decide) rfl (fun ls hl => ?_)
  refine lv_iconst (v := 0) hx hb dX6_mean_2 (by decide) ?_
  refine lv_istore_n (lv' := [(3, .int 0), (1, .double FP.dconst0), (0, .ref (ad 16 99))]) hx hb dX6_mean_3 rfl hl (by decide) rfl (fun ls hl => ?_)
  exact b_X6_mean_4 B h Z hS (lv_sub hl [2, 1, 0] rfl)
set_option maxRecDepth 20000 in
theorem c_X6_mean (l : Launch) {D : va_G} {ad : Nat → Nat → Nat} {rd : Nat → Nat} {ca : Nat → ClassId} {A : Nat → Prop} {σ : wx_St}     {r : Int64} (h : f_X6_mean σ = some r) : wx_M l yX6_mean wsX6_mean 2 44 D ad rd ca A [.ref (ad 16 99)] σ (some (.long r)) σ := by
  refine Met.ofW (cc := cX6_mean) (maxL := 4) (ret := (some .long)) (by decide +kernel) rfl ?_
  intro p e s m args below meth c s₁ B0 hml hv
  obtain ⟨rfl, hC, Z, hA⟩ := hv
  have hl := lv_entry ([.ref (ad 16 99)]) (n := 4) (Nat.le_of_ble_eq_true rfl)
  rw [lg_entry_eq]
  generalize (lg_sl ([.ref (ad 16 99)]) ++ List.replicate (4 - (lg_sl ([.ref (ad 16 99)])).length) Slot.unset).toArray = ls at hl ⊢
  exact b_X6_mean_0 ⟨B0.exec, B0.bytes, hml, B0.returns, atoms_spec (ws := wsX6_mean) B0.pre, findClass_of_methodNamed B0.named, B0.notSynchronized, hC, hA⟩   h Z va_S.rf hl
set_option maxRecDepth 20000 in
set_option maxHeartbeats 4000000 in
theorem b_X6_mend_0 (B : wx_B p s m args meth c cX6_mend 2 (some .int) wsX6_mend RX6 D ad ca A)    {r : Int32} {σ' : wx_St}  {x1 : Int32} {σ : wx_St}  (h : f_X6_mend x1 σ = some (r, σ')) {H : Heap} {locs : List Loc} (Z : wx_Z D ad rd ca A σ H) (hS : va_S A s.heap H locs) {ls : Array Slot} (hl : lv_has ls 2 [(0, .ref (ad 16 99)), (1, .int x1)]) : W p l e ({ frames := 3, cells := 0, slots := 0, locals := 67 } : Room) s m args below meth c H locs 0 0 (MQ below (wx_Q D ad rd ca A (some (.int r)) σ') args s 0 0 A) (F0 m 0 ls []) := by
  obtain ⟨hx, hb, hml, hr, hts, hown, hlk, hC, hA⟩ := id B
  unfold f_X6_mend at h
  refine lv_aload_n hx hb dX6_mend_0 rfl (lv_at hl 0 rfl) ?_
  refine lv_iload_n hx hb dX6_mend_1 rfl (lv_at hl 1 rfl) ?_
  obtain ⟨v2, hc2, h⟩ := wx_o_ok h
  refine wx_call (va_runV (As := [.int x1]) (rest := []) ⟨hx, hb, hml, hown, hts⟩ (c_X6_isTouch l (D := D) (ad := ad) (rd := rd) (ca := ca) (A := A) (σ := σ) hc2) (cwV 1 hts gX6_mend_X6_isTouch rfl rfl rfl (by decide +kernel) ⟨Nat.le_of_ble_eq_true rfl, Nat.le_of_ble_eq_true rfl⟩) (wx_preV hC Z hS hA rfl (rfl : vwCl[6]? = some (RX6, TX6, 25))) rfl rfl hl.1 rfl (lv_room (Nat.le_of_ble_eq_true rfl)) dX6_mend_2 ⟨Nat.zero_le _, Nat.zero_le _⟩) hS (fun H locs Z hS => ?_)
  refine lv_if_ne (tgt := 10) hx hb dX6_mend_5 (by decide) (fun c5 => ?_) (fun c5 => ?_)
  · replace h := wx_iff c5 h
    refine lv_aload_n hx hb dX6_mend_10 rfl (lv_at hl 0 rfl) ?_
    obtain ⟨v11, σ11, hc11, h⟩ := wx_b_ok h
    refine wx_call (va_runV (As := []) (rest := []) ⟨hx, hb, hml, hown, hts⟩ (c_X6_record l (D := D) (ad := ad) (rd := rd) (ca := ca) (A := A) (σ := σ) hc11) (cwV 0 hts gX6_mend_X6_record rfl rfl rfl (by decide +kernel) ⟨Nat.le_of_ble_eq_true rfl, Nat.le_of_ble_eq_true rfl⟩) (wx_preV hC Z hS hA rfl (rfl : vwCl[6]? = some (RX6, TX6, 25))) rfl rfl hl.1 rfl (lv_room (Nat.le_of_ble_eq_true rfl)) dX6_mend_11 ⟨Nat.zero_le _, Nat.zero_le _⟩) hS (fun H locs Z hS => ?_)
    refine lv_aload_n hx hb dX6_mend_14 rfl (lv_at hl 0 rfl) ?_
    refine lv_iload_n hx hb dX6_mend_15 rfl (lv_at hl 1 rfl) ?_
    obtain ⟨v16, σ16, hc16, h⟩ := wx_b_ok h
    refine wx_call (va_runV (As := [.int x1]) (rest := []) ⟨hx, hb, hml, hown, hts⟩ (c_X6_mends l (D := D) (ad := ad) (rd := rd) (ca := ca) (A := A) (σ := σ11) hc16) (cwV 1 hts gX6_mend_X6_mends rfl rfl rfl (by decide +kernel) ⟨Nat.le_of_ble_eq_true rfl, Nat.le_of_ble_eq_true rfl⟩) (wx_preV hC Z hS hA rfl (rfl : vwCl[6]? = some (RX6, TX6, 25))) rfl rfl hl.1 rfl (lv_room (Nat.le_of_ble_eq_true rfl)) dX6_mend_16 ⟨Nat.zero_le _, Nat.zero_le _⟩) hS (fun H locs Z hS => ?_)
    obtain ⟨rfl, rfl⟩ := wx_ret_ok h
    exact W.iret hx hb hr (fun t ht hW => ⟨rfl, by rw [ht]; exact Z, hS.F ht⟩) hS.2.2 dX6_mend_19
  · replace h := wx_ift c5 h
    refine lv_iconst (v := (-1)) hx hb dX6_mend_8 (by decide) ?_
    obtain ⟨rfl, rfl⟩ := wx_ret_ok h
    exact W.iret hx hb hr (fun t ht hW => ⟨rfl, by rw [ht]; exact Z, hS.F ht⟩) hS.2.2 dX6_mend_9
set_option maxRecDepth 20000 in
theorem c_X6_mend (l : Launch) {D : va_G} {ad : Nat → Nat → Nat} {rd : Nat → Nat} {ca : Nat → ClassId} {A : Nat → Prop} {σ : wx_St}    {x1 : Int32} {r : Int32} {σ' : wx_St} (h : f_X6_mend x1 σ = some (r, σ')) : wx_M l yX6_mend wsX6_mend 3 67 D ad rd ca A [.ref (ad 16 99), .int x1] σ (some (.int r)) σ' := by
  refine Met.ofW (cc := cX6_mend) (maxL := 2) (ret := (some .int)) (by decide +kernel) rfl ?_
  intro p e s m args below meth c s₁ B0 hml hv
  obtain ⟨rfl, hC, Z, hA⟩ := hv
  have hl := lv_entry ([.ref (ad 16 99), .int x1]) (n := 2) (Nat.le_of_ble_eq_true rfl)
  rw [lg_entry_eq]
  generalize (lg_sl ([.ref (ad 16 99), .int x1]) ++ List.replicate (2 - (lg_sl ([.ref (ad 16 99), .int x1])).length) Slot.unset).toArray = ls at hl ⊢
  exact b_X6_mend_0 ⟨B0.exec, B0.bytes, hml, B0.returns, atoms_spec (ws := wsX6_mend) B0.pre, findClass_of_methodNamed B0.named, B0.notSynchronized, hC, hA⟩   h Z va_S.rf hl
set_option maxRecDepth 20000 in
set_option maxHeartbeats 4000000 in
theorem b_X6_most_21 (B : wx_B p s m args meth c cX6_most 1 (some .int) wsX6_most RX6 D ad ca A)    {r : Int32} {σ : wx_St}  {x0 : Int32} {y0 : Int32}   (h : f_X6_most_21 x0 y0 = some r) {H : Heap} {locs : List Loc} (Z : wx_Z D ad rd ca A σ H) (hS : va_S A s.heap H locs) {ls : Array Slot} (hl : lv_has ls 1 [(0, .int x0)]) : W p l e ({ frames := 0, cells := 0, slots := 0, locals := 0 } : Room) s m args below meth c H locs 0 0 (MQ below (wx_Q D ad rd ca A (some (.int r)) σ) args s 0 0 A) (F0 m 21 ls [.int y0]) := by
  obtain ⟨hx, hb, hml, hr, hts, hown, hlk, hC, hA⟩ := id B
  unfold f_X6_most_21 at h
  obtain rfl := Option.some.inj h
  exact W.iret hx hb hr (fun t ht hW => ⟨rfl, by rw [ht]; exact Z, hS.F ht⟩) hS.2.2 dX6_most_21
set_option maxRecDepth 20000 in
set_option maxHeartbeats 4000000 in
theorem b_X6_most_0 (B : wx_B p s m args meth c cX6_most 1 (some .int) wsX6_most RX6 D ad ca A)    {r : Int32} {σ : wx_St}  {x0 : Int32}   (h : f_X6_most x0 = some r) {H : Heap} {locs : List Loc} (Z : wx_Z D ad rd ca A σ H) (hS : va_S A s.heap H locs) {ls : Array Slot} (hl : lv_has ls 1 [(0, .int x0)]) : W p l e ({ frames := 0, cells := 0, slots := 0, locals := 0 } : Room) s m args below meth c H locs 0 0 (MQ below (wx_Q D ad rd ca A (some (.int r)) σ) args s 0 0 A) (F0 m 0 ls []) := by
  obtain ⟨hx, hb, hml, hr, hts, hown, hlk, hC, hA⟩ := id B
  unfold f_X6_most at h
  refine lv_iload_n hx hb dX6_most_0 rfl (lv_at hl 0 rfl) ?_
  refine lv_if_ne (tgt := 9) hx hb dX6_most_1 (by decide) (fun c1 => ?_) (fun c1 => ?_)
  · replace h := wx_iff c1 h
    refine lv_iload_n hx hb dX6_most_9 rfl (lv_at hl 0 rfl) ?_
    refine lv_iconst (v := 1) hx hb dX6_most_10 (by decide) ?_
    refine lv_icmp_ne (tgt := 19) hx hb dX6_most_11 (by decide) (fun c11 => ?_) (fun c11 => ?_)
    · replace h := wx_iff c11 h
      refine lv_bipush (v := 99) hx hb dX6_most_19 (by decide) ?_
      exact b_X6_most_21 B h Z hS (lv_sub hl [0] rfl)
    · replace h := wx_ift c11 h
      refine lv_bipush (v := 50) hx hb dX6_most_14 (by decide) ?_
      refine lv_goto (tgt := 21) hx hb dX6_most_16 (by decide) ?_
      exact b_X6_most_21 B h Z hS (lv_sub hl [0] rfl)
  · replace h := wx_ift c1 h
    refine lv_bipush (v := 24) hx hb dX6_most_4 (by decide) ?_
    refine lv_goto (tgt := 21) hx hb dX6_most_6 (by decide) ?_
    exact b_X6_most_21 B h Z hS (lv_sub hl [0] rfl)
set_option maxRecDepth 20000 in
theorem c_X6_most (l : Launch) {D : va_G} {ad : Nat → Nat → Nat} {rd : Nat → Nat} {ca : Nat → ClassId} {A : Nat → Prop} {σ : wx_St}    {x0 : Int32} {r : Int32} (h : f_X6_most x0 = some r) : wx_M l yX6_most wsX6_most 0 0 D ad rd ca A [.int x0] σ (some (.int r)) σ := by
  refine Met.ofW (cc := cX6_most) (maxL := 1) (ret := (some .int)) (by decide +kernel) rfl ?_
  intro p e s m args below meth c s₁ B0 hml hv
  obtain ⟨rfl, hC, Z, hA⟩ := hv
  have hl := lv_entry ([.int x0]) (n := 1) (Nat.le_of_ble_eq_true rfl)
  rw [lg_entry_eq]
  generalize (lg_sl ([.int x0]) ++ List.replicate (1 - (lg_sl ([.int x0])).length) Slot.unset).toArray = ls at hl ⊢
  exact b_X6_most_0 ⟨B0.exec, B0.bytes, hml, B0.returns, atoms_spec (ws := wsX6_most) B0.pre, findClass_of_methodNamed B0.named, B0.notSynchronized, hC, hA⟩   h Z va_S.rf hl
theorem i_X6_ofNet_6 : ∀ w ∈ wsX60, w ∈ wsX6_ofNet := by decide +kernel
theorem k_X6_ofNet_w0 : Cond.fieldLink RX6 7 "WarmProbesModel" "state" "[I" ∈ wsX6_ofNet := by decide +kernel
theorem k_X6_ofNet_w1 : Cond.fieldLink RX6 13 "WarmProbesModel" "warmth" "[F" ∈ wsX6_ofNet := by decide +kernel
set_option maxRecDepth 20000 in
set_option maxHeartbeats 4000000 in
theorem b_X6_ofNet_49 (B : wx_B p s m args meth c cX6_ofNet 6 (some .int) wsX6_ofNet RX6 D ad ca A)    {r : Int32} {σ : wx_St} {K17 : Int32 → Int32 → Int32 → UInt32 → Int32 → wx_St → Option Int32} (hK17 : ∀ {x1 : Int32} {x2 : Int32} {x3 : Int32} {x4 : UInt32} {x5 : Int32}   (h : K17 x1 x2 x3 x4 x5 σ = some r) {H : Heap} {locs : List Loc} (Z : wx_Z D ad rd ca A σ H) (hS : va_S A s.heap H locs) {ls : Array Slot} (hl : lv_has ls 6 [(0, .ref (ad 16 99)), (1, .int x1), (2, .int x2), (3, .int x3), (4, .float x4), (5, .int x5)]), W p l e ({ frames := 2, cells := 0, slots := 0, locals := 43 } : Room) s m args below meth c H locs 0 0 (MQ below (wx_Q D ad rd ca A (some (.int r)) σ) args s 0 0 A) (F0 m 17 ls [])) {x1 : Int32} {x2 : Int32} {x3 : Int32} {x4 : UInt32} {x5 : Int32}   (h : f_X6_ofNet_49 K17 x1 x2 x3 x4 x5 σ = some r) {H : Heap} {locs : List Loc} (Z : wx_Z D ad rd ca A σ H) (hS : va_S A s.heap H locs) {ls : Array Slot} (hl : lv_has ls 6 [(0, .ref (ad 16 99)), (1, .int x1), (2, .int x2), (3, .int x3), (4, .float x4), (5, .int x5)]) : W p l e ({ frames := 2, cells := 0, slots := 0, locals := 43 } : Room) s m args below meth c H locs 0 0 (MQ below (wx_Q D ad rd ca A (some (.int r)) σ) args s 0 0 A) (F0 m 49 ls []) := by
  obtain ⟨hx, hb, hml, hr, hts, hown, hlk, hC, hA⟩ := id B
  unfold f_X6_ofNet_49 at h
  refine lv_iinc (v := x5 + 1) (lv' := [(5, .int (x5 + 1)), (0, .ref (ad 16 99)), (1, .int x1), (2, .int x2), (3, .int x3), (4, .float x4)]) hx hb dX6_ofNet_49 hl (k := 5) rfl rfl (by decide) rfl (fun ls hl => ?_)
  refine lv_goto (tgt := 17) hx hb dX6_ofNet_52 (by decide) ?_
  exact hK17 h Z hS (lv_sub hl [1, 2, 3, 4, 5, 0] rfl)
set_option maxRecDepth 20000 in
set_option maxHeartbeats 4000000 in
theorem b_X6_ofNet_95 (B : wx_B p s m args meth c cX6_ofNet 6 (some .int) wsX6_ofNet RX6 D ad ca A)    {r : Int32} {σ : wx_St}  {x1 : Int32} {x2 : Int32} {x3 : Int32} {x4 : UInt32} {x5 : Int32} {y0 : Int32}   (h : f_X6_ofNet_95 x1 x2 x3 x4 x5 y0 σ = some r) {H : Heap} {locs : List Loc} (Z : wx_Z D ad rd ca A σ H) (hS : va_S A s.heap H locs) {ls : Array Slot} (hl : lv_has ls 6 [(0, .ref (ad 16 99)), (1, .int x1), (2, .int x2), (3, .int x3), (4, .float x4), (5, .int x5)]) : W p l e ({ frames := 2, cells := 0, slots := 0, locals := 43 } : Room) s m args below meth c H locs 0 0 (MQ below (wx_Q D ad rd ca A (some (.int r)) σ) args s 0 0 A) (F0 m 95 ls [.int y0]) := by
  obtain ⟨hx, hb, hml, hr, hts, hown, hlk, hC, hA⟩ := id B
  unfold f_X6_ofNet_95 at h
  obtain rfl := Option.some.inj h
  exact W.iret hx hb hr (fun t ht hW => ⟨rfl, by rw [ht]; exact Z, hS.F ht⟩) hS.2.2 dX6_ofNet_95
set_option maxRecDepth 20000 in
set_option maxHeartbeats 4000000 in
theorem b_X6_ofNet_17 (B : wx_B p s m args meth c cX6_ofNet 6 (some .int) wsX6_ofNet RX6 D ad ca A)    {r : Int32} {σ : wx_St}   :
    ∀ {n : Nat} {x1 : Int32} {x2 : Int32} {x3 : Int32} {x4 : UInt32} {x5 : Int32}   (h : f_X6_ofNet_17 n x1 x2 x3 x4 x5 σ = some r) {H : Heap} {locs : List Loc} (Z : wx_Z D ad rd ca A σ H) (hS : va_S A s.heap H locs) {ls : Array Slot} (hl : lv_has ls 6 [(0, .ref (ad 16 99)), (1, .int x1), (2, .int x2), (3, .int x3), (4, .float x4), (5, .int x5)]), W p l e ({ frames := 2, cells := 0, slots := 0, locals := 43 } : Room) s m args below meth c H locs 0 0 (MQ below (wx_Q D ad rd ca A (some (.int r)) σ) args s 0 0 A) (F0 m 17 ls []) := by
  obtain ⟨hx, hb, hml, hr, hts, hown, hlk, hC, hA⟩ := id B
  intro n
  induction n with
  | zero => intro x1 x2 x3 x4 x5   h H locs Z hS ls hl; exact wx_no h
  | succ n ih =>
    intro x1 x2 x3 x4 x5   h H locs Z hS ls hl
    rw [f_X6_ofNet_17] at h
    refine lv_iload hx hb dX6_ofNet_17 (lv_at hl 5 rfl) ?_
    refine lv_bipush (v := 64) hx hb dX6_ofNet_19 (by decide) ?_
    refine lv_icmp_ge (tgt := 55) hx hb dX6_ofNet_21 (by decide) (fun c21 => ?_) (fun c21 => ?_)
    · replace h := wx_ift c21 h
      refine lv_iload_n hx hb dX6_ofNet_55 rfl (lv_at hl 2 rfl) ?_
      refine lv_if_ne (tgt := 63) hx hb dX6_ofNet_56 (by decide) (fun c56 => ?_) (fun c56 => ?_)
      · replace h := wx_iff c56 h
        refine lv_iload_n hx hb dX6_ofNet_63 rfl (lv_at hl 2 rfl) ?_
        refine lv_iconst (v := 1) hx hb dX6_ofNet_64 (by decide) ?_
        refine lv_icmp_ne (tgt := 80) hx hb dX6_ofNet_65 (by decide) (fun c65 => ?_) (fun c65 => ?_)
        · replace h := wx_iff c65 h
          refine lv_iload_n hx hb dX6_ofNet_80 rfl (lv_at hl 2 rfl) ?_
          refine lv_iconst (v := 2) hx hb dX6_ofNet_81 (by decide) ?_
          refine lv_icmp_ne (tgt := 93) hx hb dX6_ofNet_82 (by decide) (fun c82 => ?_) (fun c82 => ?_)
          · replace h := wx_iff c82 h
            refine lv_bipush (v := (-2)) hx hb dX6_ofNet_93 (by decide) ?_
            exact b_X6_ofNet_95 B h Z hS (lv_sub hl [0, 1, 2, 3, 4, 5] rfl)
          · replace h := wx_ift c82 h
            refine lv_fload hx hb dX6_ofNet_85 (lv_at hl 4 rfl) ?_
            obtain ⟨v87, hc87, h⟩ := wx_o_ok h
            refine wx_call (va_runS (As := [.float x4]) (rest := []) ⟨hx, hb, hml, hown, hts⟩ (c_Jxf58ca_floatToIntBits_5c35a l (D := D) (ad := ad) (rd := rd) (ca := ca) (A := A) (σ := σ) hc87) (va_cwS 1 hts gX6_ofNet_Jxf58ca_floatToIntBits_5c35a rfl rfl rfl (by decide +kernel) ⟨Nat.le_of_ble_eq_true rfl, Nat.le_of_ble_eq_true rfl⟩) (wx_preS hC Z hS hA) rfl rfl hl.1 rfl (lv_room (Nat.le_of_ble_eq_true rfl)) dX6_ofNet_87 ⟨Nat.zero_le _, Nat.zero_le _⟩) hS (fun H locs Z hS => ?_)
            refine lv_goto (tgt := 95) hx hb dX6_ofNet_90 (by decide) ?_
            exact b_X6_ofNet_95 B h Z hS (lv_sub hl [0, 1, 2, 3, 4, 5] rfl)
        · replace h := wx_ift c65 h
          refine lv_aload_n hx hb dX6_ofNet_68 rfl (lv_at hl 0 rfl) ?_
          refine wx_get (own := RX6) hx hb hts i_X6_ofNet_6 hown hC.1 Z (o := 16) (ci := 6) rfl (rfl : vwCl[6]? = some (RX6, TX6, 25)) 0 (by decide) (hts _ k_X6_ofNet_w0) (fun _ h9 => h9) (f := 0) rfl rfl dX6_ofNet_69 ?_
          refine lv_bipush (v := 71) hx hb dX6_ofNet_72 (by decide) ?_
          refine lv_iload_n hx hb dX6_ofNet_74 rfl (lv_at hl 1 rfl) ?_
          refine lv_iadd hx hb dX6_ofNet_75 ?_
          obtain ⟨v76, ev76, iv76, h⟩ := wx_rI_ok h
          refine wx_iald hx hb hC.1 Z (o := 16) (k := 0) (n := 109) rfl rfl iv76 dX6_ofNet_76 ev76 ?_
          refine lv_goto (tgt := 95) hx hb dX6_ofNet_77 (by decide) ?_
          exact b_X6_ofNet_95 B h Z hS (lv_sub hl [0, 1, 2, 3, 4, 5] rfl)
      · replace h := wx_ift c56 h
        refine lv_iload_n hx hb dX6_ofNet_59 rfl (lv_at hl 3 rfl) ?_
        refine lv_goto (tgt := 95) hx hb dX6_ofNet_60 (by decide) ?_
        exact b_X6_ofNet_95 B h Z hS (lv_sub hl [0, 1, 2, 3, 4, 5] rfl)
    · replace h := wx_iff c21 h
      refine lv_aload_n hx hb dX6_ofNet_24 rfl (lv_at hl 0 rfl) ?_
      refine lv_iload hx hb dX6_ofNet_25 (lv_at hl 5 rfl) ?_
      obtain ⟨v27, hc27, h⟩ := wx_o_ok h
      refine wx_call (va_runV (As := [.int x5]) (rest := []) ⟨hx, hb, hml, hown, hts⟩ (c_X6_netAt l (D := D) (ad := ad) (rd := rd) (ca := ca) (A := A) (σ := σ) hc27) (cwV 1 hts gX6_ofNet_X6_netAt rfl rfl rfl (by decide +kernel) ⟨Nat.le_of_ble_eq_true rfl, Nat.le_of_ble_eq_true rfl⟩) (wx_preV hC Z hS hA rfl (rfl : vwCl[6]? = some (RX6, TX6, 25))) rfl rfl hl.1 rfl (lv_room (Nat.le_of_ble_eq_true rfl)) dX6_ofNet_27 ⟨Nat.zero_le _, Nat.zero_le _⟩) hS (fun H locs Z hS => ?_)
      refine lv_iload_n hx hb dX6_ofNet_30 rfl (lv_at hl 1 rfl) ?_
      refine lv_icmp_ne (tgt := 49) hx hb dX6_ofNet_31 (by decide) (fun c31 => ?_) (fun c31 => ?_)
      · replace h := wx_iff c31 h
        exact b_X6_ofNet_49 B (K17 := (f_X6_ofNet_17 n)) @ih h Z hS (lv_sub hl [0, 1, 2, 3, 4, 5] rfl)
      · replace h := wx_ift c31 h
        refine lv_iinc (v := x3 + 1) (lv' := [(3, .int (x3 + 1)), (0, .ref (ad 16 99)), (1, .int x1), (2, .int x2), (4, .float x4), (5, .int x5)]) hx hb dX6_ofNet_34 hl (k := 3) rfl rfl (by decide) rfl (fun ls hl => ?_)
        refine lv_fload hx hb dX6_ofNet_37 (lv_at hl 4 rfl) ?_
        refine lv_aload_n hx hb dX6_ofNet_39 rfl (lv_at hl 1 rfl) ?_
        refine wx_get (own := RX6) hx hb hts i_X6_ofNet_6 hown hC.1 Z (o := 16) (ci := 6) rfl (rfl : vwCl[6]? = some (RX6, TX6, 25)) 1 (by decide) (hts _ k_X6_ofNet_w1) (fun _ h9 => h9) (f := 0) rfl rfl dX6_ofNet_40 ?_
        refine lv_iload hx hb dX6_ofNet_43 (lv_at hl 5 rfl) ?_
        obtain ⟨v45, ev45, iv45, h⟩ := wx_rF_ok h
        refine wx_fald hx hb hC.1 Z (o := 16) (k := 1) (n := 64) rfl rfl iv45 dX6_ofNet_45 ev45 ?_
        obtain ⟨v46, ev46, nv46, h⟩ := wx_f_ok h
        refine wx_fadd hx hb dX6_ofNet_46 ev46 nv46 ?_
        refine lv_fstore (lv' := [(4, .float v46), (3, .int (x3 + 1)), (0, .ref (ad 16 99)), (1, .int x1), (2, .int x2), (5, .int x5)]) hx hb dX6_ofNet_47 hl (by decide) rfl (fun ls hl => ?_)
        exact b_X6_ofNet_49 B (K17 := (f_X6_ofNet_17 n)) @ih h Z hS (lv_sub hl [2, 3, 4, 1, 0, 5] rfl)
set_option maxRecDepth 20000 in
set_option maxHeartbeats 4000000 in
theorem b_X6_ofNet_0 (B : wx_B p s m args meth c cX6_ofNet 6 (some .int) wsX6_ofNet RX6 D ad ca A)    {r : Int32} {σ : wx_St}  {x1 : Int32} {x2 : Int32}   (h : f_X6_ofNet x1 x2 σ = some r) {H : Heap} {locs : List Loc} (Z : wx_Z D ad rd ca A σ H) (hS : va_S A s.heap H locs) {ls : Array Slot} (hl : lv_has ls 6 [(0, .ref (ad 16 99)), (1, .int x1), (2, .int x2)]) : W p l e ({ frames := 2, cells := 0, slots := 0, locals := 43 } : Room) s m args below meth c H locs 0 0 (MQ below (wx_Q D ad rd ca A (some (.int r)) σ) args s 0 0 A) (F0 m 0 ls []) := by
  obtain ⟨hx, hb, hml, hr, hts, hown, hlk, hC, hA⟩ := id B
  unfold f_X6_ofNet at h
  refine lv_iload_n hx hb dX6_ofNet_0 rfl (lv_at hl 1 rfl) ?_
  obtain ⟨v1, hc1, h⟩ := wx_o_ok h
  refine wx_call (va_runS (As := [.int x1]) (rest := []) ⟨hx, hb, hml, hown, hts⟩ (c_X6_isNet l (D := D) (ad := ad) (rd := rd) (ca := ca) (A := A) (σ := σ) hc1) (va_cwS 1 hts gX6_ofNet_X6_isNet rfl rfl rfl (by decide +kernel) ⟨Nat.le_of_ble_eq_true rfl, Nat.le_of_ble_eq_true rfl⟩) (wx_preS hC Z hS hA) rfl rfl hl.1 rfl (lv_room (Nat.le_of_ble_eq_true rfl)) dX6_ofNet_1 ⟨Nat.zero_le _, Nat.zero_le _⟩) hS (fun H locs Z hS => ?_)
  refine lv_if_ne (tgt := 9) hx hb dX6_ofNet_4 (by decide) (fun c4 => ?_) (fun c4 => ?_)
  · replace h := wx_iff c4 h
    refine lv_iconst (v := 0) hx hb dX6_ofNet_9 (by decide) ?_
    refine lv_istore_n (lv' := [(3, .int 0), (0, .ref (ad 16 99)), (1, .int x1), (2, .int x2)]) hx hb dX6_ofNet_10 rfl hl (by decide) rfl (fun ls hl => ?_)
    refine lv_fconst0 hx hb dX6_ofNet_11 ?_
    refine lv_fstore (lv' := [(4, .float FP.fconst0), (3, .int 0), (0, .ref (ad 16 99)), (1, .int x1), (2, .int x2)]) hx hb dX6_ofNet_12 hl (by decide) rfl (fun ls hl => ?_)
    refine lv_iconst (v := 0) hx hb dX6_ofNet_14 (by decide) ?_
    refine lv_istore (lv' := [(5, .int 0), (4, .float FP.fconst0), (3, .int 0), (0, .ref (ad 16 99)), (1, .int x1), (2, .int x2)]) hx hb dX6_ofNet_15 hl (by decide) rfl (fun ls hl => ?_)
    exact b_X6_ofNet_17 B h Z hS (lv_sub hl [3, 4, 5, 2, 1, 0] rfl)
  · replace h := wx_ift c4 h
    refine lv_iconst (v := (-1)) hx hb dX6_ofNet_7 (by decide) ?_
    obtain rfl := Option.some.inj h
    exact W.iret hx hb hr (fun t ht hW => ⟨rfl, by rw [ht]; exact Z, hS.F ht⟩) hS.2.2 dX6_ofNet_8
set_option maxRecDepth 20000 in
theorem c_X6_ofNet (l : Launch) {D : va_G} {ad : Nat → Nat → Nat} {rd : Nat → Nat} {ca : Nat → ClassId} {A : Nat → Prop} {σ : wx_St}    {x1 : Int32} {x2 : Int32} {r : Int32} (h : f_X6_ofNet x1 x2 σ = some r) : wx_M l yX6_ofNet wsX6_ofNet 2 43 D ad rd ca A [.ref (ad 16 99), .int x1, .int x2] σ (some (.int r)) σ := by
  refine Met.ofW (cc := cX6_ofNet) (maxL := 6) (ret := (some .int)) (by decide +kernel) rfl ?_
  intro p e s m args below meth c s₁ B0 hml hv
  obtain ⟨rfl, hC, Z, hA⟩ := hv
  have hl := lv_entry ([.ref (ad 16 99), .int x1, .int x2]) (n := 6) (Nat.le_of_ble_eq_true rfl)
  rw [lg_entry_eq]
  generalize (lg_sl ([.ref (ad 16 99), .int x1, .int x2]) ++ List.replicate (6 - (lg_sl ([.ref (ad 16 99), .int x1, .int x2])).length) Slot.unset).toArray = ls at hl ⊢
  exact b_X6_ofNet_0 ⟨B0.exec, B0.bytes, hml, B0.returns, atoms_spec (ws := wsX6_ofNet) B0.pre, findClass_of_methodNamed B0.named, B0.notSynchronized, hC, hA⟩   h Z va_S.rf hl
set_option maxRecDepth 20000 in
set_option maxHeartbeats 4000000 in
theorem b_X6_ofTouch_78 (B : wx_B p s m args meth c cX6_ofTouch 3 (some .int) wsX6_ofTouch RX6 D ad ca A)    {r : Int32} {σ : wx_St}  {x1 : Int32} {x2 : Int32} {y0 : Int32}   (h : f_X6_ofTouch_78 x1 x2 y0 σ = some r) {H : Heap} {locs : List Loc} (Z : wx_Z D ad rd ca A σ H) (hS : va_S A s.heap H locs) {ls : Array Slot} (hl : lv_has ls 3 [(0, .ref (ad 16 99)), (1, .int x1), (2, .int x2)]) : W p l e ({ frames := 2, cells := 0, slots := 0, locals := 43 } : Room) s m args below meth c H locs 0 0 (MQ below (wx_Q D ad rd ca A (some (.int r)) σ) args s 0 0 A) (F0 m 78 ls [.int y0]) := by
  obtain ⟨hx, hb, hml, hr, hts, hown, hlk, hC, hA⟩ := id B
  unfold f_X6_ofTouch_78 at h
  obtain rfl := Option.some.inj h
  exact W.iret hx hb hr (fun t ht hW => ⟨rfl, by rw [ht]; exact Z, hS.F ht⟩) hS.2.2 dX6_ofTouch_78
set_option maxRecDepth 20000 in
set_option maxHeartbeats 4000000 in
theorem b_X6_ofTouch_0 (B : wx_B p s m args meth c cX6_ofTouch 3 (some .int) wsX6_ofTouch RX6 D ad ca A)    {r : Int32} {σ : wx_St}  {x1 : Int32} {x2 : Int32}   (h : f_X6_ofTouch x1 x2 σ = some r) {H : Heap} {locs : List Loc} (Z : wx_Z D ad rd ca A σ H) (hS : va_S A s.heap H locs) {ls : Array Slot} (hl : lv_has ls 3 [(0, .ref (ad 16 99)), (1, .int x1), (2, .int x2)]) : W p l e ({ frames := 2, cells := 0, slots := 0, locals := 43 } : Room) s m args below meth c H locs 0 0 (MQ below (wx_Q D ad rd ca A (some (.int r)) σ) args s 0 0 A) (F0 m 0 ls []) := by
  obtain ⟨hx, hb, hml, hr, hts, hown, hlk, hC, hA⟩ := id B
  unfold f_X6_ofTouch at h
  refine lv_aload_n hx hb dX6_ofTouch_0 rfl (lv_at hl 0 rfl) ?_
  refine lv_iload_n hx hb dX6_ofTouch_1 rfl (lv_at hl 1 rfl) ?_
  obtain ⟨v2, hc2, h⟩ := wx_o_ok h
  refine wx_call (va_runV (As := [.int x1]) (rest := []) ⟨hx, hb, hml, hown, hts⟩ (c_X6_isTouch l (D := D) (ad := ad) (rd := rd) (ca := ca) (A := A) (σ := σ) hc2) (cwV 1 hts gX6_ofTouch_X6_isTouch rfl rfl rfl (by decide +kernel) ⟨Nat.le_of_ble_eq_true rfl, Nat.le_of_ble_eq_true rfl⟩) (wx_preV hC Z hS hA rfl (rfl : vwCl[6]? = some (RX6, TX6, 25))) rfl rfl hl.1 rfl (lv_room (Nat.le_of_ble_eq_true rfl)) dX6_ofTouch_2 ⟨Nat.zero_le _, Nat.zero_le _⟩) hS (fun H locs Z hS => ?_)
  refine lv_if_ne (tgt := 10) hx hb dX6_ofTouch_5 (by decide) (fun c5 => ?_) (fun c5 => ?_)
  · replace h := wx_iff c5 h
    refine lv_iload_n hx hb dX6_ofTouch_10 rfl (lv_at hl 2 rfl) ?_
    by_cases c11_0 : x2 = 0
    · replace h := wx_ift c11_0 h
      refine lv_tableIn (off := 29) (tgt := 40) hx hb dX6_ofTouch_11 (by rw [c11_0]; decide) (by rw [c11_0]; decide) (by rw [c11_0]; rfl) (by decide) ?_
      refine lv_aload_n hx hb dX6_ofTouch_40 rfl (lv_at hl 0 rfl) ?_
      refine lv_iload_n hx hb dX6_ofTouch_41 rfl (lv_at hl 1 rfl) ?_
      refine lv_iconst (v := 0) hx hb dX6_ofTouch_42 (by decide) ?_
      obtain ⟨v43, hc43, h⟩ := wx_o_ok h
      refine wx_call (va_runV (As := [.int x1, .int 0]) (rest := []) ⟨hx, hb, hml, hown, hts⟩ (c_X6_touchPart l (D := D) (ad := ad) (rd := rd) (ca := ca) (A := A) (σ := σ) hc43) (cwV 2 hts gX6_ofTouch_X6_touchPart rfl rfl rfl (by decide +kernel) ⟨Nat.le_of_ble_eq_true rfl, Nat.le_of_ble_eq_true rfl⟩) (wx_preV hC Z hS hA rfl (rfl : vwCl[6]? = some (RX6, TX6, 25))) rfl rfl hl.1 rfl (lv_room (Nat.le_of_ble_eq_true rfl)) dX6_ofTouch_43 ⟨Nat.zero_le _, Nat.zero_le _⟩) hS (fun H locs Z hS => ?_)
      obtain rfl := Option.some.inj h
      exact W.iret hx hb hr (fun t ht hW => ⟨rfl, by rw [ht]; exact Z, hS.F ht⟩) hS.2.2 dX6_ofTouch_46
    · replace h := wx_iff c11_0 h
      by_cases c11_1 : x2 = 1
      · replace h := wx_ift c11_1 h
        refine lv_tableIn (off := 36) (tgt := 47) hx hb dX6_ofTouch_11 (by rw [c11_1]; decide) (by rw [c11_1]; decide) (by rw [c11_1]; rfl) (by decide) ?_
        refine lv_aload_n hx hb dX6_ofTouch_47 rfl (lv_at hl 0 rfl) ?_
        refine lv_aload_n hx hb dX6_ofTouch_48 rfl (lv_at hl 0 rfl) ?_
        refine lv_iload_n hx hb dX6_ofTouch_49 rfl (lv_at hl 1 rfl) ?_
        refine lv_iconst (v := 0) hx hb dX6_ofTouch_50 (by decide) ?_
        obtain ⟨v51, hc51, h⟩ := wx_o_ok h
        refine wx_call (va_runV (As := [.int x1, .int 0]) (rest := [.ref (ad 16 99)]) ⟨hx, hb, hml, hown, hts⟩ (c_X6_touchPart l (D := D) (ad := ad) (rd := rd) (ca := ca) (A := A) (σ := σ) hc51) (cwV 2 hts gX6_ofTouch_X6_touchPart rfl rfl rfl (by decide +kernel) ⟨Nat.le_of_ble_eq_true rfl, Nat.le_of_ble_eq_true rfl⟩) (wx_preV hC Z hS hA rfl (rfl : vwCl[6]? = some (RX6, TX6, 25))) rfl rfl hl.1 rfl (lv_room (Nat.le_of_ble_eq_true rfl)) dX6_ofTouch_51 ⟨Nat.zero_le _, Nat.zero_le _⟩) hS (fun H locs Z hS => ?_)
        obtain ⟨v54, hc54, h⟩ := wx_o_ok h
        refine wx_call (va_runV (As := [.int v51]) (rest := []) ⟨hx, hb, hml, hown, hts⟩ (c_X6_netAt l (D := D) (ad := ad) (rd := rd) (ca := ca) (A := A) (σ := σ) hc54) (cwV 1 hts gX6_ofTouch_X6_netAt rfl rfl rfl (by decide +kernel) ⟨Nat.le_of_ble_eq_true rfl, Nat.le_of_ble_eq_true rfl⟩) (wx_preV hC Z hS hA rfl (rfl : vwCl[6]? = some (RX6, TX6, 25))) rfl rfl hl.1 rfl (lv_room (Nat.le_of_ble_eq_true rfl)) dX6_ofTouch_54 ⟨Nat.zero_le _, Nat.zero_le _⟩) hS (fun H locs Z hS => ?_)
        obtain rfl := Option.some.inj h
        exact W.iret hx hb hr (fun t ht hW => ⟨rfl, by rw [ht]; exact Z, hS.F ht⟩) hS.2.2 dX6_ofTouch_57
      · replace h := wx_iff c11_1 h
        by_cases c11_2 : x2 = 2
        · replace h := wx_ift c11_2 h
          refine lv_tableIn (off := 47) (tgt := 58) hx hb dX6_ofTouch_11 (by rw [c11_2]; decide) (by rw [c11_2]; decide) (by rw [c11_2]; rfl) (by decide) ?_
          refine lv_aload_n hx hb dX6_ofTouch_58 rfl (lv_at hl 0 rfl) ?_
          refine lv_iload_n hx hb dX6_ofTouch_59 rfl (lv_at hl 1 rfl) ?_
          refine lv_iconst (v := 1) hx hb dX6_ofTouch_60 (by decide) ?_
          obtain ⟨v61, hc61, h⟩ := wx_o_ok h
          refine wx_call (va_runV (As := [.int x1, .int 1]) (rest := []) ⟨hx, hb, hml, hown, hts⟩ (c_X6_touchPart l (D := D) (ad := ad) (rd := rd) (ca := ca) (A := A) (σ := σ) hc61) (cwV 2 hts gX6_ofTouch_X6_touchPart rfl rfl rfl (by decide +kernel) ⟨Nat.le_of_ble_eq_true rfl, Nat.le_of_ble_eq_true rfl⟩) (wx_preV hC Z hS hA rfl (rfl : vwCl[6]? = some (RX6, TX6, 25))) rfl rfl hl.1 rfl (lv_room (Nat.le_of_ble_eq_true rfl)) dX6_ofTouch_61 ⟨Nat.zero_le _, Nat.zero_le _⟩) hS (fun H locs Z hS => ?_)
          obtain rfl := Option.some.inj h
          exact W.iret hx hb hr (fun t ht hW => ⟨rfl, by rw [ht]; exact Z, hS.F ht⟩) hS.2.2 dX6_ofTouch_64
        · replace h := wx_iff c11_2 h
          by_cases c11_3 : x2 = 3
          · replace h := wx_ift c11_3 h
            refine lv_tableIn (off := 54) (tgt := 65) hx hb dX6_ofTouch_11 (by rw [c11_3]; decide) (by rw [c11_3]; decide) (by rw [c11_3]; rfl) (by decide) ?_
            refine lv_aload_n hx hb dX6_ofTouch_65 rfl (lv_at hl 0 rfl) ?_
            refine lv_iload_n hx hb dX6_ofTouch_66 rfl (lv_at hl 1 rfl) ?_
            obtain ⟨v67, hc67, h⟩ := wx_o_ok h
            refine wx_call (va_runV (As := [.int x1]) (rest := []) ⟨hx, hb, hml, hown, hts⟩ (c_X6_isLive l (D := D) (ad := ad) (rd := rd) (ca := ca) (A := A) (σ := σ) hc67) (cwV 1 hts gX6_ofTouch_X6_isLive rfl rfl rfl (by decide +kernel) ⟨Nat.le_of_ble_eq_true rfl, Nat.le_of_ble_eq_true rfl⟩) (wx_preV hC Z hS hA rfl (rfl : vwCl[6]? = some (RX6, TX6, 25))) rfl rfl hl.1 rfl (lv_room (Nat.le_of_ble_eq_true rfl)) dX6_ofTouch_67 ⟨Nat.zero_le _, Nat.zero_le _⟩) hS (fun H locs Z hS => ?_)
            refine lv_if_eq (tgt := 77) hx hb dX6_ofTouch_70 (by decide) (fun c70 => ?_) (fun c70 => ?_)
            · replace h := wx_ift c70 h
              refine lv_iconst (v := 0) hx hb dX6_ofTouch_77 (by decide) ?_
              exact b_X6_ofTouch_78 B h Z hS (lv_sub hl [0, 1, 2] rfl)
            · replace h := wx_iff c70 h
              refine lv_iconst (v := 1) hx hb dX6_ofTouch_73 (by decide) ?_
              refine lv_goto (tgt := 78) hx hb dX6_ofTouch_74 (by decide) ?_
              exact b_X6_ofTouch_78 B h Z hS (lv_sub hl [0, 1, 2] rfl)
          · replace h := wx_iff c11_3 h
            have n11_0 := wx_ni c11_0
            have n11_1 := wx_ni c11_1
            have n11_2 := wx_ni c11_2
            have n11_3 := wx_ni c11_3
            rw [show (0 : Int32).toInt = 0 from by decide] at n11_0
            rw [show (1 : Int32).toInt = 1 from by decide] at n11_1
            rw [show (2 : Int32).toInt = 2 from by decide] at n11_2
            rw [show (3 : Int32).toInt = 3 from by decide] at n11_3
            refine lv_tableOut (tgt := 79) hx hb dX6_ofTouch_11 (by omega) (by decide) ?_
            refine lv_bipush (v := (-2)) hx hb dX6_ofTouch_79 (by decide) ?_
            obtain rfl := Option.some.inj h
            exact W.iret hx hb hr (fun t ht hW => ⟨rfl, by rw [ht]; exact Z, hS.F ht⟩) hS.2.2 dX6_ofTouch_81
  · replace h := wx_ift c5 h
    refine lv_iconst (v := (-1)) hx hb dX6_ofTouch_8 (by decide) ?_
    obtain rfl := Option.some.inj h
    exact W.iret hx hb hr (fun t ht hW => ⟨rfl, by rw [ht]; exact Z, hS.F ht⟩) hS.2.2 dX6_ofTouch_9
set_option maxRecDepth 20000 in
theorem c_X6_ofTouch (l : Launch) {D : va_G} {ad : Nat → Nat → Nat} {rd : Nat → Nat} {ca : Nat → ClassId} {A : Nat → Prop} {σ : wx_St}    {x1 : Int32} {x2 : Int32} {r : Int32} (h : f_X6_ofTouch x1 x2 σ = some r) : wx_M l yX6_ofTouch wsX6_ofTouch 2 43 D ad rd ca A [.ref (ad 16 99), .int x1, .int x2] σ (some (.int r)) σ := by
  refine Met.ofW (cc := cX6_ofTouch) (maxL := 3) (ret := (some .int)) (by decide +kernel) rfl ?_
  intro p e s m args below meth c s₁ B0 hml hv
  obtain ⟨rfl, hC, Z, hA⟩ := hv
  have hl := lv_entry ([.ref (ad 16 99), .int x1, .int x2]) (n := 3) (Nat.le_of_ble_eq_true rfl)
  rw [lg_entry_eq]
  generalize (lg_sl ([.ref (ad 16 99), .int x1, .int x2]) ++ List.replicate (3 - (lg_sl ([.ref (ad 16 99), .int x1, .int x2])).length) Slot.unset).toArray = ls at hl ⊢
  exact b_X6_ofTouch_0 ⟨B0.exec, B0.bytes, hml, B0.returns, atoms_spec (ws := wsX6_ofTouch) B0.pre, findClass_of_methodNamed B0.named, B0.notSynchronized, hC, hA⟩   h Z va_S.rf hl
set_option maxRecDepth 20000 in
set_option maxHeartbeats 4000000 in
theorem b_X6_probe_0 (B : wx_B p s m args meth c cX6_probe 4 (some .int) wsX6_probe RX6 D ad ca A)    {r : Int32} {σ' : wx_St}  {x1 : Int32} {x2 : Int32} {σ : wx_St}  (h : f_X6_probe x1 x2 σ = some (r, σ')) {H : Heap} {locs : List Loc} (Z : wx_Z D ad rd ca A σ H) (hS : va_S A s.heap H locs) {ls : Array Slot} (hl : lv_has ls 4 [(0, .ref (ad 16 99)), (1, .int x1), (2, .int x2)]) : W p l e ({ frames := 4, cells := 0, slots := 0, locals := 85 } : Room) s m args below meth c H locs 0 0 (MQ below (wx_Q D ad rd ca A (some (.int r)) σ') args s 0 0 A) (F0 m 0 ls []) := by
  obtain ⟨hx, hb, hml, hr, hts, hown, hlk, hC, hA⟩ := id B
  unfold f_X6_probe at h
  refine lv_aload_n hx hb dX6_probe_0 rfl (lv_at hl 0 rfl) ?_
  refine lv_iload_n hx hb dX6_probe_1 rfl (lv_at hl 1 rfl) ?_
  refine lv_iload_n hx hb dX6_probe_2 rfl (lv_at hl 2 rfl) ?_
  obtain ⟨v3, hc3, h⟩ := wx_o_ok h
  refine wx_call (va_runV (As := [.int x1, .int x2]) (rest := []) ⟨hx, hb, hml, hown, hts⟩ (c_X6_whyNotProbed l (D := D) (ad := ad) (rd := rd) (ca := ca) (A := A) (σ := σ) hc3) (cwV 2 hts gX6_probe_X6_whyNotProbed rfl rfl rfl (by decide +kernel) ⟨Nat.le_of_ble_eq_true rfl, Nat.le_of_ble_eq_true rfl⟩) (wx_preV hC Z hS hA rfl (rfl : vwCl[6]? = some (RX6, TX6, 25))) rfl rfl hl.1 rfl (lv_room (Nat.le_of_ble_eq_true rfl)) dX6_probe_3 ⟨Nat.zero_le _, Nat.zero_le _⟩) hS (fun H locs Z hS => ?_)
  refine lv_istore_n (lv' := [(3, .int v3), (0, .ref (ad 16 99)), (1, .int x1), (2, .int x2)]) hx hb dX6_probe_6 rfl hl (by decide) rfl (fun ls hl => ?_)
  refine lv_iload_n hx hb dX6_probe_7 rfl (lv_at hl 0 rfl) ?_
  refine lv_if_ge (tgt := 13) hx hb dX6_probe_8 (by decide) (fun c8 => ?_) (fun c8 => ?_)
  · replace h := wx_ift c8 h
    refine lv_aload_n hx hb dX6_probe_13 rfl (lv_at hl 1 rfl) ?_
    obtain ⟨v14, σ14, hc14, h⟩ := wx_b_ok h
    refine wx_call (va_runV (As := []) (rest := []) ⟨hx, hb, hml, hown, hts⟩ (c_X6_record l (D := D) (ad := ad) (rd := rd) (ca := ca) (A := A) (σ := σ) hc14) (cwV 0 hts gX6_probe_X6_record rfl rfl rfl (by decide +kernel) ⟨Nat.le_of_ble_eq_true rfl, Nat.le_of_ble_eq_true rfl⟩) (wx_preV hC Z hS hA rfl (rfl : vwCl[6]? = some (RX6, TX6, 25))) rfl rfl hl.1 rfl (lv_room (Nat.le_of_ble_eq_true rfl)) dX6_probe_14 ⟨Nat.zero_le _, Nat.zero_le _⟩) hS (fun H locs Z hS => ?_)
    refine lv_aload_n hx hb dX6_probe_17 rfl (lv_at hl 1 rfl) ?_
    refine lv_iload_n hx hb dX6_probe_18 rfl (lv_at hl 2 rfl) ?_
    refine lv_iload_n hx hb dX6_probe_19 rfl (lv_at hl 3 rfl) ?_
    obtain ⟨v20, σ20, hc20, h⟩ := wx_b_ok h
    refine wx_call (va_runV (As := [.int x1, .int x2]) (rest := []) ⟨hx, hb, hml, hown, hts⟩ (c_X6_probes l (D := D) (ad := ad) (rd := rd) (ca := ca) (A := A) (σ := σ14) hc20) (cwV 2 hts gX6_probe_X6_probes rfl rfl rfl (by decide +kernel) ⟨Nat.le_of_ble_eq_true rfl, Nat.le_of_ble_eq_true rfl⟩) (wx_preV hC Z hS hA rfl (rfl : vwCl[6]? = some (RX6, TX6, 25))) rfl rfl hl.1 rfl (lv_room (Nat.le_of_ble_eq_true rfl)) dX6_probe_20 ⟨Nat.zero_le _, Nat.zero_le _⟩) hS (fun H locs Z hS => ?_)
    obtain ⟨rfl, rfl⟩ := wx_ret_ok h
    exact W.iret hx hb hr (fun t ht hW => ⟨rfl, by rw [ht]; exact Z, hS.F ht⟩) hS.2.2 dX6_probe_23
  · replace h := wx_iff c8 h
    refine lv_iload_n hx hb dX6_probe_11 rfl (lv_at hl 0 rfl) ?_
    obtain ⟨rfl, rfl⟩ := wx_ret_ok h
    exact W.iret hx hb hr (fun t ht hW => ⟨rfl, by rw [ht]; exact Z, hS.F ht⟩) hS.2.2 dX6_probe_12
set_option maxRecDepth 20000 in
theorem c_X6_probe (l : Launch) {D : va_G} {ad : Nat → Nat → Nat} {rd : Nat → Nat} {ca : Nat → ClassId} {A : Nat → Prop} {σ : wx_St}    {x1 : Int32} {x2 : Int32} {r : Int32} {σ' : wx_St} (h : f_X6_probe x1 x2 σ = some (r, σ')) : wx_M l yX6_probe wsX6_probe 4 85 D ad rd ca A [.ref (ad 16 99), .int x1, .int x2] σ (some (.int r)) σ' := by
  refine Met.ofW (cc := cX6_probe) (maxL := 4) (ret := (some .int)) (by decide +kernel) rfl ?_
  intro p e s m args below meth c s₁ B0 hml hv
  obtain ⟨rfl, hC, Z, hA⟩ := hv
  have hl := lv_entry ([.ref (ad 16 99), .int x1, .int x2]) (n := 4) (Nat.le_of_ble_eq_true rfl)
  rw [lg_entry_eq]
  generalize (lg_sl ([.ref (ad 16 99), .int x1, .int x2]) ++ List.replicate (4 - (lg_sl ([.ref (ad 16 99), .int x1, .int x2])).length) Slot.unset).toArray = ls at hl ⊢
  exact b_X6_probe_0 ⟨B0.exec, B0.bytes, hml, B0.returns, atoms_spec (ws := wsX6_probe) B0.pre, findClass_of_methodNamed B0.named, B0.notSynchronized, hC, hA⟩   h Z va_S.rf hl
theorem i_X6_put_6 : ∀ w ∈ wsX60, w ∈ wsX6_put := by decide +kernel
theorem k_X6_put_w0 : Cond.constantLong RX6 247 (255) ∈ wsX6_put := by decide +kernel
theorem k_X6_put_w1 : Cond.fieldLink RX6 223 "WarmProbesModel" "padLength" "I" ∈ wsX6_put := by decide +kernel
theorem k_X6_put_w2 : Cond.fieldLink RX6 32 "WarmProbesModel" "pad" "[I" ∈ wsX6_put := by decide +kernel
set_option maxRecDepth 20000 in
set_option maxHeartbeats 4000000 in
theorem b_X6_put_52 (B : wx_B p s m args meth c cX6_put 8 (some .int) wsX6_put RX6 D ad ca A)    {r : Int32} {σ' : wx_St} {K8 : Int64 → Int32 → Int64 → Int32 → wx_St → Option (Int32 × wx_St)} (hK8 : ∀ {x1 : Int64} {x3 : Int32} {x4 : Int64} {x6 : Int32} {σ : wx_St}  (h : K8 x1 x3 x4 x6 σ = some (r, σ')) {H : Heap} {locs : List Loc} (Z : wx_Z D ad rd ca A σ H) (hS : va_S A s.heap H locs) {ls : Array Slot} (hl : lv_has ls 8 [(0, .ref (ad 16 99)), (1, .long x1), (3, .int x3), (4, .long x4), (6, .int x6)]), W p l e ({ frames := 1, cells := 0, slots := 0, locals := 22 } : Room) s m args below meth c H locs 0 0 (MQ below (wx_Q D ad rd ca A (some (.int r)) σ') args s 0 0 A) (F0 m 8 ls [])) {x1 : Int64} {x3 : Int32} {x4 : Int64} {x6 : Int32} {y0 : Int32} {σ : wx_St}  (h : f_X6_put_52 K8 x1 x3 x4 x6 y0 σ = some (r, σ')) {H : Heap} {locs : List Loc} (Z : wx_Z D ad rd ca A σ H) (hS : va_S A s.heap H locs) {ls : Array Slot} (hl : lv_has ls 8 [(0, .ref (ad 16 99)), (1, .long x1), (3, .int x3), (4, .long x4), (6, .int x6)]) : W p l e ({ frames := 1, cells := 0, slots := 0, locals := 22 } : Room) s m args below meth c H locs 0 0 (MQ below (wx_Q D ad rd ca A (some (.int r)) σ') args s 0 0 A) (F0 m 52 ls [.int y0]) := by
  obtain ⟨hx, hb, hml, hr, hts, hown, hlk, hC, hA⟩ := id B
  unfold f_X6_put_52 at h
  refine lv_istore (lv' := [(6, .int y0), (0, .ref (ad 16 99)), (1, .long x1), (3, .int x3), (4, .long x4)]) hx hb dX6_put_52 hl (by decide) rfl (fun ls hl => ?_)
  refine lv_lload hx hb dX6_put_54 (lv_at hl 4 rfl) ?_
  refine lv_bipush (v := 8) hx hb dX6_put_56 (by decide) ?_
  refine lv_lushr (v := (x4.toUInt64 >>> ((8 : Int32).toInt64.toUInt64 &&& Int64.toUInt64 63)).toInt64) hx hb dX6_put_58 rfl ?_
  refine lv_lstore (lv' := [(4, .long ((x4.toUInt64 >>> ((8 : Int32).toInt64.toUInt64 &&& Int64.toUInt64 63)).toInt64)), (6, .int y0), (0, .ref (ad 16 99)), (1, .long x1), (3, .int x3)]) hx hb dX6_put_59 hl (by decide) rfl (fun ls hl => ?_)
  refine lv_iinc (v := x3 + 1) (lv' := [(3, .int (x3 + 1)), (4, .long ((x4.toUInt64 >>> ((8 : Int32).toInt64.toUInt64 &&& Int64.toUInt64 63)).toInt64)), (6, .int y0), (0, .ref (ad 16 99)), (1, .long x1)]) hx hb dX6_put_61 hl (k := 4) rfl rfl (by decide) rfl (fun ls hl => ?_)
  refine lv_goto (tgt := 8) hx hb dX6_put_64 (by decide) ?_
  exact hK8 h Z hS (lv_sub hl [3, 4, 0, 1, 2] rfl)
set_option maxRecDepth 20000 in
set_option maxHeartbeats 4000000 in
theorem b_X6_put_51 (B : wx_B p s m args meth c cX6_put 8 (some .int) wsX6_put RX6 D ad ca A)    {r : Int32} {σ' : wx_St} {K8 : Int64 → Int32 → Int64 → Int32 → wx_St → Option (Int32 × wx_St)} (hK8 : ∀ {x1 : Int64} {x3 : Int32} {x4 : Int64} {x6 : Int32} {σ : wx_St}  (h : K8 x1 x3 x4 x6 σ = some (r, σ')) {H : Heap} {locs : List Loc} (Z : wx_Z D ad rd ca A σ H) (hS : va_S A s.heap H locs) {ls : Array Slot} (hl : lv_has ls 8 [(0, .ref (ad 16 99)), (1, .long x1), (3, .int x3), (4, .long x4), (6, .int x6)]), W p l e ({ frames := 1, cells := 0, slots := 0, locals := 22 } : Room) s m args below meth c H locs 0 0 (MQ below (wx_Q D ad rd ca A (some (.int r)) σ') args s 0 0 A) (F0 m 8 ls [])) {x1 : Int64} {x3 : Int32} {x4 : Int64} {x6 : Int32} {σ : wx_St}  (h : f_X6_put_51 K8 x1 x3 x4 x6 σ = some (r, σ')) {H : Heap} {locs : List Loc} (Z : wx_Z D ad rd ca A σ H) (hS : va_S A s.heap H locs) {ls : Array Slot} (hl : lv_has ls 8 [(0, .ref (ad 16 99)), (1, .long x1), (3, .int x3), (4, .long x4), (6, .int x6)]) : W p l e ({ frames := 1, cells := 0, slots := 0, locals := 22 } : Room) s m args below meth c H locs 0 0 (MQ below (wx_Q D ad rd ca A (some (.int r)) σ') args s 0 0 A) (F0 m 51 ls []) := by
  obtain ⟨hx, hb, hml, hr, hts, hown, hlk, hC, hA⟩ := id B
  unfold f_X6_put_51 at h
  refine lv_iconst (v := 0) hx hb dX6_put_51 (by decide) ?_
  exact b_X6_put_52 B (K8 := K8) @hK8 h Z hS (lv_sub hl [0, 1, 2, 3, 4] rfl)
set_option maxRecDepth 20000 in
set_option maxHeartbeats 4000000 in
theorem b_X6_put_83 (B : wx_B p s m args meth c cX6_put 8 (some .int) wsX6_put RX6 D ad ca A)    {r : Int32} {σ' : wx_St}  {x1 : Int64} {x3 : Int32} {x4 : Int64} {x6 : Int32} {σ : wx_St}  (h : f_X6_put_83 x1 x3 x4 x6 σ = some (r, σ')) {H : Heap} {locs : List Loc} (Z : wx_Z D ad rd ca A σ H) (hS : va_S A s.heap H locs) {ls : Array Slot} (hl : lv_has ls 8 [(0, .ref (ad 16 99)), (1, .long x1), (3, .int x3), (4, .long x4), (6, .int x6)]) : W p l e ({ frames := 1, cells := 0, slots := 0, locals := 22 } : Room) s m args below meth c H locs 0 0 (MQ below (wx_Q D ad rd ca A (some (.int r)) σ') args s 0 0 A) (F0 m 83 ls []) := by
  obtain ⟨hx, hb, hml, hr, hts, hown, hlk, hC, hA⟩ := id B
  unfold f_X6_put_83 at h
  refine lv_bipush (v := (-2)) hx hb dX6_put_83 (by decide) ?_
  obtain ⟨rfl, rfl⟩ := wx_ret_ok h
  exact W.iret hx hb hr (fun t ht hW => ⟨rfl, by rw [ht]; exact Z, hS.F ht⟩) hS.2.2 dX6_put_85
set_option maxRecDepth 20000 in
set_option maxHeartbeats 4000000 in
theorem b_X6_put_105 (B : wx_B p s m args meth c cX6_put 8 (some .int) wsX6_put RX6 D ad ca A)    {r : Int32} {σ' : wx_St}   :
    ∀ {n : Nat} {x1 : Int64} {x3 : Int32} {x4 : Int64} {x6 : Int32} {x7 : Int32} {σ : wx_St}  (h : f_X6_put_105 n x1 x3 x4 x6 x7 σ = some (r, σ')) {H : Heap} {locs : List Loc} (Z : wx_Z D ad rd ca A σ H) (hS : va_S A s.heap H locs) {ls : Array Slot} (hl : lv_has ls 8 [(0, .ref (ad 16 99)), (1, .long x1), (3, .int x3), (4, .long x4), (6, .int x6), (7, .int x7)]), W p l e ({ frames := 1, cells := 0, slots := 0, locals := 22 } : Room) s m args below meth c H locs 0 0 (MQ below (wx_Q D ad rd ca A (some (.int r)) σ') args s 0 0 A) (F0 m 105 ls []) := by
  obtain ⟨hx, hb, hml, hr, hts, hown, hlk, hC, hA⟩ := id B
  intro n
  induction n with
  | zero => intro x1 x3 x4 x6 x7 σ  h H locs Z hS ls hl; exact wx_no h
  | succ n ih =>
    intro x1 x3 x4 x6 x7 σ  h H locs Z hS ls hl
    rw [f_X6_put_105] at h
    refine lv_iload hx hb dX6_put_105 (lv_at hl 5 rfl) ?_
    refine lv_if_lt (tgt := 147) hx hb dX6_put_107 (by decide) (fun c107 => ?_) (fun c107 => ?_)
    · replace h := wx_ift c107 h
      refine lv_aload_n hx hb dX6_put_147 rfl (lv_at hl 0 rfl) ?_
      refine wx_get (own := RX6) hx hb hts i_X6_put_6 hown hC.1 Z (o := 16) (ci := 6) rfl (rfl : vwCl[6]? = some (RX6, TX6, 25)) 9 (by decide) (hts _ k_X6_put_w1) (fun _ h9 => h9) (f := 1) rfl rfl dX6_put_148 ?_
      obtain ⟨rfl, rfl⟩ := wx_ret_ok h
      exact W.iret hx hb hr (fun t ht hW => ⟨rfl, by rw [ht]; exact Z, hS.F ht⟩) hS.2.2 dX6_put_151
    · replace h := wx_iff c107 h
      refine lv_aload_n hx hb dX6_put_110 rfl (lv_at hl 0 rfl) ?_
      refine wx_get (own := RX6) hx hb hts i_X6_put_6 hown hC.1 Z (o := 16) (ci := 6) rfl (rfl : vwCl[6]? = some (RX6, TX6, 25)) 8 (by decide) (hts _ k_X6_put_w2) (fun _ h9 => h9) (f := 0) rfl rfl dX6_put_111 ?_
      refine lv_aload_n hx hb dX6_put_114 rfl (lv_at hl 0 rfl) ?_
      refine wx_get (own := RX6) hx hb hts i_X6_put_6 hown hC.1 Z (o := 16) (ci := 6) rfl (rfl : vwCl[6]? = some (RX6, TX6, 25)) 9 (by decide) (hts _ k_X6_put_w1) (fun _ h9 => h9) (f := 1) rfl rfl dX6_put_115 ?_
      refine lv_lload_n hx hb dX6_put_118 rfl (lv_at hl 1 rfl) ?_
      refine lv_bipush (v := 8) hx hb dX6_put_119 (by decide) ?_
      refine lv_iload hx hb dX6_put_121 (lv_at hl 5 rfl) ?_
      refine lv_imul hx hb dX6_put_123 ?_
      refine lv_lushr (v := (x1.toUInt64 >>> ((8 * x7).toInt64.toUInt64 &&& Int64.toUInt64 63)).toInt64) hx hb dX6_put_124 rfl ?_
      refine lv_ldc2 hx hb hown (hts _ k_X6_put_w0) dX6_put_125 ?_
      refine lv_land hx hb dX6_put_128 ?_
      refine lv_l2i (v := (((x1.toUInt64 >>> ((8 * x7).toInt64.toUInt64 &&& Int64.toUInt64 63)).toInt64) &&& (255 : Int64)).toInt32) hx hb dX6_put_129 rfl ?_
      obtain ⟨σ130, e130, i130, h⟩ := wx_w_ok h
      refine wx_iast hx hb hC.1 Z hS (o := 16) (k := 8) (n := 80) rfl rfl i130 dX6_put_130 e130 (fun H locs Z hS => ?_)
      refine lv_aload_n hx hb dX6_put_131 rfl (lv_at hl 0 rfl) ?_
      refine lv_dup hx hb dX6_put_132 rfl ?_
      refine wx_get (own := RX6) hx hb hts i_X6_put_6 hown hC.1 Z (o := 16) (ci := 6) rfl (rfl : vwCl[6]? = some (RX6, TX6, 25)) 9 (by decide) (hts _ k_X6_put_w1) (fun _ h9 => h9) (f := 1) rfl rfl dX6_put_133 ?_
      refine lv_iconst (v := 1) hx hb dX6_put_136 (by decide) ?_
      refine lv_iadd hx hb dX6_put_137 ?_
      obtain ⟨σ138, e138, h⟩ := wx_l_ok h
      refine wx_put (own := RX6) hx hb hts i_X6_put_6 tyX6 tyX6_ok nmX6 hown hC.1 Z hS (o := 16) (ci := 6) rfl (rfl : vwCl[6]? = some (RX6, TX6, 25)) 9 (by decide) (hts _ k_X6_put_w1) (fun _ h9 => h9) rfl (by decide +kernel) rfl dX6_put_138 e138 (fun H locs Z hS => ?_)
      refine lv_iinc (v := x7 + (-1)) (lv' := [(7, .int (x7 + (-1))), (0, .ref (ad 16 99)), (1, .long x1), (3, .int x3), (4, .long x4), (6, .int x6)]) hx hb dX6_put_141 hl (k := 5) rfl rfl (by decide) rfl (fun ls hl => ?_)
      refine lv_goto (tgt := 105) hx hb dX6_put_144 (by decide) ?_
      exact ih h Z hS (lv_sub hl [1, 2, 3, 4, 5, 0] rfl)
set_option maxRecDepth 20000 in
set_option maxHeartbeats 4000000 in
theorem b_X6_put_67 (B : wx_B p s m args meth c cX6_put 8 (some .int) wsX6_put RX6 D ad ca A)    {r : Int32} {σ' : wx_St}  {x1 : Int64} {x3 : Int32} {x4 : Int64} {x6 : Int32} {σ : wx_St}  (h : f_X6_put_67 x1 x3 x4 x6 σ = some (r, σ')) {H : Heap} {locs : List Loc} (Z : wx_Z D ad rd ca A σ H) (hS : va_S A s.heap H locs) {ls : Array Slot} (hl : lv_has ls 8 [(0, .ref (ad 16 99)), (1, .long x1), (3, .int x3), (4, .long x4), (6, .int x6)]) : W p l e ({ frames := 1, cells := 0, slots := 0, locals := 22 } : Room) s m args below meth c H locs 0 0 (MQ below (wx_Q D ad rd ca A (some (.int r)) σ') args s 0 0 A) (F0 m 67 ls []) := by
  obtain ⟨hx, hb, hml, hr, hts, hown, hlk, hC, hA⟩ := id B
  unfold f_X6_put_67 at h
  refine lv_iload_n hx hb dX6_put_67 rfl (lv_at hl 2 rfl) ?_
  refine lv_if_eq (tgt := 83) hx hb dX6_put_68 (by decide) (fun c68 => ?_) (fun c68 => ?_)
  · replace h := wx_ift c68 h
    exact b_X6_put_83 B h Z hS (lv_sub hl [0, 1, 2, 3, 4] rfl)
  · replace h := wx_iff c68 h
    refine lv_iload hx hb dX6_put_71 (lv_at hl 4 rfl) ?_
    refine lv_if_eq (tgt := 83) hx hb dX6_put_73 (by decide) (fun c73 => ?_) (fun c73 => ?_)
    · replace h := wx_ift c73 h
      exact b_X6_put_83 B h Z hS (lv_sub hl [0, 1, 2, 3, 4] rfl)
    · replace h := wx_iff c73 h
      refine lv_lload hx hb dX6_put_76 (lv_at hl 3 rfl) ?_
      refine lv_lconst (v := 0) hx hb dX6_put_78 (by decide) ?_
      refine W.lcmp hx hb dX6_put_79 ?_
      refine lv_if_eq (tgt := 86) hx hb dX6_put_80 (by decide) (fun c80 => ?_) (fun c80 => ?_)
      · replace h := wx_ift c80 h
        refine lv_aload_n hx hb dX6_put_86 rfl (lv_at hl 0 rfl) ?_
        refine wx_get (own := RX6) hx hb hts i_X6_put_6 hown hC.1 Z (o := 16) (ci := 6) rfl (rfl : vwCl[6]? = some (RX6, TX6, 25)) 9 (by decide) (hts _ k_X6_put_w1) (fun _ h9 => h9) (f := 1) rfl rfl dX6_put_87 ?_
        refine lv_iload_n hx hb dX6_put_90 rfl (lv_at hl 2 rfl) ?_
        refine lv_iadd hx hb dX6_put_91 ?_
        refine lv_bipush (v := 80) hx hb dX6_put_92 (by decide) ?_
        refine lv_icmp_le (tgt := 100) hx hb dX6_put_94 (by decide) (fun c94 => ?_) (fun c94 => ?_)
        · replace h := wx_ift c94 h
          refine lv_iload_n hx hb dX6_put_100 rfl (lv_at hl 2 rfl) ?_
          refine lv_iconst (v := 1) hx hb dX6_put_101 (by decide) ?_
          refine lv_isub hx hb dX6_put_102 ?_
          refine lv_istore (lv' := [(7, .int (x3 - 1)), (0, .ref (ad 16 99)), (1, .long x1), (3, .int x3), (4, .long x4), (6, .int x6)]) hx hb dX6_put_103 hl (by decide) rfl (fun ls hl => ?_)
          exact b_X6_put_105 B h Z hS (lv_sub hl [1, 2, 3, 4, 5, 0] rfl)
        · replace h := wx_iff c94 h
          refine lv_bipush (v := (-4)) hx hb dX6_put_97 (by decide) ?_
          obtain ⟨rfl, rfl⟩ := wx_ret_ok h
          exact W.iret hx hb hr (fun t ht hW => ⟨rfl, by rw [ht]; exact Z, hS.F ht⟩) hS.2.2 dX6_put_99
      · replace h := wx_iff c80 h
        exact b_X6_put_83 B h Z hS (lv_sub hl [0, 1, 2, 3, 4] rfl)
set_option maxRecDepth 20000 in
set_option maxHeartbeats 4000000 in
theorem b_X6_put_8 (B : wx_B p s m args meth c cX6_put 8 (some .int) wsX6_put RX6 D ad ca A)    {r : Int32} {σ' : wx_St}   :
    ∀ {n : Nat} {x1 : Int64} {x3 : Int32} {x4 : Int64} {x6 : Int32} {σ : wx_St}  (h : f_X6_put_8 n x1 x3 x4 x6 σ = some (r, σ')) {H : Heap} {locs : List Loc} (Z : wx_Z D ad rd ca A σ H) (hS : va_S A s.heap H locs) {ls : Array Slot} (hl : lv_has ls 8 [(0, .ref (ad 16 99)), (1, .long x1), (3, .int x3), (4, .long x4), (6, .int x6)]), W p l e ({ frames := 1, cells := 0, slots := 0, locals := 22 } : Room) s m args below meth c H locs 0 0 (MQ below (wx_Q D ad rd ca A (some (.int r)) σ') args s 0 0 A) (F0 m 8 ls []) := by
  obtain ⟨hx, hb, hml, hr, hts, hown, hlk, hC, hA⟩ := id B
  intro n
  induction n with
  | zero => intro x1 x3 x4 x6 σ  h H locs Z hS ls hl; exact wx_no h
  | succ n ih =>
    intro x1 x3 x4 x6 σ  h H locs Z hS ls hl
    rw [f_X6_put_8] at h
    refine lv_iload_n hx hb dX6_put_8 rfl (lv_at hl 2 rfl) ?_
    refine lv_bipush (v := 8) hx hb dX6_put_9 (by decide) ?_
    refine lv_icmp_ge (tgt := 67) hx hb dX6_put_11 (by decide) (fun c11 => ?_) (fun c11 => ?_)
    · replace h := wx_ift c11 h
      exact b_X6_put_67 B h Z hS (lv_sub hl [0, 1, 2, 3, 4] rfl)
    · replace h := wx_iff c11 h
      refine lv_lload hx hb dX6_put_14 (lv_at hl 3 rfl) ?_
      refine lv_ldc2 hx hb hown (hts _ k_X6_put_w0) dX6_put_16 ?_
      refine lv_land hx hb dX6_put_19 ?_
      refine lv_lconst (v := 0) hx hb dX6_put_20 (by decide) ?_
      refine W.lcmp hx hb dX6_put_21 ?_
      refine lv_if_eq (tgt := 67) hx hb dX6_put_22 (by decide) (fun c22 => ?_) (fun c22 => ?_)
      · replace h := wx_ift c22 h
        exact b_X6_put_67 B h Z hS (lv_sub hl [0, 1, 2, 3, 4] rfl)
      · replace h := wx_iff c22 h
        refine lv_iload hx hb dX6_put_25 (lv_at hl 4 rfl) ?_
        refine lv_if_eq (tgt := 51) hx hb dX6_put_27 (by decide) (fun c27 => ?_) (fun c27 => ?_)
        · replace h := wx_ift c27 h
          exact b_X6_put_51 B (K8 := (f_X6_put_8 n)) @ih h Z hS (lv_sub hl [0, 1, 2, 3, 4] rfl)
        · replace h := wx_iff c27 h
          refine lv_lload hx hb dX6_put_30 (lv_at hl 3 rfl) ?_
          refine lv_ldc2 hx hb hown (hts _ k_X6_put_w0) dX6_put_32 ?_
          refine lv_land hx hb dX6_put_35 ?_
          refine lv_l2i (v := (x4 &&& (255 : Int64)).toInt32) hx hb dX6_put_36 rfl ?_
          refine lv_bipush (v := 33) hx hb dX6_put_37 (by decide) ?_
          refine lv_bipush (v := 126) hx hb dX6_put_39 (by decide) ?_
          obtain ⟨v41, hc41, h⟩ := wx_o_ok h
          refine wx_call (va_runS (As := [.int ((x4 &&& (255 : Int64)).toInt32), .int 33, .int 126]) (rest := []) ⟨hx, hb, hml, hown, hts⟩ (c_X6_within l (D := D) (ad := ad) (rd := rd) (ca := ca) (A := A) (σ := σ) hc41) (va_cwS 3 hts gX6_put_X6_within rfl rfl rfl (by decide +kernel) ⟨Nat.le_of_ble_eq_true rfl, Nat.le_of_ble_eq_true rfl⟩) (wx_preS hC Z hS hA) rfl rfl hl.1 rfl (lv_room (Nat.le_of_ble_eq_true rfl)) dX6_put_41 ⟨Nat.zero_le _, Nat.zero_le _⟩) hS (fun H locs Z hS => ?_)
          refine lv_if_eq (tgt := 51) hx hb dX6_put_44 (by decide) (fun c44 => ?_) (fun c44 => ?_)
          · replace h := wx_ift c44 h
            exact b_X6_put_51 B (K8 := (f_X6_put_8 n)) @ih h Z hS (lv_sub hl [0, 1, 2, 3, 4] rfl)
          · replace h := wx_iff c44 h
            refine lv_iconst (v := 1) hx hb dX6_put_47 (by decide) ?_
            refine lv_goto (tgt := 52) hx hb dX6_put_48 (by decide) ?_
            exact b_X6_put_52 B (K8 := (f_X6_put_8 n)) @ih h Z hS (lv_sub hl [0, 1, 2, 3, 4] rfl)
set_option maxRecDepth 20000 in
set_option maxHeartbeats 4000000 in
theorem b_X6_put_0 (B : wx_B p s m args meth c cX6_put 8 (some .int) wsX6_put RX6 D ad ca A)    {r : Int32} {σ' : wx_St}  {x1 : Int64} {σ : wx_St}  (h : f_X6_put x1 σ = some (r, σ')) {H : Heap} {locs : List Loc} (Z : wx_Z D ad rd ca A σ H) (hS : va_S A s.heap H locs) {ls : Array Slot} (hl : lv_has ls 8 [(0, .ref (ad 16 99)), (1, .long x1)]) : W p l e ({ frames := 1, cells := 0, slots := 0, locals := 22 } : Room) s m args below meth c H locs 0 0 (MQ below (wx_Q D ad rd ca A (some (.int r)) σ') args s 0 0 A) (F0 m 0 ls []) := by
  obtain ⟨hx, hb, hml, hr, hts, hown, hlk, hC, hA⟩ := id B
  unfold f_X6_put at h
  refine lv_iconst (v := 0) hx hb dX6_put_0 (by decide) ?_
  refine lv_istore_n (lv' := [(3, .int 0), (0, .ref (ad 16 99)), (1, .long x1)]) hx hb dX6_put_1 rfl hl (by decide) rfl (fun ls hl => ?_)
  refine lv_lload_n hx hb dX6_put_2 rfl (lv_at hl 2 rfl) ?_
  refine lv_lstore (lv' := [(4, .long x1), (3, .int 0), (0, .ref (ad 16 99)), (1, .long x1)]) hx hb dX6_put_3 hl (by decide) rfl (fun ls hl => ?_)
  refine lv_iconst (v := 1) hx hb dX6_put_5 (by decide) ?_
  refine lv_istore (lv' := [(6, .int 1), (4, .long x1), (3, .int 0), (0, .ref (ad 16 99)), (1, .long x1)]) hx hb dX6_put_6 hl (by decide) rfl (fun ls hl => ?_)
  exact b_X6_put_8 B h Z hS (lv_sub hl [3, 4, 2, 1, 0] rfl)
set_option maxRecDepth 20000 in
theorem c_X6_put (l : Launch) {D : va_G} {ad : Nat → Nat → Nat} {rd : Nat → Nat} {ca : Nat → ClassId} {A : Nat → Prop} {σ : wx_St}    {x1 : Int64} {r : Int32} {σ' : wx_St} (h : f_X6_put x1 σ = some (r, σ')) : wx_M l yX6_put wsX6_put 1 22 D ad rd ca A [.ref (ad 16 99), .long x1] σ (some (.int r)) σ' := by
  refine Met.ofW (cc := cX6_put) (maxL := 8) (ret := (some .int)) (by decide +kernel) rfl ?_
  intro p e s m args below meth c s₁ B0 hml hv
  obtain ⟨rfl, hC, Z, hA⟩ := hv
  have hl := lv_entry ([.ref (ad 16 99), .long x1]) (n := 8) (Nat.le_of_ble_eq_true rfl)
  rw [lg_entry_eq]
  generalize (lg_sl ([.ref (ad 16 99), .long x1]) ++ List.replicate (8 - (lg_sl ([.ref (ad 16 99), .long x1])).length) Slot.unset).toArray = ls at hl ⊢
  exact b_X6_put_0 ⟨B0.exec, B0.bytes, hml, B0.returns, atoms_spec (ws := wsX6_put) B0.pre, findClass_of_methodNamed B0.named, B0.notSynchronized, hC, hA⟩   h Z va_S.rf hl
theorem i_X6_reading_6 : ∀ w ∈ wsX60, w ∈ wsX6_reading := by decide +kernel
theorem k_X6_reading_w0 : Cond.fieldLink RX6 7 "WarmProbesModel" "state" "[I" ∈ wsX6_reading := by decide +kernel
set_option maxRecDepth 20000 in
set_option maxHeartbeats 4000000 in
theorem b_X6_reading_39 (B : wx_B p s m args meth c cX6_reading 3 (some .int) wsX6_reading RX6 D ad ca A)    {r : Int32} {σ : wx_St}  {x1 : Int32} {x2 : Int32} {y0 : Int32}   (h : f_X6_reading_39 x1 x2 y0 σ = some r) {H : Heap} {locs : List Loc} (Z : wx_Z D ad rd ca A σ H) (hS : va_S A s.heap H locs) {ls : Array Slot} (hl : lv_has ls 3 [(0, .ref (ad 16 99)), (1, .int x1), (2, .int x2)]) : W p l e ({ frames := 1, cells := 0, slots := 0, locals := 22 } : Room) s m args below meth c H locs 0 0 (MQ below (wx_Q D ad rd ca A (some (.int r)) σ) args s 0 0 A) (F0 m 39 ls [.int y0]) := by
  obtain ⟨hx, hb, hml, hr, hts, hown, hlk, hC, hA⟩ := id B
  unfold f_X6_reading_39 at h
  obtain rfl := Option.some.inj h
  exact W.iret hx hb hr (fun t ht hW => ⟨rfl, by rw [ht]; exact Z, hS.F ht⟩) hS.2.2 dX6_reading_39
set_option maxRecDepth 20000 in
set_option maxHeartbeats 4000000 in
theorem b_X6_reading_0 (B : wx_B p s m args meth c cX6_reading 3 (some .int) wsX6_reading RX6 D ad ca A)    {r : Int32} {σ : wx_St}  {x1 : Int32} {x2 : Int32}   (h : f_X6_reading x1 x2 σ = some r) {H : Heap} {locs : List Loc} (Z : wx_Z D ad rd ca A σ H) (hS : va_S A s.heap H locs) {ls : Array Slot} (hl : lv_has ls 3 [(0, .ref (ad 16 99)), (1, .int x1), (2, .int x2)]) : W p l e ({ frames := 1, cells := 0, slots := 0, locals := 22 } : Room) s m args below meth c H locs 0 0 (MQ below (wx_Q D ad rd ca A (some (.int r)) σ) args s 0 0 A) (F0 m 0 ls []) := by
  obtain ⟨hx, hb, hml, hr, hts, hown, hlk, hC, hA⟩ := id B
  unfold f_X6_reading at h
  refine lv_iload_n hx hb dX6_reading_0 rfl (lv_at hl 1 rfl) ?_
  refine lv_iconst (v := 0) hx hb dX6_reading_1 (by decide) ?_
  refine lv_aload_n hx hb dX6_reading_2 rfl (lv_at hl 0 rfl) ?_
  refine wx_get (own := RX6) hx hb hts i_X6_reading_6 hown hC.1 Z (o := 16) (ci := 6) rfl (rfl : vwCl[6]? = some (RX6, TX6, 25)) 0 (by decide) (hts _ k_X6_reading_w0) (fun _ h9 => h9) (f := 0) rfl rfl dX6_reading_3 ?_
  refine lv_bipush (v := 6) hx hb dX6_reading_6 (by decide) ?_
  obtain ⟨v8, ev8, iv8, h⟩ := wx_rI_ok h
  refine wx_iald hx hb hC.1 Z (o := 16) (k := 0) (n := 109) rfl rfl iv8 dX6_reading_8 ev8 ?_
  refine lv_iconst (v := 1) hx hb dX6_reading_9 (by decide) ?_
  refine lv_isub hx hb dX6_reading_10 ?_
  obtain ⟨v11, hc11, h⟩ := wx_o_ok h
  refine wx_call (va_runS (As := [.int x1, .int 0, .int (v8 - 1)]) (rest := []) ⟨hx, hb, hml, hown, hts⟩ (c_X6_within l (D := D) (ad := ad) (rd := rd) (ca := ca) (A := A) (σ := σ) hc11) (va_cwS 3 hts gX6_reading_X6_within rfl rfl rfl (by decide +kernel) ⟨Nat.le_of_ble_eq_true rfl, Nat.le_of_ble_eq_true rfl⟩) (wx_preS hC Z hS hA) rfl rfl hl.1 rfl (lv_room (Nat.le_of_ble_eq_true rfl)) dX6_reading_11 ⟨Nat.zero_le _, Nat.zero_le _⟩) hS (fun H locs Z hS => ?_)
  refine lv_if_ne (tgt := 19) hx hb dX6_reading_14 (by decide) (fun c14 => ?_) (fun c14 => ?_)
  · replace h := wx_iff c14 h
    refine lv_iload_n hx hb dX6_reading_19 rfl (lv_at hl 2 rfl) ?_
    refine lv_iconst (v := 0) hx hb dX6_reading_20 (by decide) ?_
    refine lv_iconst (v := 2) hx hb dX6_reading_21 (by decide) ?_
    obtain ⟨v22, hc22, h⟩ := wx_o_ok h
    refine wx_call (va_runS (As := [.int x2, .int 0, .int 2]) (rest := []) ⟨hx, hb, hml, hown, hts⟩ (c_X6_within l (D := D) (ad := ad) (rd := rd) (ca := ca) (A := A) (σ := σ) hc22) (va_cwS 3 hts gX6_reading_X6_within rfl rfl rfl (by decide +kernel) ⟨Nat.le_of_ble_eq_true rfl, Nat.le_of_ble_eq_true rfl⟩) (wx_preS hC Z hS hA) rfl rfl hl.1 rfl (lv_room (Nat.le_of_ble_eq_true rfl)) dX6_reading_22 ⟨Nat.zero_le _, Nat.zero_le _⟩) hS (fun H locs Z hS => ?_)
    refine lv_if_eq (tgt := 37) hx hb dX6_reading_25 (by decide) (fun c25 => ?_) (fun c25 => ?_)
    · replace h := wx_ift c25 h
      refine lv_bipush (v := (-2)) hx hb dX6_reading_37 (by decide) ?_
      exact b_X6_reading_39 B h Z hS (lv_sub hl [0, 1, 2] rfl)
    · replace h := wx_iff c25 h
      refine lv_aload_n hx hb dX6_reading_28 rfl (lv_at hl 0 rfl) ?_
      refine lv_iload_n hx hb dX6_reading_29 rfl (lv_at hl 1 rfl) ?_
      refine lv_iload_n hx hb dX6_reading_30 rfl (lv_at hl 2 rfl) ?_
      obtain ⟨v31, hc31, h⟩ := wx_o_ok h
      refine wx_call (va_runV (As := [.int x1, .int x2]) (rest := []) ⟨hx, hb, hml, hown, hts⟩ (c_X6_readingPart l (D := D) (ad := ad) (rd := rd) (ca := ca) (A := A) (σ := σ) hc31) (cwV 2 hts gX6_reading_X6_readingPart rfl rfl rfl (by decide +kernel) ⟨Nat.le_of_ble_eq_true rfl, Nat.le_of_ble_eq_true rfl⟩) (wx_preV hC Z hS hA rfl (rfl : vwCl[6]? = some (RX6, TX6, 25))) rfl rfl hl.1 rfl (lv_room (Nat.le_of_ble_eq_true rfl)) dX6_reading_31 ⟨Nat.zero_le _, Nat.zero_le _⟩) hS (fun H locs Z hS => ?_)
      refine lv_goto (tgt := 39) hx hb dX6_reading_34 (by decide) ?_
      exact b_X6_reading_39 B h Z hS (lv_sub hl [0, 1, 2] rfl)
  · replace h := wx_ift c14 h
    refine lv_iconst (v := (-1)) hx hb dX6_reading_17 (by decide) ?_
    obtain rfl := Option.some.inj h
    exact W.iret hx hb hr (fun t ht hW => ⟨rfl, by rw [ht]; exact Z, hS.F ht⟩) hS.2.2 dX6_reading_18
set_option maxRecDepth 20000 in
theorem c_X6_reading (l : Launch) {D : va_G} {ad : Nat → Nat → Nat} {rd : Nat → Nat} {ca : Nat → ClassId} {A : Nat → Prop} {σ : wx_St}    {x1 : Int32} {x2 : Int32} {r : Int32} (h : f_X6_reading x1 x2 σ = some r) : wx_M l yX6_reading wsX6_reading 1 22 D ad rd ca A [.ref (ad 16 99), .int x1, .int x2] σ (some (.int r)) σ := by
  refine Met.ofW (cc := cX6_reading) (maxL := 3) (ret := (some .int)) (by decide +kernel) rfl ?_
  intro p e s m args below meth c s₁ B0 hml hv
  obtain ⟨rfl, hC, Z, hA⟩ := hv
  have hl := lv_entry ([.ref (ad 16 99), .int x1, .int x2]) (n := 3) (Nat.le_of_ble_eq_true rfl)
  rw [lg_entry_eq]
  generalize (lg_sl ([.ref (ad 16 99), .int x1, .int x2]) ++ List.replicate (3 - (lg_sl ([.ref (ad 16 99), .int x1, .int x2])).length) Slot.unset).toArray = ls at hl ⊢
  exact b_X6_reading_0 ⟨B0.exec, B0.bytes, hml, B0.returns, atoms_spec (ws := wsX6_reading) B0.pre, findClass_of_methodNamed B0.named, B0.notSynchronized, hC, hA⟩   h Z va_S.rf hl
theorem i_X6_readsIn_6 : ∀ w ∈ wsX60, w ∈ wsX6_readsIn := by decide +kernel
theorem k_X6_readsIn_w0 : Cond.fieldLink RX6 13 "WarmProbesModel" "warmth" "[F" ∈ wsX6_readsIn := by decide +kernel
theorem k_X6_readsIn_w1 : Cond.fieldLink RX6 35 "WarmProbesModel" "thought" "[F" ∈ wsX6_readsIn := by decide +kernel
set_option maxRecDepth 20000 in
set_option maxHeartbeats 4000000 in
theorem b_X6_readsIn_47 (B : wx_B p s m args meth c cX6_readsIn 6 (some .int) wsX6_readsIn RX6 D ad ca A)    {r : Int32} {σ' : wx_St}   :
    ∀ {n : Nat} {x1 : Int32} {x2 : Int32} {x3 : Int32} {x4 : Int32} {x5 : Int32} {σ : wx_St}  (h : f_X6_readsIn_47 n x1 x2 x3 x4 x5 σ = some (r, σ')) {H : Heap} {locs : List Loc} (Z : wx_Z D ad rd ca A σ H) (hS : va_S A s.heap H locs) {ls : Array Slot} (hl : lv_has ls 6 [(0, .ref (ad 16 99)), (1, .int x1), (2, .int x2), (3, .int x3), (4, .int x4), (5, .int x5)]), W p l e ({ frames := 5, cells := 0, slots := 0, locals := 112 } : Room) s m args below meth c H locs 0 0 (MQ below (wx_Q D ad rd ca A (some (.int r)) σ') args s 0 0 A) (F0 m 47 ls []) := by
  obtain ⟨hx, hb, hml, hr, hts, hown, hlk, hC, hA⟩ := id B
  intro n
  induction n with
  | zero => intro x1 x2 x3 x4 x5 σ  h H locs Z hS ls hl; exact wx_no h
  | succ n ih =>
    intro x1 x2 x3 x4 x5 σ  h H locs Z hS ls hl
    rw [f_X6_readsIn_47] at h
    refine lv_iload hx hb dX6_readsIn_47 (lv_at hl 5 rfl) ?_
    refine lv_sipush (v := 200) hx hb dX6_readsIn_49 (by decide) ?_
    refine lv_icmp_gt (tgt := 84) hx hb dX6_readsIn_52 (by decide) (fun c52 => ?_) (fun c52 => ?_)
    · replace h := wx_ift c52 h
      refine lv_bipush (v := (-6)) hx hb dX6_readsIn_84 (by decide) ?_
      obtain ⟨rfl, rfl⟩ := wx_ret_ok h
      exact W.iret hx hb hr (fun t ht hW => ⟨rfl, by rw [ht]; exact Z, hS.F ht⟩) hS.2.2 dX6_readsIn_86
    · replace h := wx_iff c52 h
      refine lv_aload_n hx hb dX6_readsIn_55 rfl (lv_at hl 0 rfl) ?_
      refine wx_get (own := RX6) hx hb hts i_X6_readsIn_6 hown hC.1 Z (o := 16) (ci := 6) rfl (rfl : vwCl[6]? = some (RX6, TX6, 25)) 10 (by decide) (hts _ k_X6_readsIn_w1) (fun _ h9 => h9) (f := 0) rfl rfl dX6_readsIn_56 ?_
      refine lv_iload hx hb dX6_readsIn_59 (lv_at hl 4 rfl) ?_
      obtain ⟨v61, ev61, iv61, h⟩ := wx_rF_ok h
      refine wx_fald hx hb hC.1 Z (o := 16) (k := 10) (n := 64) rfl rfl iv61 dX6_readsIn_61 ev61 ?_
      obtain ⟨v62, hc62, h⟩ := wx_o_ok h
      refine wx_call (va_runS (As := [.float v61]) (rest := []) ⟨hx, hb, hml, hown, hts⟩ (c_X6_readOf l (D := D) (ad := ad) (rd := rd) (ca := ca) (A := A) (σ := σ) hc62) (va_cwS 1 hts gX6_readsIn_X6_readOf rfl rfl rfl (by decide +kernel) ⟨Nat.le_of_ble_eq_true rfl, Nat.le_of_ble_eq_true rfl⟩) (wx_preS hC Z hS hA) rfl rfl hl.1 rfl (lv_room (Nat.le_of_ble_eq_true rfl)) dX6_readsIn_62 ⟨Nat.zero_le _, Nat.zero_le _⟩) hS (fun H locs Z hS => ?_)
      refine lv_iload_n hx hb dX6_readsIn_65 rfl (lv_at hl 3 rfl) ?_
      refine lv_icmp_lt (tgt := 72) hx hb dX6_readsIn_66 (by decide) (fun c66 => ?_) (fun c66 => ?_)
      · replace h := wx_ift c66 h
        refine lv_aload_n hx hb dX6_readsIn_72 rfl (lv_at hl 0 rfl) ?_
        refine lv_bipush (v := (-6)) hx hb dX6_readsIn_73 (by decide) ?_
        obtain ⟨v75, σ75, hc75, h⟩ := wx_b_ok h
        refine wx_call (va_runV (As := [.int (-6)]) (rest := []) ⟨hx, hb, hml, hown, hts⟩ (c_X6_steps l (D := D) (ad := ad) (rd := rd) (ca := ca) (A := A) (σ := σ) hc75) (cwV 1 hts gX6_readsIn_X6_steps rfl rfl rfl (by decide +kernel) ⟨Nat.le_of_ble_eq_true rfl, Nat.le_of_ble_eq_true rfl⟩) (wx_preV hC Z hS hA rfl (rfl : vwCl[6]? = some (RX6, TX6, 25))) rfl rfl hl.1 rfl (lv_room (Nat.le_of_ble_eq_true rfl)) dX6_readsIn_75 ⟨Nat.zero_le _, Nat.zero_le _⟩) hS (fun H locs Z hS => ?_)
        refine lv_iinc (v := x5 + 1) (lv' := [(5, .int (x5 + 1)), (0, .ref (ad 16 99)), (1, .int x1), (2, .int x2), (3, .int x3), (4, .int x4)]) hx hb dX6_readsIn_78 hl (k := 5) rfl rfl (by decide) rfl (fun ls hl => ?_)
        refine lv_goto (tgt := 47) hx hb dX6_readsIn_81 (by decide) ?_
        exact ih h Z hS (lv_sub hl [1, 2, 3, 4, 5, 0] rfl)
      · replace h := wx_iff c66 h
        refine lv_iload hx hb dX6_readsIn_69 (lv_at hl 5 rfl) ?_
        obtain ⟨rfl, rfl⟩ := wx_ret_ok h
        exact W.iret hx hb hr (fun t ht hW => ⟨rfl, by rw [ht]; exact Z, hS.F ht⟩) hS.2.2 dX6_readsIn_71
set_option maxRecDepth 20000 in
set_option maxHeartbeats 4000000 in
theorem b_X6_readsIn_0 (B : wx_B p s m args meth c cX6_readsIn 6 (some .int) wsX6_readsIn RX6 D ad ca A)    {r : Int32} {σ' : wx_St}  {x1 : Int32} {x2 : Int32} {x3 : Int32} {σ : wx_St}  (h : f_X6_readsIn x1 x2 x3 σ = some (r, σ')) {H : Heap} {locs : List Loc} (Z : wx_Z D ad rd ca A σ H) (hS : va_S A s.heap H locs) {ls : Array Slot} (hl : lv_has ls 6 [(0, .ref (ad 16 99)), (1, .int x1), (2, .int x2), (3, .int x3)]) : W p l e ({ frames := 5, cells := 0, slots := 0, locals := 112 } : Room) s m args below meth c H locs 0 0 (MQ below (wx_Q D ad rd ca A (some (.int r)) σ') args s 0 0 A) (F0 m 0 ls []) := by
  obtain ⟨hx, hb, hml, hr, hts, hown, hlk, hC, hA⟩ := id B
  unfold f_X6_readsIn at h
  refine lv_iload_n hx hb dX6_readsIn_0 rfl (lv_at hl 1 rfl) ?_
  refine lv_iload_n hx hb dX6_readsIn_1 rfl (lv_at hl 2 rfl) ?_
  obtain ⟨v2, hc2, h⟩ := wx_o_ok h
  refine wx_call (va_runS (As := [.int x1, .int x2]) (rest := []) ⟨hx, hb, hml, hown, hts⟩ (c_X6_isPlace l (D := D) (ad := ad) (rd := rd) (ca := ca) (A := A) (σ := σ) hc2) (va_cwS 2 hts gX6_readsIn_X6_isPlace rfl rfl rfl (by decide +kernel) ⟨Nat.le_of_ble_eq_true rfl, Nat.le_of_ble_eq_true rfl⟩) (wx_preS hC Z hS hA) rfl rfl hl.1 rfl (lv_room (Nat.le_of_ble_eq_true rfl)) dX6_readsIn_2 ⟨Nat.zero_le _, Nat.zero_le _⟩) hS (fun H locs Z hS => ?_)
  refine lv_if_ne (tgt := 10) hx hb dX6_readsIn_5 (by decide) (fun c5 => ?_) (fun c5 => ?_)
  · replace h := wx_iff c5 h
    refine lv_iload_n hx hb dX6_readsIn_10 rfl (lv_at hl 3 rfl) ?_
    refine lv_iconst (v := 1) hx hb dX6_readsIn_11 (by decide) ?_
    refine lv_sipush (v := 9999) hx hb dX6_readsIn_12 (by decide) ?_
    obtain ⟨v15, hc15, h⟩ := wx_o_ok h
    refine wx_call (va_runS (As := [.int x3, .int 1, .int 9999]) (rest := []) ⟨hx, hb, hml, hown, hts⟩ (c_X6_within l (D := D) (ad := ad) (rd := rd) (ca := ca) (A := A) (σ := σ) hc15) (va_cwS 3 hts gX6_readsIn_X6_within rfl rfl rfl (by decide +kernel) ⟨Nat.le_of_ble_eq_true rfl, Nat.le_of_ble_eq_true rfl⟩) (wx_preS hC Z hS hA) rfl rfl hl.1 rfl (lv_room (Nat.le_of_ble_eq_true rfl)) dX6_readsIn_15 ⟨Nat.zero_le _, Nat.zero_le _⟩) hS (fun H locs Z hS => ?_)
    refine lv_if_ne (tgt := 24) hx hb dX6_readsIn_18 (by decide) (fun c18 => ?_) (fun c18 => ?_)
    · replace h := wx_iff c18 h
      refine lv_aload_n hx hb dX6_readsIn_24 rfl (lv_at hl 0 rfl) ?_
      refine wx_get (own := RX6) hx hb hts i_X6_readsIn_6 hown hC.1 Z (o := 16) (ci := 6) rfl (rfl : vwCl[6]? = some (RX6, TX6, 25)) 1 (by decide) (hts _ k_X6_readsIn_w0) (fun _ h9 => h9) (f := 0) rfl rfl dX6_readsIn_25 ?_
      refine lv_iconst (v := 0) hx hb dX6_readsIn_28 (by decide) ?_
      refine lv_aload_n hx hb dX6_readsIn_29 rfl (lv_at hl 0 rfl) ?_
      refine wx_get (own := RX6) hx hb hts i_X6_readsIn_6 hown hC.1 Z (o := 16) (ci := 6) rfl (rfl : vwCl[6]? = some (RX6, TX6, 25)) 10 (by decide) (hts _ k_X6_readsIn_w1) (fun _ h9 => h9) (f := 0) rfl rfl dX6_readsIn_30 ?_
      refine lv_iconst (v := 0) hx hb dX6_readsIn_33 (by decide) ?_
      obtain ⟨v34, σ34, hc34, h⟩ := wx_b_ok h
      refine wx_call (va_runS (As := [.ref (ad 16 1), .int 0, .ref (ad 16 10), .int 0]) (rest := []) ⟨hx, hb, hml, hown, hts⟩ (c_X6_movesWarmth l (D := D) (ad := ad) (rd := rd) (ca := ca) (A := A) (σ := σ) (o0 := 16) (k0 := 1) (n0 := 64) (o2 := 16) (k2 := 10) (n2 := 64) (al := σ.2.2.2.2) rfl rfl rfl hc34) (va_cwS 4 hts gX6_readsIn_X6_movesWarmth rfl rfl rfl (by decide +kernel) ⟨Nat.le_of_ble_eq_true rfl, Nat.le_of_ble_eq_true rfl⟩) (wx_preS hC Z hS hA) rfl rfl hl.1 rfl (lv_room (Nat.le_of_ble_eq_true rfl)) dX6_readsIn_34 ⟨Nat.zero_le _, Nat.zero_le _⟩) hS (fun H locs Z hS => ?_)
      refine lv_iload_n hx hb dX6_readsIn_37 rfl (lv_at hl 1 rfl) ?_
      refine lv_iload_n hx hb dX6_readsIn_38 rfl (lv_at hl 2 rfl) ?_
      obtain ⟨v39, hc39, h⟩ := wx_o_ok h
      refine wx_call (va_runS (As := [.int x1, .int x2]) (rest := []) ⟨hx, hb, hml, hown, hts⟩ (c_X6_placeOf l (D := D) (ad := ad) (rd := rd) (ca := ca) (A := A) (σ := σ34) hc39) (va_cwS 2 hts gX6_readsIn_X6_placeOf rfl rfl rfl (by decide +kernel) ⟨Nat.le_of_ble_eq_true rfl, Nat.le_of_ble_eq_true rfl⟩) (wx_preS hC Z hS hA) rfl rfl hl.1 rfl (lv_room (Nat.le_of_ble_eq_true rfl)) dX6_readsIn_39 ⟨Nat.zero_le _, Nat.zero_le _⟩) hS (fun H locs Z hS => ?_)
      refine lv_istore (lv' := [(4, .int v39), (0, .ref (ad 16 99)), (1, .int x1), (2, .int x2), (3, .int x3)]) hx hb dX6_readsIn_42 hl (by decide) rfl (fun ls hl => ?_)
      refine lv_iconst (v := 0) hx hb dX6_readsIn_44 (by decide) ?_
      refine lv_istore (lv' := [(5, .int 0), (4, .int v39), (0, .ref (ad 16 99)), (1, .int x1), (2, .int x2), (3, .int x3)]) hx hb dX6_readsIn_45 hl (by decide) rfl (fun ls hl => ?_)
      exact b_X6_readsIn_47 B h Z hS (lv_sub hl [2, 3, 4, 5, 1, 0] rfl)
    · replace h := wx_ift c18 h
      refine lv_bipush (v := (-2)) hx hb dX6_readsIn_21 (by decide) ?_
      obtain ⟨rfl, rfl⟩ := wx_ret_ok h
      exact W.iret hx hb hr (fun t ht hW => ⟨rfl, by rw [ht]; exact Z, hS.F ht⟩) hS.2.2 dX6_readsIn_23
  · replace h := wx_ift c5 h
    refine lv_iconst (v := (-1)) hx hb dX6_readsIn_8 (by decide) ?_
    obtain ⟨rfl, rfl⟩ := wx_ret_ok h
    exact W.iret hx hb hr (fun t ht hW => ⟨rfl, by rw [ht]; exact Z, hS.F ht⟩) hS.2.2 dX6_readsIn_9
set_option maxRecDepth 20000 in
theorem c_X6_readsIn (l : Launch) {D : va_G} {ad : Nat → Nat → Nat} {rd : Nat → Nat} {ca : Nat → ClassId} {A : Nat → Prop} {σ : wx_St}    {x1 : Int32} {x2 : Int32} {x3 : Int32} {r : Int32} {σ' : wx_St} (h : f_X6_readsIn x1 x2 x3 σ = some (r, σ')) : wx_M l yX6_readsIn wsX6_readsIn 5 112 D ad rd ca A [.ref (ad 16 99), .int x1, .int x2, .int x3] σ (some (.int r)) σ' := by
  refine Met.ofW (cc := cX6_readsIn) (maxL := 6) (ret := (some .int)) (by decide +kernel) rfl ?_
  intro p e s m args below meth c s₁ B0 hml hv
  obtain ⟨rfl, hC, Z, hA⟩ := hv
  have hl := lv_entry ([.ref (ad 16 99), .int x1, .int x2, .int x3]) (n := 6) (Nat.le_of_ble_eq_true rfl)
  rw [lg_entry_eq]
  generalize (lg_sl ([.ref (ad 16 99), .int x1, .int x2, .int x3]) ++ List.replicate (6 - (lg_sl ([.ref (ad 16 99), .int x1, .int x2, .int x3])).length) Slot.unset).toArray = ls at hl ⊢
  exact b_X6_readsIn_0 ⟨B0.exec, B0.bytes, hml, B0.returns, atoms_spec (ws := wsX6_readsIn) B0.pre, findClass_of_methodNamed B0.named, B0.notSynchronized, hC, hA⟩   h Z va_S.rf hl
theorem i_X6_restore_6 : ∀ w ∈ wsX60, w ∈ wsX6_restore := by decide +kernel
theorem k_X6_restore_w0 : Cond.fieldLink RX6 29 "WarmProbesModel" "isSaved" "[I" ∈ wsX6_restore := by decide +kernel
theorem k_X6_restore_w1 : Cond.fieldLink RX6 23 "WarmProbesModel" "slots" "[I" ∈ wsX6_restore := by decide +kernel
theorem k_X6_restore_w2 : Cond.fieldLink RX6 7 "WarmProbesModel" "state" "[I" ∈ wsX6_restore := by decide +kernel
theorem k_X6_restore_w3 : Cond.fieldLink RX6 26 "WarmProbesModel" "warmSlots" "[F" ∈ wsX6_restore := by decide +kernel
theorem k_X6_restore_w4 : Cond.fieldLink RX6 13 "WarmProbesModel" "warmth" "[F" ∈ wsX6_restore := by decide +kernel
set_option maxRecDepth 20000 in
set_option maxHeartbeats 4000000 in
theorem b_X6_restore_0 (B : wx_B p s m args meth c cX6_restore 2 (some .int) wsX6_restore RX6 D ad ca A)    {r : Int32} {σ' : wx_St}  {x1 : Int32} {σ : wx_St}  (h : f_X6_restore x1 σ = some (r, σ')) {H : Heap} {locs : List Loc} (Z : wx_Z D ad rd ca A σ H) (hS : va_S A s.heap H locs) {ls : Array Slot} (hl : lv_has ls 2 [(0, .ref (ad 16 99)), (1, .int x1)]) : W p l e ({ frames := 2, cells := 0, slots := 0, locals := 45 } : Room) s m args below meth c H locs 0 0 (MQ below (wx_Q D ad rd ca A (some (.int r)) σ') args s 0 0 A) (F0 m 0 ls []) := by
  obtain ⟨hx, hb, hml, hr, hts, hown, hlk, hC, hA⟩ := id B
  unfold f_X6_restore at h
  refine lv_iload_n hx hb dX6_restore_0 rfl (lv_at hl 1 rfl) ?_
  refine lv_iconst (v := 0) hx hb dX6_restore_1 (by decide) ?_
  refine lv_iconst (v := 1) hx hb dX6_restore_2 (by decide) ?_
  obtain ⟨v3, hc3, h⟩ := wx_o_ok h
  refine wx_call (va_runS (As := [.int x1, .int 0, .int 1]) (rest := []) ⟨hx, hb, hml, hown, hts⟩ (c_X6_within l (D := D) (ad := ad) (rd := rd) (ca := ca) (A := A) (σ := σ) hc3) (va_cwS 3 hts gX6_restore_X6_within rfl rfl rfl (by decide +kernel) ⟨Nat.le_of_ble_eq_true rfl, Nat.le_of_ble_eq_true rfl⟩) (wx_preS hC Z hS hA) rfl rfl hl.1 rfl (lv_room (Nat.le_of_ble_eq_true rfl)) dX6_restore_3 ⟨Nat.zero_le _, Nat.zero_le _⟩) hS (fun H locs Z hS => ?_)
  refine lv_if_ne (tgt := 12) hx hb dX6_restore_6 (by decide) (fun c6 => ?_) (fun c6 => ?_)
  · replace h := wx_iff c6 h
    refine lv_aload_n hx hb dX6_restore_12 rfl (lv_at hl 0 rfl) ?_
    refine wx_get (own := RX6) hx hb hts i_X6_restore_6 hown hC.1 Z (o := 16) (ci := 6) rfl (rfl : vwCl[6]? = some (RX6, TX6, 25)) 7 (by decide) (hts _ k_X6_restore_w0) (fun _ h9 => h9) (f := 0) rfl rfl dX6_restore_13 ?_
    refine lv_iload_n hx hb dX6_restore_16 rfl (lv_at hl 1 rfl) ?_
    obtain ⟨v17, ev17, iv17, h⟩ := wx_rI_ok h
    refine wx_iald hx hb hC.1 Z (o := 16) (k := 7) (n := 2) rfl rfl iv17 dX6_restore_17 ev17 ?_
    refine lv_if_ne (tgt := 24) hx hb dX6_restore_18 (by decide) (fun c18 => ?_) (fun c18 => ?_)
    · replace h := wx_iff c18 h
      refine lv_aload_n hx hb dX6_restore_24 rfl (lv_at hl 0 rfl) ?_
      obtain ⟨v25, σ25, hc25, h⟩ := wx_b_ok h
      refine wx_call (va_runV (As := []) (rest := []) ⟨hx, hb, hml, hown, hts⟩ (c_X6_record l (D := D) (ad := ad) (rd := rd) (ca := ca) (A := A) (σ := σ) hc25) (cwV 0 hts gX6_restore_X6_record rfl rfl rfl (by decide +kernel) ⟨Nat.le_of_ble_eq_true rfl, Nat.le_of_ble_eq_true rfl⟩) (wx_preV hC Z hS hA rfl (rfl : vwCl[6]? = some (RX6, TX6, 25))) rfl rfl hl.1 rfl (lv_room (Nat.le_of_ble_eq_true rfl)) dX6_restore_25 ⟨Nat.zero_le _, Nat.zero_le _⟩) hS (fun H locs Z hS => ?_)
      refine lv_aload_n hx hb dX6_restore_28 rfl (lv_at hl 0 rfl) ?_
      refine wx_get (own := RX6) hx hb hts i_X6_restore_6 hown hC.1 Z (o := 16) (ci := 6) rfl (rfl : vwCl[6]? = some (RX6, TX6, 25)) 5 (by decide) (hts _ k_X6_restore_w1) (fun _ h9 => h9) (f := 0) rfl rfl dX6_restore_29 ?_
      refine lv_bipush (v := 109) hx hb dX6_restore_32 (by decide) ?_
      refine lv_iload_n hx hb dX6_restore_34 rfl (lv_at hl 1 rfl) ?_
      refine lv_imul hx hb dX6_restore_35 ?_
      refine lv_aload_n hx hb dX6_restore_36 rfl (lv_at hl 0 rfl) ?_
      refine wx_get (own := RX6) hx hb hts i_X6_restore_6 hown hC.1 Z (o := 16) (ci := 6) rfl (rfl : vwCl[6]? = some (RX6, TX6, 25)) 0 (by decide) (hts _ k_X6_restore_w2) (fun _ h9 => h9) (f := 0) rfl rfl dX6_restore_37 ?_
      refine lv_iconst (v := 0) hx hb dX6_restore_40 (by decide) ?_
      obtain ⟨v41, σ41, hc41, h⟩ := wx_b_ok h
      refine wx_call (va_runS (As := [.ref (ad 16 5), .int (109 * x1), .ref (ad 16 0), .int 0]) (rest := []) ⟨hx, hb, hml, hown, hts⟩ (c_X6_moves l (D := D) (ad := ad) (rd := rd) (ca := ca) (A := A) (σ := σ25) (o0 := 16) (k0 := 5) (n0 := 218) (o2 := 16) (k2 := 0) (n2 := 109) (al := σ25.2.2.2.2) rfl rfl rfl hc41) (va_cwS 4 hts gX6_restore_X6_moves rfl rfl rfl (by decide +kernel) ⟨Nat.le_of_ble_eq_true rfl, Nat.le_of_ble_eq_true rfl⟩) (wx_preS hC Z hS hA) rfl rfl hl.1 rfl (lv_room (Nat.le_of_ble_eq_true rfl)) dX6_restore_41 ⟨Nat.zero_le _, Nat.zero_le _⟩) hS (fun H locs Z hS => ?_)
      refine lv_aload_n hx hb dX6_restore_44 rfl (lv_at hl 0 rfl) ?_
      refine wx_get (own := RX6) hx hb hts i_X6_restore_6 hown hC.1 Z (o := 16) (ci := 6) rfl (rfl : vwCl[6]? = some (RX6, TX6, 25)) 6 (by decide) (hts _ k_X6_restore_w3) (fun _ h9 => h9) (f := 0) rfl rfl dX6_restore_45 ?_
      refine lv_bipush (v := 64) hx hb dX6_restore_48 (by decide) ?_
      refine lv_iload_n hx hb dX6_restore_50 rfl (lv_at hl 1 rfl) ?_
      refine lv_imul hx hb dX6_restore_51 ?_
      refine lv_aload_n hx hb dX6_restore_52 rfl (lv_at hl 0 rfl) ?_
      refine wx_get (own := RX6) hx hb hts i_X6_restore_6 hown hC.1 Z (o := 16) (ci := 6) rfl (rfl : vwCl[6]? = some (RX6, TX6, 25)) 1 (by decide) (hts _ k_X6_restore_w4) (fun _ h9 => h9) (f := 0) rfl rfl dX6_restore_53 ?_
      refine lv_iconst (v := 0) hx hb dX6_restore_56 (by decide) ?_
      obtain ⟨v57, σ57, hc57, h⟩ := wx_b_ok h
      refine wx_call (va_runS (As := [.ref (ad 16 6), .int (64 * x1), .ref (ad 16 1), .int 0]) (rest := []) ⟨hx, hb, hml, hown, hts⟩ (c_X6_movesWarmth l (D := D) (ad := ad) (rd := rd) (ca := ca) (A := A) (σ := σ41) (o0 := 16) (k0 := 6) (n0 := 128) (o2 := 16) (k2 := 1) (n2 := 64) (al := σ41.2.2.2.2) rfl rfl rfl hc57) (va_cwS 4 hts gX6_restore_X6_movesWarmth rfl rfl rfl (by decide +kernel) ⟨Nat.le_of_ble_eq_true rfl, Nat.le_of_ble_eq_true rfl⟩) (wx_preS hC Z hS hA) rfl rfl hl.1 rfl (lv_room (Nat.le_of_ble_eq_true rfl)) dX6_restore_57 ⟨Nat.zero_le _, Nat.zero_le _⟩) hS (fun H locs Z hS => ?_)
      refine lv_aload_n hx hb dX6_restore_60 rfl (lv_at hl 0 rfl) ?_
      refine wx_get (own := RX6) hx hb hts i_X6_restore_6 hown hC.1 Z (o := 16) (ci := 6) rfl (rfl : vwCl[6]? = some (RX6, TX6, 25)) 0 (by decide) (hts _ k_X6_restore_w2) (fun _ h9 => h9) (f := 0) rfl rfl dX6_restore_61 ?_
      refine lv_iconst (v := 5) hx hb dX6_restore_64 (by decide) ?_
      obtain ⟨v65, ev65, iv65, h⟩ := wx_rI_ok h
      refine wx_iald hx hb hC.1 Z (o := 16) (k := 0) (n := 109) rfl rfl iv65 dX6_restore_65 ev65 ?_
      obtain ⟨rfl, rfl⟩ := wx_ret_ok h
      exact W.iret hx hb hr (fun t ht hW => ⟨rfl, by rw [ht]; exact Z, hS.F ht⟩) hS.2.2 dX6_restore_66
    · replace h := wx_ift c18 h
      refine lv_bipush (v := (-5)) hx hb dX6_restore_21 (by decide) ?_
      obtain ⟨rfl, rfl⟩ := wx_ret_ok h
      exact W.iret hx hb hr (fun t ht hW => ⟨rfl, by rw [ht]; exact Z, hS.F ht⟩) hS.2.2 dX6_restore_23
  · replace h := wx_ift c6 h
    refine lv_bipush (v := (-2)) hx hb dX6_restore_9 (by decide) ?_
    obtain ⟨rfl, rfl⟩ := wx_ret_ok h
    exact W.iret hx hb hr (fun t ht hW => ⟨rfl, by rw [ht]; exact Z, hS.F ht⟩) hS.2.2 dX6_restore_11
set_option maxRecDepth 20000 in
theorem c_X6_restore (l : Launch) {D : va_G} {ad : Nat → Nat → Nat} {rd : Nat → Nat} {ca : Nat → ClassId} {A : Nat → Prop} {σ : wx_St}    {x1 : Int32} {r : Int32} {σ' : wx_St} (h : f_X6_restore x1 σ = some (r, σ')) : wx_M l yX6_restore wsX6_restore 2 45 D ad rd ca A [.ref (ad 16 99), .int x1] σ (some (.int r)) σ' := by
  refine Met.ofW (cc := cX6_restore) (maxL := 2) (ret := (some .int)) (by decide +kernel) rfl ?_
  intro p e s m args below meth c s₁ B0 hml hv
  obtain ⟨rfl, hC, Z, hA⟩ := hv
  have hl := lv_entry ([.ref (ad 16 99), .int x1]) (n := 2) (Nat.le_of_ble_eq_true rfl)
  rw [lg_entry_eq]
  generalize (lg_sl ([.ref (ad 16 99), .int x1]) ++ List.replicate (2 - (lg_sl ([.ref (ad 16 99), .int x1])).length) Slot.unset).toArray = ls at hl ⊢
  exact b_X6_restore_0 ⟨B0.exec, B0.bytes, hml, B0.returns, atoms_spec (ws := wsX6_restore) B0.pre, findClass_of_methodNamed B0.named, B0.notSynchronized, hC, hA⟩   h Z va_S.rf hl
theorem i_X6_row_6 : ∀ w ∈ wsX60, w ∈ wsX6_row := by decide +kernel
theorem k_X6_row_w0 : Cond.fieldLink RX6 47 "WarmProbesModel" "single" "[I" ∈ wsX6_row := by decide +kernel
theorem k_X6_row_w1 : Cond.fieldLink RX6 44 "WarmProbesModel" "suspects" "[I" ∈ wsX6_row := by decide +kernel
set_option maxRecDepth 20000 in
set_option maxHeartbeats 4000000 in
theorem b_X6_row_88 (B : wx_B p s m args meth c cX6_row 7 (some .int) wsX6_row RX6 D ad ca A)    {r : Int32} {σ' : wx_St} {K30 : Int32 → Int32 → Int32 → Int32 → wx_St → Option (Int32 × wx_St)} (hK30 : ∀ {x1 : Int32} {x2 : Int32} {x3 : Int32} {x4 : Int32} {σ : wx_St}  (h : K30 x1 x2 x3 x4 σ = some (r, σ')) {H : Heap} {locs : List Loc} (Z : wx_Z D ad rd ca A σ H) (hS : va_S A s.heap H locs) {ls : Array Slot} (hl : lv_has ls 7 [(0, .ref (ad 16 99)), (1, .int x1), (2, .int x2), (3, .int x3), (4, .int x4)]), W p l e ({ frames := 7, cells := 0, slots := 0, locals := 156 } : Room) s m args below meth c H locs 0 0 (MQ below (wx_Q D ad rd ca A (some (.int r)) σ') args s 0 0 A) (F0 m 30 ls [])) {x1 : Int32} {x2 : Int32} {x3 : Int32} {x4 : Int32} {x5 : Int32} {y0 : Int32} {σ : wx_St}  (h : f_X6_row_88 K30 x1 x2 x3 x4 x5 y0 σ = some (r, σ')) {H : Heap} {locs : List Loc} (Z : wx_Z D ad rd ca A σ H) (hS : va_S A s.heap H locs) {ls : Array Slot} (hl : lv_has ls 7 [(0, .ref (ad 16 99)), (1, .int x1), (2, .int x2), (3, .int x3), (4, .int x4), (5, .int x5)]) : W p l e ({ frames := 7, cells := 0, slots := 0, locals := 156 } : Room) s m args below meth c H locs 0 0 (MQ below (wx_Q D ad rd ca A (some (.int r)) σ') args s 0 0 A) (F0 m 88 ls [.int y0]) := by
  obtain ⟨hx, hb, hml, hr, hts, hown, hlk, hC, hA⟩ := id B
  unfold f_X6_row_88 at h
  refine lv_istore (lv' := [(6, .int y0), (0, .ref (ad 16 99)), (1, .int x1), (2, .int x2), (3, .int x3), (4, .int x4), (5, .int x5)]) hx hb dX6_row_88 hl (by decide) rfl (fun ls hl => ?_)
  refine lv_iload_n hx hb dX6_row_90 rfl (lv_at hl 4 rfl) ?_
  refine lv_iload hx hb dX6_row_91 (lv_at hl 0 rfl) ?_
  refine lv_iload hx hb dX6_row_93 (lv_at hl 5 rfl) ?_
  refine lv_ishl hx hb dX6_row_95 ?_
  refine lv_ior hx hb dX6_row_96 ?_
  refine lv_istore_n (lv' := [(3, .int (x3 ||| (y0 <<< (x4 &&& 31)))), (6, .int y0), (0, .ref (ad 16 99)), (1, .int x1), (2, .int x2), (4, .int x4), (5, .int x5)]) hx hb dX6_row_97 rfl hl (by decide) rfl (fun ls hl => ?_)
  refine lv_iinc (v := x4 + 1) (lv' := [(4, .int (x4 + 1)), (3, .int (x3 ||| (y0 <<< (x4 &&& 31)))), (6, .int y0), (0, .ref (ad 16 99)), (1, .int x1), (2, .int x2), (5, .int x5)]) hx hb dX6_row_98 hl (k := 5) rfl rfl (by decide) rfl (fun ls hl => ?_)
  refine lv_goto (tgt := 30) hx hb dX6_row_101 (by decide) ?_
  exact hK30 h Z hS (lv_sub hl [3, 4, 5, 1, 0] rfl)
set_option maxRecDepth 20000 in
set_option maxHeartbeats 4000000 in
theorem b_X6_row_30 (B : wx_B p s m args meth c cX6_row 7 (some .int) wsX6_row RX6 D ad ca A)    {r : Int32} {σ' : wx_St}   :
    ∀ {n : Nat} {x1 : Int32} {x2 : Int32} {x3 : Int32} {x4 : Int32} {σ : wx_St}  (h : f_X6_row_30 n x1 x2 x3 x4 σ = some (r, σ')) {H : Heap} {locs : List Loc} (Z : wx_Z D ad rd ca A σ H) (hS : va_S A s.heap H locs) {ls : Array Slot} (hl : lv_has ls 7 [(0, .ref (ad 16 99)), (1, .int x1), (2, .int x2), (3, .int x3), (4, .int x4)]), W p l e ({ frames := 7, cells := 0, slots := 0, locals := 156 } : Room) s m args below meth c H locs 0 0 (MQ below (wx_Q D ad rd ca A (some (.int r)) σ') args s 0 0 A) (F0 m 30 ls []) := by
  obtain ⟨hx, hb, hml, hr, hts, hown, hlk, hC, hA⟩ := id B
  intro n
  induction n with
  | zero => intro x1 x2 x3 x4 σ  h H locs Z hS ls hl; exact wx_no h
  | succ n ih =>
    intro x1 x2 x3 x4 σ  h H locs Z hS ls hl
    rw [f_X6_row_30] at h
    refine lv_iload hx hb dX6_row_30 (lv_at hl 4 rfl) ?_
    refine lv_bipush (v := 8) hx hb dX6_row_32 (by decide) ?_
    refine lv_icmp_ge (tgt := 104) hx hb dX6_row_34 (by decide) (fun c34 => ?_) (fun c34 => ?_)
    · replace h := wx_ift c34 h
      refine lv_iload_n hx hb dX6_row_104 rfl (lv_at hl 3 rfl) ?_
      obtain ⟨rfl, rfl⟩ := wx_ret_ok h
      exact W.iret hx hb hr (fun t ht hW => ⟨rfl, by rw [ht]; exact Z, hS.F ht⟩) hS.2.2 dX6_row_105
    · replace h := wx_iff c34 h
      refine lv_iload_n hx hb dX6_row_37 rfl (lv_at hl 1 rfl) ?_
      refine lv_iload hx hb dX6_row_38 (lv_at hl 4 rfl) ?_
      obtain ⟨v40, hc40, h⟩ := wx_o_ok h
      refine wx_call (va_runS (As := [.int x1, .int x4]) (rest := []) ⟨hx, hb, hml, hown, hts⟩ (c_X6_placeOf l (D := D) (ad := ad) (rd := rd) (ca := ca) (A := A) (σ := σ) hc40) (va_cwS 2 hts gX6_row_X6_placeOf rfl rfl rfl (by decide +kernel) ⟨Nat.le_of_ble_eq_true rfl, Nat.le_of_ble_eq_true rfl⟩) (wx_preS hC Z hS hA) rfl rfl hl.1 rfl (lv_room (Nat.le_of_ble_eq_true rfl)) dX6_row_40 ⟨Nat.zero_le _, Nat.zero_le _⟩) hS (fun H locs Z hS => ?_)
      refine lv_istore (lv' := [(5, .int v40), (0, .ref (ad 16 99)), (1, .int x1), (2, .int x2), (3, .int x3), (4, .int x4)]) hx hb dX6_row_43 hl (by decide) rfl (fun ls hl => ?_)
      refine lv_iload_n hx hb dX6_row_45 rfl (lv_at hl 3 rfl) ?_
      refine lv_if_ne (tgt := 66) hx hb dX6_row_46 (by decide) (fun c46 => ?_) (fun c46 => ?_)
      · replace h := wx_iff c46 h
        refine lv_iload_n hx hb dX6_row_66 rfl (lv_at hl 3 rfl) ?_
        refine lv_iconst (v := 1) hx hb dX6_row_67 (by decide) ?_
        refine lv_icmp_ne (tgt := 81) hx hb dX6_row_68 (by decide) (fun c68 => ?_) (fun c68 => ?_)
        · replace h := wx_iff c68 h
          refine lv_aload_n hx hb dX6_row_81 rfl (lv_at hl 1 rfl) ?_
          refine wx_get (own := RX6) hx hb hts i_X6_row_6 hown hC.1 Z (o := 16) (ci := 6) rfl (rfl : vwCl[6]? = some (RX6, TX6, 25)) 14 (by decide) (hts _ k_X6_row_w0) (fun _ h9 => h9) (f := 0) rfl rfl dX6_row_82 ?_
          refine lv_iload hx hb dX6_row_85 (lv_at hl 0 rfl) ?_
          obtain ⟨v87, ev87, iv87, h⟩ := wx_rI_ok h
          refine wx_iald hx hb hC.1 Z (o := 16) (k := 14) (n := 64) rfl rfl iv87 dX6_row_87 ev87 ?_
          exact b_X6_row_88 B (K30 := (f_X6_row_30 n)) @ih h Z hS (lv_sub hl [1, 2, 3, 4, 5, 0] rfl)
        · replace h := wx_ift c68 h
          refine lv_aload_n hx hb dX6_row_71 rfl (lv_at hl 1 rfl) ?_
          refine wx_get (own := RX6) hx hb hts i_X6_row_6 hown hC.1 Z (o := 16) (ci := 6) rfl (rfl : vwCl[6]? = some (RX6, TX6, 25)) 13 (by decide) (hts _ k_X6_row_w1) (fun _ h9 => h9) (f := 0) rfl rfl dX6_row_72 ?_
          refine lv_iload hx hb dX6_row_75 (lv_at hl 0 rfl) ?_
          obtain ⟨v77, ev77, iv77, h⟩ := wx_rI_ok h
          refine wx_iald hx hb hC.1 Z (o := 16) (k := 13) (n := 64) rfl rfl iv77 dX6_row_77 ev77 ?_
          refine lv_goto (tgt := 88) hx hb dX6_row_78 (by decide) ?_
          exact b_X6_row_88 B (K30 := (f_X6_row_30 n)) @ih h Z hS (lv_sub hl [1, 2, 3, 4, 5, 0] rfl)
      · replace h := wx_ift c46 h
        refine lv_aload_n hx hb dX6_row_49 rfl (lv_at hl 1 rfl) ?_
        refine lv_iload hx hb dX6_row_50 (lv_at hl 0 rfl) ?_
        obtain ⟨v52, hc52, h⟩ := wx_o_ok h
        refine wx_call (va_runV (As := [.int v40]) (rest := []) ⟨hx, hb, hml, hown, hts⟩ (c_X6_netAt l (D := D) (ad := ad) (rd := rd) (ca := ca) (A := A) (σ := σ) hc52) (cwV 1 hts gX6_row_X6_netAt rfl rfl rfl (by decide +kernel) ⟨Nat.le_of_ble_eq_true rfl, Nat.le_of_ble_eq_true rfl⟩) (wx_preV hC Z hS hA rfl (rfl : vwCl[6]? = some (RX6, TX6, 25))) rfl rfl hl.1 rfl (lv_room (Nat.le_of_ble_eq_true rfl)) dX6_row_52 ⟨Nat.zero_le _, Nat.zero_le _⟩) hS (fun H locs Z hS => ?_)
        refine lv_if_le (tgt := 62) hx hb dX6_row_55 (by decide) (fun c55 => ?_) (fun c55 => ?_)
        · replace h := wx_ift c55 h
          refine lv_iconst (v := 0) hx hb dX6_row_62 (by decide) ?_
          refine lv_goto (tgt := 88) hx hb dX6_row_63 (by decide) ?_
          exact b_X6_row_88 B (K30 := (f_X6_row_30 n)) @ih h Z hS (lv_sub hl [1, 2, 3, 4, 5, 0] rfl)
        · replace h := wx_iff c55 h
          refine lv_iconst (v := 1) hx hb dX6_row_58 (by decide) ?_
          refine lv_goto (tgt := 88) hx hb dX6_row_59 (by decide) ?_
          exact b_X6_row_88 B (K30 := (f_X6_row_30 n)) @ih h Z hS (lv_sub hl [1, 2, 3, 4, 5, 0] rfl)
set_option maxRecDepth 20000 in
set_option maxHeartbeats 4000000 in
theorem b_X6_row_0 (B : wx_B p s m args meth c cX6_row 7 (some .int) wsX6_row RX6 D ad ca A)    {r : Int32} {σ' : wx_St}  {x1 : Int32} {x2 : Int32} {σ : wx_St}  (h : f_X6_row x1 x2 σ = some (r, σ')) {H : Heap} {locs : List Loc} (Z : wx_Z D ad rd ca A σ H) (hS : va_S A s.heap H locs) {ls : Array Slot} (hl : lv_has ls 7 [(0, .ref (ad 16 99)), (1, .int x1), (2, .int x2)]) : W p l e ({ frames := 7, cells := 0, slots := 0, locals := 156 } : Room) s m args below meth c H locs 0 0 (MQ below (wx_Q D ad rd ca A (some (.int r)) σ') args s 0 0 A) (F0 m 0 ls []) := by
  obtain ⟨hx, hb, hml, hr, hts, hown, hlk, hC, hA⟩ := id B
  unfold f_X6_row at h
  refine lv_iload_n hx hb dX6_row_0 rfl (lv_at hl 1 rfl) ?_
  obtain ⟨v1, hc1, h⟩ := wx_o_ok h
  refine wx_call (va_runS (As := [.int x1]) (rest := []) ⟨hx, hb, hml, hown, hts⟩ (c_X6_isOnSide l (D := D) (ad := ad) (rd := rd) (ca := ca) (A := A) (σ := σ) hc1) (va_cwS 1 hts gX6_row_X6_isOnSide rfl rfl rfl (by decide +kernel) ⟨Nat.le_of_ble_eq_true rfl, Nat.le_of_ble_eq_true rfl⟩) (wx_preS hC Z hS hA) rfl rfl hl.1 rfl (lv_room (Nat.le_of_ble_eq_true rfl)) dX6_row_1 ⟨Nat.zero_le _, Nat.zero_le _⟩) hS (fun H locs Z hS => ?_)
  refine lv_if_ne (tgt := 9) hx hb dX6_row_4 (by decide) (fun c4 => ?_) (fun c4 => ?_)
  · replace h := wx_iff c4 h
    refine lv_iload_n hx hb dX6_row_9 rfl (lv_at hl 2 rfl) ?_
    refine lv_iconst (v := 0) hx hb dX6_row_10 (by decide) ?_
    refine lv_iconst (v := 2) hx hb dX6_row_11 (by decide) ?_
    obtain ⟨v12, hc12, h⟩ := wx_o_ok h
    refine wx_call (va_runS (As := [.int x2, .int 0, .int 2]) (rest := []) ⟨hx, hb, hml, hown, hts⟩ (c_X6_within l (D := D) (ad := ad) (rd := rd) (ca := ca) (A := A) (σ := σ) hc12) (va_cwS 3 hts gX6_row_X6_within rfl rfl rfl (by decide +kernel) ⟨Nat.le_of_ble_eq_true rfl, Nat.le_of_ble_eq_true rfl⟩) (wx_preS hC Z hS hA) rfl rfl hl.1 rfl (lv_room (Nat.le_of_ble_eq_true rfl)) dX6_row_12 ⟨Nat.zero_le _, Nat.zero_le _⟩) hS (fun H locs Z hS => ?_)
    refine lv_if_ne (tgt := 21) hx hb dX6_row_15 (by decide) (fun c15 => ?_) (fun c15 => ?_)
    · replace h := wx_iff c15 h
      refine lv_aload_n hx hb dX6_row_21 rfl (lv_at hl 0 rfl) ?_
      obtain ⟨v22, σ22, hc22, h⟩ := wx_b_ok h
      refine wx_call (va_runV (As := []) (rest := []) ⟨hx, hb, hml, hown, hts⟩ (c_X6_findSuspects l (D := D) (ad := ad) (rd := rd) (ca := ca) (A := A) (σ := σ) hc22) (cwV 0 hts gX6_row_X6_findSuspects rfl rfl rfl (by decide +kernel) ⟨Nat.le_of_ble_eq_true rfl, Nat.le_of_ble_eq_true rfl⟩) (wx_preV hC Z hS hA rfl (rfl : vwCl[6]? = some (RX6, TX6, 25))) rfl rfl hl.1 rfl (lv_room (Nat.le_of_ble_eq_true rfl)) dX6_row_22 ⟨Nat.zero_le _, Nat.zero_le _⟩) hS (fun H locs Z hS => ?_)
      refine lv_iconst (v := 0) hx hb dX6_row_25 (by decide) ?_
      refine lv_istore_n (lv' := [(3, .int 0), (0, .ref (ad 16 99)), (1, .int x1), (2, .int x2)]) hx hb dX6_row_26 rfl hl (by decide) rfl (fun ls hl => ?_)
      refine lv_iconst (v := 0) hx hb dX6_row_27 (by decide) ?_
      refine lv_istore (lv' := [(4, .int 0), (3, .int 0), (0, .ref (ad 16 99)), (1, .int x1), (2, .int x2)]) hx hb dX6_row_28 hl (by decide) rfl (fun ls hl => ?_)
      exact b_X6_row_30 B h Z hS (lv_sub hl [2, 3, 4, 1, 0] rfl)
    · replace h := wx_ift c15 h
      refine lv_bipush (v := (-2)) hx hb dX6_row_18 (by decide) ?_
      obtain ⟨rfl, rfl⟩ := wx_ret_ok h
      exact W.iret hx hb hr (fun t ht hW => ⟨rfl, by rw [ht]; exact Z, hS.F ht⟩) hS.2.2 dX6_row_20
  · replace h := wx_ift c4 h
    refine lv_iconst (v := (-1)) hx hb dX6_row_7 (by decide) ?_
    obtain ⟨rfl, rfl⟩ := wx_ret_ok h
    exact W.iret hx hb hr (fun t ht hW => ⟨rfl, by rw [ht]; exact Z, hS.F ht⟩) hS.2.2 dX6_row_8
set_option maxRecDepth 20000 in
theorem c_X6_row (l : Launch) {D : va_G} {ad : Nat → Nat → Nat} {rd : Nat → Nat} {ca : Nat → ClassId} {A : Nat → Prop} {σ : wx_St}    {x1 : Int32} {x2 : Int32} {r : Int32} {σ' : wx_St} (h : f_X6_row x1 x2 σ = some (r, σ')) : wx_M l yX6_row wsX6_row 7 156 D ad rd ca A [.ref (ad 16 99), .int x1, .int x2] σ (some (.int r)) σ' := by
  refine Met.ofW (cc := cX6_row) (maxL := 7) (ret := (some .int)) (by decide +kernel) rfl ?_
  intro p e s m args below meth c s₁ B0 hml hv
  obtain ⟨rfl, hC, Z, hA⟩ := hv
  have hl := lv_entry ([.ref (ad 16 99), .int x1, .int x2]) (n := 7) (Nat.le_of_ble_eq_true rfl)
  rw [lg_entry_eq]
  generalize (lg_sl ([.ref (ad 16 99), .int x1, .int x2]) ++ List.replicate (7 - (lg_sl ([.ref (ad 16 99), .int x1, .int x2])).length) Slot.unset).toArray = ls at hl ⊢
  exact b_X6_row_0 ⟨B0.exec, B0.bytes, hml, B0.returns, atoms_spec (ws := wsX6_row) B0.pre, findClass_of_methodNamed B0.named, B0.notSynchronized, hC, hA⟩   h Z va_S.rf hl
theorem i_X6_save_6 : ∀ w ∈ wsX60, w ∈ wsX6_save := by decide +kernel
theorem k_X6_save_w0 : Cond.fieldLink RX6 7 "WarmProbesModel" "state" "[I" ∈ wsX6_save := by decide +kernel
theorem k_X6_save_w1 : Cond.fieldLink RX6 23 "WarmProbesModel" "slots" "[I" ∈ wsX6_save := by decide +kernel
theorem k_X6_save_w2 : Cond.fieldLink RX6 13 "WarmProbesModel" "warmth" "[F" ∈ wsX6_save := by decide +kernel
theorem k_X6_save_w3 : Cond.fieldLink RX6 26 "WarmProbesModel" "warmSlots" "[F" ∈ wsX6_save := by decide +kernel
theorem k_X6_save_w4 : Cond.fieldLink RX6 29 "WarmProbesModel" "isSaved" "[I" ∈ wsX6_save := by decide +kernel
set_option maxRecDepth 20000 in
set_option maxHeartbeats 4000000 in
theorem b_X6_save_0 (B : wx_B p s m args meth c cX6_save 2 (some .int) wsX6_save RX6 D ad ca A)    {r : Int32} {σ' : wx_St}  {x1 : Int32} {σ : wx_St}  (h : f_X6_save x1 σ = some (r, σ')) {H : Heap} {locs : List Loc} (Z : wx_Z D ad rd ca A σ H) (hS : va_S A s.heap H locs) {ls : Array Slot} (hl : lv_has ls 2 [(0, .ref (ad 16 99)), (1, .int x1)]) : W p l e ({ frames := 1, cells := 0, slots := 0, locals := 24 } : Room) s m args below meth c H locs 0 0 (MQ below (wx_Q D ad rd ca A (some (.int r)) σ') args s 0 0 A) (F0 m 0 ls []) := by
  obtain ⟨hx, hb, hml, hr, hts, hown, hlk, hC, hA⟩ := id B
  unfold f_X6_save at h
  refine lv_iload_n hx hb dX6_save_0 rfl (lv_at hl 1 rfl) ?_
  refine lv_iconst (v := 0) hx hb dX6_save_1 (by decide) ?_
  refine lv_iconst (v := 1) hx hb dX6_save_2 (by decide) ?_
  obtain ⟨v3, hc3, h⟩ := wx_o_ok h
  refine wx_call (va_runS (As := [.int x1, .int 0, .int 1]) (rest := []) ⟨hx, hb, hml, hown, hts⟩ (c_X6_within l (D := D) (ad := ad) (rd := rd) (ca := ca) (A := A) (σ := σ) hc3) (va_cwS 3 hts gX6_save_X6_within rfl rfl rfl (by decide +kernel) ⟨Nat.le_of_ble_eq_true rfl, Nat.le_of_ble_eq_true rfl⟩) (wx_preS hC Z hS hA) rfl rfl hl.1 rfl (lv_room (Nat.le_of_ble_eq_true rfl)) dX6_save_3 ⟨Nat.zero_le _, Nat.zero_le _⟩) hS (fun H locs Z hS => ?_)
  refine lv_if_ne (tgt := 12) hx hb dX6_save_6 (by decide) (fun c6 => ?_) (fun c6 => ?_)
  · replace h := wx_iff c6 h
    refine lv_aload_n hx hb dX6_save_12 rfl (lv_at hl 0 rfl) ?_
    refine wx_get (own := RX6) hx hb hts i_X6_save_6 hown hC.1 Z (o := 16) (ci := 6) rfl (rfl : vwCl[6]? = some (RX6, TX6, 25)) 0 (by decide) (hts _ k_X6_save_w0) (fun _ h9 => h9) (f := 0) rfl rfl dX6_save_13 ?_
    refine lv_iconst (v := 0) hx hb dX6_save_16 (by decide) ?_
    refine lv_aload_n hx hb dX6_save_17 rfl (lv_at hl 0 rfl) ?_
    refine wx_get (own := RX6) hx hb hts i_X6_save_6 hown hC.1 Z (o := 16) (ci := 6) rfl (rfl : vwCl[6]? = some (RX6, TX6, 25)) 5 (by decide) (hts _ k_X6_save_w1) (fun _ h9 => h9) (f := 0) rfl rfl dX6_save_18 ?_
    refine lv_bipush (v := 109) hx hb dX6_save_21 (by decide) ?_
    refine lv_iload_n hx hb dX6_save_23 rfl (lv_at hl 1 rfl) ?_
    refine lv_imul hx hb dX6_save_24 ?_
    obtain ⟨v25, σ25, hc25, h⟩ := wx_b_ok h
    refine wx_call (va_runS (As := [.ref (ad 16 0), .int 0, .ref (ad 16 5), .int (109 * x1)]) (rest := []) ⟨hx, hb, hml, hown, hts⟩ (c_X6_moves l (D := D) (ad := ad) (rd := rd) (ca := ca) (A := A) (σ := σ) (o0 := 16) (k0 := 0) (n0 := 109) (o2 := 16) (k2 := 5) (n2 := 218) (al := σ.2.2.2.2) rfl rfl rfl hc25) (va_cwS 4 hts gX6_save_X6_moves rfl rfl rfl (by decide +kernel) ⟨Nat.le_of_ble_eq_true rfl, Nat.le_of_ble_eq_true rfl⟩) (wx_preS hC Z hS hA) rfl rfl hl.1 rfl (lv_room (Nat.le_of_ble_eq_true rfl)) dX6_save_25 ⟨Nat.zero_le _, Nat.zero_le _⟩) hS (fun H locs Z hS => ?_)
    refine lv_aload_n hx hb dX6_save_28 rfl (lv_at hl 0 rfl) ?_
    refine wx_get (own := RX6) hx hb hts i_X6_save_6 hown hC.1 Z (o := 16) (ci := 6) rfl (rfl : vwCl[6]? = some (RX6, TX6, 25)) 1 (by decide) (hts _ k_X6_save_w2) (fun _ h9 => h9) (f := 0) rfl rfl dX6_save_29 ?_
    refine lv_iconst (v := 0) hx hb dX6_save_32 (by decide) ?_
    refine lv_aload_n hx hb dX6_save_33 rfl (lv_at hl 0 rfl) ?_
    refine wx_get (own := RX6) hx hb hts i_X6_save_6 hown hC.1 Z (o := 16) (ci := 6) rfl (rfl : vwCl[6]? = some (RX6, TX6, 25)) 6 (by decide) (hts _ k_X6_save_w3) (fun _ h9 => h9) (f := 0) rfl rfl dX6_save_34 ?_
    refine lv_bipush (v := 64) hx hb dX6_save_37 (by decide) ?_
    refine lv_iload_n hx hb dX6_save_39 rfl (lv_at hl 1 rfl) ?_
    refine lv_imul hx hb dX6_save_40 ?_
    obtain ⟨v41, σ41, hc41, h⟩ := wx_b_ok h
    refine wx_call (va_runS (As := [.ref (ad 16 1), .int 0, .ref (ad 16 6), .int (64 * x1)]) (rest := []) ⟨hx, hb, hml, hown, hts⟩ (c_X6_movesWarmth l (D := D) (ad := ad) (rd := rd) (ca := ca) (A := A) (σ := σ25) (o0 := 16) (k0 := 1) (n0 := 64) (o2 := 16) (k2 := 6) (n2 := 128) (al := σ25.2.2.2.2) rfl rfl rfl hc41) (va_cwS 4 hts gX6_save_X6_movesWarmth rfl rfl rfl (by decide +kernel) ⟨Nat.le_of_ble_eq_true rfl, Nat.le_of_ble_eq_true rfl⟩) (wx_preS hC Z hS hA) rfl rfl hl.1 rfl (lv_room (Nat.le_of_ble_eq_true rfl)) dX6_save_41 ⟨Nat.zero_le _, Nat.zero_le _⟩) hS (fun H locs Z hS => ?_)
    refine lv_aload_n hx hb dX6_save_44 rfl (lv_at hl 0 rfl) ?_
    refine wx_get (own := RX6) hx hb hts i_X6_save_6 hown hC.1 Z (o := 16) (ci := 6) rfl (rfl : vwCl[6]? = some (RX6, TX6, 25)) 7 (by decide) (hts _ k_X6_save_w4) (fun _ h9 => h9) (f := 0) rfl rfl dX6_save_45 ?_
    refine lv_iload_n hx hb dX6_save_48 rfl (lv_at hl 1 rfl) ?_
    refine lv_iconst (v := 1) hx hb dX6_save_49 (by decide) ?_
    obtain ⟨σ50, e50, i50, h⟩ := wx_w_ok h
    refine wx_iast hx hb hC.1 Z hS (o := 16) (k := 7) (n := 2) rfl rfl i50 dX6_save_50 e50 (fun H locs Z hS => ?_)
    refine lv_aload_n hx hb dX6_save_51 rfl (lv_at hl 0 rfl) ?_
    refine wx_get (own := RX6) hx hb hts i_X6_save_6 hown hC.1 Z (o := 16) (ci := 6) rfl (rfl : vwCl[6]? = some (RX6, TX6, 25)) 0 (by decide) (hts _ k_X6_save_w0) (fun _ h9 => h9) (f := 0) rfl rfl dX6_save_52 ?_
    refine lv_iconst (v := 5) hx hb dX6_save_55 (by decide) ?_
    obtain ⟨v56, ev56, iv56, h⟩ := wx_rI_ok h
    refine wx_iald hx hb hC.1 Z (o := 16) (k := 0) (n := 109) rfl rfl iv56 dX6_save_56 ev56 ?_
    obtain ⟨rfl, rfl⟩ := wx_ret_ok h
    exact W.iret hx hb hr (fun t ht hW => ⟨rfl, by rw [ht]; exact Z, hS.F ht⟩) hS.2.2 dX6_save_57
  · replace h := wx_ift c6 h
    refine lv_bipush (v := (-2)) hx hb dX6_save_9 (by decide) ?_
    obtain ⟨rfl, rfl⟩ := wx_ret_ok h
    exact W.iret hx hb hr (fun t ht hW => ⟨rfl, by rw [ht]; exact Z, hS.F ht⟩) hS.2.2 dX6_save_11
set_option maxRecDepth 20000 in
theorem c_X6_save (l : Launch) {D : va_G} {ad : Nat → Nat → Nat} {rd : Nat → Nat} {ca : Nat → ClassId} {A : Nat → Prop} {σ : wx_St}    {x1 : Int32} {r : Int32} {σ' : wx_St} (h : f_X6_save x1 σ = some (r, σ')) : wx_M l yX6_save wsX6_save 1 24 D ad rd ca A [.ref (ad 16 99), .int x1] σ (some (.int r)) σ' := by
  refine Met.ofW (cc := cX6_save) (maxL := 2) (ret := (some .int)) (by decide +kernel) rfl ?_
  intro p e s m args below meth c s₁ B0 hml hv
  obtain ⟨rfl, hC, Z, hA⟩ := hv
  have hl := lv_entry ([.ref (ad 16 99), .int x1]) (n := 2) (Nat.le_of_ble_eq_true rfl)
  rw [lg_entry_eq]
  generalize (lg_sl ([.ref (ad 16 99), .int x1]) ++ List.replicate (2 - (lg_sl ([.ref (ad 16 99), .int x1])).length) Slot.unset).toArray = ls at hl ⊢
  exact b_X6_save_0 ⟨B0.exec, B0.bytes, hml, B0.returns, atoms_spec (ws := wsX6_save) B0.pre, findClass_of_methodNamed B0.named, B0.notSynchronized, hC, hA⟩   h Z va_S.rf hl
theorem i_X6_set_6 : ∀ w ∈ wsX60, w ∈ wsX6_set := by decide +kernel
theorem k_X6_set_w0 : Cond.fieldLink RX6 7 "WarmProbesModel" "state" "[I" ∈ wsX6_set := by decide +kernel
set_option maxRecDepth 20000 in
set_option maxHeartbeats 4000000 in
theorem b_X6_set_30 (B : wx_B p s m args meth c cX6_set 4 (some .int) wsX6_set RX6 D ad ca A)    {r : Int32} {σ' : wx_St}  {x1 : Int32} {x2 : Int32} {σ : wx_St}  (h : f_X6_set_30 x1 x2 σ = some (r, σ')) {H : Heap} {locs : List Loc} (Z : wx_Z D ad rd ca A σ H) (hS : va_S A s.heap H locs) {ls : Array Slot} (hl : lv_has ls 4 [(0, .ref (ad 16 99)), (1, .int x1), (2, .int x2)]) : W p l e ({ frames := 2, cells := 0, slots := 0, locals := 45 } : Room) s m args below meth c H locs 0 0 (MQ below (wx_Q D ad rd ca A (some (.int r)) σ') args s 0 0 A) (F0 m 30 ls []) := by
  obtain ⟨hx, hb, hml, hr, hts, hown, hlk, hC, hA⟩ := id B
  unfold f_X6_set_30 at h
  refine lv_bipush (v := (-2)) hx hb dX6_set_30 (by decide) ?_
  obtain ⟨rfl, rfl⟩ := wx_ret_ok h
  exact W.iret hx hb hr (fun t ht hW => ⟨rfl, by rw [ht]; exact Z, hS.F ht⟩) hS.2.2 dX6_set_32
set_option maxRecDepth 20000 in
set_option maxHeartbeats 4000000 in
theorem b_X6_set_60 (B : wx_B p s m args meth c cX6_set 4 (some .int) wsX6_set RX6 D ad ca A)    {r : Int32} {σ' : wx_St}  {x1 : Int32} {x2 : Int32} {x3 : Int32} {σ : wx_St}  (h : f_X6_set_60 x1 x2 x3 σ = some (r, σ')) {H : Heap} {locs : List Loc} (Z : wx_Z D ad rd ca A σ H) (hS : va_S A s.heap H locs) {ls : Array Slot} (hl : lv_has ls 4 [(0, .ref (ad 16 99)), (1, .int x1), (2, .int x2), (3, .int x3)]) : W p l e ({ frames := 2, cells := 0, slots := 0, locals := 45 } : Room) s m args below meth c H locs 0 0 (MQ below (wx_Q D ad rd ca A (some (.int r)) σ') args s 0 0 A) (F0 m 60 ls []) := by
  obtain ⟨hx, hb, hml, hr, hts, hown, hlk, hC, hA⟩ := id B
  unfold f_X6_set_60 at h
  refine lv_iload_n hx hb dX6_set_60 rfl (lv_at hl 3 rfl) ?_
  obtain ⟨rfl, rfl⟩ := wx_ret_ok h
  exact W.iret hx hb hr (fun t ht hW => ⟨rfl, by rw [ht]; exact Z, hS.F ht⟩) hS.2.2 dX6_set_61
set_option maxRecDepth 20000 in
set_option maxHeartbeats 4000000 in
theorem b_X6_set_20 (B : wx_B p s m args meth c cX6_set 4 (some .int) wsX6_set RX6 D ad ca A)    {r : Int32} {σ' : wx_St}  {x1 : Int32} {x2 : Int32} {y0 : Int32} {y1 : Int32} {σ : wx_St}  (h : f_X6_set_20 x1 x2 y0 y1 σ = some (r, σ')) {H : Heap} {locs : List Loc} (Z : wx_Z D ad rd ca A σ H) (hS : va_S A s.heap H locs) {ls : Array Slot} (hl : lv_has ls 4 [(0, .ref (ad 16 99)), (1, .int x1), (2, .int x2)]) : W p l e ({ frames := 2, cells := 0, slots := 0, locals := 45 } : Room) s m args below meth c H locs 0 0 (MQ below (wx_Q D ad rd ca A (some (.int r)) σ') args s 0 0 A) (F0 m 20 ls [.int y1, .int y0]) := by
  obtain ⟨hx, hb, hml, hr, hts, hown, hlk, hC, hA⟩ := id B
  unfold f_X6_set_20 at h
  refine lv_iload_n hx hb dX6_set_20 rfl (lv_at hl 1 rfl) ?_
  obtain ⟨v21, hc21, h⟩ := wx_o_ok h
  refine wx_call (va_runS (As := [.int x1]) (rest := [.int y1, .int y0]) ⟨hx, hb, hml, hown, hts⟩ (c_X6_most l (D := D) (ad := ad) (rd := rd) (ca := ca) (A := A) (σ := σ) hc21) (va_cwS 1 hts gX6_set_X6_most rfl rfl rfl (by decide +kernel) ⟨Nat.le_of_ble_eq_true rfl, Nat.le_of_ble_eq_true rfl⟩) (wx_preS hC Z hS hA) rfl rfl hl.1 rfl (lv_room (Nat.le_of_ble_eq_true rfl)) dX6_set_21 ⟨Nat.zero_le _, Nat.zero_le _⟩) hS (fun H locs Z hS => ?_)
  obtain ⟨v24, hc24, h⟩ := wx_o_ok h
  refine wx_call (va_runS (As := [.int y0, .int y1, .int v21]) (rest := []) ⟨hx, hb, hml, hown, hts⟩ (c_X6_within l (D := D) (ad := ad) (rd := rd) (ca := ca) (A := A) (σ := σ) hc24) (va_cwS 3 hts gX6_set_X6_within rfl rfl rfl (by decide +kernel) ⟨Nat.le_of_ble_eq_true rfl, Nat.le_of_ble_eq_true rfl⟩) (wx_preS hC Z hS hA) rfl rfl hl.1 rfl (lv_room (Nat.le_of_ble_eq_true rfl)) dX6_set_24 ⟨Nat.zero_le _, Nat.zero_le _⟩) hS (fun H locs Z hS => ?_)
  refine lv_if_ne (tgt := 33) hx hb dX6_set_27 (by decide) (fun c27 => ?_) (fun c27 => ?_)
  · replace h := wx_iff c27 h
    refine lv_aload_n hx hb dX6_set_33 rfl (lv_at hl 0 rfl) ?_
    obtain ⟨v34, σ34, hc34, h⟩ := wx_b_ok h
    refine wx_call (va_runV (As := []) (rest := []) ⟨hx, hb, hml, hown, hts⟩ (c_X6_record l (D := D) (ad := ad) (rd := rd) (ca := ca) (A := A) (σ := σ) hc34) (cwV 0 hts gX6_set_X6_record rfl rfl rfl (by decide +kernel) ⟨Nat.le_of_ble_eq_true rfl, Nat.le_of_ble_eq_true rfl⟩) (wx_preV hC Z hS hA rfl (rfl : vwCl[6]? = some (RX6, TX6, 25))) rfl rfl hl.1 rfl (lv_room (Nat.le_of_ble_eq_true rfl)) dX6_set_34 ⟨Nat.zero_le _, Nat.zero_le _⟩) hS (fun H locs Z hS => ?_)
    refine lv_aload_n hx hb dX6_set_37 rfl (lv_at hl 0 rfl) ?_
    refine wx_get (own := RX6) hx hb hts i_X6_set_6 hown hC.1 Z (o := 16) (ci := 6) rfl (rfl : vwCl[6]? = some (RX6, TX6, 25)) 0 (by decide) (hts _ k_X6_set_w0) (fun _ h9 => h9) (f := 0) rfl rfl dX6_set_38 ?_
    refine lv_iload_n hx hb dX6_set_41 rfl (lv_at hl 1 rfl) ?_
    obtain ⟨v42, ev42, iv42, h⟩ := wx_rI_ok h
    refine wx_iald hx hb hC.1 Z (o := 16) (k := 0) (n := 109) rfl rfl iv42 dX6_set_42 ev42 ?_
    refine lv_istore_n (lv' := [(3, .int v42), (0, .ref (ad 16 99)), (1, .int x1), (2, .int x2)]) hx hb dX6_set_43 rfl hl (by decide) rfl (fun ls hl => ?_)
    refine lv_aload_n hx hb dX6_set_44 rfl (lv_at hl 1 rfl) ?_
    refine wx_get (own := RX6) hx hb hts i_X6_set_6 hown hC.1 Z (o := 16) (ci := 6) rfl (rfl : vwCl[6]? = some (RX6, TX6, 25)) 0 (by decide) (hts _ k_X6_set_w0) (fun _ h9 => h9) (f := 0) rfl rfl dX6_set_45 ?_
    refine lv_iload_n hx hb dX6_set_48 rfl (lv_at hl 2 rfl) ?_
    refine lv_iload_n hx hb dX6_set_49 rfl (lv_at hl 3 rfl) ?_
    obtain ⟨σ50, e50, i50, h⟩ := wx_w_ok h
    refine wx_iast hx hb hC.1 Z hS (o := 16) (k := 0) (n := 109) rfl rfl i50 dX6_set_50 e50 (fun H locs Z hS => ?_)
    refine lv_iload_n hx hb dX6_set_51 rfl (lv_at hl 2 rfl) ?_
    refine lv_iconst (v := 3) hx hb dX6_set_52 (by decide) ?_
    refine lv_icmp_eq (tgt := 60) hx hb dX6_set_53 (by decide) (fun c53 => ?_) (fun c53 => ?_)
    · replace h := wx_ift c53 h
      exact b_X6_set_60 B h Z hS (lv_sub hl [1, 2, 3, 0] rfl)
    · replace h := wx_iff c53 h
      refine lv_aload_n hx hb dX6_set_56 rfl (lv_at hl 1 rfl) ?_
      obtain ⟨v57, σ57, hc57, h⟩ := wx_b_ok h
      refine wx_call (va_runV (As := []) (rest := []) ⟨hx, hb, hml, hown, hts⟩ (c_X6_beginsRun l (D := D) (ad := ad) (rd := rd) (ca := ca) (A := A) (σ := σ50) hc57) (cwV 0 hts gX6_set_X6_beginsRun rfl rfl rfl (by decide +kernel) ⟨Nat.le_of_ble_eq_true rfl, Nat.le_of_ble_eq_true rfl⟩) (wx_preV hC Z hS hA rfl (rfl : vwCl[6]? = some (RX6, TX6, 25))) rfl rfl hl.1 rfl (lv_room (Nat.le_of_ble_eq_true rfl)) dX6_set_57 ⟨Nat.zero_le _, Nat.zero_le _⟩) hS (fun H locs Z hS => ?_)
      exact b_X6_set_60 B h Z hS (lv_sub hl [1, 2, 3, 0] rfl)
  · replace h := wx_ift c27 h
    exact b_X6_set_30 B h Z hS (lv_sub hl [0, 1, 2] rfl)
set_option maxRecDepth 20000 in
set_option maxHeartbeats 4000000 in
theorem b_X6_set_0 (B : wx_B p s m args meth c cX6_set 4 (some .int) wsX6_set RX6 D ad ca A)    {r : Int32} {σ' : wx_St}  {x1 : Int32} {x2 : Int32} {σ : wx_St}  (h : f_X6_set x1 x2 σ = some (r, σ')) {H : Heap} {locs : List Loc} (Z : wx_Z D ad rd ca A σ H) (hS : va_S A s.heap H locs) {ls : Array Slot} (hl : lv_has ls 4 [(0, .ref (ad 16 99)), (1, .int x1), (2, .int x2)]) : W p l e ({ frames := 2, cells := 0, slots := 0, locals := 45 } : Room) s m args below meth c H locs 0 0 (MQ below (wx_Q D ad rd ca A (some (.int r)) σ') args s 0 0 A) (F0 m 0 ls []) := by
  obtain ⟨hx, hb, hml, hr, hts, hown, hlk, hC, hA⟩ := id B
  unfold f_X6_set at h
  refine lv_iload_n hx hb dX6_set_0 rfl (lv_at hl 1 rfl) ?_
  refine lv_iconst (v := 0) hx hb dX6_set_1 (by decide) ?_
  refine lv_iconst (v := 3) hx hb dX6_set_2 (by decide) ?_
  obtain ⟨v3, hc3, h⟩ := wx_o_ok h
  refine wx_call (va_runS (As := [.int x1, .int 0, .int 3]) (rest := []) ⟨hx, hb, hml, hown, hts⟩ (c_X6_within l (D := D) (ad := ad) (rd := rd) (ca := ca) (A := A) (σ := σ) hc3) (va_cwS 3 hts gX6_set_X6_within rfl rfl rfl (by decide +kernel) ⟨Nat.le_of_ble_eq_true rfl, Nat.le_of_ble_eq_true rfl⟩) (wx_preS hC Z hS hA) rfl rfl hl.1 rfl (lv_room (Nat.le_of_ble_eq_true rfl)) dX6_set_3 ⟨Nat.zero_le _, Nat.zero_le _⟩) hS (fun H locs Z hS => ?_)
  refine lv_if_eq (tgt := 30) hx hb dX6_set_6 (by decide) (fun c6 => ?_) (fun c6 => ?_)
  · replace h := wx_ift c6 h
    exact b_X6_set_30 B h Z hS (lv_sub hl [0, 1, 2] rfl)
  · replace h := wx_iff c6 h
    refine lv_iload_n hx hb dX6_set_9 rfl (lv_at hl 2 rfl) ?_
    refine lv_iload_n hx hb dX6_set_10 rfl (lv_at hl 1 rfl) ?_
    refine lv_iconst (v := 2) hx hb dX6_set_11 (by decide) ?_
    refine lv_icmp_ne (tgt := 19) hx hb dX6_set_12 (by decide) (fun c12 => ?_) (fun c12 => ?_)
    · replace h := wx_iff c12 h
      refine lv_iconst (v := 0) hx hb dX6_set_19 (by decide) ?_
      exact b_X6_set_20 B h Z hS (lv_sub hl [0, 1, 2] rfl)
    · replace h := wx_ift c12 h
      refine lv_iconst (v := 1) hx hb dX6_set_15 (by decide) ?_
      refine lv_goto (tgt := 20) hx hb dX6_set_16 (by decide) ?_
      exact b_X6_set_20 B h Z hS (lv_sub hl [0, 1, 2] rfl)
set_option maxRecDepth 20000 in
theorem c_X6_set (l : Launch) {D : va_G} {ad : Nat → Nat → Nat} {rd : Nat → Nat} {ca : Nat → ClassId} {A : Nat → Prop} {σ : wx_St}    {x1 : Int32} {x2 : Int32} {r : Int32} {σ' : wx_St} (h : f_X6_set x1 x2 σ = some (r, σ')) : wx_M l yX6_set wsX6_set 2 45 D ad rd ca A [.ref (ad 16 99), .int x1, .int x2] σ (some (.int r)) σ' := by
  refine Met.ofW (cc := cX6_set) (maxL := 4) (ret := (some .int)) (by decide +kernel) rfl ?_
  intro p e s m args below meth c s₁ B0 hml hv
  obtain ⟨rfl, hC, Z, hA⟩ := hv
  have hl := lv_entry ([.ref (ad 16 99), .int x1, .int x2]) (n := 4) (Nat.le_of_ble_eq_true rfl)
  rw [lg_entry_eq]
  generalize (lg_sl ([.ref (ad 16 99), .int x1, .int x2]) ++ List.replicate (4 - (lg_sl ([.ref (ad 16 99), .int x1, .int x2])).length) Slot.unset).toArray = ls at hl ⊢
  exact b_X6_set_0 ⟨B0.exec, B0.bytes, hml, B0.returns, atoms_spec (ws := wsX6_set) B0.pre, findClass_of_methodNamed B0.named, B0.notSynchronized, hC, hA⟩   h Z va_S.rf hl
set_option maxRecDepth 20000 in
set_option maxHeartbeats 4000000 in
theorem b_X6_touch_0 (B : wx_B p s m args meth c cX6_touch 5 (some .int) wsX6_touch RX6 D ad ca A)    {r : Int32} {σ' : wx_St}  {x1 : Int32} {x2 : Int32} {x3 : Int32} {σ : wx_St}  (h : f_X6_touch x1 x2 x3 σ = some (r, σ')) {H : Heap} {locs : List Loc} (Z : wx_Z D ad rd ca A σ H) (hS : va_S A s.heap H locs) {ls : Array Slot} (hl : lv_has ls 5 [(0, .ref (ad 16 99)), (1, .int x1), (2, .int x2), (3, .int x3)]) : W p l e ({ frames := 6, cells := 0, slots := 0, locals := 135 } : Room) s m args below meth c H locs 0 0 (MQ below (wx_Q D ad rd ca A (some (.int r)) σ') args s 0 0 A) (F0 m 0 ls []) := by
  obtain ⟨hx, hb, hml, hr, hts, hown, hlk, hC, hA⟩ := id B
  unfold f_X6_touch at h
  refine lv_aload_n hx hb dX6_touch_0 rfl (lv_at hl 0 rfl) ?_
  refine lv_iload_n hx hb dX6_touch_1 rfl (lv_at hl 1 rfl) ?_
  refine lv_iload_n hx hb dX6_touch_2 rfl (lv_at hl 2 rfl) ?_
  refine lv_iload_n hx hb dX6_touch_3 rfl (lv_at hl 3 rfl) ?_
  obtain ⟨v4, hc4, h⟩ := wx_o_ok h
  refine wx_call (va_runV (As := [.int x1, .int x2, .int x3]) (rest := []) ⟨hx, hb, hml, hown, hts⟩ (c_X6_whyNotTouched l (D := D) (ad := ad) (rd := rd) (ca := ca) (A := A) (σ := σ) hc4) (cwV 3 hts gX6_touch_X6_whyNotTouched rfl rfl rfl (by decide +kernel) ⟨Nat.le_of_ble_eq_true rfl, Nat.le_of_ble_eq_true rfl⟩) (wx_preV hC Z hS hA rfl (rfl : vwCl[6]? = some (RX6, TX6, 25))) rfl rfl hl.1 rfl (lv_room (Nat.le_of_ble_eq_true rfl)) dX6_touch_4 ⟨Nat.zero_le _, Nat.zero_le _⟩) hS (fun H locs Z hS => ?_)
  refine lv_istore (lv' := [(4, .int v4), (0, .ref (ad 16 99)), (1, .int x1), (2, .int x2), (3, .int x3)]) hx hb dX6_touch_7 hl (by decide) rfl (fun ls hl => ?_)
  refine lv_iload hx hb dX6_touch_9 (lv_at hl 0 rfl) ?_
  refine lv_if_ge (tgt := 17) hx hb dX6_touch_11 (by decide) (fun c11 => ?_) (fun c11 => ?_)
  · replace h := wx_ift c11 h
    refine lv_aload_n hx hb dX6_touch_17 rfl (lv_at hl 1 rfl) ?_
    obtain ⟨v18, σ18, hc18, h⟩ := wx_b_ok h
    refine wx_call (va_runV (As := []) (rest := []) ⟨hx, hb, hml, hown, hts⟩ (c_X6_record l (D := D) (ad := ad) (rd := rd) (ca := ca) (A := A) (σ := σ) hc18) (cwV 0 hts gX6_touch_X6_record rfl rfl rfl (by decide +kernel) ⟨Nat.le_of_ble_eq_true rfl, Nat.le_of_ble_eq_true rfl⟩) (wx_preV hC Z hS hA rfl (rfl : vwCl[6]? = some (RX6, TX6, 25))) rfl rfl hl.1 rfl (lv_room (Nat.le_of_ble_eq_true rfl)) dX6_touch_18 ⟨Nat.zero_le _, Nat.zero_le _⟩) hS (fun H locs Z hS => ?_)
    refine lv_aload_n hx hb dX6_touch_21 rfl (lv_at hl 1 rfl) ?_
    refine lv_iload_n hx hb dX6_touch_22 rfl (lv_at hl 2 rfl) ?_
    refine lv_iload_n hx hb dX6_touch_23 rfl (lv_at hl 3 rfl) ?_
    refine lv_iload_n hx hb dX6_touch_24 rfl (lv_at hl 4 rfl) ?_
    obtain ⟨v25, σ25, hc25, h⟩ := wx_b_ok h
    refine wx_call (va_runV (As := [.int x1, .int x2, .int x3]) (rest := []) ⟨hx, hb, hml, hown, hts⟩ (c_X6_touches l (D := D) (ad := ad) (rd := rd) (ca := ca) (A := A) (σ := σ18) hc25) (cwV 3 hts gX6_touch_X6_touches rfl rfl rfl (by decide +kernel) ⟨Nat.le_of_ble_eq_true rfl, Nat.le_of_ble_eq_true rfl⟩) (wx_preV hC Z hS hA rfl (rfl : vwCl[6]? = some (RX6, TX6, 25))) rfl rfl hl.1 rfl (lv_room (Nat.le_of_ble_eq_true rfl)) dX6_touch_25 ⟨Nat.zero_le _, Nat.zero_le _⟩) hS (fun H locs Z hS => ?_)
    obtain ⟨rfl, rfl⟩ := wx_ret_ok h
    exact W.iret hx hb hr (fun t ht hW => ⟨rfl, by rw [ht]; exact Z, hS.F ht⟩) hS.2.2 dX6_touch_28
  · replace h := wx_iff c11 h
    refine lv_iload hx hb dX6_touch_14 (lv_at hl 0 rfl) ?_
    obtain ⟨rfl, rfl⟩ := wx_ret_ok h
    exact W.iret hx hb hr (fun t ht hW => ⟨rfl, by rw [ht]; exact Z, hS.F ht⟩) hS.2.2 dX6_touch_16
set_option maxRecDepth 20000 in
theorem c_X6_touch (l : Launch) {D : va_G} {ad : Nat → Nat → Nat} {rd : Nat → Nat} {ca : Nat → ClassId} {A : Nat → Prop} {σ : wx_St}    {x1 : Int32} {x2 : Int32} {x3 : Int32} {r : Int32} {σ' : wx_St} (h : f_X6_touch x1 x2 x3 σ = some (r, σ')) : wx_M l yX6_touch wsX6_touch 6 135 D ad rd ca A [.ref (ad 16 99), .int x1, .int x2, .int x3] σ (some (.int r)) σ' := by
  refine Met.ofW (cc := cX6_touch) (maxL := 5) (ret := (some .int)) (by decide +kernel) rfl ?_
  intro p e s m args below meth c s₁ B0 hml hv
  obtain ⟨rfl, hC, Z, hA⟩ := hv
  have hl := lv_entry ([.ref (ad 16 99), .int x1, .int x2, .int x3]) (n := 5) (Nat.le_of_ble_eq_true rfl)
  rw [lg_entry_eq]
  generalize (lg_sl ([.ref (ad 16 99), .int x1, .int x2, .int x3]) ++ List.replicate (5 - (lg_sl ([.ref (ad 16 99), .int x1, .int x2, .int x3])).length) Slot.unset).toArray = ls at hl ⊢
  exact b_X6_touch_0 ⟨B0.exec, B0.bytes, hml, B0.returns, atoms_spec (ws := wsX6_touch) B0.pre, findClass_of_methodNamed B0.named, B0.notSynchronized, hC, hA⟩   h Z va_S.rf hl
set_option maxRecDepth 20000 in
set_option maxHeartbeats 4000000 in
theorem b_X6_track_0 (B : wx_B p s m args meth c cX6_track 5 (some .int) wsX6_track RX6 D ad ca A)    {r : Int32} {σ' : wx_St}  {x1 : Int32} {x2 : Int32} {x3 : Int32} {σ : wx_St}  (h : f_X6_track x1 x2 x3 σ = some (r, σ')) {H : Heap} {locs : List Loc} (Z : wx_Z D ad rd ca A σ H) (hS : va_S A s.heap H locs) {ls : Array Slot} (hl : lv_has ls 5 [(0, .ref (ad 16 99)), (1, .int x1), (2, .int x2), (3, .int x3)]) : W p l e ({ frames := 5, cells := 0, slots := 0, locals := 114 } : Room) s m args below meth c H locs 0 0 (MQ below (wx_Q D ad rd ca A (some (.int r)) σ') args s 0 0 A) (F0 m 0 ls []) := by
  obtain ⟨hx, hb, hml, hr, hts, hown, hlk, hC, hA⟩ := id B
  unfold f_X6_track at h
  refine lv_aload_n hx hb dX6_track_0 rfl (lv_at hl 0 rfl) ?_
  refine lv_iload_n hx hb dX6_track_1 rfl (lv_at hl 1 rfl) ?_
  refine lv_iload_n hx hb dX6_track_2 rfl (lv_at hl 2 rfl) ?_
  refine lv_iload_n hx hb dX6_track_3 rfl (lv_at hl 3 rfl) ?_
  obtain ⟨v4, hc4, h⟩ := wx_o_ok h
  refine wx_call (va_runV (As := [.int x1, .int x2, .int x3]) (rest := []) ⟨hx, hb, hml, hown, hts⟩ (c_X6_whyNotTracked l (D := D) (ad := ad) (rd := rd) (ca := ca) (A := A) (σ := σ) hc4) (cwV 3 hts gX6_track_X6_whyNotTracked rfl rfl rfl (by decide +kernel) ⟨Nat.le_of_ble_eq_true rfl, Nat.le_of_ble_eq_true rfl⟩) (wx_preV hC Z hS hA rfl (rfl : vwCl[6]? = some (RX6, TX6, 25))) rfl rfl hl.1 rfl (lv_room (Nat.le_of_ble_eq_true rfl)) dX6_track_4 ⟨Nat.zero_le _, Nat.zero_le _⟩) hS (fun H locs Z hS => ?_)
  refine lv_istore (lv' := [(4, .int v4), (0, .ref (ad 16 99)), (1, .int x1), (2, .int x2), (3, .int x3)]) hx hb dX6_track_7 hl (by decide) rfl (fun ls hl => ?_)
  refine lv_iload hx hb dX6_track_9 (lv_at hl 0 rfl) ?_
  refine lv_if_ge (tgt := 17) hx hb dX6_track_11 (by decide) (fun c11 => ?_) (fun c11 => ?_)
  · replace h := wx_ift c11 h
    refine lv_aload_n hx hb dX6_track_17 rfl (lv_at hl 1 rfl) ?_
    obtain ⟨v18, σ18, hc18, h⟩ := wx_b_ok h
    refine wx_call (va_runV (As := []) (rest := []) ⟨hx, hb, hml, hown, hts⟩ (c_X6_record l (D := D) (ad := ad) (rd := rd) (ca := ca) (A := A) (σ := σ) hc18) (cwV 0 hts gX6_track_X6_record rfl rfl rfl (by decide +kernel) ⟨Nat.le_of_ble_eq_true rfl, Nat.le_of_ble_eq_true rfl⟩) (wx_preV hC Z hS hA rfl (rfl : vwCl[6]? = some (RX6, TX6, 25))) rfl rfl hl.1 rfl (lv_room (Nat.le_of_ble_eq_true rfl)) dX6_track_18 ⟨Nat.zero_le _, Nat.zero_le _⟩) hS (fun H locs Z hS => ?_)
    refine lv_aload_n hx hb dX6_track_21 rfl (lv_at hl 1 rfl) ?_
    refine lv_iload_n hx hb dX6_track_22 rfl (lv_at hl 2 rfl) ?_
    refine lv_iload_n hx hb dX6_track_23 rfl (lv_at hl 3 rfl) ?_
    refine lv_iload_n hx hb dX6_track_24 rfl (lv_at hl 4 rfl) ?_
    obtain ⟨v25, σ25, hc25, h⟩ := wx_b_ok h
    refine wx_call (va_runV (As := [.int x1, .int x2, .int x3]) (rest := []) ⟨hx, hb, hml, hown, hts⟩ (c_X6_tracks l (D := D) (ad := ad) (rd := rd) (ca := ca) (A := A) (σ := σ18) hc25) (cwV 3 hts gX6_track_X6_tracks rfl rfl rfl (by decide +kernel) ⟨Nat.le_of_ble_eq_true rfl, Nat.le_of_ble_eq_true rfl⟩) (wx_preV hC Z hS hA rfl (rfl : vwCl[6]? = some (RX6, TX6, 25))) rfl rfl hl.1 rfl (lv_room (Nat.le_of_ble_eq_true rfl)) dX6_track_25 ⟨Nat.zero_le _, Nat.zero_le _⟩) hS (fun H locs Z hS => ?_)
    obtain ⟨rfl, rfl⟩ := wx_ret_ok h
    exact W.iret hx hb hr (fun t ht hW => ⟨rfl, by rw [ht]; exact Z, hS.F ht⟩) hS.2.2 dX6_track_28
  · replace h := wx_iff c11 h
    refine lv_iload hx hb dX6_track_14 (lv_at hl 0 rfl) ?_
    obtain ⟨rfl, rfl⟩ := wx_ret_ok h
    exact W.iret hx hb hr (fun t ht hW => ⟨rfl, by rw [ht]; exact Z, hS.F ht⟩) hS.2.2 dX6_track_16
set_option maxRecDepth 20000 in
theorem c_X6_track (l : Launch) {D : va_G} {ad : Nat → Nat → Nat} {rd : Nat → Nat} {ca : Nat → ClassId} {A : Nat → Prop} {σ : wx_St}    {x1 : Int32} {x2 : Int32} {x3 : Int32} {r : Int32} {σ' : wx_St} (h : f_X6_track x1 x2 x3 σ = some (r, σ')) : wx_M l yX6_track wsX6_track 5 114 D ad rd ca A [.ref (ad 16 99), .int x1, .int x2, .int x3] σ (some (.int r)) σ' := by
  refine Met.ofW (cc := cX6_track) (maxL := 5) (ret := (some .int)) (by decide +kernel) rfl ?_
  intro p e s m args below meth c s₁ B0 hml hv
  obtain ⟨rfl, hC, Z, hA⟩ := hv
  have hl := lv_entry ([.ref (ad 16 99), .int x1, .int x2, .int x3]) (n := 5) (Nat.le_of_ble_eq_true rfl)
  rw [lg_entry_eq]
  generalize (lg_sl ([.ref (ad 16 99), .int x1, .int x2, .int x3]) ++ List.replicate (5 - (lg_sl ([.ref (ad 16 99), .int x1, .int x2, .int x3])).length) Slot.unset).toArray = ls at hl ⊢
  exact b_X6_track_0 ⟨B0.exec, B0.bytes, hml, B0.returns, atoms_spec (ws := wsX6_track) B0.pre, findClass_of_methodNamed B0.named, B0.notSynchronized, hC, hA⟩   h Z va_S.rf hl
theorem i_X6_undo_6 : ∀ w ∈ wsX60, w ∈ wsX6_undo := by decide +kernel
theorem k_X6_undo_w0 : Cond.fieldLink RX6 56 "WarmProbesModel" "recorded" "I" ∈ wsX6_undo := by decide +kernel
theorem k_X6_undo_w1 : Cond.fieldLink RX6 17 "WarmProbesModel" "history" "[I" ∈ wsX6_undo := by decide +kernel
theorem k_X6_undo_w2 : Cond.fieldLink RX6 7 "WarmProbesModel" "state" "[I" ∈ wsX6_undo := by decide +kernel
theorem k_X6_undo_w3 : Cond.fieldLink RX6 20 "WarmProbesModel" "warmHistory" "[F" ∈ wsX6_undo := by decide +kernel
theorem k_X6_undo_w4 : Cond.fieldLink RX6 13 "WarmProbesModel" "warmth" "[F" ∈ wsX6_undo := by decide +kernel
set_option maxRecDepth 20000 in
set_option maxHeartbeats 4000000 in
theorem b_X6_undo_0 (B : wx_B p s m args meth c cX6_undo 1 (some .int) wsX6_undo RX6 D ad ca A)    {r : Int32} {σ' : wx_St}   {σ : wx_St}  (h : f_X6_undo σ = some (r, σ')) {H : Heap} {locs : List Loc} (Z : wx_Z D ad rd ca A σ H) (hS : va_S A s.heap H locs) {ls : Array Slot} (hl : lv_has ls 1 [(0, .ref (ad 16 99))]) : W p l e ({ frames := 1, cells := 0, slots := 0, locals := 24 } : Room) s m args below meth c H locs 0 0 (MQ below (wx_Q D ad rd ca A (some (.int r)) σ') args s 0 0 A) (F0 m 0 ls []) := by
  obtain ⟨hx, hb, hml, hr, hts, hown, hlk, hC, hA⟩ := id B
  unfold f_X6_undo at h
  refine lv_aload_n hx hb dX6_undo_0 rfl (lv_at hl 0 rfl) ?_
  refine wx_get (own := RX6) hx hb hts i_X6_undo_6 hown hC.1 Z (o := 16) (ci := 6) rfl (rfl : vwCl[6]? = some (RX6, TX6, 25)) 4 (by decide) (hts _ k_X6_undo_w0) (fun _ h9 => h9) (f := 1) rfl rfl dX6_undo_1 ?_
  refine lv_if_ne (tgt := 10) hx hb dX6_undo_4 (by decide) (fun c4 => ?_) (fun c4 => ?_)
  · replace h := wx_iff c4 h
    refine lv_aload_n hx hb dX6_undo_10 rfl (lv_at hl 0 rfl) ?_
    refine lv_dup hx hb dX6_undo_11 rfl ?_
    refine wx_get (own := RX6) hx hb hts i_X6_undo_6 hown hC.1 Z (o := 16) (ci := 6) rfl (rfl : vwCl[6]? = some (RX6, TX6, 25)) 4 (by decide) (hts _ k_X6_undo_w0) (fun _ h9 => h9) (f := 1) rfl rfl dX6_undo_12 ?_
    refine lv_iconst (v := 1) hx hb dX6_undo_15 (by decide) ?_
    refine lv_isub hx hb dX6_undo_16 ?_
    obtain ⟨σ17, e17, h⟩ := wx_l_ok h
    refine wx_put (own := RX6) hx hb hts i_X6_undo_6 tyX6 tyX6_ok nmX6 hown hC.1 Z hS (o := 16) (ci := 6) rfl (rfl : vwCl[6]? = some (RX6, TX6, 25)) 4 (by decide) (hts _ k_X6_undo_w0) (fun _ h9 => h9) rfl (by decide +kernel) rfl dX6_undo_17 e17 (fun H locs Z hS => ?_)
    refine lv_aload_n hx hb dX6_undo_20 rfl (lv_at hl 0 rfl) ?_
    refine wx_get (own := RX6) hx hb hts i_X6_undo_6 hown hC.1 Z (o := 16) (ci := 6) rfl (rfl : vwCl[6]? = some (RX6, TX6, 25)) 2 (by decide) (hts _ k_X6_undo_w1) (fun _ h9 => h9) (f := 0) rfl rfl dX6_undo_21 ?_
    refine lv_aload_n hx hb dX6_undo_24 rfl (lv_at hl 0 rfl) ?_
    refine wx_get (own := RX6) hx hb hts i_X6_undo_6 hown hC.1 Z (o := 16) (ci := 6) rfl (rfl : vwCl[6]? = some (RX6, TX6, 25)) 4 (by decide) (hts _ k_X6_undo_w0) (fun _ h9 => h9) (f := 1) rfl rfl dX6_undo_25 ?_
    refine lv_bipush (v := 109) hx hb dX6_undo_28 (by decide) ?_
    refine lv_imul hx hb dX6_undo_30 ?_
    refine lv_aload_n hx hb dX6_undo_31 rfl (lv_at hl 0 rfl) ?_
    refine wx_get (own := RX6) hx hb hts i_X6_undo_6 hown hC.1 Z (o := 16) (ci := 6) rfl (rfl : vwCl[6]? = some (RX6, TX6, 25)) 0 (by decide) (hts _ k_X6_undo_w2) (fun _ h9 => h9) (f := 0) rfl rfl dX6_undo_32 ?_
    refine lv_iconst (v := 0) hx hb dX6_undo_35 (by decide) ?_
    obtain ⟨v36, σ36, hc36, h⟩ := wx_b_ok h
    refine wx_call (va_runS (As := [.ref (ad 16 2), .int ((σ17.2.2.1 16 4) * 109), .ref (ad 16 0), .int 0]) (rest := []) ⟨hx, hb, hml, hown, hts⟩ (c_X6_moves l (D := D) (ad := ad) (rd := rd) (ca := ca) (A := A) (σ := σ17) (o0 := 16) (k0 := 2) (n0 := 654) (o2 := 16) (k2 := 0) (n2 := 109) (al := σ17.2.2.2.2) rfl rfl rfl hc36) (va_cwS 4 hts gX6_undo_X6_moves rfl rfl rfl (by decide +kernel) ⟨Nat.le_of_ble_eq_true rfl, Nat.le_of_ble_eq_true rfl⟩) (wx_preS hC Z hS hA) rfl rfl hl.1 rfl (lv_room (Nat.le_of_ble_eq_true rfl)) dX6_undo_36 ⟨Nat.zero_le _, Nat.zero_le _⟩) hS (fun H locs Z hS => ?_)
    refine lv_aload_n hx hb dX6_undo_39 rfl (lv_at hl 0 rfl) ?_
    refine wx_get (own := RX6) hx hb hts i_X6_undo_6 hown hC.1 Z (o := 16) (ci := 6) rfl (rfl : vwCl[6]? = some (RX6, TX6, 25)) 3 (by decide) (hts _ k_X6_undo_w3) (fun _ h9 => h9) (f := 0) rfl rfl dX6_undo_40 ?_
    refine lv_aload_n hx hb dX6_undo_43 rfl (lv_at hl 0 rfl) ?_
    refine wx_get (own := RX6) hx hb hts i_X6_undo_6 hown hC.1 Z (o := 16) (ci := 6) rfl (rfl : vwCl[6]? = some (RX6, TX6, 25)) 4 (by decide) (hts _ k_X6_undo_w0) (fun _ h9 => h9) (f := 1) rfl rfl dX6_undo_44 ?_
    refine lv_bipush (v := 64) hx hb dX6_undo_47 (by decide) ?_
    refine lv_imul hx hb dX6_undo_49 ?_
    refine lv_aload_n hx hb dX6_undo_50 rfl (lv_at hl 0 rfl) ?_
    refine wx_get (own := RX6) hx hb hts i_X6_undo_6 hown hC.1 Z (o := 16) (ci := 6) rfl (rfl : vwCl[6]? = some (RX6, TX6, 25)) 1 (by decide) (hts _ k_X6_undo_w4) (fun _ h9 => h9) (f := 0) rfl rfl dX6_undo_51 ?_
    refine lv_iconst (v := 0) hx hb dX6_undo_54 (by decide) ?_
    obtain ⟨v55, σ55, hc55, h⟩ := wx_b_ok h
    refine wx_call (va_runS (As := [.ref (ad 16 3), .int ((σ36.2.2.1 16 4) * 64), .ref (ad 16 1), .int 0]) (rest := []) ⟨hx, hb, hml, hown, hts⟩ (c_X6_movesWarmth l (D := D) (ad := ad) (rd := rd) (ca := ca) (A := A) (σ := σ36) (o0 := 16) (k0 := 3) (n0 := 384) (o2 := 16) (k2 := 1) (n2 := 64) (al := σ36.2.2.2.2) rfl rfl rfl hc55) (va_cwS 4 hts gX6_undo_X6_movesWarmth rfl rfl rfl (by decide +kernel) ⟨Nat.le_of_ble_eq_true rfl, Nat.le_of_ble_eq_true rfl⟩) (wx_preS hC Z hS hA) rfl rfl hl.1 rfl (lv_room (Nat.le_of_ble_eq_true rfl)) dX6_undo_55 ⟨Nat.zero_le _, Nat.zero_le _⟩) hS (fun H locs Z hS => ?_)
    refine lv_aload_n hx hb dX6_undo_58 rfl (lv_at hl 0 rfl) ?_
    refine wx_get (own := RX6) hx hb hts i_X6_undo_6 hown hC.1 Z (o := 16) (ci := 6) rfl (rfl : vwCl[6]? = some (RX6, TX6, 25)) 4 (by decide) (hts _ k_X6_undo_w0) (fun _ h9 => h9) (f := 1) rfl rfl dX6_undo_59 ?_
    obtain ⟨rfl, rfl⟩ := wx_ret_ok h
    exact W.iret hx hb hr (fun t ht hW => ⟨rfl, by rw [ht]; exact Z, hS.F ht⟩) hS.2.2 dX6_undo_62
  · replace h := wx_ift c4 h
    refine lv_bipush (v := (-5)) hx hb dX6_undo_7 (by decide) ?_
    obtain ⟨rfl, rfl⟩ := wx_ret_ok h
    exact W.iret hx hb hr (fun t ht hW => ⟨rfl, by rw [ht]; exact Z, hS.F ht⟩) hS.2.2 dX6_undo_9
set_option maxRecDepth 20000 in
theorem c_X6_undo (l : Launch) {D : va_G} {ad : Nat → Nat → Nat} {rd : Nat → Nat} {ca : Nat → ClassId} {A : Nat → Prop} {σ : wx_St}     {r : Int32} {σ' : wx_St} (h : f_X6_undo σ = some (r, σ')) : wx_M l yX6_undo wsX6_undo 1 24 D ad rd ca A [.ref (ad 16 99)] σ (some (.int r)) σ' := by
  refine Met.ofW (cc := cX6_undo) (maxL := 1) (ret := (some .int)) (by decide +kernel) rfl ?_
  intro p e s m args below meth c s₁ B0 hml hv
  obtain ⟨rfl, hC, Z, hA⟩ := hv
  have hl := lv_entry ([.ref (ad 16 99)]) (n := 1) (Nat.le_of_ble_eq_true rfl)
  rw [lg_entry_eq]
  generalize (lg_sl ([.ref (ad 16 99)]) ++ List.replicate (1 - (lg_sl ([.ref (ad 16 99)])).length) Slot.unset).toArray = ls at hl ⊢
  exact b_X6_undo_0 ⟨B0.exec, B0.bytes, hml, B0.returns, atoms_spec (ws := wsX6_undo) B0.pre, findClass_of_methodNamed B0.named, B0.notSynchronized, hC, hA⟩   h Z va_S.rf hl
set_option maxRecDepth 20000 in
set_option maxHeartbeats 4000000 in
theorem b_X6_warm_0 (B : wx_B p s m args meth c cX6_warm 3 (some .int) wsX6_warm RX6 D ad ca A)    {r : Int32} {σ' : wx_St}  {x1 : Int32} {σ : wx_St}  (h : f_X6_warm x1 σ = some (r, σ')) {H : Heap} {locs : List Loc} (Z : wx_Z D ad rd ca A σ H) (hS : va_S A s.heap H locs) {ls : Array Slot} (hl : lv_has ls 3 [(0, .ref (ad 16 99)), (1, .int x1)]) : W p l e ({ frames := 6, cells := 0, slots := 0, locals := 134 } : Room) s m args below meth c H locs 0 0 (MQ below (wx_Q D ad rd ca A (some (.int r)) σ') args s 0 0 A) (F0 m 0 ls []) := by
  obtain ⟨hx, hb, hml, hr, hts, hown, hlk, hC, hA⟩ := id B
  unfold f_X6_warm at h
  refine lv_aload_n hx hb dX6_warm_0 rfl (lv_at hl 0 rfl) ?_
  refine lv_iload_n hx hb dX6_warm_1 rfl (lv_at hl 1 rfl) ?_
  obtain ⟨v2, hc2, h⟩ := wx_o_ok h
  refine wx_call (va_runV (As := [.int x1]) (rest := []) ⟨hx, hb, hml, hown, hts⟩ (c_X6_whyNotWarmed l (D := D) (ad := ad) (rd := rd) (ca := ca) (A := A) (σ := σ) hc2) (cwV 1 hts gX6_warm_X6_whyNotWarmed rfl rfl rfl (by decide +kernel) ⟨Nat.le_of_ble_eq_true rfl, Nat.le_of_ble_eq_true rfl⟩) (wx_preV hC Z hS hA rfl (rfl : vwCl[6]? = some (RX6, TX6, 25))) rfl rfl hl.1 rfl (lv_room (Nat.le_of_ble_eq_true rfl)) dX6_warm_2 ⟨Nat.zero_le _, Nat.zero_le _⟩) hS (fun H locs Z hS => ?_)
  refine lv_istore_n (lv' := [(2, .int v2), (0, .ref (ad 16 99)), (1, .int x1)]) hx hb dX6_warm_5 rfl hl (by decide) rfl (fun ls hl => ?_)
  refine lv_iload_n hx hb dX6_warm_6 rfl (lv_at hl 0 rfl) ?_
  refine lv_if_ge (tgt := 12) hx hb dX6_warm_7 (by decide) (fun c7 => ?_) (fun c7 => ?_)
  · replace h := wx_ift c7 h
    refine lv_aload_n hx hb dX6_warm_12 rfl (lv_at hl 1 rfl) ?_
    obtain ⟨v13, σ13, hc13, h⟩ := wx_b_ok h
    refine wx_call (va_runV (As := []) (rest := []) ⟨hx, hb, hml, hown, hts⟩ (c_X6_record l (D := D) (ad := ad) (rd := rd) (ca := ca) (A := A) (σ := σ) hc13) (cwV 0 hts gX6_warm_X6_record rfl rfl rfl (by decide +kernel) ⟨Nat.le_of_ble_eq_true rfl, Nat.le_of_ble_eq_true rfl⟩) (wx_preV hC Z hS hA rfl (rfl : vwCl[6]? = some (RX6, TX6, 25))) rfl rfl hl.1 rfl (lv_room (Nat.le_of_ble_eq_true rfl)) dX6_warm_13 ⟨Nat.zero_le _, Nat.zero_le _⟩) hS (fun H locs Z hS => ?_)
    refine lv_aload_n hx hb dX6_warm_16 rfl (lv_at hl 1 rfl) ?_
    refine lv_iload_n hx hb dX6_warm_17 rfl (lv_at hl 2 rfl) ?_
    obtain ⟨v18, σ18, hc18, h⟩ := wx_b_ok h
    refine wx_call (va_runV (As := [.int x1]) (rest := []) ⟨hx, hb, hml, hown, hts⟩ (c_X6_warms l (D := D) (ad := ad) (rd := rd) (ca := ca) (A := A) (σ := σ13) hc18) (cwV 1 hts gX6_warm_X6_warms rfl rfl rfl (by decide +kernel) ⟨Nat.le_of_ble_eq_true rfl, Nat.le_of_ble_eq_true rfl⟩) (wx_preV hC Z hS hA rfl (rfl : vwCl[6]? = some (RX6, TX6, 25))) rfl rfl hl.1 rfl (lv_room (Nat.le_of_ble_eq_true rfl)) dX6_warm_18 ⟨Nat.zero_le _, Nat.zero_le _⟩) hS (fun H locs Z hS => ?_)
    obtain ⟨rfl, rfl⟩ := wx_ret_ok h
    exact W.iret hx hb hr (fun t ht hW => ⟨rfl, by rw [ht]; exact Z, hS.F ht⟩) hS.2.2 dX6_warm_21
  · replace h := wx_iff c7 h
    refine lv_iload_n hx hb dX6_warm_10 rfl (lv_at hl 0 rfl) ?_
    obtain ⟨rfl, rfl⟩ := wx_ret_ok h
    exact W.iret hx hb hr (fun t ht hW => ⟨rfl, by rw [ht]; exact Z, hS.F ht⟩) hS.2.2 dX6_warm_11
set_option maxRecDepth 20000 in
theorem c_X6_warm (l : Launch) {D : va_G} {ad : Nat → Nat → Nat} {rd : Nat → Nat} {ca : Nat → ClassId} {A : Nat → Prop} {σ : wx_St}    {x1 : Int32} {r : Int32} {σ' : wx_St} (h : f_X6_warm x1 σ = some (r, σ')) : wx_M l yX6_warm wsX6_warm 6 134 D ad rd ca A [.ref (ad 16 99), .int x1] σ (some (.int r)) σ' := by
  refine Met.ofW (cc := cX6_warm) (maxL := 3) (ret := (some .int)) (by decide +kernel) rfl ?_
  intro p e s m args below meth c s₁ B0 hml hv
  obtain ⟨rfl, hC, Z, hA⟩ := hv
  have hl := lv_entry ([.ref (ad 16 99), .int x1]) (n := 3) (Nat.le_of_ble_eq_true rfl)
  rw [lg_entry_eq]
  generalize (lg_sl ([.ref (ad 16 99), .int x1]) ++ List.replicate (3 - (lg_sl ([.ref (ad 16 99), .int x1])).length) Slot.unset).toArray = ls at hl ⊢
  exact b_X6_warm_0 ⟨B0.exec, B0.bytes, hml, B0.returns, atoms_spec (ws := wsX6_warm) B0.pre, findClass_of_methodNamed B0.named, B0.notSynchronized, hC, hA⟩   h Z va_S.rf hl
theorem i_X6_wipe_6 : ∀ w ∈ wsX60, w ∈ wsX6_wipe := by decide +kernel
theorem k_X6_wipe_w0 : Cond.fieldLink RX6 223 "WarmProbesModel" "padLength" "I" ∈ wsX6_wipe := by decide +kernel
set_option maxRecDepth 20000 in
set_option maxHeartbeats 4000000 in
theorem b_X6_wipe_0 (B : wx_B p s m args meth c cX6_wipe 2 (some .int) wsX6_wipe RX6 D ad ca A)    {r : Int32} {σ' : wx_St}   {σ : wx_St}  (h : f_X6_wipe σ = some (r, σ')) {H : Heap} {locs : List Loc} (Z : wx_Z D ad rd ca A σ H) (hS : va_S A s.heap H locs) {ls : Array Slot} (hl : lv_has ls 2 [(0, .ref (ad 16 99))]) : W p l e ({ frames := 0, cells := 0, slots := 0, locals := 0 } : Room) s m args below meth c H locs 0 0 (MQ below (wx_Q D ad rd ca A (some (.int r)) σ') args s 0 0 A) (F0 m 0 ls []) := by
  obtain ⟨hx, hb, hml, hr, hts, hown, hlk, hC, hA⟩ := id B
  unfold f_X6_wipe at h
  refine lv_aload_n hx hb dX6_wipe_0 rfl (lv_at hl 0 rfl) ?_
  refine wx_get (own := RX6) hx hb hts i_X6_wipe_6 hown hC.1 Z (o := 16) (ci := 6) rfl (rfl : vwCl[6]? = some (RX6, TX6, 25)) 9 (by decide) (hts _ k_X6_wipe_w0) (fun _ h9 => h9) (f := 1) rfl rfl dX6_wipe_1 ?_
  refine lv_istore_n (lv' := [(1, .int (σ.2.2.1 16 9)), (0, .ref (ad 16 99))]) hx hb dX6_wipe_4 rfl hl (by decide) rfl (fun ls hl => ?_)
  refine lv_aload_n hx hb dX6_wipe_5 rfl (lv_at hl 1 rfl) ?_
  refine lv_iconst (v := 0) hx hb dX6_wipe_6 (by decide) ?_
  obtain ⟨σ7, e7, h⟩ := wx_l_ok h
  refine wx_put (own := RX6) hx hb hts i_X6_wipe_6 tyX6 tyX6_ok nmX6 hown hC.1 Z hS (o := 16) (ci := 6) rfl (rfl : vwCl[6]? = some (RX6, TX6, 25)) 9 (by decide) (hts _ k_X6_wipe_w0) (fun _ h9 => h9) rfl (by decide +kernel) rfl dX6_wipe_7 e7 (fun H locs Z hS => ?_)
  refine lv_iload_n hx hb dX6_wipe_10 rfl (lv_at hl 0 rfl) ?_
  obtain ⟨rfl, rfl⟩ := wx_ret_ok h
  exact W.iret hx hb hr (fun t ht hW => ⟨rfl, by rw [ht]; exact Z, hS.F ht⟩) hS.2.2 dX6_wipe_11
set_option maxRecDepth 20000 in
theorem c_X6_wipe (l : Launch) {D : va_G} {ad : Nat → Nat → Nat} {rd : Nat → Nat} {ca : Nat → ClassId} {A : Nat → Prop} {σ : wx_St}     {r : Int32} {σ' : wx_St} (h : f_X6_wipe σ = some (r, σ')) : wx_M l yX6_wipe wsX6_wipe 0 0 D ad rd ca A [.ref (ad 16 99)] σ (some (.int r)) σ' := by
  refine Met.ofW (cc := cX6_wipe) (maxL := 2) (ret := (some .int)) (by decide +kernel) rfl ?_
  intro p e s m args below meth c s₁ B0 hml hv
  obtain ⟨rfl, hC, Z, hA⟩ := hv
  have hl := lv_entry ([.ref (ad 16 99)]) (n := 2) (Nat.le_of_ble_eq_true rfl)
  rw [lg_entry_eq]
  generalize (lg_sl ([.ref (ad 16 99)]) ++ List.replicate (2 - (lg_sl ([.ref (ad 16 99)])).length) Slot.unset).toArray = ls at hl ⊢
  exact b_X6_wipe_0 ⟨B0.exec, B0.bytes, hml, B0.returns, atoms_spec (ws := wsX6_wipe) B0.pre, findClass_of_methodNamed B0.named, B0.notSynchronized, hC, hA⟩   h Z va_S.rf hl
theorem i_X6_wouldRead_6 : ∀ w ∈ wsX60, w ∈ wsX6_wouldRead := by decide +kernel
theorem k_X6_wouldRead_w0 : Cond.fieldLink RX6 7 "WarmProbesModel" "state" "[I" ∈ wsX6_wouldRead := by decide +kernel
theorem k_X6_wouldRead_w1 : Cond.fieldLink RX6 35 "WarmProbesModel" "thought" "[F" ∈ wsX6_wouldRead := by decide +kernel
set_option maxRecDepth 20000 in
set_option maxHeartbeats 4000000 in
theorem b_X6_wouldRead_30 (B : wx_B p s m args meth c cX6_wouldRead 5 (some .int) wsX6_wouldRead RX6 D ad ca A)    {r : Int32} {σ' : wx_St}  {x1 : Int32} {x2 : Int32} {x3 : Int32} {x4 : Int32} {σ : wx_St}  (h : f_X6_wouldRead_30 x1 x2 x3 x4 σ = some (r, σ')) {H : Heap} {locs : List Loc} (Z : wx_Z D ad rd ca A σ H) (hS : va_S A s.heap H locs) {ls : Array Slot} (hl : lv_has ls 5 [(0, .ref (ad 16 99)), (1, .int x1), (2, .int x2), (3, .int x3), (4, .int x4)]) : W p l e ({ frames := 6, cells := 0, slots := 0, locals := 135 } : Room) s m args below meth c H locs 0 0 (MQ below (wx_Q D ad rd ca A (some (.int r)) σ') args s 0 0 A) (F0 m 30 ls []) := by
  obtain ⟨hx, hb, hml, hr, hts, hown, hlk, hC, hA⟩ := id B
  unfold f_X6_wouldRead_30 at h
  refine lv_iconst (v := (-1)) hx hb dX6_wouldRead_30 (by decide) ?_
  obtain ⟨rfl, rfl⟩ := wx_ret_ok h
  exact W.iret hx hb hr (fun t ht hW => ⟨rfl, by rw [ht]; exact Z, hS.F ht⟩) hS.2.2 dX6_wouldRead_31
set_option maxRecDepth 20000 in
set_option maxHeartbeats 4000000 in
theorem b_X6_wouldRead_0 (B : wx_B p s m args meth c cX6_wouldRead 5 (some .int) wsX6_wouldRead RX6 D ad ca A)    {r : Int32} {σ' : wx_St}  {x1 : Int32} {x2 : Int32} {x3 : Int32} {x4 : Int32} {σ : wx_St}  (h : f_X6_wouldRead x1 x2 x3 x4 σ = some (r, σ')) {H : Heap} {locs : List Loc} (Z : wx_Z D ad rd ca A σ H) (hS : va_S A s.heap H locs) {ls : Array Slot} (hl : lv_has ls 5 [(0, .ref (ad 16 99)), (1, .int x1), (2, .int x2), (3, .int x3), (4, .int x4)]) : W p l e ({ frames := 6, cells := 0, slots := 0, locals := 135 } : Room) s m args below meth c H locs 0 0 (MQ below (wx_Q D ad rd ca A (some (.int r)) σ') args s 0 0 A) (F0 m 0 ls []) := by
  obtain ⟨hx, hb, hml, hr, hts, hown, hlk, hC, hA⟩ := id B
  unfold f_X6_wouldRead at h
  refine lv_iload_n hx hb dX6_wouldRead_0 rfl (lv_at hl 1 rfl) ?_
  refine lv_iload_n hx hb dX6_wouldRead_1 rfl (lv_at hl 2 rfl) ?_
  obtain ⟨v2, hc2, h⟩ := wx_o_ok h
  refine wx_call (va_runS (As := [.int x1, .int x2]) (rest := []) ⟨hx, hb, hml, hown, hts⟩ (c_X6_isPlace l (D := D) (ad := ad) (rd := rd) (ca := ca) (A := A) (σ := σ) hc2) (va_cwS 2 hts gX6_wouldRead_X6_isPlace rfl rfl rfl (by decide +kernel) ⟨Nat.le_of_ble_eq_true rfl, Nat.le_of_ble_eq_true rfl⟩) (wx_preS hC Z hS hA) rfl rfl hl.1 rfl (lv_room (Nat.le_of_ble_eq_true rfl)) dX6_wouldRead_2 ⟨Nat.zero_le _, Nat.zero_le _⟩) hS (fun H locs Z hS => ?_)
  refine lv_if_eq (tgt := 30) hx hb dX6_wouldRead_5 (by decide) (fun c5 => ?_) (fun c5 => ?_)
  · replace h := wx_ift c5 h
    exact b_X6_wouldRead_30 B h Z hS (lv_sub hl [0, 1, 2, 3, 4] rfl)
  · replace h := wx_iff c5 h
    refine lv_iload_n hx hb dX6_wouldRead_8 rfl (lv_at hl 3 rfl) ?_
    refine lv_iload hx hb dX6_wouldRead_9 (lv_at hl 4 rfl) ?_
    obtain ⟨v11, hc11, h⟩ := wx_o_ok h
    refine wx_call (va_runS (As := [.int x3, .int x4]) (rest := []) ⟨hx, hb, hml, hown, hts⟩ (c_X6_isPlace l (D := D) (ad := ad) (rd := rd) (ca := ca) (A := A) (σ := σ) hc11) (va_cwS 2 hts gX6_wouldRead_X6_isPlace rfl rfl rfl (by decide +kernel) ⟨Nat.le_of_ble_eq_true rfl, Nat.le_of_ble_eq_true rfl⟩) (wx_preS hC Z hS hA) rfl rfl hl.1 rfl (lv_room (Nat.le_of_ble_eq_true rfl)) dX6_wouldRead_11 ⟨Nat.zero_le _, Nat.zero_le _⟩) hS (fun H locs Z hS => ?_)
    refine lv_if_eq (tgt := 30) hx hb dX6_wouldRead_14 (by decide) (fun c14 => ?_) (fun c14 => ?_)
    · replace h := wx_ift c14 h
      exact b_X6_wouldRead_30 B h Z hS (lv_sub hl [0, 1, 2, 3, 4] rfl)
    · replace h := wx_iff c14 h
      refine lv_aload_n hx hb dX6_wouldRead_17 rfl (lv_at hl 0 rfl) ?_
      refine lv_iload_n hx hb dX6_wouldRead_18 rfl (lv_at hl 3 rfl) ?_
      refine lv_iload hx hb dX6_wouldRead_19 (lv_at hl 4 rfl) ?_
      obtain ⟨v21, hc21, h⟩ := wx_o_ok h
      refine wx_call (va_runS (As := [.int x3, .int x4]) (rest := [.ref (ad 16 99)]) ⟨hx, hb, hml, hown, hts⟩ (c_X6_placeOf l (D := D) (ad := ad) (rd := rd) (ca := ca) (A := A) (σ := σ) hc21) (va_cwS 2 hts gX6_wouldRead_X6_placeOf rfl rfl rfl (by decide +kernel) ⟨Nat.le_of_ble_eq_true rfl, Nat.le_of_ble_eq_true rfl⟩) (wx_preS hC Z hS hA) rfl rfl hl.1 rfl (lv_room (Nat.le_of_ble_eq_true rfl)) dX6_wouldRead_21 ⟨Nat.zero_le _, Nat.zero_le _⟩) hS (fun H locs Z hS => ?_)
      obtain ⟨v24, hc24, h⟩ := wx_o_ok h
      refine wx_call (va_runV (As := [.int v21]) (rest := []) ⟨hx, hb, hml, hown, hts⟩ (c_X6_isSuspect l (D := D) (ad := ad) (rd := rd) (ca := ca) (A := A) (σ := σ) hc24) (cwV 1 hts gX6_wouldRead_X6_isSuspect rfl rfl rfl (by decide +kernel) ⟨Nat.le_of_ble_eq_true rfl, Nat.le_of_ble_eq_true rfl⟩) (wx_preV hC Z hS hA rfl (rfl : vwCl[6]? = some (RX6, TX6, 25))) rfl rfl hl.1 rfl (lv_room (Nat.le_of_ble_eq_true rfl)) dX6_wouldRead_24 ⟨Nat.zero_le _, Nat.zero_le _⟩) hS (fun H locs Z hS => ?_)
      refine lv_if_ne (tgt := 32) hx hb dX6_wouldRead_27 (by decide) (fun c27 => ?_) (fun c27 => ?_)
      · replace h := wx_iff c27 h
        refine lv_aload_n hx hb dX6_wouldRead_32 rfl (lv_at hl 0 rfl) ?_
        refine lv_iload_n hx hb dX6_wouldRead_33 rfl (lv_at hl 3 rfl) ?_
        refine lv_iload hx hb dX6_wouldRead_34 (lv_at hl 4 rfl) ?_
        obtain ⟨v36, hc36, h⟩ := wx_o_ok h
        refine wx_call (va_runS (As := [.int x3, .int x4]) (rest := [.ref (ad 16 99)]) ⟨hx, hb, hml, hown, hts⟩ (c_X6_placeOf l (D := D) (ad := ad) (rd := rd) (ca := ca) (A := A) (σ := σ) hc36) (va_cwS 2 hts gX6_wouldRead_X6_placeOf rfl rfl rfl (by decide +kernel) ⟨Nat.le_of_ble_eq_true rfl, Nat.le_of_ble_eq_true rfl⟩) (wx_preS hC Z hS hA) rfl rfl hl.1 rfl (lv_room (Nat.le_of_ble_eq_true rfl)) dX6_wouldRead_36 ⟨Nat.zero_le _, Nat.zero_le _⟩) hS (fun H locs Z hS => ?_)
        refine lv_aload_n hx hb dX6_wouldRead_39 rfl (lv_at hl 0 rfl) ?_
        refine wx_get (own := RX6) hx hb hts i_X6_wouldRead_6 hown hC.1 Z (o := 16) (ci := 6) rfl (rfl : vwCl[6]? = some (RX6, TX6, 25)) 0 (by decide) (hts _ k_X6_wouldRead_w0) (fun _ h9 => h9) (f := 0) rfl rfl dX6_wouldRead_40 ?_
        refine lv_iconst (v := 4) hx hb dX6_wouldRead_43 (by decide) ?_
        obtain ⟨v44, ev44, iv44, h⟩ := wx_rI_ok h
        refine wx_iald hx hb hC.1 Z (o := 16) (k := 0) (n := 109) rfl rfl iv44 dX6_wouldRead_44 ev44 ?_
        obtain ⟨v45, σ45, hc45, h⟩ := wx_b_ok h
        refine wx_call (va_runV (As := [.int v36, .int v44]) (rest := []) ⟨hx, hb, hml, hown, hts⟩ (c_X6_thinks l (D := D) (ad := ad) (rd := rd) (ca := ca) (A := A) (σ := σ) hc45) (cwV 2 hts gX6_wouldRead_X6_thinks rfl rfl rfl (by decide +kernel) ⟨Nat.le_of_ble_eq_true rfl, Nat.le_of_ble_eq_true rfl⟩) (wx_preV hC Z hS hA rfl (rfl : vwCl[6]? = some (RX6, TX6, 25))) rfl rfl hl.1 rfl (lv_room (Nat.le_of_ble_eq_true rfl)) dX6_wouldRead_45 ⟨Nat.zero_le _, Nat.zero_le _⟩) hS (fun H locs Z hS => ?_)
        refine lv_aload_n hx hb dX6_wouldRead_48 rfl (lv_at hl 0 rfl) ?_
        refine wx_get (own := RX6) hx hb hts i_X6_wouldRead_6 hown hC.1 Z (o := 16) (ci := 6) rfl (rfl : vwCl[6]? = some (RX6, TX6, 25)) 10 (by decide) (hts _ k_X6_wouldRead_w1) (fun _ h9 => h9) (f := 0) rfl rfl dX6_wouldRead_49 ?_
        refine lv_iload_n hx hb dX6_wouldRead_52 rfl (lv_at hl 1 rfl) ?_
        refine lv_iload_n hx hb dX6_wouldRead_53 rfl (lv_at hl 2 rfl) ?_
        obtain ⟨v54, hc54, h⟩ := wx_o_ok h
        refine wx_call (va_runS (As := [.int x1, .int x2]) (rest := [.ref (ad 16 10)]) ⟨hx, hb, hml, hown, hts⟩ (c_X6_placeOf l (D := D) (ad := ad) (rd := rd) (ca := ca) (A := A) (σ := σ45) hc54) (va_cwS 2 hts gX6_wouldRead_X6_placeOf rfl rfl rfl (by decide +kernel) ⟨Nat.le_of_ble_eq_true rfl, Nat.le_of_ble_eq_true rfl⟩) (wx_preS hC Z hS hA) rfl rfl hl.1 rfl (lv_room (Nat.le_of_ble_eq_true rfl)) dX6_wouldRead_54 ⟨Nat.zero_le _, Nat.zero_le _⟩) hS (fun H locs Z hS => ?_)
        obtain ⟨v57, ev57, iv57, h⟩ := wx_rF_ok h
        refine wx_fald hx hb hC.1 Z (o := 16) (k := 10) (n := 64) rfl rfl iv57 dX6_wouldRead_57 ev57 ?_
        obtain ⟨v58, hc58, h⟩ := wx_o_ok h
        refine wx_call (va_runS (As := [.float v57]) (rest := []) ⟨hx, hb, hml, hown, hts⟩ (c_X6_readOf l (D := D) (ad := ad) (rd := rd) (ca := ca) (A := A) (σ := σ45) hc58) (va_cwS 1 hts gX6_wouldRead_X6_readOf rfl rfl rfl (by decide +kernel) ⟨Nat.le_of_ble_eq_true rfl, Nat.le_of_ble_eq_true rfl⟩) (wx_preS hC Z hS hA) rfl rfl hl.1 rfl (lv_room (Nat.le_of_ble_eq_true rfl)) dX6_wouldRead_58 ⟨Nat.zero_le _, Nat.zero_le _⟩) hS (fun H locs Z hS => ?_)
        obtain ⟨rfl, rfl⟩ := wx_ret_ok h
        exact W.iret hx hb hr (fun t ht hW => ⟨rfl, by rw [ht]; exact Z, hS.F ht⟩) hS.2.2 dX6_wouldRead_61
      · replace h := wx_ift c27 h
        exact b_X6_wouldRead_30 B h Z hS (lv_sub hl [0, 1, 2, 3, 4] rfl)
set_option maxRecDepth 20000 in
theorem c_X6_wouldRead (l : Launch) {D : va_G} {ad : Nat → Nat → Nat} {rd : Nat → Nat} {ca : Nat → ClassId} {A : Nat → Prop} {σ : wx_St}    {x1 : Int32} {x2 : Int32} {x3 : Int32} {x4 : Int32} {r : Int32} {σ' : wx_St} (h : f_X6_wouldRead x1 x2 x3 x4 σ = some (r, σ')) : wx_M l yX6_wouldRead wsX6_wouldRead 6 135 D ad rd ca A [.ref (ad 16 99), .int x1, .int x2, .int x3, .int x4] σ (some (.int r)) σ' := by
  refine Met.ofW (cc := cX6_wouldRead) (maxL := 5) (ret := (some .int)) (by decide +kernel) rfl ?_
  intro p e s m args below meth c s₁ B0 hml hv
  obtain ⟨rfl, hC, Z, hA⟩ := hv
  have hl := lv_entry ([.ref (ad 16 99), .int x1, .int x2, .int x3, .int x4]) (n := 5) (Nat.le_of_ble_eq_true rfl)
  rw [lg_entry_eq]
  generalize (lg_sl ([.ref (ad 16 99), .int x1, .int x2, .int x3, .int x4]) ++ List.replicate (5 - (lg_sl ([.ref (ad 16 99), .int x1, .int x2, .int x3, .int x4])).length) Slot.unset).toArray = ls at hl ⊢
  exact b_X6_wouldRead_0 ⟨B0.exec, B0.bytes, hml, B0.returns, atoms_spec (ws := wsX6_wouldRead) B0.pre, findClass_of_methodNamed B0.named, B0.notSynchronized, hC, hA⟩   h Z va_S.rf hl
