def f_X2_append_48   (x1 : Int64) (x3 : Int32) (x4 : Int64) (σ : wx_St) : Option (Int32 × wx_St) :=
  some ((-2), σ)
def f_X2_append_75   (x1 : Int64) (x3 : Int32) (x4 : Int64) (σ : wx_St) : Option (Int32 × wx_St) :=
  some ((-2), σ)
def f_X2_append_95   : Nat → Int64 → Int32 → Int64 → Int32 → wx_St → Option (Int32 × wx_St)
  | 0, _, _, _, _, _ => none
  | n + 1, x1, x3, x4, x6, σ =>
  if x3 ≤ x6 then
    wx_l (wx_sS σ 15 1 ((σ.2.2.1 15 1) + x3)) (fun σ142 => some ((σ142.2.2.1 15 1), σ142))
   else
    wx_w (wx_sI σ 15 0 (Int32.toNatClampNeg ((σ.2.2.1 15 1) + x6)) ((((x1.toUInt64 >>> ((8 * ((x3 - 1) - x6)).toInt64.toUInt64 &&& Int64.toUInt64 63)).toInt64) &&& (255 : Int64)).toInt32)) 80 ((σ.2.2.1 15 1) + x6) (fun σ128 => (f_X2_append_95 n) x1 x3 x4 (x6 + 1) σ128)
def f_X2_append_64   (x1 : Int64) (x3 : Int32) (x4 : Int64) (σ : wx_St) : Option (Int32 × wx_St) :=
  if x3 = 0 then
    f_X2_append_75 x1 x3 x4 σ
   else
    if (lg_cmp x4 (0 : Int64)) = 0 then
      if ((σ.2.2.1 15 1) + x3) ≤ 80 then
        f_X2_append_95 2000 x1 x3 x4 0 σ
       else
        some ((-4), σ)
     else
      f_X2_append_75 x1 x3 x4 σ
def f_X2_append_5   : Nat → Int64 → Int32 → Int64 → wx_St → Option (Int32 × wx_St)
  | 0, _, _, _, _ => none
  | n + 1, x1, x3, x4, σ =>
  if 8 ≤ x3 then
    f_X2_append_64 x1 x3 x4 σ
   else
    if (lg_cmp (x4 &&& (255 : Int64)) (0 : Int64)) = 0 then
      f_X2_append_64 x1 x3 x4 σ
     else
      if (lg_cmp (x4 &&& (255 : Int64)) (33 : Int64)) < 0 then
        f_X2_append_48 x1 x3 x4 σ
       else
        if (lg_cmp (x4 &&& (255 : Int64)) (126 : Int64)) ≤ 0 then
          (f_X2_append_5 n) x1 (x3 + 1) ((x4.toUInt64 >>> ((8 : Int32).toInt64.toUInt64 &&& Int64.toUInt64 63)).toInt64) σ
         else
          f_X2_append_48 x1 x3 x4 σ
def f_X2_append   (x1 : Int64) (σ : wx_St) : Option (Int32 × wx_St) :=
  f_X2_append_5 2000 x1 0 x1 σ
def f_X2_clear    (σ : wx_St) : Option (Int32 × wx_St) :=
  wx_l (wx_sS σ 15 1 0) (fun σ7 => some ((σ.2.2.1 15 1), σ7))
def f_X2_codeAt_22   (x1 : Int32) (y0 : Int32) (σ : wx_St) : Option Int32 :=
  some y0
def f_X2_codeAt_21   (x1 : Int32) (σ : wx_St) : Option Int32 :=
  f_X2_codeAt_22 x1 0 σ
def f_X2_codeAt   (x1 : Int32) (σ : wx_St) : Option Int32 :=
  if x1 < 0 then
    f_X2_codeAt_21 x1 σ
   else
    if (σ.2.2.1 15 1) ≤ x1 then
      f_X2_codeAt_21 x1 σ
     else
      wx_rI σ 15 0 80 x1 (fun v17 => f_X2_codeAt_22 x1 v17 σ)
def f_X2_columnAt   (x1 : Int32) (σ : wx_St) : Option Int32 :=
  wx_o (f_X2_codeAt x1 σ) (fun v2 => some (v2 - 97))
def f_X2_digitAt   (x1 : Int32) (σ : wx_St) : Option Int32 :=
  wx_o (f_X2_codeAt x1 σ) (fun v2 => some (v2 - 48))
def f_X2_isColumn_25   (x1 : Int32) (y0 : Int32) (σ : wx_St) : Option Int32 :=
  wx_z y0 (some y0)
def f_X2_isColumn_24   (x1 : Int32) (σ : wx_St) : Option Int32 :=
  f_X2_isColumn_25 x1 0 σ
def f_X2_isColumn   (x1 : Int32) (σ : wx_St) : Option Int32 :=
  wx_o (f_X2_codeAt x1 σ) (fun v2 => if v2 < 97 then
    f_X2_isColumn_24 x1 σ
   else
    wx_o (f_X2_codeAt x1 σ) (fun v12 => if 104 < v12 then
      f_X2_isColumn_24 x1 σ
     else
      f_X2_isColumn_25 x1 1 σ))
def f_X2_isDigit_25   (x1 : Int32) (y0 : Int32) (σ : wx_St) : Option Int32 :=
  wx_z y0 (some y0)
def f_X2_isDigit_24   (x1 : Int32) (σ : wx_St) : Option Int32 :=
  f_X2_isDigit_25 x1 0 σ
def f_X2_isDigit   (x1 : Int32) (σ : wx_St) : Option Int32 :=
  wx_o (f_X2_codeAt x1 σ) (fun v2 => if v2 < 48 then
    f_X2_isDigit_24 x1 σ
   else
    wx_o (f_X2_codeAt x1 σ) (fun v12 => if 57 < v12 then
      f_X2_isDigit_24 x1 σ
     else
      f_X2_isDigit_25 x1 1 σ))
def f_X2_endOf_68 (i : Nat) (K2 : Int32 → Int32 → wx_St → Option Int32) (x2 : Int32) (x3 : Int32) (x4 : Int32) (y0 : Int32) (σ : wx_St) : Option Int32 :=
  if y0 = 0 then
    some ((x2 + x3) ^^^ (-1))
   else
    K2 x2 (x3 + 1) σ
def f_X2_endOf_2 (i : Nat)  : Nat → Int32 → Int32 → wx_St → Option Int32
  | 0, _, _, _ => none
  | n + 1, x2, x3, σ =>
  wx_o (f_J0_length_8abf5 i) (fun v4 => if v4 ≤ x3 then
    wx_o (f_J0_length_8abf5 i) (fun v89 => some (x2 + v89))
   else
    wx_o (f_J0_charAt_5068e i x3) (fun v12 => if v12 = 100 then
      wx_o (f_X2_isDigit (x2 + x3) σ) (fun v28 => f_X2_endOf_68 i (f_X2_endOf_2 i n) x2 x3 v12 v28 σ)
     else
      if v12 = 99 then
        wx_o (f_X2_isColumn (x2 + x3) σ) (fun v45 => f_X2_endOf_68 i (f_X2_endOf_2 i n) x2 x3 v12 v45 σ)
       else
        wx_o (f_X2_codeAt (x2 + x3) σ) (fun v55 => if v55 = v12 then
          f_X2_endOf_68 i (f_X2_endOf_2 i n) x2 x3 v12 1 σ
         else
          f_X2_endOf_68 i (f_X2_endOf_2 i n) x2 x3 v12 0 σ)))
def f_X2_endOf (i : Nat)  (x2 : Int32) (σ : wx_St) : Option Int32 :=
  f_X2_endOf_2 i 2000 x2 0 σ
def f_X2_endOfNumber_41   (x1 : Int32) (y0 : Int32) (σ : wx_St) : Option Int32 :=
  some y0
def f_X2_endOfNumber_38   (x1 : Int32) (σ : wx_St) : Option Int32 :=
  f_X2_endOfNumber_41 x1 (x1 + 1) σ
def f_X2_endOfNumber   (x1 : Int32) (σ : wx_St) : Option Int32 :=
  wx_o (f_X2_isDigit x1 σ) (fun v2 => if v2 = 0 then
    some (x1 ^^^ (-1))
   else
    wx_o (f_X2_codeAt x1 σ) (fun v14 => if v14 = 48 then
      f_X2_endOfNumber_38 x1 σ
     else
      wx_o (f_X2_isDigit (x1 + 1) σ) (fun v26 => if v26 = 0 then
        f_X2_endOfNumber_38 x1 σ
       else
        f_X2_endOfNumber_41 x1 (x1 + 2) σ)))
def f_X2_endOfPlaces_36   (x1 : Int32) (x2 : Int32) (x3 : Int32) (σ : wx_St) : Option Int32 :=
  some x2
def f_X2_endOfPlaces_4   : Nat → Int32 → Int32 → Int32 → wx_St → Option Int32
  | 0, _, _, _, _ => none
  | n + 1, x1, x2, x3, σ =>
  if 80 ≤ x3 then
    f_X2_endOfPlaces_36 x1 x2 x3 σ
   else
    if x2 < 0 then
      f_X2_endOfPlaces_36 x1 x2 x3 σ
     else
      wx_o (f_X2_isColumn x2 σ) (fun v16 => if v16 = 0 then
        f_X2_endOfPlaces_36 x1 x2 x3 σ
       else
        wx_o (f_X2_endOf 1 x2 σ) (fun v26 => (f_X2_endOfPlaces_4 n) x1 v26 (x3 + 1) σ))
def f_X2_endOfPlaces   (x1 : Int32) (σ : wx_St) : Option Int32 :=
  f_X2_endOfPlaces_4 2000 x1 x1 0 σ
def f_X2_endOfOrder   (x1 : Int32) (σ : wx_St) : Option Int32 :=
  wx_o (f_X2_codeAt x1 σ) (fun v2 => if v2 = 102 then
    wx_o (f_X2_endOf 2 (x1 + 1) σ) (fun v112 => some v112)
   else
    if v2 = 103 then
      some (x1 ^^^ (-1))
     else
      if v2 = 104 then
        some (x1 ^^^ (-1))
       else
        if v2 = 105 then
          some (x1 ^^^ (-1))
         else
          if v2 = 106 then
            some (x1 ^^^ (-1))
           else
            if v2 = 107 then
              some (x1 ^^^ (-1))
             else
              if v2 = 108 then
                some (x1 ^^^ (-1))
               else
                if v2 = 109 then
                  wx_o (f_X2_endOf 4 (x1 + 1) σ) (fun v132 => some v132)
                 else
                  if v2 = 110 then
                    some (x1 ^^^ (-1))
                   else
                    if v2 = 111 then
                      some (x1 ^^^ (-1))
                     else
                      if v2 = 112 then
                        wx_o (f_X2_endOf 1 (x1 + 1) σ) (fun v150 => some v150)
                       else
                        if v2 = 113 then
                          some (x1 ^^^ (-1))
                         else
                          if v2 = 114 then
                            some (x1 ^^^ (-1))
                           else
                            if v2 = 115 then
                              wx_o (f_X2_endOf 3 (x1 + 1) σ) (fun v122 => some v122)
                             else
                              if v2 = 116 then
                                wx_o (f_X2_endOf 0 (x1 + 1) σ) (fun v99 => wx_o (f_X2_endOfPlaces v99 σ) (fun v102 => some v102))
                               else
                                if v2 = 117 then
                                  some (x1 ^^^ (-1))
                                 else
                                  if v2 = 118 then
                                    some (x1 ^^^ (-1))
                                   else
                                    if v2 = 119 then
                                      wx_o (f_X2_endOfNumber (x1 + 1) σ) (fun v140 => some v140)
                                     else
                                      some (x1 ^^^ (-1)))
def f_X2_firstFault_4   : Nat → Int32 → Int32 → wx_St → Option Int32
  | 0, _, _, _ => none
  | n + 1, x1, x2, σ =>
  if 80 ≤ x2 then
    some (σ.2.2.1 15 1)
   else
    wx_o (f_X2_endOfOrder x1 σ) (fun v12 => if 0 ≤ v12 then
      if v12 < (σ.2.2.1 15 1) then
        wx_o (f_X2_codeAt v12 σ) (fun v37 => if v37 = 59 then
          (f_X2_firstFault_4 n) (v12 + 1) (x2 + 1) σ
         else
          some v12)
       else
        some (-6)
     else
      some (v12 ^^^ (-1)))
def f_X2_firstFault    (σ : wx_St) : Option Int32 :=
  f_X2_firstFault_4 2000 0 0 σ
def f_X2_numberIn_5   : Nat → Int32 → Int32 → Int32 → Int32 → wx_St → Option Int32
  | 0, _, _, _, _, _ => none
  | n + 1, x1, x2, x3, x4, σ =>
  if x2 ≤ x4 then
    some x3
   else
    wx_o (f_X2_digitAt x4 σ) (fun v18 => (f_X2_numberIn_5 n) x1 x2 ((10 * x3) + v18) (x4 + 1) σ)
def f_X2_numberIn   (x1 : Int32) (x2 : Int32) (σ : wx_St) : Option Int32 :=
  f_X2_numberIn_5 2000 x1 x2 0 x1 σ
def f_X2_ordersIn_21   (x1 : Int32) (x2 : Int32) (y0 : Int32) (σ : wx_St) : Option Int32 :=
  some y0
def f_X2_ordersIn   (x1 : Int32) (x2 : Int32) (σ : wx_St) : Option Int32 :=
  wx_o (f_X2_codeAt x1 σ) (fun v2 => if v2 = 116 then
    f_X2_ordersIn_21 x1 x2 (((x2 - x1) - 2) / 2) σ
   else
    f_X2_ordersIn_21 x1 x2 1 σ)
def f_X3_goBack (b1 : Nat)   (σ : wx_St) : Option (Int32 × wx_St) :=
  if (σ.2.2.1 14 1) = 0 then
    some ((-5), σ)
   else
    wx_l (wx_sS σ 14 1 ((σ.2.2.1 14 1) - 1)) (fun σ17 => wx_rR σ17 14 7 (σ17.2.2.1 14 1) (fun z29 => wx_b (f_X0_takeOver b1 z29 σ17) (fun v30 σ30 => some ((σ30.2.2.1 14 1), σ30))))
def f_X3_kept_36   : Nat → Int32 → Nat → Int32 → wx_St → Option (Int32 × wx_St)
  | 0, _, _, _, _ => none
  | n + 1, x1, z2, x3, σ =>
  if 6 ≤ x3 then
    wx_w (wx_sR σ (Int32.toNatClampNeg 6) z2) 7 6 (fun σ69 => some (x1, σ69))
   else
    wx_rR σ 14 7 (x3 + 1) (fun z54 => wx_w (wx_sR σ (Int32.toNatClampNeg x3) z54) 7 x3 (fun σ55 => (f_X3_kept_36 n) x1 z2 (x3 + 1) σ55))
def f_X3_kept   (x1 : Int32) (σ : wx_St) : Option (Int32 × wx_St) :=
  if 0 ≤ x1 then
    if 6 ≤ (σ.2.2.1 14 1) then
      wx_rR σ 14 7 0 (fun z32 => f_X3_kept_36 2000 x1 z32 0 σ)
     else
      wx_l (wx_sS σ 14 1 ((σ.2.2.1 14 1) + 1)) (fun σ22 => some (x1, σ22))
   else
    some (x1, σ)
def f_X3_prepare (b1 : Nat)   (σ : wx_St) : Option (Unit × wx_St) :=
  wx_rR σ 14 7 (σ.2.2.1 14 1) (fun z8 => wx_b (f_X0_takeOver z8 b1 σ) (fun v10 σ10 => some ((), σ10)))
def f_X4_fits_80 (b1 : Nat) (K14 : Int32 → Int32 → Int32 → wx_St → Option (Int32 × wx_St)) (x2 : Int32) (x3 : Int32) (x4 : Int32) (x5 : UInt32) (σ : wx_St) : Option (Int32 × wx_St) :=
  wx_o (f_X5_readOf x5) (fun v82 => wx_rI σ b1 11 8 x4 (fun v91 => wx_rI σ b1 0 4 3 (fun v101 => if (if 0 ≤ (v82 - v91) then (v82 - v91) else 0 - (v82 - v91)) ≤ v101 then
    K14 x2 x3 (x4 + 1) σ
   else
    some (0, σ))))
def f_X4_fits_77 (b1 : Nat) (K14 : Int32 → Int32 → Int32 → wx_St → Option (Int32 × wx_St)) (x2 : Int32) (x3 : Int32) (x4 : Int32) (x5 : UInt32) (y0 : UInt32) (y1 : UInt32) (σ : wx_St) : Option (Int32 × wx_St) :=
  wx_f (FP.fadd y0 y1) (fun v77 => f_X4_fits_80 b1 K14 x2 x3 x4 v77 σ)
def f_X4_fits_45 (b1 : Nat) (K14 : Int32 → Int32 → Int32 → wx_St → Option (Int32 × wx_St)) (x2 : Int32) (x3 : Int32) (x4 : Int32) (y0 : UInt32) (σ : wx_St) : Option (Int32 × wx_St) :=
  if x3 = (-6) then
    f_X4_fits_80 b1 K14 x2 x3 x4 y0 σ
   else
    wx_rI σ b1 12 8 x4 (fun v66 => wx_rI σ b1 10 8 x4 (fun v73 => wx_b (f_X1_warmthBy x3 v66 v73 σ) (fun v74 σ74 => f_X4_fits_77 b1 K14 x2 x3 x4 y0 y0 v74 σ74)))
def f_X4_fits_14 (b1 : Nat)  : Nat → Int32 → Int32 → Int32 → wx_St → Option (Int32 × wx_St)
  | 0, _, _, _, _ => none
  | n + 1, x2, x3, x4, σ =>
  if (σ.2.2.1 b1 9) ≤ x4 then
    some (1, σ)
   else
    wx_rI σ b1 12 8 x4 (fun v34 => wx_rI σ b1 10 8 x4 (fun v41 => wx_b (f_X1_warmthBy x2 v34 v41 σ) (fun v42 σ42 => f_X4_fits_45 b1 (f_X4_fits_14 b1 n) x2 x3 x4 v42 σ42)))
def f_X4_fits (b1 : Nat)  (x2 : Int32) (x3 : Int32) (σ : wx_St) : Option (Int32 × wx_St) :=
  wx_b (f_X1_follow b1 0 σ) (fun v8 σ8 => f_X4_fits_14 b1 2000 x2 x3 0 σ8)
def f_X4_couldBe_24 (b1 : Nat)  (x2 : Int32) (y0 : Int32) (σ : wx_St) : Option (Int32 × wx_St) :=
  wx_z y0 (some (y0, σ))
def f_X4_couldBe_23 (b1 : Nat)  (x2 : Int32) (σ : wx_St) : Option (Int32 × wx_St) :=
  f_X4_couldBe_24 b1 x2 0 σ
def f_X4_couldBe_16 (b1 : Nat)  (x2 : Int32) (y0 : Int32) (σ : wx_St) : Option (Int32 × wx_St) :=
  if y0 = 0 then
    f_X4_couldBe_23 b1 x2 σ
   else
    f_X4_couldBe_24 b1 x2 1 σ
def f_X4_couldBe (b1 : Nat)  (x2 : Int32) (σ : wx_St) : Option (Int32 × wx_St) :=
  wx_o (f_X0_isSuspect b1 x2 σ) (fun v2 => if v2 = 0 then
    f_X4_couldBe_23 b1 x2 σ
   else
    wx_b (f_X4_fits b1 x2 (-6) σ) (fun v13 σ13 => f_X4_couldBe_16 b1 x2 v13 σ13))
def f_X4_couldBeOneOfTwo_51 (b1 : Nat) (K12 : Int32 → Int32 → wx_St → Option (Int32 × wx_St)) (x2 : Int32) (x3 : Int32) (σ : wx_St) : Option (Int32 × wx_St) :=
  K12 x2 (x3 + 1) σ
def f_X4_couldBeOneOfTwo_46 (b1 : Nat) (K12 : Int32 → Int32 → wx_St → Option (Int32 × wx_St)) (x2 : Int32) (x3 : Int32) (y0 : Int32) (σ : wx_St) : Option (Int32 × wx_St) :=
  if y0 = 0 then
    f_X4_couldBeOneOfTwo_51 b1 K12 x2 x3 σ
   else
    some (1, σ)
def f_X4_couldBeOneOfTwo_12 (b1 : Nat)  : Nat → Int32 → Int32 → wx_St → Option (Int32 × wx_St)
  | 0, _, _, _ => none
  | n + 1, x2, x3, σ =>
  if 64 ≤ x3 then
    some (0, σ)
   else
    if x3 = x2 then
      f_X4_couldBeOneOfTwo_51 b1 (f_X4_couldBeOneOfTwo_12 b1 n) x2 x3 σ
     else
      wx_o (f_X0_isSuspect b1 x3 σ) (fun v25 => if v25 = 0 then
        f_X4_couldBeOneOfTwo_51 b1 (f_X4_couldBeOneOfTwo_12 b1 n) x2 x3 σ
       else
        wx_b (f_X4_fits b1 (if x3 < x2 then x3 else x2) (if x2 < x3 then x3 else x2) σ) (fun v43 σ43 => f_X4_couldBeOneOfTwo_46 b1 (f_X4_couldBeOneOfTwo_12 b1 n) x2 x3 v43 σ43))
def f_X4_couldBeOneOfTwo (b1 : Nat)  (x2 : Int32) (σ : wx_St) : Option (Int32 × wx_St) :=
  wx_o (f_X0_isSuspect b1 x2 σ) (fun v2 => if v2 = 0 then
    some (0, σ)
   else
    f_X4_couldBeOneOfTwo_12 b1 2000 x2 0 σ)
def f_X4_fitting_29 (b1 : Nat) (K5 : Int64 → Int32 → wx_St → Option (Int64 × wx_St)) (x2 : Int64) (x4 : Int32) (σ : wx_St) : Option (Int64 × wx_St) :=
  K5 x2 (x4 + 1) σ
def f_X4_fitting_19 (b1 : Nat) (K5 : Int64 → Int32 → wx_St → Option (Int64 × wx_St)) (x2 : Int64) (x4 : Int32) (y0 : Int32) (σ : wx_St) : Option (Int64 × wx_St) :=
  if y0 = 0 then
    f_X4_fitting_29 b1 K5 x2 x4 σ
   else
    f_X4_fitting_29 b1 K5 (x2 ||| ((1 : Int64) <<< (x4.toInt64 &&& 63))) x4 σ
def f_X4_fitting_5 (b1 : Nat)  : Nat → Int64 → Int32 → wx_St → Option (Int64 × wx_St)
  | 0, _, _, _ => none
  | n + 1, x2, x4, σ =>
  if 64 ≤ x4 then
    some (x2, σ)
   else
    wx_b (f_X4_couldBe b1 x4 σ) (fun v16 σ16 => f_X4_fitting_19 b1 (f_X4_fitting_5 b1 n) x2 x4 v16 σ16)
def f_X4_fitting (b1 : Nat)   (σ : wx_St) : Option (Int64 × wx_St) :=
  f_X4_fitting_5 b1 2000 (0 : Int64) 0 σ
def f_X4_isAmong_2   : Nat → Int32 → Int32 → Int32 → wx_St → Option Int32
  | 0, _, _, _, _ => none
  | n + 1, x1, x2, x3, σ =>
  if x1 ≤ x3 then
    some 0
   else
    wx_rI σ 12 1 64 x3 (fun v12 => if v12 = x2 then
      some 1
     else
      (f_X4_isAmong_2 n) x1 x2 (x3 + 1) σ)
def f_X4_isAmong   (x1 : Int32) (x2 : Int32) (σ : wx_St) : Option Int32 :=
  f_X4_isAmong_2 2000 x1 x2 0 σ
def f_X4_pairs_64 (b1 : Nat) (K11 : Int64 → Int32 → Int32 → wx_St → Option (Int32 × wx_St)) (K24 : Int64 → Int32 → Int32 → Int32 → wx_St → Option (Int32 × wx_St)) (x2 : Int64) (x4 : Int32) (x5 : Int32) (x6 : Int32) (σ : wx_St) : Option (Int32 × wx_St) :=
  K24 x2 x4 x5 (x6 + 1) σ
def f_X4_pairs_58 (b1 : Nat) (K11 : Int64 → Int32 → Int32 → wx_St → Option (Int32 × wx_St)) (K24 : Int64 → Int32 → Int32 → Int32 → wx_St → Option (Int32 × wx_St)) (x2 : Int64) (x4 : Int32) (x5 : Int32) (x6 : Int32) (y0 : Int32) (σ : wx_St) : Option (Int32 × wx_St) :=
  if y0 = 0 then
    f_X4_pairs_64 b1 K11 K24 x2 x4 x5 x6 σ
   else
    f_X4_pairs_64 b1 K11 K24 x2 (x4 + 1) x5 x6 σ
def f_X4_pairs_24 (b1 : Nat) (K11 : Int64 → Int32 → Int32 → wx_St → Option (Int32 × wx_St)) : Nat → Int64 → Int32 → Int32 → Int32 → wx_St → Option (Int32 × wx_St)
  | 0, _, _, _, _, _ => none
  | n + 1, x2, x4, x5, x6, σ =>
  if 64 ≤ x6 then
    K11 x2 x4 (x5 + 1) σ
   else
    wx_o (f_X5_isIn x2 x5) (fun v34 => if v34 = 0 then
      f_X4_pairs_64 b1 K11 (f_X4_pairs_24 b1 K11 n) x2 x4 x5 x6 σ
     else
      wx_o (f_X5_isIn x2 x6) (fun v43 => if v43 = 0 then
        f_X4_pairs_64 b1 K11 (f_X4_pairs_24 b1 K11 n) x2 x4 x5 x6 σ
       else
        wx_b (f_X4_fits b1 x5 x6 σ) (fun v55 σ55 => f_X4_pairs_58 b1 K11 (f_X4_pairs_24 b1 K11 n) x2 x4 x5 x6 v55 σ55)))
def f_X4_pairs_11 (b1 : Nat)  : Nat → Int64 → Int32 → Int32 → wx_St → Option (Int32 × wx_St)
  | 0, _, _, _, _ => none
  | n + 1, x2, x4, x5, σ =>
  if 64 ≤ x5 then
    some (x4, σ)
   else
    f_X4_pairs_24 b1 (f_X4_pairs_11 b1 n) 2000 x2 x4 x5 (x5 + 1) σ
def f_X4_pairs (b1 : Nat)   (σ : wx_St) : Option (Int32 × wx_St) :=
  wx_o (f_X0_suspects b1 σ) (fun v1 => f_X4_pairs_11 b1 2000 v1 0 0 σ)
def f_X4_readBy_24 (b1 : Nat)  (x2 : Int32) (x3 : Int32) (y0 : UInt32) (σ : wx_St) : Option (Int32 × wx_St) :=
  wx_o (f_X5_readOf y0) (fun v24 => some (v24, σ))
def f_X4_readBy (b1 : Nat)  (x2 : Int32) (x3 : Int32) (σ : wx_St) : Option (Int32 × wx_St) :=
  wx_b (f_X1_follow b1 0 σ) (fun v8 σ8 => wx_b (f_X1_warmthBy x2 (σ8.2.2.1 b1 6) x3 σ8) (fun v21 σ21 => f_X4_readBy_24 b1 x2 x3 v21 σ21))
def f_X4_unlikeReads_56 (b1 : Nat) (K6 : Int64 → Int32 → Int32 → Int32 → wx_St → Option (Int32 × wx_St)) (x2 : Int64) (x4 : Int32) (x5 : Int32) (x6 : Int32) (σ : wx_St) : Option (Int32 × wx_St) :=
  K6 x2 x4 x5 (x6 + 1) σ
def f_X4_unlikeReads_31 (b1 : Nat) (K6 : Int64 → Int32 → Int32 → Int32 → wx_St → Option (Int32 × wx_St)) (x2 : Int64) (x4 : Int32) (x5 : Int32) (x6 : Int32) (y0 : Int32) (σ : wx_St) : Option (Int32 × wx_St) :=
  wx_o (f_X4_isAmong x5 y0 σ) (fun v38 => if v38 = 0 then
    wx_w (wx_sI σ 12 1 (Int32.toNatClampNeg x5) y0) 64 x5 (fun σ52 => f_X4_unlikeReads_56 b1 K6 x2 x4 (x5 + 1) x6 σ52)
   else
    f_X4_unlikeReads_56 b1 K6 x2 x4 x5 x6 σ)
def f_X4_unlikeReads_6 (b1 : Nat)  : Nat → Int64 → Int32 → Int32 → Int32 → wx_St → Option (Int32 × wx_St)
  | 0, _, _, _, _, _ => none
  | n + 1, x2, x4, x5, x6, σ =>
  if 64 ≤ x6 then
    some (x5, σ)
   else
    wx_o (f_X5_isIn x2 x6) (fun v16 => if v16 = 0 then
      f_X4_unlikeReads_56 b1 (f_X4_unlikeReads_6 b1 n) x2 x4 x5 x6 σ
     else
      wx_b (f_X4_readBy b1 x6 x4 σ) (fun v28 σ28 => f_X4_unlikeReads_31 b1 (f_X4_unlikeReads_6 b1 n) x2 x4 x5 x6 v28 σ28))
def f_X4_unlikeReads (b1 : Nat)  (x2 : Int64) (x4 : Int32) (σ : wx_St) : Option (Int32 × wx_St) :=
  f_X4_unlikeReads_6 b1 2000 x2 x4 0 0 σ
def f_X5_answerOf   (x1 : Int32) (x2 : Int32) (x3 : Int32) (σ : wx_St) : Option (Int32 × wx_St) :=
  wx_o (f_X2_codeAt x1 σ) (fun v5 => if v5 = 102 then
    wx_o (f_X2_digitAt (x1 + 1) σ) (fun v118 => wx_o (f_X2_digitAt (x1 + 2) σ) (fun v128 => wx_b (f_X0_turnPair 7 v118 v128 σ) (fun v131 σ131 => some (v131, σ131))))
   else
    if v5 = 109 then
      wx_o (f_X2_digitAt (x1 + 1) σ) (fun v184 => wx_b (f_X0_part 7 v184 σ) (fun v187 σ187 => some (v187, σ187)))
     else
      if v5 = 115 then
        wx_o (f_X2_digitAt (x1 + 2) σ) (fun v146 => wx_o (f_X2_columnAt (x1 + 1) σ) (fun v156 => wx_o (f_X2_digitAt (x1 + 4) σ) (fun v166 => wx_b (f_X0_join 7 v146 v156 v166 σ) (fun v169 σ169 => some (v169, σ169)))))
       else
        if v5 = 116 then
          wx_o (f_X2_digitAt (((x1 + 2) + (2 * x3)) + 1) σ) (fun v81 => wx_o (f_X2_columnAt ((x1 + 2) + (2 * x3)) σ) (fun v90 => wx_o (f_X2_digitAt (x1 + 1) σ) (fun v100 => wx_b (f_X0_lay 7 v81 v90 v100 σ) (fun v103 σ103 => some (v103, σ103)))))
         else
          if v5 = 119 then
            wx_o (f_X2_numberIn (x1 + 1) x2 σ) (fun v203 => wx_b (f_X0_letPass 7 v203 σ) (fun v206 σ206 => some (v206, σ206)))
           else
            wx_o (f_X2_digitAt (x1 + 2) σ) (fun v221 => wx_o (f_X2_columnAt (x1 + 1) σ) (fun v231 => wx_b (f_X0_measure 7 v221 v231 σ) (fun v234 σ234 => some (v234, σ234)))))
def f_X5_bitsOfFloat_53   (x0 : UInt32) (x1 : UInt32) (x2 : Int32) (x3 : Int32) (y0 : Int32) : Option Int32 :=
  some y0
def f_X5_bitsOfFloat_29   (x0 : UInt32) (x1 : UInt32) (x2 : Int32) : Option Int32 :=
  if (8388608 : Int32) ≤ (FP.f2i x1) then
    f_X5_bitsOfFloat_53 x0 x1 x2 (FP.f2i x1) ((x2 <<< (23 &&& 31)) + ((FP.f2i x1) - (8388608 : Int32)))
   else
    f_X5_bitsOfFloat_53 x0 x1 x2 (FP.f2i x1) (FP.f2i x1)
def f_X5_bitsOfFloat_6   : Nat → UInt32 → UInt32 → Int32 → Option Int32
  | 0, _, _, _ => none
  | n + 1, x0, x1, x2 =>
  if x2 ≤ 1 then
    f_X5_bitsOfFloat_29 x0 x1 x2
   else
    if 0 ≤ (Op.cmpValue (FP.fcmp x1 (1258291200 : UInt32)) .g) then
      f_X5_bitsOfFloat_29 x0 x1 x2
     else
      wx_f (FP.fmul x1 FP.fconst2) (fun v21 => (f_X5_bitsOfFloat_6 n) x0 v21 (x2 + (-1)))
def f_X5_bitsOfFloat   (x0 : UInt32) : Option Int32 :=
  f_X5_bitsOfFloat_6 2000 x0 x0 150
def f_X5_at_112   (x1 : Int32) (x2 : Int32) (x3 : Int32) (x4 : Int32) (y0 : Int32) (σ : wx_St) : Option (Int32 × wx_St) :=
  some (y0, σ)
def f_X5_at_134   (x1 : Int32) (x2 : Int32) (x3 : Int32) (x4 : Int32) (y0 : Int32) (σ : wx_St) : Option (Int32 × wx_St) :=
  some (y0, σ)
def f_X5_at_126   (x1 : Int32) (x2 : Int32) (x3 : Int32) (x4 : Int32) (y0 : Int32) (σ : wx_St) : Option (Int32 × wx_St) :=
  if y0 = 0 then
    f_X5_at_134 x1 x2 x3 x4 0 σ
   else
    f_X5_at_134 x1 x2 x3 x4 1 σ
def f_X5_at_156   (x1 : Int32) (x2 : Int32) (x3 : Int32) (x4 : Int32) (y0 : Int32) (σ : wx_St) : Option (Int32 × wx_St) :=
  some (y0, σ)
def f_X5_at_148   (x1 : Int32) (x2 : Int32) (x3 : Int32) (x4 : Int32) (y0 : Int32) (σ : wx_St) : Option (Int32 × wx_St) :=
  if y0 = 0 then
    f_X5_at_156 x1 x2 x3 x4 0 σ
   else
    f_X5_at_156 x1 x2 x3 x4 1 σ
def f_X5_at   (x1 : Int32) (x2 : Int32) (x3 : Int32) (σ : wx_St) : Option (Int32 × wx_St) :=
  wx_o (f_X5_placeOf x1 x2) (fun v2 => if 0 ≤ v2 then
    if x3 = 0 then
      wx_rI σ 7 1 64 v2 (fun v65 => some (v65, σ))
     else
      if x3 = 1 then
        wx_rF σ 7 7 64 v2 (fun v76 => wx_o (f_X5_bitsOfFloat v76) (fun v77 => some (v77, σ)))
       else
        if x3 = 2 then
          wx_rF σ 7 7 64 v2 (fun v90 => wx_o (f_X5_readOf v90) (fun v91 => some (v91, σ)))
         else
          if x3 = 3 then
            wx_o (f_X0_isSuspect 7 v2 σ) (fun v101 => if v101 = 0 then
              f_X5_at_112 x1 x2 x3 v2 0 σ
             else
              f_X5_at_112 x1 x2 x3 v2 1 σ)
           else
            if x3 = 4 then
              wx_b (f_X4_couldBe 7 v2 σ) (fun v123 σ123 => f_X5_at_126 x1 x2 x3 v2 v123 σ123)
             else
              if x3 = 5 then
                wx_b (f_X4_couldBeOneOfTwo 7 v2 σ) (fun v145 σ145 => f_X5_at_148 x1 x2 x3 v2 v145 σ145)
               else
                if x3 = 6 then
                  wx_o (f_X0_touchAt 7 v2 σ) (fun v163 => some (v163, σ))
                 else
                  some ((-2), σ)
   else
    some ((-1), σ))
def f_X5_bestProbe_82  (K44 : Int32 → Int64 → Int32 → Int32 → Int32 → wx_St → Option (Int32 × wx_St)) (x1 : Int32) (x2 : Int64) (x4 : Int32) (x5 : Int32) (x6 : Int32) (x7 : Int32) (σ : wx_St) : Option (Int32 × wx_St) :=
  K44 x1 x2 x4 x5 (x6 + 1) σ
def f_X5_bestProbe_65  (K44 : Int32 → Int64 → Int32 → Int32 → Int32 → wx_St → Option (Int32 × wx_St)) (x1 : Int32) (x2 : Int64) (x4 : Int32) (x5 : Int32) (x6 : Int32) (y0 : Int32) (σ : wx_St) : Option (Int32 × wx_St) :=
  if y0 ≤ x5 then
    f_X5_bestProbe_82 K44 x1 x2 x4 x5 x6 y0 σ
   else
    f_X5_bestProbe_82 K44 x1 x2 x6 y0 x6 y0 σ
def f_X5_bestProbe_99   (x1 : Int32) (x2 : Int64) (x4 : Int32) (x5 : Int32) (x6 : Int32) (y0 : Int32) (σ : wx_St) : Option (Int32 × wx_St) :=
  some (y0, σ)
def f_X5_bestProbe_44   : Nat → Int32 → Int64 → Int32 → Int32 → Int32 → wx_St → Option (Int32 × wx_St)
  | 0, _, _, _, _, _, _ => none
  | n + 1, x1, x2, x4, x5, x6, σ =>
  if 64 ≤ x6 then
    if x1 = 0 then
      f_X5_bestProbe_99 x1 x2 x4 x5 x6 x4 σ
     else
      f_X5_bestProbe_99 x1 x2 x4 x5 x6 x5 σ
   else
    wx_b (f_X4_unlikeReads 7 x2 x6 σ) (fun v62 σ62 => f_X5_bestProbe_65 (f_X5_bestProbe_44 n) x1 x2 x4 x5 x6 v62 σ62)
def f_X5_bestProbe_23   (x1 : Int32) (y0 : Int64) (σ : wx_St) : Option (Int32 × wx_St) :=
  wx_o (f_J13_bitCount_95d88 y0) (fun v25 => if 2 ≤ v25 then
    f_X5_bestProbe_44 2000 x1 y0 0 0 0 σ
   else
    some ((-6), σ))
def f_X5_bestProbe_12   (x1 : Int32) (σ : wx_St) : Option (Int32 × wx_St) :=
  wx_b (f_X4_fitting 7 σ) (fun v20 σ20 => f_X5_bestProbe_23 x1 v20 σ20)
def f_X5_bestProbe   (x1 : Int32) (σ : wx_St) : Option (Int32 × wx_St) :=
  if x1 = 0 then
    f_X5_bestProbe_12 x1 σ
   else
    if x1 = 1 then
      f_X5_bestProbe_12 x1 σ
     else
      some ((-2), σ)
def f_X5_bitsOfDouble_67   (x0 : UInt64) (x2 : UInt64) (x4 : Int64) (x6 : Int64) (y0 : Int64) : Option Int64 :=
  some y0
def f_X5_bitsOfDouble_37   (x0 : UInt64) (x2 : UInt64) (x4 : Int64) : Option Int64 :=
  if 0 ≤ (lg_cmp (FP.d2l x2) (4503599627370496 : Int64)) then
    f_X5_bitsOfDouble_67 x0 x2 x4 (FP.d2l x2) ((x4 <<< ((52 : Int32).toInt64 &&& 63)) + ((FP.d2l x2) - (4503599627370496 : Int64)))
   else
    f_X5_bitsOfDouble_67 x0 x2 x4 (FP.d2l x2) (FP.d2l x2)
def f_X5_bitsOfDouble_7   : Nat → UInt64 → UInt64 → Int64 → Option Int64
  | 0, _, _, _ => none
  | n + 1, x0, x2, x4 =>
  if (lg_cmp x4 (1 : Int64)) ≤ 0 then
    f_X5_bitsOfDouble_37 x0 x2 x4
   else
    if 0 ≤ (Op.cmpValue (FP.dcmp x2 (4841369599423283200 : UInt64)) .g) then
      f_X5_bitsOfDouble_37 x0 x2 x4
     else
      wx_d (FP.dmul x2 (4611686018427387904 : UInt64)) (fun v26 => (f_X5_bitsOfDouble_7 n) x0 v26 (x4 - (1 : Int64)))
def f_X5_bitsOfDouble   (x0 : UInt64) : Option Int64 :=
  f_X5_bitsOfDouble_7 2000 x0 x0 (1075 : Int64)
def f_X5_carriedOut_48  (K6 : Int32 → Int32 → Int32 → wx_St → Option (Int32 × wx_St)) : Nat → Int32 → Int32 → Int32 → Int32 → Int32 → Int32 → wx_St → Option (Int32 × wx_St)
  | 0, _, _, _, _, _, _, _ => none
  | n + 1, x1, x2, x3, x4, x5, x6, σ =>
  if x5 ≤ x6 then
    K6 x1 (x4 + 1) (x3 + 1) σ
   else
    wx_b (f_X5_answerOf x2 x4 x6 σ) (fun v61 σ61 => if 0 ≤ v61 then
      (f_X5_carriedOut_48 K6 n) (x1 + 1) x2 x3 x4 x5 (x6 + 1) σ61
     else
      some (x1, σ61))
def f_X5_carriedOut_89   (x1 : Int32) (x2 : Int32) (x3 : Int32) (σ : wx_St) : Option (Int32 × wx_St) :=
  some (x1, σ)
def f_X5_carriedOut_6   : Nat → Int32 → Int32 → Int32 → wx_St → Option (Int32 × wx_St)
  | 0, _, _, _, _ => none
  | n + 1, x1, x2, x3, σ =>
  if 80 ≤ x3 then
    f_X5_carriedOut_89 x1 x2 x3 σ
   else
    if (σ.2.2.1 15 1) ≤ x2 then
      f_X5_carriedOut_89 x1 x2 x3 σ
     else
      wx_o (f_X2_endOfOrder x2 σ) (fun v28 => wx_o (f_X2_ordersIn x2 v28 σ) (fun v40 => f_X5_carriedOut_48 (f_X5_carriedOut_6 n) 2000 x1 x2 x3 v28 v40 0 σ))
def f_X5_carriedOut    (σ : wx_St) : Option (Int32 × wx_St) :=
  f_X5_carriedOut_6 2000 0 0 0 σ
def f_X5_carryOut    (σ : wx_St) : Option (Int32 × wx_St) :=
  wx_o (f_X2_firstFault σ) (fun v4 => if v4 = (-6) then
    wx_b (f_X3_prepare 7 σ) (fun v23 σ23 => wx_b (f_X5_carriedOut σ23) (fun v27 σ27 => wx_b (f_X2_clear σ27) (fun v35 σ35 => wx_b (f_X3_kept v27 σ35) (fun v44 σ44 => some (v44, σ44)))))
   else
    some ((-3), σ))
def f_X5_columnsOf   (x0 : Int64) (x2 : Int32) : Option Int32 :=
  some ((((x0.toUInt64 >>> ((8 * x2).toInt64.toUInt64 &&& Int64.toUInt64 63)).toInt64) &&& (255 : Int64)).toInt32)
def f_X5_cool    (σ : wx_St) : Option (Int32 × wx_St) :=
  wx_b (f_X3_prepare 7 σ) (fun v8 σ8 => wx_b (f_X0_beginRun 7 σ8) (fun v23 σ23 => wx_b (f_X3_kept (σ8.2.2.1 7 6) σ23) (fun v31 σ31 => some (v31, σ31))))
def f_X5_count_144   (x1 : Int32) (y0 : Int64) (σ : wx_St) : Option (Int32 × wx_St) :=
  wx_o (f_J13_bitCount_95d88 y0) (fun v144 => some (v144, σ))
def f_X5_count_159   (x1 : Int32) (y0 : Int32) (σ : wx_St) : Option (Int32 × wx_St) :=
  some (y0, σ)
def f_X5_count   (x1 : Int32) (σ : wx_St) : Option (Int32 × wx_St) :=
  if x1 = 0 then
    some ((σ.2.2.1 7 6), σ)
   else
    if x1 = 1 then
      some ((σ.2.2.1 7 3), σ)
     else
      if x1 = 2 then
        wx_o (f_X0_heated 7 σ) (fun v96 => wx_o (f_J13_bitCount_95d88 v96) (fun v99 => some (v99, σ)))
       else
        if x1 = 3 then
          some ((σ.2.2.1 7 9), σ)
         else
          if x1 = 4 then
            wx_o (f_X0_tracked 7 σ) (fun v115 => wx_o (f_J13_bitCount_95d88 v115) (fun v118 => some (v118, σ)))
           else
            if x1 = 5 then
              wx_o (f_X0_suspects 7 σ) (fun v126 => wx_o (f_J13_bitCount_95d88 v126) (fun v129 => some (v129, σ)))
             else
              if x1 = 6 then
                wx_b (f_X4_fitting 7 σ) (fun v141 σ141 => f_X5_count_144 x1 v141 σ141)
               else
                if x1 = 7 then
                  wx_b (f_X4_pairs 7 σ) (fun v156 σ156 => f_X5_count_159 x1 v156 σ156)
                 else
                  if x1 = 8 then
                    wx_o (f_X0_warmest 7 σ) (fun v164 => some (v164, σ))
                   else
                    if x1 = 9 then
                      wx_rI σ 7 0 4 (x1 - 9) (fun v179 => some (v179, σ))
                     else
                      if x1 = 10 then
                        wx_rI σ 7 0 4 (x1 - 9) (fun v179 => some (v179, σ))
                       else
                        if x1 = 11 then
                          wx_rI σ 7 0 4 (x1 - 9) (fun v179 => some (v179, σ))
                         else
                          if x1 = 12 then
                            wx_rI σ 7 0 4 (x1 - 9) (fun v179 => some (v179, σ))
                           else
                            if x1 = 13 then
                              some ((σ.2.2.1 15 1), σ)
                             else
                              if x1 = 14 then
                                some ((σ.2.2.1 14 1), σ)
                               else
                                some ((-2), σ)
def f_X5_fault    (σ : wx_St) : Option Int32 :=
  wx_o (f_X2_firstFault σ) (fun v4 => some v4)
def f_X5_feed   (x1 : Int32) (x2 : Int32) (σ : wx_St) : Option (Int32 × wx_St) :=
  wx_b (f_X3_prepare 7 σ) (fun v8 σ8 => wx_b (f_X0_turnPair 7 x1 x2 σ8) (fun v21 σ21 => wx_b (f_X3_kept v21 σ21) (fun v24 σ24 => some (v24, σ24))))
def f_X5_mean_4   : Nat → UInt64 → Int32 → wx_St → Option Int64
  | 0, _, _, _ => none
  | n + 1, x1, x3, σ =>
  if 64 ≤ x3 then
    wx_d (FP.ddiv x1 (4634204016564240384 : UInt64)) (fun v33 => wx_o (f_X5_bitsOfDouble v33) (fun v34 => some v34))
   else
    wx_rF σ 7 7 64 x3 (fun v19 => wx_d (FP.f2d v19) (fun v20 => wx_d (FP.dadd x1 v20) (fun v21 => (f_X5_mean_4 n) v21 (x3 + 1) σ)))
def f_X5_mean    (σ : wx_St) : Option Int64 :=
  f_X5_mean_4 2000 FP.dconst0 0 σ
def f_X5_mend   (x1 : Int32) (σ : wx_St) : Option (Int32 × wx_St) :=
  wx_b (f_X3_prepare 7 σ) (fun v8 σ8 => wx_b (f_X0_part 7 x1 σ8) (fun v20 σ20 => wx_b (f_X3_kept v20 σ20) (fun v23 σ23 => some (v23, σ23))))
def f_X5_ofNet   (x1 : Int32) (x2 : Int32) (σ : wx_St) : Option Int32 :=
  wx_o (f_X5_isNet x1) (fun v1 => if v1 = 0 then
    some (-1)
   else
    if x2 = 0 then
      wx_o (f_X0_placesOf 7 x1 σ) (fun v41 => some v41)
     else
      if x2 = 1 then
        wx_rI σ 7 2 8 x1 (fun v53 => some v53)
       else
        if x2 = 2 then
          wx_o (f_X0_warmthOf 7 x1 σ) (fun v60 => wx_o (f_X5_bitsOfFloat v60) (fun v63 => some v63))
         else
          some (-2))
def f_X5_ofTouch_15   (x1 : Int32) (x2 : Int32) (σ : wx_St) : Option Int32 :=
  some (-1)
def f_X5_ofTouch_102   (x1 : Int32) (x2 : Int32) (y0 : Int32) (σ : wx_St) : Option Int32 :=
  some y0
def f_X5_ofTouch   (x1 : Int32) (x2 : Int32) (σ : wx_St) : Option Int32 :=
  if x1 < 0 then
    f_X5_ofTouch_15 x1 x2 σ
   else
    if x1 < (σ.2.2.1 7 3) then
      if x2 = 0 then
        wx_rI σ 7 4 3 x1 (fun v56 => some v56)
       else
        if x2 = 1 then
          wx_rI σ 7 4 3 x1 (fun v73 => wx_rI σ 7 1 64 v73 (fun v74 => some v74))
         else
          if x2 = 2 then
            wx_rI σ 7 5 3 x1 (fun v84 => some v84)
           else
            if x2 = 3 then
              wx_o (f_X0_isLive 7 x1 σ) (fun v91 => if v91 = 0 then
                f_X5_ofTouch_102 x1 x2 0 σ
               else
                f_X5_ofTouch_102 x1 x2 1 σ)
             else
              some (-2)
     else
      f_X5_ofTouch_15 x1 x2 σ
def f_X5_probe   (x1 : Int32) (x2 : Int32) (σ : wx_St) : Option (Int32 × wx_St) :=
  wx_b (f_X3_prepare 7 σ) (fun v8 σ8 => wx_b (f_X0_measure 7 x1 x2 σ8) (fun v21 σ21 => wx_b (f_X3_kept v21 σ21) (fun v24 σ24 => some (v24, σ24))))
def f_X5_put   (x1 : Int64) (σ : wx_St) : Option (Int32 × wx_St) :=
  wx_b (f_X2_append x1 σ) (fun v5 σ5 => some (v5, σ5))
def f_X5_reading_15   (x1 : Int32) (x2 : Int32) (σ : wx_St) : Option Int32 :=
  some (-1)
def f_X5_reading   (x1 : Int32) (x2 : Int32) (σ : wx_St) : Option Int32 :=
  if x1 < 0 then
    f_X5_reading_15 x1 x2 σ
   else
    if x1 < (σ.2.2.1 7 9) then
      if x2 = 0 then
        wx_rI σ 7 10 8 x1 (fun v52 => some v52)
       else
        if x2 = 1 then
          wx_rI σ 7 11 8 x1 (fun v62 => some v62)
         else
          if x2 = 2 then
            wx_rI σ 7 12 8 x1 (fun v72 => some v72)
           else
            some (-2)
     else
      f_X5_reading_15 x1 x2 σ
def f_X5_readsIn_26   (x1 : Int32) (x2 : Int32) (x3 : Int32) (x4 : Int32) (σ : wx_St) : Option (Int32 × wx_St) :=
  some ((-2), σ)
def f_X5_readsIn_52   : Nat → Int32 → Int32 → Int32 → Int32 → Int64 → Int32 → wx_St → Option (Int32 × wx_St)
  | 0, _, _, _, _, _, _, _ => none
  | n + 1, x1, x2, x3, x4, x5, x7, σ =>
  if 200 < x7 then
    some ((-6), σ)
   else
    wx_rF σ 8 7 64 x4 (fun v69 => wx_o (f_X5_readOf v69) (fun v70 => if v70 < x3 then
      wx_b (f_X0_passOne 8 x5 σ) (fun v86 σ86 => (f_X5_readsIn_52 n) x1 x2 x3 x4 x5 (x7 + 1) σ86)
     else
      some (x7, σ)))
def f_X5_readsIn   (x1 : Int32) (x2 : Int32) (x3 : Int32) (σ : wx_St) : Option (Int32 × wx_St) :=
  wx_o (f_X5_placeOf x1 x2) (fun v2 => if 0 ≤ v2 then
    if x3 < 1 then
      f_X5_readsIn_26 x1 x2 x3 v2 σ
     else
      if x3 ≤ 9999 then
        wx_b (f_X0_takeOver 8 7 σ) (fun v37 σ37 => wx_o (f_X0_heated 8 σ37) (fun v44 => f_X5_readsIn_52 2000 x1 x2 x3 v2 v44 0 σ37))
       else
        f_X5_readsIn_26 x1 x2 x3 v2 σ
   else
    some ((-1), σ))
def f_X5_restore_9   (x1 : Int32) (σ : wx_St) : Option (Int32 × wx_St) :=
  some ((-2), σ)
def f_X5_restore   (x1 : Int32) (σ : wx_St) : Option (Int32 × wx_St) :=
  if x1 < 0 then
    f_X5_restore_9 x1 σ
   else
    if x1 < 2 then
      wx_rI σ 11 6 2 x1 (fun v17 => if v17 = 0 then
        some ((-5), σ)
       else
        wx_b (f_X3_prepare 7 σ) (fun v32 σ32 => wx_rR σ32 11 2 x1 (fun z44 => wx_b (f_X0_takeOver 7 z44 σ32) (fun v45 σ45 => wx_b (f_X3_kept (σ45.2.2.1 7 3) σ45) (fun v59 σ59 => some (v59, σ59))))))
     else
      f_X5_restore_9 x1 σ
def f_X5_row_10   (x1 : Int32) (x2 : Int32) (σ : wx_St) : Option (Int32 × wx_St) :=
  some ((-1), σ)
def f_X5_row_75   (x1 : Int32) (x2 : Int32) (y0 : Int64) (σ : wx_St) : Option (Int32 × wx_St) :=
  wx_o (f_X5_columnsOf y0 x1) (fun v76 => some (v76, σ))
def f_X5_row   (x1 : Int32) (x2 : Int32) (σ : wx_St) : Option (Int32 × wx_St) :=
  if x1 < 0 then
    f_X5_row_10 x1 x2 σ
   else
    if x1 < 8 then
      if x2 = 0 then
        wx_o (f_X0_tracked 7 σ) (fun v44 => wx_o (f_X5_columnsOf v44 x1) (fun v48 => some (v48, σ)))
       else
        if x2 = 1 then
          wx_o (f_X0_suspects 7 σ) (fun v56 => wx_o (f_X5_columnsOf v56 x1) (fun v60 => some (v60, σ)))
         else
          if x2 = 2 then
            wx_b (f_X4_fitting 7 σ) (fun v72 σ72 => f_X5_row_75 x1 x2 v72 σ72)
           else
            some ((-2), σ)
     else
      f_X5_row_10 x1 x2 σ
def f_X5_save_9   (x1 : Int32) (σ : wx_St) : Option (Int32 × wx_St) :=
  some ((-2), σ)
def f_X5_save   (x1 : Int32) (σ : wx_St) : Option (Int32 × wx_St) :=
  if x1 < 0 then
    f_X5_save_9 x1 σ
   else
    if x1 < 2 then
      wx_rR σ 11 2 x1 (fun z17 => wx_b (f_X0_takeOver z17 7 σ) (fun v22 σ22 => wx_w (wx_sI σ22 11 6 (Int32.toNatClampNeg x1) (vp_nar .boolean 1)) 2 x1 (fun σ31 => some ((σ31.2.2.1 7 3), σ31))))
     else
      f_X5_save_9 x1 σ
def f_X5_set   (x1 : Int32) (x2 : Int32) (σ : wx_St) : Option (Int32 × wx_St) :=
  wx_b (f_X3_prepare 7 σ) (fun v8 σ8 => wx_b (f_X0_change 7 x1 x2 σ8) (fun v21 σ21 => wx_b (f_X3_kept v21 σ21) (fun v24 σ24 => some (v24, σ24))))
def f_X5_touch   (x1 : Int32) (x2 : Int32) (x3 : Int32) (σ : wx_St) : Option (Int32 × wx_St) :=
  wx_b (f_X3_prepare 7 σ) (fun v8 σ8 => wx_b (f_X0_join 7 x1 x2 x3 σ8) (fun v22 σ22 => wx_b (f_X3_kept v22 σ22) (fun v25 σ25 => some (v25, σ25))))
def f_X5_track   (x1 : Int32) (x2 : Int32) (x3 : Int32) (σ : wx_St) : Option (Int32 × wx_St) :=
  wx_b (f_X3_prepare 7 σ) (fun v8 σ8 => wx_b (f_X0_lay 7 x1 x2 x3 σ8) (fun v22 σ22 => wx_b (f_X3_kept v22 σ22) (fun v25 σ25 => some (v25, σ25))))
def f_X5_undo    (σ : wx_St) : Option (Int32 × wx_St) :=
  wx_b (f_X3_goBack 7 σ) (fun v8 σ8 => some (v8, σ8))
def f_X5_warm   (x1 : Int32) (σ : wx_St) : Option (Int32 × wx_St) :=
  wx_b (f_X3_prepare 7 σ) (fun v8 σ8 => wx_b (f_X0_letPass 7 x1 σ8) (fun v20 σ20 => wx_b (f_X3_kept v20 σ20) (fun v23 σ23 => some (v23, σ23))))
def f_X5_wipe    (σ : wx_St) : Option (Int32 × wx_St) :=
  wx_b (f_X2_clear σ) (fun v4 σ4 => some (v4, σ4))
def f_X5_wouldRead_37   (x1 : Int32) (x2 : Int32) (x3 : Int32) (x4 : Int32) (x5 : Int32) (x6 : Int32) (σ : wx_St) : Option (Int32 × wx_St) :=
  some ((-1), σ)
def f_X5_wouldRead_54   (x1 : Int32) (x2 : Int32) (x3 : Int32) (x4 : Int32) (x5 : Int32) (x6 : Int32) (y0 : Int32) (σ : wx_St) : Option (Int32 × wx_St) :=
  some (y0, σ)
def f_X5_wouldRead   (x1 : Int32) (x2 : Int32) (x3 : Int32) (x4 : Int32) (σ : wx_St) : Option (Int32 × wx_St) :=
  wx_o (f_X5_placeOf x1 x2) (fun v2 => wx_o (f_X5_placeOf x3 x4) (fun v10 => if v2 < 0 then
    f_X5_wouldRead_37 x1 x2 x3 x4 v2 v10 σ
   else
    if v10 < 0 then
      f_X5_wouldRead_37 x1 x2 x3 x4 v2 v10 σ
     else
      wx_o (f_X0_isSuspect 7 v10 σ) (fun v31 => if v31 = 0 then
        f_X5_wouldRead_37 x1 x2 x3 x4 v2 v10 σ
       else
        wx_b (f_X4_readBy 7 v10 v2 σ) (fun v51 σ51 => f_X5_wouldRead_54 x1 x2 x3 x4 v2 v10 v51 σ51))))
variable {p : Program} {l : Launch} {e : Env} {s : State} {m : MethodId} {args : Array Value} {below : List Frame} {meth : Method} {c : Code} {D : va_G} {ad : Nat → Nat → Nat} {rd : Nat → Nat} {ca : Nat → ClassId} {A : Nat → Prop}
theorem i_X2_append_2 : ∀ w ∈ wsX20, w ∈ wsX2_append := by decide +kernel
theorem k_X2_append_w0 : Cond.constantLong RX2 19 (255) ∈ wsX2_append := by decide +kernel
theorem k_X2_append_w1 : Cond.constantLong RX2 21 (33) ∈ wsX2_append := by decide +kernel
theorem k_X2_append_w2 : Cond.constantLong RX2 23 (126) ∈ wsX2_append := by decide +kernel
theorem k_X2_append_w3 : Cond.fieldLink RX2 15 "WarmProbes$Pad" "length" "I" ∈ wsX2_append := by decide +kernel
theorem k_X2_append_w4 : Cond.fieldLink RX2 9 "WarmProbes$Pad" "codes" "[I" ∈ wsX2_append := by decide +kernel
set_option maxRecDepth 20000 in
set_option maxHeartbeats 4000000 in
theorem b_X2_append_48 (B : wx_B p s m args meth c cX2_append 7 (some .int) wsX2_append RX2 D ad ca A)    {r : Int32} {σ' : wx_St}  {x1 : Int64} {x3 : Int32} {x4 : Int64} {σ : wx_St}  (h : f_X2_append_48 x1 x3 x4 σ = some (r, σ')) {H : Heap} {locs : List Loc} (Z : wx_Z D ad rd ca A σ H) (hS : va_S A s.heap H locs) {ls : Array Slot} (hl : lv_has ls 7 [(0, .ref (ad 15 99)), (1, .long x1), (3, .int x3), (4, .long x4)]) : W p l e ({ frames := 0, cells := 0, slots := 0, locals := 0 } : Room) s m args below meth c H locs 0 0 (MQ below (wx_Q D ad rd ca A (some (.int r)) σ') args s 0 0 A) (F0 m 48 ls []) := by
  obtain ⟨hx, hb, hml, hr, hts, hown, hlk, hC, hA⟩ := id B
  unfold f_X2_append_48 at h
  refine lv_bipush (v := (-2)) hx hb dX2_append_48 (by decide) ?_
  obtain ⟨rfl, rfl⟩ := wx_ret_ok h
  exact W.iret hx hb hr (fun t ht hW => ⟨rfl, by rw [ht]; exact Z, hS.F ht⟩) hS.2.2 dX2_append_50
set_option maxRecDepth 20000 in
set_option maxHeartbeats 4000000 in
theorem b_X2_append_75 (B : wx_B p s m args meth c cX2_append 7 (some .int) wsX2_append RX2 D ad ca A)    {r : Int32} {σ' : wx_St}  {x1 : Int64} {x3 : Int32} {x4 : Int64} {σ : wx_St}  (h : f_X2_append_75 x1 x3 x4 σ = some (r, σ')) {H : Heap} {locs : List Loc} (Z : wx_Z D ad rd ca A σ H) (hS : va_S A s.heap H locs) {ls : Array Slot} (hl : lv_has ls 7 [(0, .ref (ad 15 99)), (1, .long x1), (3, .int x3), (4, .long x4)]) : W p l e ({ frames := 0, cells := 0, slots := 0, locals := 0 } : Room) s m args below meth c H locs 0 0 (MQ below (wx_Q D ad rd ca A (some (.int r)) σ') args s 0 0 A) (F0 m 75 ls []) := by
  obtain ⟨hx, hb, hml, hr, hts, hown, hlk, hC, hA⟩ := id B
  unfold f_X2_append_75 at h
  refine lv_bipush (v := (-2)) hx hb dX2_append_75 (by decide) ?_
  obtain ⟨rfl, rfl⟩ := wx_ret_ok h
  exact W.iret hx hb hr (fun t ht hW => ⟨rfl, by rw [ht]; exact Z, hS.F ht⟩) hS.2.2 dX2_append_77
set_option maxRecDepth 20000 in
set_option maxHeartbeats 4000000 in
theorem b_X2_append_95 (B : wx_B p s m args meth c cX2_append 7 (some .int) wsX2_append RX2 D ad ca A)    {r : Int32} {σ' : wx_St}   :
    ∀ {n : Nat} {x1 : Int64} {x3 : Int32} {x4 : Int64} {x6 : Int32} {σ : wx_St}  (h : f_X2_append_95 n x1 x3 x4 x6 σ = some (r, σ')) {H : Heap} {locs : List Loc} (Z : wx_Z D ad rd ca A σ H) (hS : va_S A s.heap H locs) {ls : Array Slot} (hl : lv_has ls 7 [(0, .ref (ad 15 99)), (1, .long x1), (3, .int x3), (4, .long x4), (6, .int x6)]), W p l e ({ frames := 0, cells := 0, slots := 0, locals := 0 } : Room) s m args below meth c H locs 0 0 (MQ below (wx_Q D ad rd ca A (some (.int r)) σ') args s 0 0 A) (F0 m 95 ls []) := by
  obtain ⟨hx, hb, hml, hr, hts, hown, hlk, hC, hA⟩ := id B
  intro n
  induction n with
  | zero => intro x1 x3 x4 x6 σ  h H locs Z hS ls hl; exact wx_no h
  | succ n ih =>
    intro x1 x3 x4 x6 σ  h H locs Z hS ls hl
    rw [f_X2_append_95] at h
    refine lv_iload hx hb dX2_append_95 (lv_at hl 4 rfl) ?_
    refine lv_iload_n hx hb dX2_append_97 rfl (lv_at hl 2 rfl) ?_
    refine lv_icmp_ge (tgt := 135) hx hb dX2_append_98 (by decide) (fun c98 => ?_) (fun c98 => ?_)
    · replace h := wx_ift c98 h
      refine lv_aload_n hx hb dX2_append_135 rfl (lv_at hl 0 rfl) ?_
      refine lv_aload_n hx hb dX2_append_136 rfl (lv_at hl 0 rfl) ?_
      refine wx_get (own := RX2) hx hb hts i_X2_append_2 hown hC.1 Z (o := 15) (ci := 2) rfl (rfl : vwCl[2]? = some (RX2, TX2, 2)) 1 (by decide) (hts _ k_X2_append_w3) (fun _ h9 => h9) (f := 1) rfl rfl dX2_append_137 ?_
      refine lv_iload_n hx hb dX2_append_140 rfl (lv_at hl 2 rfl) ?_
      refine lv_iadd hx hb dX2_append_141 ?_
      obtain ⟨σ142, e142, h⟩ := wx_l_ok h
      refine wx_put (own := RX2) hx hb hts i_X2_append_2 tyX2 tyX2_ok nmX2 hown hC.1 Z hS (o := 15) (ci := 2) rfl (rfl : vwCl[2]? = some (RX2, TX2, 2)) 1 (by decide) (hts _ k_X2_append_w3) (fun _ h9 => h9) rfl (by decide +kernel) rfl dX2_append_142 e142 (fun H locs Z hS => ?_)
      refine lv_aload_n hx hb dX2_append_145 rfl (lv_at hl 0 rfl) ?_
      refine wx_get (own := RX2) hx hb hts i_X2_append_2 hown hC.1 Z (o := 15) (ci := 2) rfl (rfl : vwCl[2]? = some (RX2, TX2, 2)) 1 (by decide) (hts _ k_X2_append_w3) (fun _ h9 => h9) (f := 1) rfl rfl dX2_append_146 ?_
      obtain ⟨rfl, rfl⟩ := wx_ret_ok h
      exact W.iret hx hb hr (fun t ht hW => ⟨rfl, by rw [ht]; exact Z, hS.F ht⟩) hS.2.2 dX2_append_149
    · replace h := wx_iff c98 h
      refine lv_aload_n hx hb dX2_append_101 rfl (lv_at hl 0 rfl) ?_
      refine wx_get (own := RX2) hx hb hts i_X2_append_2 hown hC.1 Z (o := 15) (ci := 2) rfl (rfl : vwCl[2]? = some (RX2, TX2, 2)) 0 (by decide) (hts _ k_X2_append_w4) (fun _ h9 => h9) (f := 0) rfl rfl dX2_append_102 ?_
      refine lv_aload_n hx hb dX2_append_105 rfl (lv_at hl 0 rfl) ?_
      refine wx_get (own := RX2) hx hb hts i_X2_append_2 hown hC.1 Z (o := 15) (ci := 2) rfl (rfl : vwCl[2]? = some (RX2, TX2, 2)) 1 (by decide) (hts _ k_X2_append_w3) (fun _ h9 => h9) (f := 1) rfl rfl dX2_append_106 ?_
      refine lv_iload hx hb dX2_append_109 (lv_at hl 4 rfl) ?_
      refine lv_iadd hx hb dX2_append_111 ?_
      refine lv_lload_n hx hb dX2_append_112 rfl (lv_at hl 1 rfl) ?_
      refine lv_bipush (v := 8) hx hb dX2_append_113 (by decide) ?_
      refine lv_iload_n hx hb dX2_append_115 rfl (lv_at hl 2 rfl) ?_
      refine lv_iconst (v := 1) hx hb dX2_append_116 (by decide) ?_
      refine lv_isub hx hb dX2_append_117 ?_
      refine lv_iload hx hb dX2_append_118 (lv_at hl 4 rfl) ?_
      refine lv_isub hx hb dX2_append_120 ?_
      refine lv_imul hx hb dX2_append_121 ?_
      refine lv_lushr (v := (x1.toUInt64 >>> ((8 * ((x3 - 1) - x6)).toInt64.toUInt64 &&& Int64.toUInt64 63)).toInt64) hx hb dX2_append_122 rfl ?_
      refine lv_ldc2 hx hb hown (hts _ k_X2_append_w0) dX2_append_123 ?_
      refine lv_land hx hb dX2_append_126 ?_
      refine lv_l2i (v := (((x1.toUInt64 >>> ((8 * ((x3 - 1) - x6)).toInt64.toUInt64 &&& Int64.toUInt64 63)).toInt64) &&& (255 : Int64)).toInt32) hx hb dX2_append_127 rfl ?_
      obtain ⟨σ128, e128, i128, h⟩ := wx_w_ok h
      refine wx_iast hx hb hC.1 Z hS (o := 15) (k := 0) (n := 80) rfl rfl i128 dX2_append_128 e128 (fun H locs Z hS => ?_)
      refine lv_iinc (v := x6 + 1) (lv' := [(6, .int (x6 + 1)), (0, .ref (ad 15 99)), (1, .long x1), (3, .int x3), (4, .long x4)]) hx hb dX2_append_129 hl (k := 4) rfl rfl (by decide) rfl (fun ls hl => ?_)
      refine lv_goto (tgt := 95) hx hb dX2_append_132 (by decide) ?_
      exact ih h Z hS (lv_sub hl [1, 2, 3, 4, 0] rfl)
set_option maxRecDepth 20000 in
set_option maxHeartbeats 4000000 in
theorem b_X2_append_64 (B : wx_B p s m args meth c cX2_append 7 (some .int) wsX2_append RX2 D ad ca A)    {r : Int32} {σ' : wx_St}  {x1 : Int64} {x3 : Int32} {x4 : Int64} {σ : wx_St}  (h : f_X2_append_64 x1 x3 x4 σ = some (r, σ')) {H : Heap} {locs : List Loc} (Z : wx_Z D ad rd ca A σ H) (hS : va_S A s.heap H locs) {ls : Array Slot} (hl : lv_has ls 7 [(0, .ref (ad 15 99)), (1, .long x1), (3, .int x3), (4, .long x4)]) : W p l e ({ frames := 0, cells := 0, slots := 0, locals := 0 } : Room) s m args below meth c H locs 0 0 (MQ below (wx_Q D ad rd ca A (some (.int r)) σ') args s 0 0 A) (F0 m 64 ls []) := by
  obtain ⟨hx, hb, hml, hr, hts, hown, hlk, hC, hA⟩ := id B
  unfold f_X2_append_64 at h
  refine lv_iload_n hx hb dX2_append_64 rfl (lv_at hl 2 rfl) ?_
  refine lv_if_eq (tgt := 75) hx hb dX2_append_65 (by decide) (fun c65 => ?_) (fun c65 => ?_)
  · replace h := wx_ift c65 h
    exact b_X2_append_75 B h Z hS (lv_sub hl [0, 1, 2, 3] rfl)
  · replace h := wx_iff c65 h
    refine lv_lload hx hb dX2_append_68 (lv_at hl 3 rfl) ?_
    refine lv_lconst (v := 0) hx hb dX2_append_70 (by decide) ?_
    refine W.lcmp hx hb dX2_append_71 ?_
    refine lv_if_eq (tgt := 78) hx hb dX2_append_72 (by decide) (fun c72 => ?_) (fun c72 => ?_)
    · replace h := wx_ift c72 h
      refine lv_aload_n hx hb dX2_append_78 rfl (lv_at hl 0 rfl) ?_
      refine wx_get (own := RX2) hx hb hts i_X2_append_2 hown hC.1 Z (o := 15) (ci := 2) rfl (rfl : vwCl[2]? = some (RX2, TX2, 2)) 1 (by decide) (hts _ k_X2_append_w3) (fun _ h9 => h9) (f := 1) rfl rfl dX2_append_79 ?_
      refine lv_iload_n hx hb dX2_append_82 rfl (lv_at hl 2 rfl) ?_
      refine lv_iadd hx hb dX2_append_83 ?_
      refine lv_bipush (v := 80) hx hb dX2_append_84 (by decide) ?_
      refine lv_icmp_le (tgt := 92) hx hb dX2_append_86 (by decide) (fun c86 => ?_) (fun c86 => ?_)
      · replace h := wx_ift c86 h
        refine lv_iconst (v := 0) hx hb dX2_append_92 (by decide) ?_
        refine lv_istore (lv' := [(6, .int 0), (0, .ref (ad 15 99)), (1, .long x1), (3, .int x3), (4, .long x4)]) hx hb dX2_append_93 hl (by decide) rfl (fun ls hl => ?_)
        exact b_X2_append_95 B h Z hS (lv_sub hl [1, 2, 3, 4, 0] rfl)
      · replace h := wx_iff c86 h
        refine lv_bipush (v := (-4)) hx hb dX2_append_89 (by decide) ?_
        obtain ⟨rfl, rfl⟩ := wx_ret_ok h
        exact W.iret hx hb hr (fun t ht hW => ⟨rfl, by rw [ht]; exact Z, hS.F ht⟩) hS.2.2 dX2_append_91
    · replace h := wx_iff c72 h
      exact b_X2_append_75 B h Z hS (lv_sub hl [0, 1, 2, 3] rfl)
set_option maxRecDepth 20000 in
set_option maxHeartbeats 4000000 in
theorem b_X2_append_5 (B : wx_B p s m args meth c cX2_append 7 (some .int) wsX2_append RX2 D ad ca A)    {r : Int32} {σ' : wx_St}   :
    ∀ {n : Nat} {x1 : Int64} {x3 : Int32} {x4 : Int64} {σ : wx_St}  (h : f_X2_append_5 n x1 x3 x4 σ = some (r, σ')) {H : Heap} {locs : List Loc} (Z : wx_Z D ad rd ca A σ H) (hS : va_S A s.heap H locs) {ls : Array Slot} (hl : lv_has ls 7 [(0, .ref (ad 15 99)), (1, .long x1), (3, .int x3), (4, .long x4)]), W p l e ({ frames := 0, cells := 0, slots := 0, locals := 0 } : Room) s m args below meth c H locs 0 0 (MQ below (wx_Q D ad rd ca A (some (.int r)) σ') args s 0 0 A) (F0 m 5 ls []) := by
  obtain ⟨hx, hb, hml, hr, hts, hown, hlk, hC, hA⟩ := id B
  intro n
  induction n with
  | zero => intro x1 x3 x4 σ  h H locs Z hS ls hl; exact wx_no h
  | succ n ih =>
    intro x1 x3 x4 σ  h H locs Z hS ls hl
    rw [f_X2_append_5] at h
    refine lv_iload_n hx hb dX2_append_5 rfl (lv_at hl 2 rfl) ?_
    refine lv_bipush (v := 8) hx hb dX2_append_6 (by decide) ?_
    refine lv_icmp_ge (tgt := 64) hx hb dX2_append_8 (by decide) (fun c8 => ?_) (fun c8 => ?_)
    · replace h := wx_ift c8 h
      exact b_X2_append_64 B h Z hS (lv_sub hl [0, 1, 2, 3] rfl)
    · replace h := wx_iff c8 h
      refine lv_lload hx hb dX2_append_11 (lv_at hl 3 rfl) ?_
      refine lv_ldc2 hx hb hown (hts _ k_X2_append_w0) dX2_append_13 ?_
      refine lv_land hx hb dX2_append_16 ?_
      refine lv_lconst (v := 0) hx hb dX2_append_17 (by decide) ?_
      refine W.lcmp hx hb dX2_append_18 ?_
      refine lv_if_eq (tgt := 64) hx hb dX2_append_19 (by decide) (fun c19 => ?_) (fun c19 => ?_)
      · replace h := wx_ift c19 h
        exact b_X2_append_64 B h Z hS (lv_sub hl [0, 1, 2, 3] rfl)
      · replace h := wx_iff c19 h
        refine lv_lload hx hb dX2_append_22 (lv_at hl 3 rfl) ?_
        refine lv_ldc2 hx hb hown (hts _ k_X2_append_w0) dX2_append_24 ?_
        refine lv_land hx hb dX2_append_27 ?_
        refine lv_ldc2 hx hb hown (hts _ k_X2_append_w1) dX2_append_28 ?_
        refine W.lcmp hx hb dX2_append_31 ?_
        refine lv_if_lt (tgt := 48) hx hb dX2_append_32 (by decide) (fun c32 => ?_) (fun c32 => ?_)
        · replace h := wx_ift c32 h
          exact b_X2_append_48 B h Z hS (lv_sub hl [0, 1, 2, 3] rfl)
        · replace h := wx_iff c32 h
          refine lv_lload hx hb dX2_append_35 (lv_at hl 3 rfl) ?_
          refine lv_ldc2 hx hb hown (hts _ k_X2_append_w0) dX2_append_37 ?_
          refine lv_land hx hb dX2_append_40 ?_
          refine lv_ldc2 hx hb hown (hts _ k_X2_append_w2) dX2_append_41 ?_
          refine W.lcmp hx hb dX2_append_44 ?_
          refine lv_if_le (tgt := 51) hx hb dX2_append_45 (by decide) (fun c45 => ?_) (fun c45 => ?_)
          · replace h := wx_ift c45 h
            refine lv_lload hx hb dX2_append_51 (lv_at hl 3 rfl) ?_
            refine lv_bipush (v := 8) hx hb dX2_append_53 (by decide) ?_
            refine lv_lushr (v := (x4.toUInt64 >>> ((8 : Int32).toInt64.toUInt64 &&& Int64.toUInt64 63)).toInt64) hx hb dX2_append_55 rfl ?_
            refine lv_lstore (lv' := [(4, .long ((x4.toUInt64 >>> ((8 : Int32).toInt64.toUInt64 &&& Int64.toUInt64 63)).toInt64)), (0, .ref (ad 15 99)), (1, .long x1), (3, .int x3)]) hx hb dX2_append_56 hl (by decide) rfl (fun ls hl => ?_)
            refine lv_iinc (v := x3 + 1) (lv' := [(3, .int (x3 + 1)), (4, .long ((x4.toUInt64 >>> ((8 : Int32).toInt64.toUInt64 &&& Int64.toUInt64 63)).toInt64)), (0, .ref (ad 15 99)), (1, .long x1)]) hx hb dX2_append_58 hl (k := 3) rfl rfl (by decide) rfl (fun ls hl => ?_)
            refine lv_goto (tgt := 5) hx hb dX2_append_61 (by decide) ?_
            exact ih h Z hS (lv_sub hl [2, 3, 0, 1] rfl)
          · replace h := wx_iff c45 h
            exact b_X2_append_48 B h Z hS (lv_sub hl [0, 1, 2, 3] rfl)
set_option maxRecDepth 20000 in
set_option maxHeartbeats 4000000 in
theorem b_X2_append_0 (B : wx_B p s m args meth c cX2_append 7 (some .int) wsX2_append RX2 D ad ca A)    {r : Int32} {σ' : wx_St}  {x1 : Int64} {σ : wx_St}  (h : f_X2_append x1 σ = some (r, σ')) {H : Heap} {locs : List Loc} (Z : wx_Z D ad rd ca A σ H) (hS : va_S A s.heap H locs) {ls : Array Slot} (hl : lv_has ls 7 [(0, .ref (ad 15 99)), (1, .long x1)]) : W p l e ({ frames := 0, cells := 0, slots := 0, locals := 0 } : Room) s m args below meth c H locs 0 0 (MQ below (wx_Q D ad rd ca A (some (.int r)) σ') args s 0 0 A) (F0 m 0 ls []) := by
  obtain ⟨hx, hb, hml, hr, hts, hown, hlk, hC, hA⟩ := id B
  unfold f_X2_append at h
  refine lv_iconst (v := 0) hx hb dX2_append_0 (by decide) ?_
  refine lv_istore_n (lv' := [(3, .int 0), (0, .ref (ad 15 99)), (1, .long x1)]) hx hb dX2_append_1 rfl hl (by decide) rfl (fun ls hl => ?_)
  refine lv_lload_n hx hb dX2_append_2 rfl (lv_at hl 2 rfl) ?_
  refine lv_lstore (lv' := [(4, .long x1), (3, .int 0), (0, .ref (ad 15 99)), (1, .long x1)]) hx hb dX2_append_3 hl (by decide) rfl (fun ls hl => ?_)
  exact b_X2_append_5 B h Z hS (lv_sub hl [2, 3, 1, 0] rfl)
set_option maxRecDepth 20000 in
theorem c_X2_append (l : Launch) {D : va_G} {ad : Nat → Nat → Nat} {rd : Nat → Nat} {ca : Nat → ClassId} {A : Nat → Prop} {σ : wx_St}    {x1 : Int64} {r : Int32} {σ' : wx_St} (h : f_X2_append x1 σ = some (r, σ')) : wx_M l yX2_append wsX2_append 0 0 D ad rd ca A [.ref (ad 15 99), .long x1] σ (some (.int r)) σ' := by
  refine Met.ofW (cc := cX2_append) (maxL := 7) (ret := (some .int)) (by decide +kernel) rfl ?_
  intro p e s m args below meth c s₁ B0 hml hv
  obtain ⟨rfl, hC, Z, hA⟩ := hv
  have hl := lv_entry ([.ref (ad 15 99), .long x1]) (n := 7) (Nat.le_of_ble_eq_true rfl)
  rw [lg_entry_eq]
  generalize (lg_sl ([.ref (ad 15 99), .long x1]) ++ List.replicate (7 - (lg_sl ([.ref (ad 15 99), .long x1])).length) Slot.unset).toArray = ls at hl ⊢
  exact b_X2_append_0 ⟨B0.exec, B0.bytes, hml, B0.returns, atoms_spec (ws := wsX2_append) B0.pre, findClass_of_methodNamed B0.named, B0.notSynchronized, hC, hA⟩   h Z va_S.rf hl
theorem i_X2_clear_2 : ∀ w ∈ wsX20, w ∈ wsX2_clear := by decide +kernel
theorem k_X2_clear_w0 : Cond.fieldLink RX2 15 "WarmProbes$Pad" "length" "I" ∈ wsX2_clear := by decide +kernel
set_option maxRecDepth 20000 in
set_option maxHeartbeats 4000000 in
theorem b_X2_clear_0 (B : wx_B p s m args meth c cX2_clear 2 (some .int) wsX2_clear RX2 D ad ca A)    {r : Int32} {σ' : wx_St}   {σ : wx_St}  (h : f_X2_clear σ = some (r, σ')) {H : Heap} {locs : List Loc} (Z : wx_Z D ad rd ca A σ H) (hS : va_S A s.heap H locs) {ls : Array Slot} (hl : lv_has ls 2 [(0, .ref (ad 15 99))]) : W p l e ({ frames := 0, cells := 0, slots := 0, locals := 0 } : Room) s m args below meth c H locs 0 0 (MQ below (wx_Q D ad rd ca A (some (.int r)) σ') args s 0 0 A) (F0 m 0 ls []) := by
  obtain ⟨hx, hb, hml, hr, hts, hown, hlk, hC, hA⟩ := id B
  unfold f_X2_clear at h
  refine lv_aload_n hx hb dX2_clear_0 rfl (lv_at hl 0 rfl) ?_
  refine wx_get (own := RX2) hx hb hts i_X2_clear_2 hown hC.1 Z (o := 15) (ci := 2) rfl (rfl : vwCl[2]? = some (RX2, TX2, 2)) 1 (by decide) (hts _ k_X2_clear_w0) (fun _ h9 => h9) (f := 1) rfl rfl dX2_clear_1 ?_
  refine lv_istore_n (lv' := [(1, .int (σ.2.2.1 15 1)), (0, .ref (ad 15 99))]) hx hb dX2_clear_4 rfl hl (by decide) rfl (fun ls hl => ?_)
  refine lv_aload_n hx hb dX2_clear_5 rfl (lv_at hl 1 rfl) ?_
  refine lv_iconst (v := 0) hx hb dX2_clear_6 (by decide) ?_
  obtain ⟨σ7, e7, h⟩ := wx_l_ok h
  refine wx_put (own := RX2) hx hb hts i_X2_clear_2 tyX2 tyX2_ok nmX2 hown hC.1 Z hS (o := 15) (ci := 2) rfl (rfl : vwCl[2]? = some (RX2, TX2, 2)) 1 (by decide) (hts _ k_X2_clear_w0) (fun _ h9 => h9) rfl (by decide +kernel) rfl dX2_clear_7 e7 (fun H locs Z hS => ?_)
  refine lv_iload_n hx hb dX2_clear_10 rfl (lv_at hl 0 rfl) ?_
  obtain ⟨rfl, rfl⟩ := wx_ret_ok h
  exact W.iret hx hb hr (fun t ht hW => ⟨rfl, by rw [ht]; exact Z, hS.F ht⟩) hS.2.2 dX2_clear_11
set_option maxRecDepth 20000 in
theorem c_X2_clear (l : Launch) {D : va_G} {ad : Nat → Nat → Nat} {rd : Nat → Nat} {ca : Nat → ClassId} {A : Nat → Prop} {σ : wx_St}     {r : Int32} {σ' : wx_St} (h : f_X2_clear σ = some (r, σ')) : wx_M l yX2_clear wsX2_clear 0 0 D ad rd ca A [.ref (ad 15 99)] σ (some (.int r)) σ' := by
  refine Met.ofW (cc := cX2_clear) (maxL := 2) (ret := (some .int)) (by decide +kernel) rfl ?_
  intro p e s m args below meth c s₁ B0 hml hv
  obtain ⟨rfl, hC, Z, hA⟩ := hv
  have hl := lv_entry ([.ref (ad 15 99)]) (n := 2) (Nat.le_of_ble_eq_true rfl)
  rw [lg_entry_eq]
  generalize (lg_sl ([.ref (ad 15 99)]) ++ List.replicate (2 - (lg_sl ([.ref (ad 15 99)])).length) Slot.unset).toArray = ls at hl ⊢
  exact b_X2_clear_0 ⟨B0.exec, B0.bytes, hml, B0.returns, atoms_spec (ws := wsX2_clear) B0.pre, findClass_of_methodNamed B0.named, B0.notSynchronized, hC, hA⟩   h Z va_S.rf hl
theorem i_X2_codeAt_2 : ∀ w ∈ wsX20, w ∈ wsX2_codeAt := by decide +kernel
theorem k_X2_codeAt_w0 : Cond.fieldLink RX2 15 "WarmProbes$Pad" "length" "I" ∈ wsX2_codeAt := by decide +kernel
theorem k_X2_codeAt_w1 : Cond.fieldLink RX2 9 "WarmProbes$Pad" "codes" "[I" ∈ wsX2_codeAt := by decide +kernel
set_option maxRecDepth 20000 in
set_option maxHeartbeats 4000000 in
theorem b_X2_codeAt_22 (B : wx_B p s m args meth c cX2_codeAt 2 (some .int) wsX2_codeAt RX2 D ad ca A)    {r : Int32} {σ : wx_St}  {x1 : Int32} {y0 : Int32}   (h : f_X2_codeAt_22 x1 y0 σ = some r) {H : Heap} {locs : List Loc} (Z : wx_Z D ad rd ca A σ H) (hS : va_S A s.heap H locs) {ls : Array Slot} (hl : lv_has ls 2 [(0, .ref (ad 15 99)), (1, .int x1)]) : W p l e ({ frames := 0, cells := 0, slots := 0, locals := 0 } : Room) s m args below meth c H locs 0 0 (MQ below (wx_Q D ad rd ca A (some (.int r)) σ) args s 0 0 A) (F0 m 22 ls [.int y0]) := by
  obtain ⟨hx, hb, hml, hr, hts, hown, hlk, hC, hA⟩ := id B
  unfold f_X2_codeAt_22 at h
  obtain rfl := Option.some.inj h
  exact W.iret hx hb hr (fun t ht hW => ⟨rfl, by rw [ht]; exact Z, hS.F ht⟩) hS.2.2 dX2_codeAt_22
set_option maxRecDepth 20000 in
set_option maxHeartbeats 4000000 in
theorem b_X2_codeAt_21 (B : wx_B p s m args meth c cX2_codeAt 2 (some .int) wsX2_codeAt RX2 D ad ca A)    {r : Int32} {σ : wx_St}  {x1 : Int32}   (h : f_X2_codeAt_21 x1 σ = some r) {H : Heap} {locs : List Loc} (Z : wx_Z D ad rd ca A σ H) (hS : va_S A s.heap H locs) {ls : Array Slot} (hl : lv_has ls 2 [(0, .ref (ad 15 99)), (1, .int x1)]) : W p l e ({ frames := 0, cells := 0, slots := 0, locals := 0 } : Room) s m args below meth c H locs 0 0 (MQ below (wx_Q D ad rd ca A (some (.int r)) σ) args s 0 0 A) (F0 m 21 ls []) := by
  obtain ⟨hx, hb, hml, hr, hts, hown, hlk, hC, hA⟩ := id B
  unfold f_X2_codeAt_21 at h
  refine lv_iconst (v := 0) hx hb dX2_codeAt_21 (by decide) ?_
  exact b_X2_codeAt_22 B h Z hS (lv_sub hl [0, 1] rfl)
set_option maxRecDepth 20000 in
set_option maxHeartbeats 4000000 in
theorem b_X2_codeAt_0 (B : wx_B p s m args meth c cX2_codeAt 2 (some .int) wsX2_codeAt RX2 D ad ca A)    {r : Int32} {σ : wx_St}  {x1 : Int32}   (h : f_X2_codeAt x1 σ = some r) {H : Heap} {locs : List Loc} (Z : wx_Z D ad rd ca A σ H) (hS : va_S A s.heap H locs) {ls : Array Slot} (hl : lv_has ls 2 [(0, .ref (ad 15 99)), (1, .int x1)]) : W p l e ({ frames := 0, cells := 0, slots := 0, locals := 0 } : Room) s m args below meth c H locs 0 0 (MQ below (wx_Q D ad rd ca A (some (.int r)) σ) args s 0 0 A) (F0 m 0 ls []) := by
  obtain ⟨hx, hb, hml, hr, hts, hown, hlk, hC, hA⟩ := id B
  unfold f_X2_codeAt at h
  refine lv_iload_n hx hb dX2_codeAt_0 rfl (lv_at hl 1 rfl) ?_
  refine lv_if_lt (tgt := 21) hx hb dX2_codeAt_1 (by decide) (fun c1 => ?_) (fun c1 => ?_)
  · replace h := wx_ift c1 h
    exact b_X2_codeAt_21 B h Z hS (lv_sub hl [0, 1] rfl)
  · replace h := wx_iff c1 h
    refine lv_iload_n hx hb dX2_codeAt_4 rfl (lv_at hl 1 rfl) ?_
    refine lv_aload_n hx hb dX2_codeAt_5 rfl (lv_at hl 0 rfl) ?_
    refine wx_get (own := RX2) hx hb hts i_X2_codeAt_2 hown hC.1 Z (o := 15) (ci := 2) rfl (rfl : vwCl[2]? = some (RX2, TX2, 2)) 1 (by decide) (hts _ k_X2_codeAt_w0) (fun _ h9 => h9) (f := 1) rfl rfl dX2_codeAt_6 ?_
    refine lv_icmp_ge (tgt := 21) hx hb dX2_codeAt_9 (by decide) (fun c9 => ?_) (fun c9 => ?_)
    · replace h := wx_ift c9 h
      exact b_X2_codeAt_21 B h Z hS (lv_sub hl [0, 1] rfl)
    · replace h := wx_iff c9 h
      refine lv_aload_n hx hb dX2_codeAt_12 rfl (lv_at hl 0 rfl) ?_
      refine wx_get (own := RX2) hx hb hts i_X2_codeAt_2 hown hC.1 Z (o := 15) (ci := 2) rfl (rfl : vwCl[2]? = some (RX2, TX2, 2)) 0 (by decide) (hts _ k_X2_codeAt_w1) (fun _ h9 => h9) (f := 0) rfl rfl dX2_codeAt_13 ?_
      refine lv_iload_n hx hb dX2_codeAt_16 rfl (lv_at hl 1 rfl) ?_
      obtain ⟨v17, ev17, iv17, h⟩ := wx_rI_ok h
      refine wx_iald hx hb hC.1 Z (o := 15) (k := 0) (n := 80) rfl rfl iv17 dX2_codeAt_17 ev17 ?_
      refine lv_goto (tgt := 22) hx hb dX2_codeAt_18 (by decide) ?_
      exact b_X2_codeAt_22 B h Z hS (lv_sub hl [0, 1] rfl)
set_option maxRecDepth 20000 in
theorem c_X2_codeAt (l : Launch) {D : va_G} {ad : Nat → Nat → Nat} {rd : Nat → Nat} {ca : Nat → ClassId} {A : Nat → Prop} {σ : wx_St}    {x1 : Int32} {r : Int32} (h : f_X2_codeAt x1 σ = some r) : wx_M l yX2_codeAt wsX2_codeAt 0 0 D ad rd ca A [.ref (ad 15 99), .int x1] σ (some (.int r)) σ := by
  refine Met.ofW (cc := cX2_codeAt) (maxL := 2) (ret := (some .int)) (by decide +kernel) rfl ?_
  intro p e s m args below meth c s₁ B0 hml hv
  obtain ⟨rfl, hC, Z, hA⟩ := hv
  have hl := lv_entry ([.ref (ad 15 99), .int x1]) (n := 2) (Nat.le_of_ble_eq_true rfl)
  rw [lg_entry_eq]
  generalize (lg_sl ([.ref (ad 15 99), .int x1]) ++ List.replicate (2 - (lg_sl ([.ref (ad 15 99), .int x1])).length) Slot.unset).toArray = ls at hl ⊢
  exact b_X2_codeAt_0 ⟨B0.exec, B0.bytes, hml, B0.returns, atoms_spec (ws := wsX2_codeAt) B0.pre, findClass_of_methodNamed B0.named, B0.notSynchronized, hC, hA⟩   h Z va_S.rf hl
set_option maxRecDepth 20000 in
set_option maxHeartbeats 4000000 in
theorem b_X2_columnAt_0 (B : wx_B p s m args meth c cX2_columnAt 2 (some .int) wsX2_columnAt RX2 D ad ca A)    {r : Int32} {σ : wx_St}  {x1 : Int32}   (h : f_X2_columnAt x1 σ = some r) {H : Heap} {locs : List Loc} (Z : wx_Z D ad rd ca A σ H) (hS : va_S A s.heap H locs) {ls : Array Slot} (hl : lv_has ls 2 [(0, .ref (ad 15 99)), (1, .int x1)]) : W p l e ({ frames := 1, cells := 0, slots := 0, locals := 21 } : Room) s m args below meth c H locs 0 0 (MQ below (wx_Q D ad rd ca A (some (.int r)) σ) args s 0 0 A) (F0 m 0 ls []) := by
  obtain ⟨hx, hb, hml, hr, hts, hown, hlk, hC, hA⟩ := id B
  unfold f_X2_columnAt at h
  refine lv_aload_n hx hb dX2_columnAt_0 rfl (lv_at hl 0 rfl) ?_
  refine lv_iload_n hx hb dX2_columnAt_1 rfl (lv_at hl 1 rfl) ?_
  obtain ⟨v2, hc2, h⟩ := wx_o_ok h
  refine wx_call (va_runV (As := [.int x1]) (rest := []) ⟨hx, hb, hml, hown, hts⟩ (c_X2_codeAt l (D := D) (ad := ad) (rd := rd) (ca := ca) (A := A) (σ := σ) hc2) (cwV 1 hts gX2_columnAt_X2_codeAt rfl rfl rfl (by decide +kernel) ⟨Nat.le_of_ble_eq_true rfl, Nat.le_of_ble_eq_true rfl⟩) (wx_preV hC Z hS hA rfl (rfl : vwCl[2]? = some (RX2, TX2, 2))) rfl rfl hl.1 rfl (lv_room (Nat.le_of_ble_eq_true rfl)) dX2_columnAt_2 ⟨Nat.zero_le _, Nat.zero_le _⟩) hS (fun H locs Z hS => ?_)
  refine lv_bipush (v := 97) hx hb dX2_columnAt_5 (by decide) ?_
  refine lv_isub hx hb dX2_columnAt_7 ?_
  obtain rfl := Option.some.inj h
  exact W.iret hx hb hr (fun t ht hW => ⟨rfl, by rw [ht]; exact Z, hS.F ht⟩) hS.2.2 dX2_columnAt_8
set_option maxRecDepth 20000 in
theorem c_X2_columnAt (l : Launch) {D : va_G} {ad : Nat → Nat → Nat} {rd : Nat → Nat} {ca : Nat → ClassId} {A : Nat → Prop} {σ : wx_St}    {x1 : Int32} {r : Int32} (h : f_X2_columnAt x1 σ = some r) : wx_M l yX2_columnAt wsX2_columnAt 1 21 D ad rd ca A [.ref (ad 15 99), .int x1] σ (some (.int r)) σ := by
  refine Met.ofW (cc := cX2_columnAt) (maxL := 2) (ret := (some .int)) (by decide +kernel) rfl ?_
  intro p e s m args below meth c s₁ B0 hml hv
  obtain ⟨rfl, hC, Z, hA⟩ := hv
  have hl := lv_entry ([.ref (ad 15 99), .int x1]) (n := 2) (Nat.le_of_ble_eq_true rfl)
  rw [lg_entry_eq]
  generalize (lg_sl ([.ref (ad 15 99), .int x1]) ++ List.replicate (2 - (lg_sl ([.ref (ad 15 99), .int x1])).length) Slot.unset).toArray = ls at hl ⊢
  exact b_X2_columnAt_0 ⟨B0.exec, B0.bytes, hml, B0.returns, atoms_spec (ws := wsX2_columnAt) B0.pre, findClass_of_methodNamed B0.named, B0.notSynchronized, hC, hA⟩   h Z va_S.rf hl
set_option maxRecDepth 20000 in
set_option maxHeartbeats 4000000 in
theorem b_X2_digitAt_0 (B : wx_B p s m args meth c cX2_digitAt 2 (some .int) wsX2_digitAt RX2 D ad ca A)    {r : Int32} {σ : wx_St}  {x1 : Int32}   (h : f_X2_digitAt x1 σ = some r) {H : Heap} {locs : List Loc} (Z : wx_Z D ad rd ca A σ H) (hS : va_S A s.heap H locs) {ls : Array Slot} (hl : lv_has ls 2 [(0, .ref (ad 15 99)), (1, .int x1)]) : W p l e ({ frames := 1, cells := 0, slots := 0, locals := 21 } : Room) s m args below meth c H locs 0 0 (MQ below (wx_Q D ad rd ca A (some (.int r)) σ) args s 0 0 A) (F0 m 0 ls []) := by
  obtain ⟨hx, hb, hml, hr, hts, hown, hlk, hC, hA⟩ := id B
  unfold f_X2_digitAt at h
  refine lv_aload_n hx hb dX2_digitAt_0 rfl (lv_at hl 0 rfl) ?_
  refine lv_iload_n hx hb dX2_digitAt_1 rfl (lv_at hl 1 rfl) ?_
  obtain ⟨v2, hc2, h⟩ := wx_o_ok h
  refine wx_call (va_runV (As := [.int x1]) (rest := []) ⟨hx, hb, hml, hown, hts⟩ (c_X2_codeAt l (D := D) (ad := ad) (rd := rd) (ca := ca) (A := A) (σ := σ) hc2) (cwV 1 hts gX2_digitAt_X2_codeAt rfl rfl rfl (by decide +kernel) ⟨Nat.le_of_ble_eq_true rfl, Nat.le_of_ble_eq_true rfl⟩) (wx_preV hC Z hS hA rfl (rfl : vwCl[2]? = some (RX2, TX2, 2))) rfl rfl hl.1 rfl (lv_room (Nat.le_of_ble_eq_true rfl)) dX2_digitAt_2 ⟨Nat.zero_le _, Nat.zero_le _⟩) hS (fun H locs Z hS => ?_)
  refine lv_bipush (v := 48) hx hb dX2_digitAt_5 (by decide) ?_
  refine lv_isub hx hb dX2_digitAt_7 ?_
  obtain rfl := Option.some.inj h
  exact W.iret hx hb hr (fun t ht hW => ⟨rfl, by rw [ht]; exact Z, hS.F ht⟩) hS.2.2 dX2_digitAt_8
set_option maxRecDepth 20000 in
theorem c_X2_digitAt (l : Launch) {D : va_G} {ad : Nat → Nat → Nat} {rd : Nat → Nat} {ca : Nat → ClassId} {A : Nat → Prop} {σ : wx_St}    {x1 : Int32} {r : Int32} (h : f_X2_digitAt x1 σ = some r) : wx_M l yX2_digitAt wsX2_digitAt 1 21 D ad rd ca A [.ref (ad 15 99), .int x1] σ (some (.int r)) σ := by
  refine Met.ofW (cc := cX2_digitAt) (maxL := 2) (ret := (some .int)) (by decide +kernel) rfl ?_
  intro p e s m args below meth c s₁ B0 hml hv
  obtain ⟨rfl, hC, Z, hA⟩ := hv
  have hl := lv_entry ([.ref (ad 15 99), .int x1]) (n := 2) (Nat.le_of_ble_eq_true rfl)
  rw [lg_entry_eq]
  generalize (lg_sl ([.ref (ad 15 99), .int x1]) ++ List.replicate (2 - (lg_sl ([.ref (ad 15 99), .int x1])).length) Slot.unset).toArray = ls at hl ⊢
  exact b_X2_digitAt_0 ⟨B0.exec, B0.bytes, hml, B0.returns, atoms_spec (ws := wsX2_digitAt) B0.pre, findClass_of_methodNamed B0.named, B0.notSynchronized, hC, hA⟩   h Z va_S.rf hl
set_option maxRecDepth 20000 in
set_option maxHeartbeats 4000000 in
theorem b_X2_isColumn_25 (B : wx_B p s m args meth c cX2_isColumn 2 (some .boolean) wsX2_isColumn RX2 D ad ca A)    {r : Int32} {σ : wx_St}  {x1 : Int32} {y0 : Int32}   (h : f_X2_isColumn_25 x1 y0 σ = some r) {H : Heap} {locs : List Loc} (Z : wx_Z D ad rd ca A σ H) (hS : va_S A s.heap H locs) {ls : Array Slot} (hl : lv_has ls 2 [(0, .ref (ad 15 99)), (1, .int x1)]) : W p l e ({ frames := 1, cells := 0, slots := 0, locals := 21 } : Room) s m args below meth c H locs 0 0 (MQ below (wx_Q D ad rd ca A (some (.int r)) σ) args s 0 0 A) (F0 m 25 ls [.int y0]) := by
  obtain ⟨hx, hb, hml, hr, hts, hown, hlk, hC, hA⟩ := id B
  unfold f_X2_isColumn_25 at h
  obtain ⟨hz, h⟩ := wx_z_ok h
  obtain rfl := Option.some.inj h
  exact W.zret hx hb hr (wx_nb hz) (fun t ht hW => ⟨rfl, by rw [ht]; exact Z, hS.F ht⟩) hS.2.2 dX2_isColumn_25
set_option maxRecDepth 20000 in
set_option maxHeartbeats 4000000 in
theorem b_X2_isColumn_24 (B : wx_B p s m args meth c cX2_isColumn 2 (some .boolean) wsX2_isColumn RX2 D ad ca A)    {r : Int32} {σ : wx_St}  {x1 : Int32}   (h : f_X2_isColumn_24 x1 σ = some r) {H : Heap} {locs : List Loc} (Z : wx_Z D ad rd ca A σ H) (hS : va_S A s.heap H locs) {ls : Array Slot} (hl : lv_has ls 2 [(0, .ref (ad 15 99)), (1, .int x1)]) : W p l e ({ frames := 1, cells := 0, slots := 0, locals := 21 } : Room) s m args below meth c H locs 0 0 (MQ below (wx_Q D ad rd ca A (some (.int r)) σ) args s 0 0 A) (F0 m 24 ls []) := by
  obtain ⟨hx, hb, hml, hr, hts, hown, hlk, hC, hA⟩ := id B
  unfold f_X2_isColumn_24 at h
  refine lv_iconst (v := 0) hx hb dX2_isColumn_24 (by decide) ?_
  exact b_X2_isColumn_25 B h Z hS (lv_sub hl [0, 1] rfl)
set_option maxRecDepth 20000 in
set_option maxHeartbeats 4000000 in
theorem b_X2_isColumn_0 (B : wx_B p s m args meth c cX2_isColumn 2 (some .boolean) wsX2_isColumn RX2 D ad ca A)    {r : Int32} {σ : wx_St}  {x1 : Int32}   (h : f_X2_isColumn x1 σ = some r) {H : Heap} {locs : List Loc} (Z : wx_Z D ad rd ca A σ H) (hS : va_S A s.heap H locs) {ls : Array Slot} (hl : lv_has ls 2 [(0, .ref (ad 15 99)), (1, .int x1)]) : W p l e ({ frames := 1, cells := 0, slots := 0, locals := 21 } : Room) s m args below meth c H locs 0 0 (MQ below (wx_Q D ad rd ca A (some (.int r)) σ) args s 0 0 A) (F0 m 0 ls []) := by
  obtain ⟨hx, hb, hml, hr, hts, hown, hlk, hC, hA⟩ := id B
  unfold f_X2_isColumn at h
  refine lv_aload_n hx hb dX2_isColumn_0 rfl (lv_at hl 0 rfl) ?_
  refine lv_iload_n hx hb dX2_isColumn_1 rfl (lv_at hl 1 rfl) ?_
  obtain ⟨v2, hc2, h⟩ := wx_o_ok h
  refine wx_call (va_runV (As := [.int x1]) (rest := []) ⟨hx, hb, hml, hown, hts⟩ (c_X2_codeAt l (D := D) (ad := ad) (rd := rd) (ca := ca) (A := A) (σ := σ) hc2) (cwV 1 hts gX2_isColumn_X2_codeAt rfl rfl rfl (by decide +kernel) ⟨Nat.le_of_ble_eq_true rfl, Nat.le_of_ble_eq_true rfl⟩) (wx_preV hC Z hS hA rfl (rfl : vwCl[2]? = some (RX2, TX2, 2))) rfl rfl hl.1 rfl (lv_room (Nat.le_of_ble_eq_true rfl)) dX2_isColumn_2 ⟨Nat.zero_le _, Nat.zero_le _⟩) hS (fun H locs Z hS => ?_)
  refine lv_bipush (v := 97) hx hb dX2_isColumn_5 (by decide) ?_
  refine lv_icmp_lt (tgt := 24) hx hb dX2_isColumn_7 (by decide) (fun c7 => ?_) (fun c7 => ?_)
  · replace h := wx_ift c7 h
    exact b_X2_isColumn_24 B h Z hS (lv_sub hl [0, 1] rfl)
  · replace h := wx_iff c7 h
    refine lv_aload_n hx hb dX2_isColumn_10 rfl (lv_at hl 0 rfl) ?_
    refine lv_iload_n hx hb dX2_isColumn_11 rfl (lv_at hl 1 rfl) ?_
    obtain ⟨v12, hc12, h⟩ := wx_o_ok h
    refine wx_call (va_runV (As := [.int x1]) (rest := []) ⟨hx, hb, hml, hown, hts⟩ (c_X2_codeAt l (D := D) (ad := ad) (rd := rd) (ca := ca) (A := A) (σ := σ) hc12) (cwV 1 hts gX2_isColumn_X2_codeAt rfl rfl rfl (by decide +kernel) ⟨Nat.le_of_ble_eq_true rfl, Nat.le_of_ble_eq_true rfl⟩) (wx_preV hC Z hS hA rfl (rfl : vwCl[2]? = some (RX2, TX2, 2))) rfl rfl hl.1 rfl (lv_room (Nat.le_of_ble_eq_true rfl)) dX2_isColumn_12 ⟨Nat.zero_le _, Nat.zero_le _⟩) hS (fun H locs Z hS => ?_)
    refine lv_bipush (v := 104) hx hb dX2_isColumn_15 (by decide) ?_
    refine lv_icmp_gt (tgt := 24) hx hb dX2_isColumn_17 (by decide) (fun c17 => ?_) (fun c17 => ?_)
    · replace h := wx_ift c17 h
      exact b_X2_isColumn_24 B h Z hS (lv_sub hl [0, 1] rfl)
    · replace h := wx_iff c17 h
      refine lv_iconst (v := 1) hx hb dX2_isColumn_20 (by decide) ?_
      refine lv_goto (tgt := 25) hx hb dX2_isColumn_21 (by decide) ?_
      exact b_X2_isColumn_25 B h Z hS (lv_sub hl [0, 1] rfl)
set_option maxRecDepth 20000 in
theorem c_X2_isColumn (l : Launch) {D : va_G} {ad : Nat → Nat → Nat} {rd : Nat → Nat} {ca : Nat → ClassId} {A : Nat → Prop} {σ : wx_St}    {x1 : Int32} {r : Int32} (h : f_X2_isColumn x1 σ = some r) : wx_M l yX2_isColumn wsX2_isColumn 1 21 D ad rd ca A [.ref (ad 15 99), .int x1] σ (some (.int r)) σ := by
  refine Met.ofW (cc := cX2_isColumn) (maxL := 2) (ret := (some .boolean)) (by decide +kernel) rfl ?_
  intro p e s m args below meth c s₁ B0 hml hv
  obtain ⟨rfl, hC, Z, hA⟩ := hv
  have hl := lv_entry ([.ref (ad 15 99), .int x1]) (n := 2) (Nat.le_of_ble_eq_true rfl)
  rw [lg_entry_eq]
  generalize (lg_sl ([.ref (ad 15 99), .int x1]) ++ List.replicate (2 - (lg_sl ([.ref (ad 15 99), .int x1])).length) Slot.unset).toArray = ls at hl ⊢
  exact b_X2_isColumn_0 ⟨B0.exec, B0.bytes, hml, B0.returns, atoms_spec (ws := wsX2_isColumn) B0.pre, findClass_of_methodNamed B0.named, B0.notSynchronized, hC, hA⟩   h Z va_S.rf hl
set_option maxRecDepth 20000 in
set_option maxHeartbeats 4000000 in
theorem b_X2_isDigit_25 (B : wx_B p s m args meth c cX2_isDigit 2 (some .boolean) wsX2_isDigit RX2 D ad ca A)    {r : Int32} {σ : wx_St}  {x1 : Int32} {y0 : Int32}   (h : f_X2_isDigit_25 x1 y0 σ = some r) {H : Heap} {locs : List Loc} (Z : wx_Z D ad rd ca A σ H) (hS : va_S A s.heap H locs) {ls : Array Slot} (hl : lv_has ls 2 [(0, .ref (ad 15 99)), (1, .int x1)]) : W p l e ({ frames := 1, cells := 0, slots := 0, locals := 21 } : Room) s m args below meth c H locs 0 0 (MQ below (wx_Q D ad rd ca A (some (.int r)) σ) args s 0 0 A) (F0 m 25 ls [.int y0]) := by
  obtain ⟨hx, hb, hml, hr, hts, hown, hlk, hC, hA⟩ := id B
  unfold f_X2_isDigit_25 at h
  obtain ⟨hz, h⟩ := wx_z_ok h
  obtain rfl := Option.some.inj h
  exact W.zret hx hb hr (wx_nb hz) (fun t ht hW => ⟨rfl, by rw [ht]; exact Z, hS.F ht⟩) hS.2.2 dX2_isDigit_25
set_option maxRecDepth 20000 in
set_option maxHeartbeats 4000000 in
theorem b_X2_isDigit_24 (B : wx_B p s m args meth c cX2_isDigit 2 (some .boolean) wsX2_isDigit RX2 D ad ca A)    {r : Int32} {σ : wx_St}  {x1 : Int32}   (h : f_X2_isDigit_24 x1 σ = some r) {H : Heap} {locs : List Loc} (Z : wx_Z D ad rd ca A σ H) (hS : va_S A s.heap H locs) {ls : Array Slot} (hl : lv_has ls 2 [(0, .ref (ad 15 99)), (1, .int x1)]) : W p l e ({ frames := 1, cells := 0, slots := 0, locals := 21 } : Room) s m args below meth c H locs 0 0 (MQ below (wx_Q D ad rd ca A (some (.int r)) σ) args s 0 0 A) (F0 m 24 ls []) := by
  obtain ⟨hx, hb, hml, hr, hts, hown, hlk, hC, hA⟩ := id B
  unfold f_X2_isDigit_24 at h
  refine lv_iconst (v := 0) hx hb dX2_isDigit_24 (by decide) ?_
  exact b_X2_isDigit_25 B h Z hS (lv_sub hl [0, 1] rfl)
set_option maxRecDepth 20000 in
set_option maxHeartbeats 4000000 in
theorem b_X2_isDigit_0 (B : wx_B p s m args meth c cX2_isDigit 2 (some .boolean) wsX2_isDigit RX2 D ad ca A)    {r : Int32} {σ : wx_St}  {x1 : Int32}   (h : f_X2_isDigit x1 σ = some r) {H : Heap} {locs : List Loc} (Z : wx_Z D ad rd ca A σ H) (hS : va_S A s.heap H locs) {ls : Array Slot} (hl : lv_has ls 2 [(0, .ref (ad 15 99)), (1, .int x1)]) : W p l e ({ frames := 1, cells := 0, slots := 0, locals := 21 } : Room) s m args below meth c H locs 0 0 (MQ below (wx_Q D ad rd ca A (some (.int r)) σ) args s 0 0 A) (F0 m 0 ls []) := by
  obtain ⟨hx, hb, hml, hr, hts, hown, hlk, hC, hA⟩ := id B
  unfold f_X2_isDigit at h
  refine lv_aload_n hx hb dX2_isDigit_0 rfl (lv_at hl 0 rfl) ?_
  refine lv_iload_n hx hb dX2_isDigit_1 rfl (lv_at hl 1 rfl) ?_
  obtain ⟨v2, hc2, h⟩ := wx_o_ok h
  refine wx_call (va_runV (As := [.int x1]) (rest := []) ⟨hx, hb, hml, hown, hts⟩ (c_X2_codeAt l (D := D) (ad := ad) (rd := rd) (ca := ca) (A := A) (σ := σ) hc2) (cwV 1 hts gX2_isDigit_X2_codeAt rfl rfl rfl (by decide +kernel) ⟨Nat.le_of_ble_eq_true rfl, Nat.le_of_ble_eq_true rfl⟩) (wx_preV hC Z hS hA rfl (rfl : vwCl[2]? = some (RX2, TX2, 2))) rfl rfl hl.1 rfl (lv_room (Nat.le_of_ble_eq_true rfl)) dX2_isDigit_2 ⟨Nat.zero_le _, Nat.zero_le _⟩) hS (fun H locs Z hS => ?_)
  refine lv_bipush (v := 48) hx hb dX2_isDigit_5 (by decide) ?_
  refine lv_icmp_lt (tgt := 24) hx hb dX2_isDigit_7 (by decide) (fun c7 => ?_) (fun c7 => ?_)
  · replace h := wx_ift c7 h
    exact b_X2_isDigit_24 B h Z hS (lv_sub hl [0, 1] rfl)
  · replace h := wx_iff c7 h
    refine lv_aload_n hx hb dX2_isDigit_10 rfl (lv_at hl 0 rfl) ?_
    refine lv_iload_n hx hb dX2_isDigit_11 rfl (lv_at hl 1 rfl) ?_
    obtain ⟨v12, hc12, h⟩ := wx_o_ok h
    refine wx_call (va_runV (As := [.int x1]) (rest := []) ⟨hx, hb, hml, hown, hts⟩ (c_X2_codeAt l (D := D) (ad := ad) (rd := rd) (ca := ca) (A := A) (σ := σ) hc12) (cwV 1 hts gX2_isDigit_X2_codeAt rfl rfl rfl (by decide +kernel) ⟨Nat.le_of_ble_eq_true rfl, Nat.le_of_ble_eq_true rfl⟩) (wx_preV hC Z hS hA rfl (rfl : vwCl[2]? = some (RX2, TX2, 2))) rfl rfl hl.1 rfl (lv_room (Nat.le_of_ble_eq_true rfl)) dX2_isDigit_12 ⟨Nat.zero_le _, Nat.zero_le _⟩) hS (fun H locs Z hS => ?_)
    refine lv_bipush (v := 57) hx hb dX2_isDigit_15 (by decide) ?_
    refine lv_icmp_gt (tgt := 24) hx hb dX2_isDigit_17 (by decide) (fun c17 => ?_) (fun c17 => ?_)
    · replace h := wx_ift c17 h
      exact b_X2_isDigit_24 B h Z hS (lv_sub hl [0, 1] rfl)
    · replace h := wx_iff c17 h
      refine lv_iconst (v := 1) hx hb dX2_isDigit_20 (by decide) ?_
      refine lv_goto (tgt := 25) hx hb dX2_isDigit_21 (by decide) ?_
      exact b_X2_isDigit_25 B h Z hS (lv_sub hl [0, 1] rfl)
set_option maxRecDepth 20000 in
theorem c_X2_isDigit (l : Launch) {D : va_G} {ad : Nat → Nat → Nat} {rd : Nat → Nat} {ca : Nat → ClassId} {A : Nat → Prop} {σ : wx_St}    {x1 : Int32} {r : Int32} (h : f_X2_isDigit x1 σ = some r) : wx_M l yX2_isDigit wsX2_isDigit 1 21 D ad rd ca A [.ref (ad 15 99), .int x1] σ (some (.int r)) σ := by
  refine Met.ofW (cc := cX2_isDigit) (maxL := 2) (ret := (some .boolean)) (by decide +kernel) rfl ?_
  intro p e s m args below meth c s₁ B0 hml hv
  obtain ⟨rfl, hC, Z, hA⟩ := hv
  have hl := lv_entry ([.ref (ad 15 99), .int x1]) (n := 2) (Nat.le_of_ble_eq_true rfl)
  rw [lg_entry_eq]
  generalize (lg_sl ([.ref (ad 15 99), .int x1]) ++ List.replicate (2 - (lg_sl ([.ref (ad 15 99), .int x1])).length) Slot.unset).toArray = ls at hl ⊢
  exact b_X2_isDigit_0 ⟨B0.exec, B0.bytes, hml, B0.returns, atoms_spec (ws := wsX2_isDigit) B0.pre, findClass_of_methodNamed B0.named, B0.notSynchronized, hC, hA⟩   h Z va_S.rf hl
set_option maxRecDepth 20000 in
set_option maxHeartbeats 4000000 in
theorem b_X2_endOf_68 (B : wx_B p s m args meth c cX2_endOf 6 (some .int) wsX2_endOf RX2 D ad ca A) {i : Nat}  (hi : i < 5) {r : Int32} {σ : wx_St} {K2 : Int32 → Int32 → wx_St → Option Int32} (hK2 : ∀ {x2 : Int32} {x3 : Int32}   (h : K2 x2 x3 σ = some r) {H : Heap} {locs : List Loc} (Z : wx_Z D ad rd ca A σ H) (hS : va_S A s.heap H locs) {ls : Array Slot} (hl : lv_has ls 6 [(0, .ref (ad 15 99)), (1, .ref (ad 18 i)), (2, .int x2), (3, .int x3)]), W p l e ({ frames := 4, cells := 0, slots := 0, locals := 85 } : Room) s m args below meth c H locs 0 0 (MQ below (wx_Q D ad rd ca A (some (.int r)) σ) args s 0 0 A) (F0 m 2 ls [])) {x2 : Int32} {x3 : Int32} {x4 : Int32} {y0 : Int32}   (h : f_X2_endOf_68 i K2 x2 x3 x4 y0 σ = some r) {H : Heap} {locs : List Loc} (Z : wx_Z D ad rd ca A σ H) (hS : va_S A s.heap H locs) {ls : Array Slot} (hl : lv_has ls 6 [(0, .ref (ad 15 99)), (1, .ref (ad 18 i)), (2, .int x2), (3, .int x3), (4, .int x4)]) : W p l e ({ frames := 4, cells := 0, slots := 0, locals := 85 } : Room) s m args below meth c H locs 0 0 (MQ below (wx_Q D ad rd ca A (some (.int r)) σ) args s 0 0 A) (F0 m 68 ls [.int y0]) := by
  obtain ⟨hx, hb, hml, hr, hts, hown, hlk, hC, hA⟩ := id B
  unfold f_X2_endOf_68 at h
  refine lv_istore (lv' := [(5, .int y0), (0, .ref (ad 15 99)), (1, .ref (ad 18 i)), (2, .int x2), (3, .int x3), (4, .int x4)]) hx hb dX2_endOf_68 hl (by decide) rfl (fun ls hl => ?_)
  refine lv_iload hx hb dX2_endOf_70 (lv_at hl 0 rfl) ?_
  refine lv_if_ne (tgt := 81) hx hb dX2_endOf_72 (by decide) (fun c72 => ?_) (fun c72 => ?_)
  · replace h := wx_iff c72 h
    refine lv_iinc (v := x3 + 1) (lv' := [(3, .int (x3 + 1)), (5, .int y0), (0, .ref (ad 15 99)), (1, .ref (ad 18 i)), (2, .int x2), (4, .int x4)]) hx hb dX2_endOf_81 hl (k := 4) rfl rfl (by decide) rfl (fun ls hl => ?_)
    refine lv_goto (tgt := 2) hx hb dX2_endOf_84 (by decide) ?_
    exact hK2 h Z hS (lv_sub hl [2, 3, 4, 0] rfl)
  · replace h := wx_ift c72 h
    refine lv_iload_n hx hb dX2_endOf_75 rfl (lv_at hl 3 rfl) ?_
    refine lv_iload_n hx hb dX2_endOf_76 rfl (lv_at hl 4 rfl) ?_
    refine lv_iadd hx hb dX2_endOf_77 ?_
    refine lv_iconst (v := (-1)) hx hb dX2_endOf_78 (by decide) ?_
    refine lv_ixor hx hb dX2_endOf_79 ?_
    obtain rfl := Option.some.inj h
    exact W.iret hx hb hr (fun t ht hW => ⟨rfl, by rw [ht]; exact Z, hS.F ht⟩) hS.2.2 dX2_endOf_80
set_option maxRecDepth 20000 in
set_option maxHeartbeats 4000000 in
theorem b_X2_endOf_2 (B : wx_B p s m args meth c cX2_endOf 6 (some .int) wsX2_endOf RX2 D ad ca A) {i : Nat}  (hi : i < 5) {r : Int32} {σ : wx_St}   :
    ∀ {n : Nat} {x2 : Int32} {x3 : Int32}   (h : f_X2_endOf_2 i n x2 x3 σ = some r) {H : Heap} {locs : List Loc} (Z : wx_Z D ad rd ca A σ H) (hS : va_S A s.heap H locs) {ls : Array Slot} (hl : lv_has ls 6 [(0, .ref (ad 15 99)), (1, .ref (ad 18 i)), (2, .int x2), (3, .int x3)]), W p l e ({ frames := 4, cells := 0, slots := 0, locals := 85 } : Room) s m args below meth c H locs 0 0 (MQ below (wx_Q D ad rd ca A (some (.int r)) σ) args s 0 0 A) (F0 m 2 ls []) := by
  obtain ⟨hx, hb, hml, hr, hts, hown, hlk, hC, hA⟩ := id B
  intro n
  induction n with
  | zero => intro x2 x3   h H locs Z hS ls hl; exact wx_no h
  | succ n ih =>
    intro x2 x3   h H locs Z hS ls hl
    rw [f_X2_endOf_2] at h
    refine lv_iload_n hx hb dX2_endOf_2 rfl (lv_at hl 3 rfl) ?_
    refine lv_aload_n hx hb dX2_endOf_3 rfl (lv_at hl 1 rfl) ?_
    obtain ⟨v4, hc4, h⟩ := wx_o_ok h
    refine wx_call (va_runV (As := []) (rest := [.int x3]) ⟨hx, hb, hml, hown, hts⟩ (c_J0_length_8abf5 l (D := D) (ad := ad) (rd := rd) (ca := ca) (A := A) (σ := σ) (i := i) hi hc4) (cwV 0 hts gX2_endOf_J0_length_8abf5 rfl rfl rfl (by decide +kernel) ⟨Nat.le_of_ble_eq_true rfl, Nat.le_of_ble_eq_true rfl⟩) (wx_preVS hC Z hS hA hi) rfl rfl hl.1 rfl (lv_room (Nat.le_of_ble_eq_true rfl)) dX2_endOf_4 ⟨Nat.zero_le _, Nat.zero_le _⟩) hS (fun H locs Z hS => ?_)
    refine lv_icmp_ge (tgt := 87) hx hb dX2_endOf_7 (by decide) (fun c7 => ?_) (fun c7 => ?_)
    · replace h := wx_ift c7 h
      refine lv_iload_n hx hb dX2_endOf_87 rfl (lv_at hl 2 rfl) ?_
      refine lv_aload_n hx hb dX2_endOf_88 rfl (lv_at hl 1 rfl) ?_
      obtain ⟨v89, hc89, h⟩ := wx_o_ok h
      refine wx_call (va_runV (As := []) (rest := [.int x2]) ⟨hx, hb, hml, hown, hts⟩ (c_J0_length_8abf5 l (D := D) (ad := ad) (rd := rd) (ca := ca) (A := A) (σ := σ) (i := i) hi hc89) (cwV 0 hts gX2_endOf_J0_length_8abf5 rfl rfl rfl (by decide +kernel) ⟨Nat.le_of_ble_eq_true rfl, Nat.le_of_ble_eq_true rfl⟩) (wx_preVS hC Z hS hA hi) rfl rfl hl.1 rfl (lv_room (Nat.le_of_ble_eq_true rfl)) dX2_endOf_89 ⟨Nat.zero_le _, Nat.zero_le _⟩) hS (fun H locs Z hS => ?_)
      refine lv_iadd hx hb dX2_endOf_92 ?_
      obtain rfl := Option.some.inj h
      exact W.iret hx hb hr (fun t ht hW => ⟨rfl, by rw [ht]; exact Z, hS.F ht⟩) hS.2.2 dX2_endOf_93
    · replace h := wx_iff c7 h
      refine lv_aload_n hx hb dX2_endOf_10 rfl (lv_at hl 1 rfl) ?_
      refine lv_iload_n hx hb dX2_endOf_11 rfl (lv_at hl 3 rfl) ?_
      obtain ⟨v12, hc12, h⟩ := wx_o_ok h
      refine wx_call (va_runV (As := [.int x3]) (rest := []) ⟨hx, hb, hml, hown, hts⟩ (c_J0_charAt_5068e l (D := D) (ad := ad) (rd := rd) (ca := ca) (A := A) (σ := σ) (i := i) hi hc12) (cwV 1 hts gX2_endOf_J0_charAt_5068e rfl rfl rfl (by decide +kernel) ⟨Nat.le_of_ble_eq_true rfl, Nat.le_of_ble_eq_true rfl⟩) (wx_preVS hC Z hS hA hi) rfl rfl hl.1 rfl (lv_room (Nat.le_of_ble_eq_true rfl)) dX2_endOf_12 ⟨Nat.zero_le _, Nat.zero_le _⟩) hS (fun H locs Z hS => ?_)
      refine lv_istore (lv' := [(4, .int v12), (0, .ref (ad 15 99)), (1, .ref (ad 18 i)), (2, .int x2), (3, .int x3)]) hx hb dX2_endOf_15 hl (by decide) rfl (fun ls hl => ?_)
      refine lv_iload hx hb dX2_endOf_17 (lv_at hl 0 rfl) ?_
      refine lv_bipush (v := 100) hx hb dX2_endOf_19 (by decide) ?_
      refine lv_icmp_ne (tgt := 34) hx hb dX2_endOf_21 (by decide) (fun c21 => ?_) (fun c21 => ?_)
      · replace h := wx_iff c21 h
        refine lv_iload hx hb dX2_endOf_34 (lv_at hl 0 rfl) ?_
        refine lv_bipush (v := 99) hx hb dX2_endOf_36 (by decide) ?_
        refine lv_icmp_ne (tgt := 51) hx hb dX2_endOf_38 (by decide) (fun c38 => ?_) (fun c38 => ?_)
        · replace h := wx_iff c38 h
          refine lv_aload_n hx hb dX2_endOf_51 rfl (lv_at hl 1 rfl) ?_
          refine lv_iload_n hx hb dX2_endOf_52 rfl (lv_at hl 3 rfl) ?_
          refine lv_iload_n hx hb dX2_endOf_53 rfl (lv_at hl 4 rfl) ?_
          refine lv_iadd hx hb dX2_endOf_54 ?_
          obtain ⟨v55, hc55, h⟩ := wx_o_ok h
          refine wx_call (va_runV (As := [.int (x2 + x3)]) (rest := []) ⟨hx, hb, hml, hown, hts⟩ (c_X2_codeAt l (D := D) (ad := ad) (rd := rd) (ca := ca) (A := A) (σ := σ) hc55) (cwV 1 hts gX2_endOf_X2_codeAt rfl rfl rfl (by decide +kernel) ⟨Nat.le_of_ble_eq_true rfl, Nat.le_of_ble_eq_true rfl⟩) (wx_preV hC Z hS hA rfl (rfl : vwCl[2]? = some (RX2, TX2, 2))) rfl rfl hl.1 rfl (lv_room (Nat.le_of_ble_eq_true rfl)) dX2_endOf_55 ⟨Nat.zero_le _, Nat.zero_le _⟩) hS (fun H locs Z hS => ?_)
          refine lv_iload hx hb dX2_endOf_58 (lv_at hl 0 rfl) ?_
          refine lv_icmp_ne (tgt := 67) hx hb dX2_endOf_60 (by decide) (fun c60 => ?_) (fun c60 => ?_)
          · replace h := wx_iff c60 h
            refine lv_iconst (v := 0) hx hb dX2_endOf_67 (by decide) ?_
            exact b_X2_endOf_68 B hi (K2 := (f_X2_endOf_2 i n)) @ih h Z hS (lv_sub hl [1, 2, 3, 4, 0] rfl)
          · replace h := wx_ift c60 h
            refine lv_iconst (v := 1) hx hb dX2_endOf_63 (by decide) ?_
            refine lv_goto (tgt := 68) hx hb dX2_endOf_64 (by decide) ?_
            exact b_X2_endOf_68 B hi (K2 := (f_X2_endOf_2 i n)) @ih h Z hS (lv_sub hl [1, 2, 3, 4, 0] rfl)
        · replace h := wx_ift c38 h
          refine lv_aload_n hx hb dX2_endOf_41 rfl (lv_at hl 1 rfl) ?_
          refine lv_iload_n hx hb dX2_endOf_42 rfl (lv_at hl 3 rfl) ?_
          refine lv_iload_n hx hb dX2_endOf_43 rfl (lv_at hl 4 rfl) ?_
          refine lv_iadd hx hb dX2_endOf_44 ?_
          obtain ⟨v45, hc45, h⟩ := wx_o_ok h
          refine wx_call (va_runV (As := [.int (x2 + x3)]) (rest := []) ⟨hx, hb, hml, hown, hts⟩ (c_X2_isColumn l (D := D) (ad := ad) (rd := rd) (ca := ca) (A := A) (σ := σ) hc45) (cwV 1 hts gX2_endOf_X2_isColumn rfl rfl rfl (by decide +kernel) ⟨Nat.le_of_ble_eq_true rfl, Nat.le_of_ble_eq_true rfl⟩) (wx_preV hC Z hS hA rfl (rfl : vwCl[2]? = some (RX2, TX2, 2))) rfl rfl hl.1 rfl (lv_room (Nat.le_of_ble_eq_true rfl)) dX2_endOf_45 ⟨Nat.zero_le _, Nat.zero_le _⟩) hS (fun H locs Z hS => ?_)
          refine lv_goto (tgt := 68) hx hb dX2_endOf_48 (by decide) ?_
          exact b_X2_endOf_68 B hi (K2 := (f_X2_endOf_2 i n)) @ih h Z hS (lv_sub hl [1, 2, 3, 4, 0] rfl)
      · replace h := wx_ift c21 h
        refine lv_aload_n hx hb dX2_endOf_24 rfl (lv_at hl 1 rfl) ?_
        refine lv_iload_n hx hb dX2_endOf_25 rfl (lv_at hl 3 rfl) ?_
        refine lv_iload_n hx hb dX2_endOf_26 rfl (lv_at hl 4 rfl) ?_
        refine lv_iadd hx hb dX2_endOf_27 ?_
        obtain ⟨v28, hc28, h⟩ := wx_o_ok h
        refine wx_call (va_runV (As := [.int (x2 + x3)]) (rest := []) ⟨hx, hb, hml, hown, hts⟩ (c_X2_isDigit l (D := D) (ad := ad) (rd := rd) (ca := ca) (A := A) (σ := σ) hc28) (cwV 1 hts gX2_endOf_X2_isDigit rfl rfl rfl (by decide +kernel) ⟨Nat.le_of_ble_eq_true rfl, Nat.le_of_ble_eq_true rfl⟩) (wx_preV hC Z hS hA rfl (rfl : vwCl[2]? = some (RX2, TX2, 2))) rfl rfl hl.1 rfl (lv_room (Nat.le_of_ble_eq_true rfl)) dX2_endOf_28 ⟨Nat.zero_le _, Nat.zero_le _⟩) hS (fun H locs Z hS => ?_)
        refine lv_goto (tgt := 68) hx hb dX2_endOf_31 (by decide) ?_
        exact b_X2_endOf_68 B hi (K2 := (f_X2_endOf_2 i n)) @ih h Z hS (lv_sub hl [1, 2, 3, 4, 0] rfl)
set_option maxRecDepth 20000 in
set_option maxHeartbeats 4000000 in
theorem b_X2_endOf_0 (B : wx_B p s m args meth c cX2_endOf 6 (some .int) wsX2_endOf RX2 D ad ca A) {i : Nat}  (hi : i < 5) {r : Int32} {σ : wx_St}  {x2 : Int32}   (h : f_X2_endOf i x2 σ = some r) {H : Heap} {locs : List Loc} (Z : wx_Z D ad rd ca A σ H) (hS : va_S A s.heap H locs) {ls : Array Slot} (hl : lv_has ls 6 [(0, .ref (ad 15 99)), (1, .ref (ad 18 i)), (2, .int x2)]) : W p l e ({ frames := 4, cells := 0, slots := 0, locals := 85 } : Room) s m args below meth c H locs 0 0 (MQ below (wx_Q D ad rd ca A (some (.int r)) σ) args s 0 0 A) (F0 m 0 ls []) := by
  obtain ⟨hx, hb, hml, hr, hts, hown, hlk, hC, hA⟩ := id B
  unfold f_X2_endOf at h
  refine lv_iconst (v := 0) hx hb dX2_endOf_0 (by decide) ?_
  refine lv_istore_n (lv' := [(3, .int 0), (0, .ref (ad 15 99)), (1, .ref (ad 18 i)), (2, .int x2)]) hx hb dX2_endOf_1 rfl hl (by decide) rfl (fun ls hl => ?_)
  exact b_X2_endOf_2 B hi h Z hS (lv_sub hl [1, 2, 3, 0] rfl)
set_option maxRecDepth 20000 in
theorem c_X2_endOf (l : Launch) {D : va_G} {ad : Nat → Nat → Nat} {rd : Nat → Nat} {ca : Nat → ClassId} {A : Nat → Prop} {σ : wx_St} {i : Nat}  (hi : i < 5) {x2 : Int32} {r : Int32} (h : f_X2_endOf i x2 σ = some r) : wx_M l yX2_endOf wsX2_endOf 4 85 D ad rd ca A [.ref (ad 15 99), .ref (ad 18 i), .int x2] σ (some (.int r)) σ := by
  refine Met.ofW (cc := cX2_endOf) (maxL := 6) (ret := (some .int)) (by decide +kernel) rfl ?_
  intro p e s m args below meth c s₁ B0 hml hv
  obtain ⟨rfl, hC, Z, hA⟩ := hv
  have hl := lv_entry ([.ref (ad 15 99), .ref (ad 18 i), .int x2]) (n := 6) (Nat.le_of_ble_eq_true rfl)
  rw [lg_entry_eq]
  generalize (lg_sl ([.ref (ad 15 99), .ref (ad 18 i), .int x2]) ++ List.replicate (6 - (lg_sl ([.ref (ad 15 99), .ref (ad 18 i), .int x2])).length) Slot.unset).toArray = ls at hl ⊢
  exact b_X2_endOf_0 ⟨B0.exec, B0.bytes, hml, B0.returns, atoms_spec (ws := wsX2_endOf) B0.pre, findClass_of_methodNamed B0.named, B0.notSynchronized, hC, hA⟩ hi  h Z va_S.rf hl
set_option maxRecDepth 20000 in
set_option maxHeartbeats 4000000 in
theorem b_X2_endOfNumber_41 (B : wx_B p s m args meth c cX2_endOfNumber 2 (some .int) wsX2_endOfNumber RX2 D ad ca A)    {r : Int32} {σ : wx_St}  {x1 : Int32} {y0 : Int32}   (h : f_X2_endOfNumber_41 x1 y0 σ = some r) {H : Heap} {locs : List Loc} (Z : wx_Z D ad rd ca A σ H) (hS : va_S A s.heap H locs) {ls : Array Slot} (hl : lv_has ls 2 [(0, .ref (ad 15 99)), (1, .int x1)]) : W p l e ({ frames := 2, cells := 0, slots := 0, locals := 42 } : Room) s m args below meth c H locs 0 0 (MQ below (wx_Q D ad rd ca A (some (.int r)) σ) args s 0 0 A) (F0 m 41 ls [.int y0]) := by
  obtain ⟨hx, hb, hml, hr, hts, hown, hlk, hC, hA⟩ := id B
  unfold f_X2_endOfNumber_41 at h
  obtain rfl := Option.some.inj h
  exact W.iret hx hb hr (fun t ht hW => ⟨rfl, by rw [ht]; exact Z, hS.F ht⟩) hS.2.2 dX2_endOfNumber_41
set_option maxRecDepth 20000 in
set_option maxHeartbeats 4000000 in
theorem b_X2_endOfNumber_38 (B : wx_B p s m args meth c cX2_endOfNumber 2 (some .int) wsX2_endOfNumber RX2 D ad ca A)    {r : Int32} {σ : wx_St}  {x1 : Int32}   (h : f_X2_endOfNumber_38 x1 σ = some r) {H : Heap} {locs : List Loc} (Z : wx_Z D ad rd ca A σ H) (hS : va_S A s.heap H locs) {ls : Array Slot} (hl : lv_has ls 2 [(0, .ref (ad 15 99)), (1, .int x1)]) : W p l e ({ frames := 2, cells := 0, slots := 0, locals := 42 } : Room) s m args below meth c H locs 0 0 (MQ below (wx_Q D ad rd ca A (some (.int r)) σ) args s 0 0 A) (F0 m 38 ls []) := by
  obtain ⟨hx, hb, hml, hr, hts, hown, hlk, hC, hA⟩ := id B
  unfold f_X2_endOfNumber_38 at h
  refine lv_iload_n hx hb dX2_endOfNumber_38 rfl (lv_at hl 1 rfl) ?_
  refine lv_iconst (v := 1) hx hb dX2_endOfNumber_39 (by decide) ?_
  refine lv_iadd hx hb dX2_endOfNumber_40 ?_
  exact b_X2_endOfNumber_41 B h Z hS (lv_sub hl [0, 1] rfl)
set_option maxRecDepth 20000 in
set_option maxHeartbeats 4000000 in
theorem b_X2_endOfNumber_0 (B : wx_B p s m args meth c cX2_endOfNumber 2 (some .int) wsX2_endOfNumber RX2 D ad ca A)    {r : Int32} {σ : wx_St}  {x1 : Int32}   (h : f_X2_endOfNumber x1 σ = some r) {H : Heap} {locs : List Loc} (Z : wx_Z D ad rd ca A σ H) (hS : va_S A s.heap H locs) {ls : Array Slot} (hl : lv_has ls 2 [(0, .ref (ad 15 99)), (1, .int x1)]) : W p l e ({ frames := 2, cells := 0, slots := 0, locals := 42 } : Room) s m args below meth c H locs 0 0 (MQ below (wx_Q D ad rd ca A (some (.int r)) σ) args s 0 0 A) (F0 m 0 ls []) := by
  obtain ⟨hx, hb, hml, hr, hts, hown, hlk, hC, hA⟩ := id B
  unfold f_X2_endOfNumber at h
  refine lv_aload_n hx hb dX2_endOfNumber_0 rfl (lv_at hl 0 rfl) ?_
  refine lv_iload_n hx hb dX2_endOfNumber_1 rfl (lv_at hl 1 rfl) ?_
  obtain ⟨v2, hc2, h⟩ := wx_o_ok h
  refine wx_call (va_runV (As := [.int x1]) (rest := []) ⟨hx, hb, hml, hown, hts⟩ (c_X2_isDigit l (D := D) (ad := ad) (rd := rd) (ca := ca) (A := A) (σ := σ) hc2) (cwV 1 hts gX2_endOfNumber_X2_isDigit rfl rfl rfl (by decide +kernel) ⟨Nat.le_of_ble_eq_true rfl, Nat.le_of_ble_eq_true rfl⟩) (wx_preV hC Z hS hA rfl (rfl : vwCl[2]? = some (RX2, TX2, 2))) rfl rfl hl.1 rfl (lv_room (Nat.le_of_ble_eq_true rfl)) dX2_endOfNumber_2 ⟨Nat.zero_le _, Nat.zero_le _⟩) hS (fun H locs Z hS => ?_)
  refine lv_if_ne (tgt := 12) hx hb dX2_endOfNumber_5 (by decide) (fun c5 => ?_) (fun c5 => ?_)
  · replace h := wx_iff c5 h
    refine lv_aload_n hx hb dX2_endOfNumber_12 rfl (lv_at hl 0 rfl) ?_
    refine lv_iload_n hx hb dX2_endOfNumber_13 rfl (lv_at hl 1 rfl) ?_
    obtain ⟨v14, hc14, h⟩ := wx_o_ok h
    refine wx_call (va_runV (As := [.int x1]) (rest := []) ⟨hx, hb, hml, hown, hts⟩ (c_X2_codeAt l (D := D) (ad := ad) (rd := rd) (ca := ca) (A := A) (σ := σ) hc14) (cwV 1 hts gX2_endOfNumber_X2_codeAt rfl rfl rfl (by decide +kernel) ⟨Nat.le_of_ble_eq_true rfl, Nat.le_of_ble_eq_true rfl⟩) (wx_preV hC Z hS hA rfl (rfl : vwCl[2]? = some (RX2, TX2, 2))) rfl rfl hl.1 rfl (lv_room (Nat.le_of_ble_eq_true rfl)) dX2_endOfNumber_14 ⟨Nat.zero_le _, Nat.zero_le _⟩) hS (fun H locs Z hS => ?_)
    refine lv_bipush (v := 48) hx hb dX2_endOfNumber_17 (by decide) ?_
    refine lv_icmp_eq (tgt := 38) hx hb dX2_endOfNumber_19 (by decide) (fun c19 => ?_) (fun c19 => ?_)
    · replace h := wx_ift c19 h
      exact b_X2_endOfNumber_38 B h Z hS (lv_sub hl [0, 1] rfl)
    · replace h := wx_iff c19 h
      refine lv_aload_n hx hb dX2_endOfNumber_22 rfl (lv_at hl 0 rfl) ?_
      refine lv_iload_n hx hb dX2_endOfNumber_23 rfl (lv_at hl 1 rfl) ?_
      refine lv_iconst (v := 1) hx hb dX2_endOfNumber_24 (by decide) ?_
      refine lv_iadd hx hb dX2_endOfNumber_25 ?_
      obtain ⟨v26, hc26, h⟩ := wx_o_ok h
      refine wx_call (va_runV (As := [.int (x1 + 1)]) (rest := []) ⟨hx, hb, hml, hown, hts⟩ (c_X2_isDigit l (D := D) (ad := ad) (rd := rd) (ca := ca) (A := A) (σ := σ) hc26) (cwV 1 hts gX2_endOfNumber_X2_isDigit rfl rfl rfl (by decide +kernel) ⟨Nat.le_of_ble_eq_true rfl, Nat.le_of_ble_eq_true rfl⟩) (wx_preV hC Z hS hA rfl (rfl : vwCl[2]? = some (RX2, TX2, 2))) rfl rfl hl.1 rfl (lv_room (Nat.le_of_ble_eq_true rfl)) dX2_endOfNumber_26 ⟨Nat.zero_le _, Nat.zero_le _⟩) hS (fun H locs Z hS => ?_)
      refine lv_if_eq (tgt := 38) hx hb dX2_endOfNumber_29 (by decide) (fun c29 => ?_) (fun c29 => ?_)
      · replace h := wx_ift c29 h
        exact b_X2_endOfNumber_38 B h Z hS (lv_sub hl [0, 1] rfl)
      · replace h := wx_iff c29 h
        refine lv_iload_n hx hb dX2_endOfNumber_32 rfl (lv_at hl 1 rfl) ?_
        refine lv_iconst (v := 2) hx hb dX2_endOfNumber_33 (by decide) ?_
        refine lv_iadd hx hb dX2_endOfNumber_34 ?_
        refine lv_goto (tgt := 41) hx hb dX2_endOfNumber_35 (by decide) ?_
        exact b_X2_endOfNumber_41 B h Z hS (lv_sub hl [0, 1] rfl)
  · replace h := wx_ift c5 h
    refine lv_iload_n hx hb dX2_endOfNumber_8 rfl (lv_at hl 1 rfl) ?_
    refine lv_iconst (v := (-1)) hx hb dX2_endOfNumber_9 (by decide) ?_
    refine lv_ixor hx hb dX2_endOfNumber_10 ?_
    obtain rfl := Option.some.inj h
    exact W.iret hx hb hr (fun t ht hW => ⟨rfl, by rw [ht]; exact Z, hS.F ht⟩) hS.2.2 dX2_endOfNumber_11
set_option maxRecDepth 20000 in
theorem c_X2_endOfNumber (l : Launch) {D : va_G} {ad : Nat → Nat → Nat} {rd : Nat → Nat} {ca : Nat → ClassId} {A : Nat → Prop} {σ : wx_St}    {x1 : Int32} {r : Int32} (h : f_X2_endOfNumber x1 σ = some r) : wx_M l yX2_endOfNumber wsX2_endOfNumber 2 42 D ad rd ca A [.ref (ad 15 99), .int x1] σ (some (.int r)) σ := by
  refine Met.ofW (cc := cX2_endOfNumber) (maxL := 2) (ret := (some .int)) (by decide +kernel) rfl ?_
  intro p e s m args below meth c s₁ B0 hml hv
  obtain ⟨rfl, hC, Z, hA⟩ := hv
  have hl := lv_entry ([.ref (ad 15 99), .int x1]) (n := 2) (Nat.le_of_ble_eq_true rfl)
  rw [lg_entry_eq]
  generalize (lg_sl ([.ref (ad 15 99), .int x1]) ++ List.replicate (2 - (lg_sl ([.ref (ad 15 99), .int x1])).length) Slot.unset).toArray = ls at hl ⊢
  exact b_X2_endOfNumber_0 ⟨B0.exec, B0.bytes, hml, B0.returns, atoms_spec (ws := wsX2_endOfNumber) B0.pre, findClass_of_methodNamed B0.named, B0.notSynchronized, hC, hA⟩   h Z va_S.rf hl
set_option maxRecDepth 20000 in
set_option maxHeartbeats 4000000 in
theorem b_X2_endOfPlaces_36 (B : wx_B p s m args meth c cX2_endOfPlaces 4 (some .int) wsX2_endOfPlaces RX2 D ad ca A)    {r : Int32} {σ : wx_St}  {x1 : Int32} {x2 : Int32} {x3 : Int32}   (h : f_X2_endOfPlaces_36 x1 x2 x3 σ = some r) {H : Heap} {locs : List Loc} (Z : wx_Z D ad rd ca A σ H) (hS : va_S A s.heap H locs) {ls : Array Slot} (hl : lv_has ls 4 [(0, .ref (ad 15 99)), (1, .int x1), (2, .int x2), (3, .int x3)]) : W p l e ({ frames := 5, cells := 0, slots := 0, locals := 110 } : Room) s m args below meth c H locs 0 0 (MQ below (wx_Q D ad rd ca A (some (.int r)) σ) args s 0 0 A) (F0 m 36 ls []) := by
  obtain ⟨hx, hb, hml, hr, hts, hown, hlk, hC, hA⟩ := id B
  unfold f_X2_endOfPlaces_36 at h
  refine lv_iload_n hx hb dX2_endOfPlaces_36 rfl (lv_at hl 2 rfl) ?_
  obtain rfl := Option.some.inj h
  exact W.iret hx hb hr (fun t ht hW => ⟨rfl, by rw [ht]; exact Z, hS.F ht⟩) hS.2.2 dX2_endOfPlaces_37
set_option maxRecDepth 20000 in
set_option maxHeartbeats 4000000 in
theorem b_X2_endOfPlaces_4 (B : wx_B p s m args meth c cX2_endOfPlaces 4 (some .int) wsX2_endOfPlaces RX2 D ad ca A)    {r : Int32} {σ : wx_St}   :
    ∀ {n : Nat} {x1 : Int32} {x2 : Int32} {x3 : Int32}   (h : f_X2_endOfPlaces_4 n x1 x2 x3 σ = some r) {H : Heap} {locs : List Loc} (Z : wx_Z D ad rd ca A σ H) (hS : va_S A s.heap H locs) {ls : Array Slot} (hl : lv_has ls 4 [(0, .ref (ad 15 99)), (1, .int x1), (2, .int x2), (3, .int x3)]), W p l e ({ frames := 5, cells := 0, slots := 0, locals := 110 } : Room) s m args below meth c H locs 0 0 (MQ below (wx_Q D ad rd ca A (some (.int r)) σ) args s 0 0 A) (F0 m 4 ls []) := by
  obtain ⟨hx, hb, hml, hr, hts, hown, hlk, hC, hA⟩ := id B
  intro n
  induction n with
  | zero => intro x1 x2 x3   h H locs Z hS ls hl; exact wx_no h
  | succ n ih =>
    intro x1 x2 x3   h H locs Z hS ls hl
    rw [f_X2_endOfPlaces_4] at h
    refine lv_iload_n hx hb dX2_endOfPlaces_4 rfl (lv_at hl 3 rfl) ?_
    refine lv_bipush (v := 80) hx hb dX2_endOfPlaces_5 (by decide) ?_
    refine lv_icmp_ge (tgt := 36) hx hb dX2_endOfPlaces_7 (by decide) (fun c7 => ?_) (fun c7 => ?_)
    · replace h := wx_ift c7 h
      exact b_X2_endOfPlaces_36 B h Z hS (lv_sub hl [0, 1, 2, 3] rfl)
    · replace h := wx_iff c7 h
      refine lv_iload_n hx hb dX2_endOfPlaces_10 rfl (lv_at hl 2 rfl) ?_
      refine lv_if_lt (tgt := 36) hx hb dX2_endOfPlaces_11 (by decide) (fun c11 => ?_) (fun c11 => ?_)
      · replace h := wx_ift c11 h
        exact b_X2_endOfPlaces_36 B h Z hS (lv_sub hl [0, 1, 2, 3] rfl)
      · replace h := wx_iff c11 h
        refine lv_aload_n hx hb dX2_endOfPlaces_14 rfl (lv_at hl 0 rfl) ?_
        refine lv_iload_n hx hb dX2_endOfPlaces_15 rfl (lv_at hl 2 rfl) ?_
        obtain ⟨v16, hc16, h⟩ := wx_o_ok h
        refine wx_call (va_runV (As := [.int x2]) (rest := []) ⟨hx, hb, hml, hown, hts⟩ (c_X2_isColumn l (D := D) (ad := ad) (rd := rd) (ca := ca) (A := A) (σ := σ) hc16) (cwV 1 hts gX2_endOfPlaces_X2_isColumn rfl rfl rfl (by decide +kernel) ⟨Nat.le_of_ble_eq_true rfl, Nat.le_of_ble_eq_true rfl⟩) (wx_preV hC Z hS hA rfl (rfl : vwCl[2]? = some (RX2, TX2, 2))) rfl rfl hl.1 rfl (lv_room (Nat.le_of_ble_eq_true rfl)) dX2_endOfPlaces_16 ⟨Nat.zero_le _, Nat.zero_le _⟩) hS (fun H locs Z hS => ?_)
        refine lv_if_eq (tgt := 36) hx hb dX2_endOfPlaces_19 (by decide) (fun c19 => ?_) (fun c19 => ?_)
        · replace h := wx_ift c19 h
          exact b_X2_endOfPlaces_36 B h Z hS (lv_sub hl [0, 1, 2, 3] rfl)
        · replace h := wx_iff c19 h
          refine lv_aload_n hx hb dX2_endOfPlaces_22 rfl (lv_at hl 0 rfl) ?_
          refine va_ldcS hx hb hown hC.2.2.2.1 dX2_endOfPlaces_23 ?_
          refine lv_iload_n hx hb dX2_endOfPlaces_25 rfl (lv_at hl 2 rfl) ?_
          obtain ⟨v26, hc26, h⟩ := wx_o_ok h
          refine wx_call (va_runV (As := [.ref (ad 18 1), .int x2]) (rest := []) ⟨hx, hb, hml, hown, hts⟩ (c_X2_endOf l (D := D) (ad := ad) (rd := rd) (ca := ca) (A := A) (σ := σ) (i := 1) (by decide : 1 < 5) hc26) (cwV 2 hts gX2_endOfPlaces_X2_endOf rfl rfl rfl (by decide +kernel) ⟨Nat.le_of_ble_eq_true rfl, Nat.le_of_ble_eq_true rfl⟩) (wx_preV hC Z hS hA rfl (rfl : vwCl[2]? = some (RX2, TX2, 2))) rfl rfl hl.1 rfl (lv_room (Nat.le_of_ble_eq_true rfl)) dX2_endOfPlaces_26 ⟨Nat.zero_le _, Nat.zero_le _⟩) hS (fun H locs Z hS => ?_)
          refine lv_istore_n (lv' := [(2, .int v26), (0, .ref (ad 15 99)), (1, .int x1), (3, .int x3)]) hx hb dX2_endOfPlaces_29 rfl hl (by decide) rfl (fun ls hl => ?_)
          refine lv_iinc (v := x3 + 1) (lv' := [(3, .int (x3 + 1)), (2, .int v26), (0, .ref (ad 15 99)), (1, .int x1)]) hx hb dX2_endOfPlaces_30 hl (k := 3) rfl rfl (by decide) rfl (fun ls hl => ?_)
          refine lv_goto (tgt := 4) hx hb dX2_endOfPlaces_33 (by decide) ?_
          exact ih h Z hS (lv_sub hl [2, 3, 1, 0] rfl)
set_option maxRecDepth 20000 in
set_option maxHeartbeats 4000000 in
theorem b_X2_endOfPlaces_0 (B : wx_B p s m args meth c cX2_endOfPlaces 4 (some .int) wsX2_endOfPlaces RX2 D ad ca A)    {r : Int32} {σ : wx_St}  {x1 : Int32}   (h : f_X2_endOfPlaces x1 σ = some r) {H : Heap} {locs : List Loc} (Z : wx_Z D ad rd ca A σ H) (hS : va_S A s.heap H locs) {ls : Array Slot} (hl : lv_has ls 4 [(0, .ref (ad 15 99)), (1, .int x1)]) : W p l e ({ frames := 5, cells := 0, slots := 0, locals := 110 } : Room) s m args below meth c H locs 0 0 (MQ below (wx_Q D ad rd ca A (some (.int r)) σ) args s 0 0 A) (F0 m 0 ls []) := by
  obtain ⟨hx, hb, hml, hr, hts, hown, hlk, hC, hA⟩ := id B
  unfold f_X2_endOfPlaces at h
  refine lv_iload_n hx hb dX2_endOfPlaces_0 rfl (lv_at hl 1 rfl) ?_
  refine lv_istore_n (lv' := [(2, .int x1), (0, .ref (ad 15 99)), (1, .int x1)]) hx hb dX2_endOfPlaces_1 rfl hl (by decide) rfl (fun ls hl => ?_)
  refine lv_iconst (v := 0) hx hb dX2_endOfPlaces_2 (by decide) ?_
  refine lv_istore_n (lv' := [(3, .int 0), (2, .int x1), (0, .ref (ad 15 99)), (1, .int x1)]) hx hb dX2_endOfPlaces_3 rfl hl (by decide) rfl (fun ls hl => ?_)
  exact b_X2_endOfPlaces_4 B h Z hS (lv_sub hl [2, 3, 1, 0] rfl)
set_option maxRecDepth 20000 in
theorem c_X2_endOfPlaces (l : Launch) {D : va_G} {ad : Nat → Nat → Nat} {rd : Nat → Nat} {ca : Nat → ClassId} {A : Nat → Prop} {σ : wx_St}    {x1 : Int32} {r : Int32} (h : f_X2_endOfPlaces x1 σ = some r) : wx_M l yX2_endOfPlaces wsX2_endOfPlaces 5 110 D ad rd ca A [.ref (ad 15 99), .int x1] σ (some (.int r)) σ := by
  refine Met.ofW (cc := cX2_endOfPlaces) (maxL := 4) (ret := (some .int)) (by decide +kernel) rfl ?_
  intro p e s m args below meth c s₁ B0 hml hv
  obtain ⟨rfl, hC, Z, hA⟩ := hv
  have hl := lv_entry ([.ref (ad 15 99), .int x1]) (n := 4) (Nat.le_of_ble_eq_true rfl)
  rw [lg_entry_eq]
  generalize (lg_sl ([.ref (ad 15 99), .int x1]) ++ List.replicate (4 - (lg_sl ([.ref (ad 15 99), .int x1])).length) Slot.unset).toArray = ls at hl ⊢
  exact b_X2_endOfPlaces_0 ⟨B0.exec, B0.bytes, hml, B0.returns, atoms_spec (ws := wsX2_endOfPlaces) B0.pre, findClass_of_methodNamed B0.named, B0.notSynchronized, hC, hA⟩   h Z va_S.rf hl
set_option maxRecDepth 20000 in
set_option maxHeartbeats 4000000 in
theorem b_X2_endOfOrder_0 (B : wx_B p s m args meth c cX2_endOfOrder 2 (some .int) wsX2_endOfOrder RX2 D ad ca A)    {r : Int32} {σ : wx_St}  {x1 : Int32}   (h : f_X2_endOfOrder x1 σ = some r) {H : Heap} {locs : List Loc} (Z : wx_Z D ad rd ca A σ H) (hS : va_S A s.heap H locs) {ls : Array Slot} (hl : lv_has ls 2 [(0, .ref (ad 15 99)), (1, .int x1)]) : W p l e ({ frames := 6, cells := 0, slots := 0, locals := 133 } : Room) s m args below meth c H locs 0 0 (MQ below (wx_Q D ad rd ca A (some (.int r)) σ) args s 0 0 A) (F0 m 0 ls []) := by
  obtain ⟨hx, hb, hml, hr, hts, hown, hlk, hC, hA⟩ := id B
  unfold f_X2_endOfOrder at h
  refine lv_aload_n hx hb dX2_endOfOrder_0 rfl (lv_at hl 0 rfl) ?_
  refine lv_iload_n hx hb dX2_endOfOrder_1 rfl (lv_at hl 1 rfl) ?_
  obtain ⟨v2, hc2, h⟩ := wx_o_ok h
  refine wx_call (va_runV (As := [.int x1]) (rest := []) ⟨hx, hb, hml, hown, hts⟩ (c_X2_codeAt l (D := D) (ad := ad) (rd := rd) (ca := ca) (A := A) (σ := σ) hc2) (cwV 1 hts gX2_endOfOrder_X2_codeAt rfl rfl rfl (by decide +kernel) ⟨Nat.le_of_ble_eq_true rfl, Nat.le_of_ble_eq_true rfl⟩) (wx_preV hC Z hS hA rfl (rfl : vwCl[2]? = some (RX2, TX2, 2))) rfl rfl hl.1 rfl (lv_room (Nat.le_of_ble_eq_true rfl)) dX2_endOfOrder_2 ⟨Nat.zero_le _, Nat.zero_le _⟩) hS (fun H locs Z hS => ?_)
  by_cases c5_0 : v2 = 102
  · replace h := wx_ift c5_0 h
    refine lv_tableIn (off := 101) (tgt := 106) hx hb dX2_endOfOrder_5 (by rw [c5_0]; decide) (by rw [c5_0]; decide) (by rw [c5_0]; rfl) (by decide) ?_
    refine lv_aload_n hx hb dX2_endOfOrder_106 rfl (lv_at hl 0 rfl) ?_
    refine va_ldcS hx hb hown hC.2.2.2.2.1 dX2_endOfOrder_107 ?_
    refine lv_iload_n hx hb dX2_endOfOrder_109 rfl (lv_at hl 1 rfl) ?_
    refine lv_iconst (v := 1) hx hb dX2_endOfOrder_110 (by decide) ?_
    refine lv_iadd hx hb dX2_endOfOrder_111 ?_
    obtain ⟨v112, hc112, h⟩ := wx_o_ok h
    refine wx_call (va_runV (As := [.ref (ad 18 2), .int (x1 + 1)]) (rest := []) ⟨hx, hb, hml, hown, hts⟩ (c_X2_endOf l (D := D) (ad := ad) (rd := rd) (ca := ca) (A := A) (σ := σ) (i := 2) (by decide : 2 < 5) hc112) (cwV 2 hts gX2_endOfOrder_X2_endOf rfl rfl rfl (by decide +kernel) ⟨Nat.le_of_ble_eq_true rfl, Nat.le_of_ble_eq_true rfl⟩) (wx_preV hC Z hS hA rfl (rfl : vwCl[2]? = some (RX2, TX2, 2))) rfl rfl hl.1 rfl (lv_room (Nat.le_of_ble_eq_true rfl)) dX2_endOfOrder_112 ⟨Nat.zero_le _, Nat.zero_le _⟩) hS (fun H locs Z hS => ?_)
    obtain rfl := Option.some.inj h
    exact W.iret hx hb hr (fun t ht hW => ⟨rfl, by rw [ht]; exact Z, hS.F ht⟩) hS.2.2 dX2_endOfOrder_115
  · replace h := wx_iff c5_0 h
    by_cases c5_1 : v2 = 103
    · replace h := wx_ift c5_1 h
      refine lv_tableIn (off := 149) (tgt := 154) hx hb dX2_endOfOrder_5 (by rw [c5_1]; decide) (by rw [c5_1]; decide) (by rw [c5_1]; rfl) (by decide) ?_
      refine lv_iload_n hx hb dX2_endOfOrder_154 rfl (lv_at hl 1 rfl) ?_
      refine lv_iconst (v := (-1)) hx hb dX2_endOfOrder_155 (by decide) ?_
      refine lv_ixor hx hb dX2_endOfOrder_156 ?_
      obtain rfl := Option.some.inj h
      exact W.iret hx hb hr (fun t ht hW => ⟨rfl, by rw [ht]; exact Z, hS.F ht⟩) hS.2.2 dX2_endOfOrder_157
    · replace h := wx_iff c5_1 h
      by_cases c5_2 : v2 = 104
      · replace h := wx_ift c5_2 h
        refine lv_tableIn (off := 149) (tgt := 154) hx hb dX2_endOfOrder_5 (by rw [c5_2]; decide) (by rw [c5_2]; decide) (by rw [c5_2]; rfl) (by decide) ?_
        refine lv_iload_n hx hb dX2_endOfOrder_154 rfl (lv_at hl 1 rfl) ?_
        refine lv_iconst (v := (-1)) hx hb dX2_endOfOrder_155 (by decide) ?_
        refine lv_ixor hx hb dX2_endOfOrder_156 ?_
        obtain rfl := Option.some.inj h
        exact W.iret hx hb hr (fun t ht hW => ⟨rfl, by rw [ht]; exact Z, hS.F ht⟩) hS.2.2 dX2_endOfOrder_157
      · replace h := wx_iff c5_2 h
        by_cases c5_3 : v2 = 105
        · replace h := wx_ift c5_3 h
          refine lv_tableIn (off := 149) (tgt := 154) hx hb dX2_endOfOrder_5 (by rw [c5_3]; decide) (by rw [c5_3]; decide) (by rw [c5_3]; rfl) (by decide) ?_
          refine lv_iload_n hx hb dX2_endOfOrder_154 rfl (lv_at hl 1 rfl) ?_
          refine lv_iconst (v := (-1)) hx hb dX2_endOfOrder_155 (by decide) ?_
          refine lv_ixor hx hb dX2_endOfOrder_156 ?_
          obtain rfl := Option.some.inj h
          exact W.iret hx hb hr (fun t ht hW => ⟨rfl, by rw [ht]; exact Z, hS.F ht⟩) hS.2.2 dX2_endOfOrder_157
        · replace h := wx_iff c5_3 h
          by_cases c5_4 : v2 = 106
          · replace h := wx_ift c5_4 h
            refine lv_tableIn (off := 149) (tgt := 154) hx hb dX2_endOfOrder_5 (by rw [c5_4]; decide) (by rw [c5_4]; decide) (by rw [c5_4]; rfl) (by decide) ?_
            refine lv_iload_n hx hb dX2_endOfOrder_154 rfl (lv_at hl 1 rfl) ?_
            refine lv_iconst (v := (-1)) hx hb dX2_endOfOrder_155 (by decide) ?_
            refine lv_ixor hx hb dX2_endOfOrder_156 ?_
            obtain rfl := Option.some.inj h
            exact W.iret hx hb hr (fun t ht hW => ⟨rfl, by rw [ht]; exact Z, hS.F ht⟩) hS.2.2 dX2_endOfOrder_157
          · replace h := wx_iff c5_4 h
            by_cases c5_5 : v2 = 107
            · replace h := wx_ift c5_5 h
              refine lv_tableIn (off := 149) (tgt := 154) hx hb dX2_endOfOrder_5 (by rw [c5_5]; decide) (by rw [c5_5]; decide) (by rw [c5_5]; rfl) (by decide) ?_
              refine lv_iload_n hx hb dX2_endOfOrder_154 rfl (lv_at hl 1 rfl) ?_
              refine lv_iconst (v := (-1)) hx hb dX2_endOfOrder_155 (by decide) ?_
              refine lv_ixor hx hb dX2_endOfOrder_156 ?_
              obtain rfl := Option.some.inj h
              exact W.iret hx hb hr (fun t ht hW => ⟨rfl, by rw [ht]; exact Z, hS.F ht⟩) hS.2.2 dX2_endOfOrder_157
            · replace h := wx_iff c5_5 h
              by_cases c5_6 : v2 = 108
              · replace h := wx_ift c5_6 h
                refine lv_tableIn (off := 149) (tgt := 154) hx hb dX2_endOfOrder_5 (by rw [c5_6]; decide) (by rw [c5_6]; decide) (by rw [c5_6]; rfl) (by decide) ?_
                refine lv_iload_n hx hb dX2_endOfOrder_154 rfl (lv_at hl 1 rfl) ?_
                refine lv_iconst (v := (-1)) hx hb dX2_endOfOrder_155 (by decide) ?_
                refine lv_ixor hx hb dX2_endOfOrder_156 ?_
                obtain rfl := Option.some.inj h
                exact W.iret hx hb hr (fun t ht hW => ⟨rfl, by rw [ht]; exact Z, hS.F ht⟩) hS.2.2 dX2_endOfOrder_157
              · replace h := wx_iff c5_6 h
                by_cases c5_7 : v2 = 109
                · replace h := wx_ift c5_7 h
                  refine lv_tableIn (off := 121) (tgt := 126) hx hb dX2_endOfOrder_5 (by rw [c5_7]; decide) (by rw [c5_7]; decide) (by rw [c5_7]; rfl) (by decide) ?_
                  refine lv_aload_n hx hb dX2_endOfOrder_126 rfl (lv_at hl 0 rfl) ?_
                  refine va_ldcS hx hb hown hC.2.2.2.2.2.2 dX2_endOfOrder_127 ?_
                  refine lv_iload_n hx hb dX2_endOfOrder_129 rfl (lv_at hl 1 rfl) ?_
                  refine lv_iconst (v := 1) hx hb dX2_endOfOrder_130 (by decide) ?_
                  refine lv_iadd hx hb dX2_endOfOrder_131 ?_
                  obtain ⟨v132, hc132, h⟩ := wx_o_ok h
                  refine wx_call (va_runV (As := [.ref (ad 18 4), .int (x1 + 1)]) (rest := []) ⟨hx, hb, hml, hown, hts⟩ (c_X2_endOf l (D := D) (ad := ad) (rd := rd) (ca := ca) (A := A) (σ := σ) (i := 4) (by decide : 4 < 5) hc132) (cwV 2 hts gX2_endOfOrder_X2_endOf rfl rfl rfl (by decide +kernel) ⟨Nat.le_of_ble_eq_true rfl, Nat.le_of_ble_eq_true rfl⟩) (wx_preV hC Z hS hA rfl (rfl : vwCl[2]? = some (RX2, TX2, 2))) rfl rfl hl.1 rfl (lv_room (Nat.le_of_ble_eq_true rfl)) dX2_endOfOrder_132 ⟨Nat.zero_le _, Nat.zero_le _⟩) hS (fun H locs Z hS => ?_)
                  obtain rfl := Option.some.inj h
                  exact W.iret hx hb hr (fun t ht hW => ⟨rfl, by rw [ht]; exact Z, hS.F ht⟩) hS.2.2 dX2_endOfOrder_135
                · replace h := wx_iff c5_7 h
                  by_cases c5_8 : v2 = 110
                  · replace h := wx_ift c5_8 h
                    refine lv_tableIn (off := 149) (tgt := 154) hx hb dX2_endOfOrder_5 (by rw [c5_8]; decide) (by rw [c5_8]; decide) (by rw [c5_8]; rfl) (by decide) ?_
                    refine lv_iload_n hx hb dX2_endOfOrder_154 rfl (lv_at hl 1 rfl) ?_
                    refine lv_iconst (v := (-1)) hx hb dX2_endOfOrder_155 (by decide) ?_
                    refine lv_ixor hx hb dX2_endOfOrder_156 ?_
                    obtain rfl := Option.some.inj h
                    exact W.iret hx hb hr (fun t ht hW => ⟨rfl, by rw [ht]; exact Z, hS.F ht⟩) hS.2.2 dX2_endOfOrder_157
                  · replace h := wx_iff c5_8 h
                    by_cases c5_9 : v2 = 111
                    · replace h := wx_ift c5_9 h
                      refine lv_tableIn (off := 149) (tgt := 154) hx hb dX2_endOfOrder_5 (by rw [c5_9]; decide) (by rw [c5_9]; decide) (by rw [c5_9]; rfl) (by decide) ?_
                      refine lv_iload_n hx hb dX2_endOfOrder_154 rfl (lv_at hl 1 rfl) ?_
                      refine lv_iconst (v := (-1)) hx hb dX2_endOfOrder_155 (by decide) ?_
                      refine lv_ixor hx hb dX2_endOfOrder_156 ?_
                      obtain rfl := Option.some.inj h
                      exact W.iret hx hb hr (fun t ht hW => ⟨rfl, by rw [ht]; exact Z, hS.F ht⟩) hS.2.2 dX2_endOfOrder_157
                    · replace h := wx_iff c5_9 h
                      by_cases c5_10 : v2 = 112
                      · replace h := wx_ift c5_10 h
                        refine lv_tableIn (off := 139) (tgt := 144) hx hb dX2_endOfOrder_5 (by rw [c5_10]; decide) (by rw [c5_10]; decide) (by rw [c5_10]; rfl) (by decide) ?_
                        refine lv_aload_n hx hb dX2_endOfOrder_144 rfl (lv_at hl 0 rfl) ?_
                        refine va_ldcS hx hb hown hC.2.2.2.1 dX2_endOfOrder_145 ?_
                        refine lv_iload_n hx hb dX2_endOfOrder_147 rfl (lv_at hl 1 rfl) ?_
                        refine lv_iconst (v := 1) hx hb dX2_endOfOrder_148 (by decide) ?_
                        refine lv_iadd hx hb dX2_endOfOrder_149 ?_
                        obtain ⟨v150, hc150, h⟩ := wx_o_ok h
                        refine wx_call (va_runV (As := [.ref (ad 18 1), .int (x1 + 1)]) (rest := []) ⟨hx, hb, hml, hown, hts⟩ (c_X2_endOf l (D := D) (ad := ad) (rd := rd) (ca := ca) (A := A) (σ := σ) (i := 1) (by decide : 1 < 5) hc150) (cwV 2 hts gX2_endOfOrder_X2_endOf rfl rfl rfl (by decide +kernel) ⟨Nat.le_of_ble_eq_true rfl, Nat.le_of_ble_eq_true rfl⟩) (wx_preV hC Z hS hA rfl (rfl : vwCl[2]? = some (RX2, TX2, 2))) rfl rfl hl.1 rfl (lv_room (Nat.le_of_ble_eq_true rfl)) dX2_endOfOrder_150 ⟨Nat.zero_le _, Nat.zero_le _⟩) hS (fun H locs Z hS => ?_)
                        obtain rfl := Option.some.inj h
                        exact W.iret hx hb hr (fun t ht hW => ⟨rfl, by rw [ht]; exact Z, hS.F ht⟩) hS.2.2 dX2_endOfOrder_153
                      · replace h := wx_iff c5_10 h
                        by_cases c5_11 : v2 = 113
                        · replace h := wx_ift c5_11 h
                          refine lv_tableIn (off := 149) (tgt := 154) hx hb dX2_endOfOrder_5 (by rw [c5_11]; decide) (by rw [c5_11]; decide) (by rw [c5_11]; rfl) (by decide) ?_
                          refine lv_iload_n hx hb dX2_endOfOrder_154 rfl (lv_at hl 1 rfl) ?_
                          refine lv_iconst (v := (-1)) hx hb dX2_endOfOrder_155 (by decide) ?_
                          refine lv_ixor hx hb dX2_endOfOrder_156 ?_
                          obtain rfl := Option.some.inj h
                          exact W.iret hx hb hr (fun t ht hW => ⟨rfl, by rw [ht]; exact Z, hS.F ht⟩) hS.2.2 dX2_endOfOrder_157
                        · replace h := wx_iff c5_11 h
                          by_cases c5_12 : v2 = 114
                          · replace h := wx_ift c5_12 h
                            refine lv_tableIn (off := 149) (tgt := 154) hx hb dX2_endOfOrder_5 (by rw [c5_12]; decide) (by rw [c5_12]; decide) (by rw [c5_12]; rfl) (by decide) ?_
                            refine lv_iload_n hx hb dX2_endOfOrder_154 rfl (lv_at hl 1 rfl) ?_
                            refine lv_iconst (v := (-1)) hx hb dX2_endOfOrder_155 (by decide) ?_
                            refine lv_ixor hx hb dX2_endOfOrder_156 ?_
                            obtain rfl := Option.some.inj h
                            exact W.iret hx hb hr (fun t ht hW => ⟨rfl, by rw [ht]; exact Z, hS.F ht⟩) hS.2.2 dX2_endOfOrder_157
                          · replace h := wx_iff c5_12 h
                            by_cases c5_13 : v2 = 115
                            · replace h := wx_ift c5_13 h
                              refine lv_tableIn (off := 111) (tgt := 116) hx hb dX2_endOfOrder_5 (by rw [c5_13]; decide) (by rw [c5_13]; decide) (by rw [c5_13]; rfl) (by decide) ?_
                              refine lv_aload_n hx hb dX2_endOfOrder_116 rfl (lv_at hl 0 rfl) ?_
                              refine va_ldcS hx hb hown hC.2.2.2.2.2.1 dX2_endOfOrder_117 ?_
                              refine lv_iload_n hx hb dX2_endOfOrder_119 rfl (lv_at hl 1 rfl) ?_
                              refine lv_iconst (v := 1) hx hb dX2_endOfOrder_120 (by decide) ?_
                              refine lv_iadd hx hb dX2_endOfOrder_121 ?_
                              obtain ⟨v122, hc122, h⟩ := wx_o_ok h
                              refine wx_call (va_runV (As := [.ref (ad 18 3), .int (x1 + 1)]) (rest := []) ⟨hx, hb, hml, hown, hts⟩ (c_X2_endOf l (D := D) (ad := ad) (rd := rd) (ca := ca) (A := A) (σ := σ) (i := 3) (by decide : 3 < 5) hc122) (cwV 2 hts gX2_endOfOrder_X2_endOf rfl rfl rfl (by decide +kernel) ⟨Nat.le_of_ble_eq_true rfl, Nat.le_of_ble_eq_true rfl⟩) (wx_preV hC Z hS hA rfl (rfl : vwCl[2]? = some (RX2, TX2, 2))) rfl rfl hl.1 rfl (lv_room (Nat.le_of_ble_eq_true rfl)) dX2_endOfOrder_122 ⟨Nat.zero_le _, Nat.zero_le _⟩) hS (fun H locs Z hS => ?_)
                              obtain rfl := Option.some.inj h
                              exact W.iret hx hb hr (fun t ht hW => ⟨rfl, by rw [ht]; exact Z, hS.F ht⟩) hS.2.2 dX2_endOfOrder_125
                            · replace h := wx_iff c5_13 h
                              by_cases c5_14 : v2 = 116
                              · replace h := wx_ift c5_14 h
                                refine lv_tableIn (off := 87) (tgt := 92) hx hb dX2_endOfOrder_5 (by rw [c5_14]; decide) (by rw [c5_14]; decide) (by rw [c5_14]; rfl) (by decide) ?_
                                refine lv_aload_n hx hb dX2_endOfOrder_92 rfl (lv_at hl 0 rfl) ?_
                                refine lv_aload_n hx hb dX2_endOfOrder_93 rfl (lv_at hl 0 rfl) ?_
                                refine va_ldcS hx hb hown hC.2.2.1 dX2_endOfOrder_94 ?_
                                refine lv_iload_n hx hb dX2_endOfOrder_96 rfl (lv_at hl 1 rfl) ?_
                                refine lv_iconst (v := 1) hx hb dX2_endOfOrder_97 (by decide) ?_
                                refine lv_iadd hx hb dX2_endOfOrder_98 ?_
                                obtain ⟨v99, hc99, h⟩ := wx_o_ok h
                                refine wx_call (va_runV (As := [.ref (ad 18 0), .int (x1 + 1)]) (rest := [.ref (ad 15 99)]) ⟨hx, hb, hml, hown, hts⟩ (c_X2_endOf l (D := D) (ad := ad) (rd := rd) (ca := ca) (A := A) (σ := σ) (i := 0) (by decide : 0 < 5) hc99) (cwV 2 hts gX2_endOfOrder_X2_endOf rfl rfl rfl (by decide +kernel) ⟨Nat.le_of_ble_eq_true rfl, Nat.le_of_ble_eq_true rfl⟩) (wx_preV hC Z hS hA rfl (rfl : vwCl[2]? = some (RX2, TX2, 2))) rfl rfl hl.1 rfl (lv_room (Nat.le_of_ble_eq_true rfl)) dX2_endOfOrder_99 ⟨Nat.zero_le _, Nat.zero_le _⟩) hS (fun H locs Z hS => ?_)
                                obtain ⟨v102, hc102, h⟩ := wx_o_ok h
                                refine wx_call (va_runV (As := [.int v99]) (rest := []) ⟨hx, hb, hml, hown, hts⟩ (c_X2_endOfPlaces l (D := D) (ad := ad) (rd := rd) (ca := ca) (A := A) (σ := σ) hc102) (cwV 1 hts gX2_endOfOrder_X2_endOfPlaces rfl rfl rfl (by decide +kernel) ⟨Nat.le_of_ble_eq_true rfl, Nat.le_of_ble_eq_true rfl⟩) (wx_preV hC Z hS hA rfl (rfl : vwCl[2]? = some (RX2, TX2, 2))) rfl rfl hl.1 rfl (lv_room (Nat.le_of_ble_eq_true rfl)) dX2_endOfOrder_102 ⟨Nat.zero_le _, Nat.zero_le _⟩) hS (fun H locs Z hS => ?_)
                                obtain rfl := Option.some.inj h
                                exact W.iret hx hb hr (fun t ht hW => ⟨rfl, by rw [ht]; exact Z, hS.F ht⟩) hS.2.2 dX2_endOfOrder_105
                              · replace h := wx_iff c5_14 h
                                by_cases c5_15 : v2 = 117
                                · replace h := wx_ift c5_15 h
                                  refine lv_tableIn (off := 149) (tgt := 154) hx hb dX2_endOfOrder_5 (by rw [c5_15]; decide) (by rw [c5_15]; decide) (by rw [c5_15]; rfl) (by decide) ?_
                                  refine lv_iload_n hx hb dX2_endOfOrder_154 rfl (lv_at hl 1 rfl) ?_
                                  refine lv_iconst (v := (-1)) hx hb dX2_endOfOrder_155 (by decide) ?_
                                  refine lv_ixor hx hb dX2_endOfOrder_156 ?_
                                  obtain rfl := Option.some.inj h
                                  exact W.iret hx hb hr (fun t ht hW => ⟨rfl, by rw [ht]; exact Z, hS.F ht⟩) hS.2.2 dX2_endOfOrder_157
                                · replace h := wx_iff c5_15 h
                                  by_cases c5_16 : v2 = 118
                                  · replace h := wx_ift c5_16 h
                                    refine lv_tableIn (off := 149) (tgt := 154) hx hb dX2_endOfOrder_5 (by rw [c5_16]; decide) (by rw [c5_16]; decide) (by rw [c5_16]; rfl) (by decide) ?_
                                    refine lv_iload_n hx hb dX2_endOfOrder_154 rfl (lv_at hl 1 rfl) ?_
                                    refine lv_iconst (v := (-1)) hx hb dX2_endOfOrder_155 (by decide) ?_
                                    refine lv_ixor hx hb dX2_endOfOrder_156 ?_
                                    obtain rfl := Option.some.inj h
                                    exact W.iret hx hb hr (fun t ht hW => ⟨rfl, by rw [ht]; exact Z, hS.F ht⟩) hS.2.2 dX2_endOfOrder_157
                                  · replace h := wx_iff c5_16 h
                                    by_cases c5_17 : v2 = 119
                                    · replace h := wx_ift c5_17 h
                                      refine lv_tableIn (off := 131) (tgt := 136) hx hb dX2_endOfOrder_5 (by rw [c5_17]; decide) (by rw [c5_17]; decide) (by rw [c5_17]; rfl) (by decide) ?_
                                      refine lv_aload_n hx hb dX2_endOfOrder_136 rfl (lv_at hl 0 rfl) ?_
                                      refine lv_iload_n hx hb dX2_endOfOrder_137 rfl (lv_at hl 1 rfl) ?_
                                      refine lv_iconst (v := 1) hx hb dX2_endOfOrder_138 (by decide) ?_
                                      refine lv_iadd hx hb dX2_endOfOrder_139 ?_
                                      obtain ⟨v140, hc140, h⟩ := wx_o_ok h
                                      refine wx_call (va_runV (As := [.int (x1 + 1)]) (rest := []) ⟨hx, hb, hml, hown, hts⟩ (c_X2_endOfNumber l (D := D) (ad := ad) (rd := rd) (ca := ca) (A := A) (σ := σ) hc140) (cwV 1 hts gX2_endOfOrder_X2_endOfNumber rfl rfl rfl (by decide +kernel) ⟨Nat.le_of_ble_eq_true rfl, Nat.le_of_ble_eq_true rfl⟩) (wx_preV hC Z hS hA rfl (rfl : vwCl[2]? = some (RX2, TX2, 2))) rfl rfl hl.1 rfl (lv_room (Nat.le_of_ble_eq_true rfl)) dX2_endOfOrder_140 ⟨Nat.zero_le _, Nat.zero_le _⟩) hS (fun H locs Z hS => ?_)
                                      obtain rfl := Option.some.inj h
                                      exact W.iret hx hb hr (fun t ht hW => ⟨rfl, by rw [ht]; exact Z, hS.F ht⟩) hS.2.2 dX2_endOfOrder_143
                                    · replace h := wx_iff c5_17 h
                                      have n5_0 := wx_ni c5_0
                                      have n5_1 := wx_ni c5_1
                                      have n5_2 := wx_ni c5_2
                                      have n5_3 := wx_ni c5_3
                                      have n5_4 := wx_ni c5_4
                                      have n5_5 := wx_ni c5_5
                                      have n5_6 := wx_ni c5_6
                                      have n5_7 := wx_ni c5_7
                                      have n5_8 := wx_ni c5_8
                                      have n5_9 := wx_ni c5_9
                                      have n5_10 := wx_ni c5_10
                                      have n5_11 := wx_ni c5_11
                                      have n5_12 := wx_ni c5_12
                                      have n5_13 := wx_ni c5_13
                                      have n5_14 := wx_ni c5_14
                                      have n5_15 := wx_ni c5_15
                                      have n5_16 := wx_ni c5_16
                                      have n5_17 := wx_ni c5_17
                                      rw [show (102 : Int32).toInt = 102 from by decide] at n5_0
                                      rw [show (103 : Int32).toInt = 103 from by decide] at n5_1
                                      rw [show (104 : Int32).toInt = 104 from by decide] at n5_2
                                      rw [show (105 : Int32).toInt = 105 from by decide] at n5_3
                                      rw [show (106 : Int32).toInt = 106 from by decide] at n5_4
                                      rw [show (107 : Int32).toInt = 107 from by decide] at n5_5
                                      rw [show (108 : Int32).toInt = 108 from by decide] at n5_6
                                      rw [show (109 : Int32).toInt = 109 from by decide] at n5_7
                                      rw [show (110 : Int32).toInt = 110 from by decide] at n5_8
                                      rw [show (111 : Int32).toInt = 111 from by decide] at n5_9
                                      rw [show (112 : Int32).toInt = 112 from by decide] at n5_10
                                      rw [show (113 : Int32).toInt = 113 from by decide] at n5_11
                                      rw [show (114 : Int32).toInt = 114 from by decide] at n5_12
                                      rw [show (115 : Int32).toInt = 115 from by decide] at n5_13
                                      rw [show (116 : Int32).toInt = 116 from by decide] at n5_14
                                      rw [show (117 : Int32).toInt = 117 from by decide] at n5_15
                                      rw [show (118 : Int32).toInt = 118 from by decide] at n5_16
                                      rw [show (119 : Int32).toInt = 119 from by decide] at n5_17
                                      refine lv_tableOut (tgt := 154) hx hb dX2_endOfOrder_5 (by omega) (by decide) ?_
                                      refine lv_iload_n hx hb dX2_endOfOrder_154 rfl (lv_at hl 1 rfl) ?_
                                      refine lv_iconst (v := (-1)) hx hb dX2_endOfOrder_155 (by decide) ?_
                                      refine lv_ixor hx hb dX2_endOfOrder_156 ?_
                                      obtain rfl := Option.some.inj h
                                      exact W.iret hx hb hr (fun t ht hW => ⟨rfl, by rw [ht]; exact Z, hS.F ht⟩) hS.2.2 dX2_endOfOrder_157
set_option maxRecDepth 20000 in
theorem c_X2_endOfOrder (l : Launch) {D : va_G} {ad : Nat → Nat → Nat} {rd : Nat → Nat} {ca : Nat → ClassId} {A : Nat → Prop} {σ : wx_St}    {x1 : Int32} {r : Int32} (h : f_X2_endOfOrder x1 σ = some r) : wx_M l yX2_endOfOrder wsX2_endOfOrder 6 133 D ad rd ca A [.ref (ad 15 99), .int x1] σ (some (.int r)) σ := by
  refine Met.ofW (cc := cX2_endOfOrder) (maxL := 2) (ret := (some .int)) (by decide +kernel) rfl ?_
  intro p e s m args below meth c s₁ B0 hml hv
  obtain ⟨rfl, hC, Z, hA⟩ := hv
  have hl := lv_entry ([.ref (ad 15 99), .int x1]) (n := 2) (Nat.le_of_ble_eq_true rfl)
  rw [lg_entry_eq]
  generalize (lg_sl ([.ref (ad 15 99), .int x1]) ++ List.replicate (2 - (lg_sl ([.ref (ad 15 99), .int x1])).length) Slot.unset).toArray = ls at hl ⊢
  exact b_X2_endOfOrder_0 ⟨B0.exec, B0.bytes, hml, B0.returns, atoms_spec (ws := wsX2_endOfOrder) B0.pre, findClass_of_methodNamed B0.named, B0.notSynchronized, hC, hA⟩   h Z va_S.rf hl
theorem i_X2_firstFault_2 : ∀ w ∈ wsX20, w ∈ wsX2_firstFault := by decide +kernel
theorem k_X2_firstFault_w0 : Cond.fieldLink RX2 15 "WarmProbes$Pad" "length" "I" ∈ wsX2_firstFault := by decide +kernel
set_option maxRecDepth 20000 in
set_option maxHeartbeats 4000000 in
theorem b_X2_firstFault_4 (B : wx_B p s m args meth c cX2_firstFault 4 (some .int) wsX2_firstFault RX2 D ad ca A)    {r : Int32} {σ : wx_St}   :
    ∀ {n : Nat} {x1 : Int32} {x2 : Int32}   (h : f_X2_firstFault_4 n x1 x2 σ = some r) {H : Heap} {locs : List Loc} (Z : wx_Z D ad rd ca A σ H) (hS : va_S A s.heap H locs) {ls : Array Slot} (hl : lv_has ls 4 [(0, .ref (ad 15 99)), (1, .int x1), (2, .int x2)]), W p l e ({ frames := 7, cells := 0, slots := 0, locals := 154 } : Room) s m args below meth c H locs 0 0 (MQ below (wx_Q D ad rd ca A (some (.int r)) σ) args s 0 0 A) (F0 m 4 ls []) := by
  obtain ⟨hx, hb, hml, hr, hts, hown, hlk, hC, hA⟩ := id B
  intro n
  induction n with
  | zero => intro x1 x2   h H locs Z hS ls hl; exact wx_no h
  | succ n ih =>
    intro x1 x2   h H locs Z hS ls hl
    rw [f_X2_firstFault_4] at h
    refine lv_iload_n hx hb dX2_firstFault_4 rfl (lv_at hl 2 rfl) ?_
    refine lv_bipush (v := 80) hx hb dX2_firstFault_5 (by decide) ?_
    refine lv_icmp_ge (tgt := 57) hx hb dX2_firstFault_7 (by decide) (fun c7 => ?_) (fun c7 => ?_)
    · replace h := wx_ift c7 h
      refine lv_aload_n hx hb dX2_firstFault_57 rfl (lv_at hl 0 rfl) ?_
      refine wx_get (own := RX2) hx hb hts i_X2_firstFault_2 hown hC.1 Z (o := 15) (ci := 2) rfl (rfl : vwCl[2]? = some (RX2, TX2, 2)) 1 (by decide) (hts _ k_X2_firstFault_w0) (fun _ h9 => h9) (f := 1) rfl rfl dX2_firstFault_58 ?_
      obtain rfl := Option.some.inj h
      exact W.iret hx hb hr (fun t ht hW => ⟨rfl, by rw [ht]; exact Z, hS.F ht⟩) hS.2.2 dX2_firstFault_61
    · replace h := wx_iff c7 h
      refine lv_aload_n hx hb dX2_firstFault_10 rfl (lv_at hl 0 rfl) ?_
      refine lv_iload_n hx hb dX2_firstFault_11 rfl (lv_at hl 1 rfl) ?_
      obtain ⟨v12, hc12, h⟩ := wx_o_ok h
      refine wx_call (va_runV (As := [.int x1]) (rest := []) ⟨hx, hb, hml, hown, hts⟩ (c_X2_endOfOrder l (D := D) (ad := ad) (rd := rd) (ca := ca) (A := A) (σ := σ) hc12) (cwV 1 hts gX2_firstFault_X2_endOfOrder rfl rfl rfl (by decide +kernel) ⟨Nat.le_of_ble_eq_true rfl, Nat.le_of_ble_eq_true rfl⟩) (wx_preV hC Z hS hA rfl (rfl : vwCl[2]? = some (RX2, TX2, 2))) rfl rfl hl.1 rfl (lv_room (Nat.le_of_ble_eq_true rfl)) dX2_firstFault_12 ⟨Nat.zero_le _, Nat.zero_le _⟩) hS (fun H locs Z hS => ?_)
      refine lv_istore_n (lv' := [(3, .int v12), (0, .ref (ad 15 99)), (1, .int x1), (2, .int x2)]) hx hb dX2_firstFault_15 rfl hl (by decide) rfl (fun ls hl => ?_)
      refine lv_iload_n hx hb dX2_firstFault_16 rfl (lv_at hl 0 rfl) ?_
      refine lv_if_ge (tgt := 24) hx hb dX2_firstFault_17 (by decide) (fun c17 => ?_) (fun c17 => ?_)
      · replace h := wx_ift c17 h
        refine lv_iload_n hx hb dX2_firstFault_24 rfl (lv_at hl 0 rfl) ?_
        refine lv_aload_n hx hb dX2_firstFault_25 rfl (lv_at hl 1 rfl) ?_
        refine wx_get (own := RX2) hx hb hts i_X2_firstFault_2 hown hC.1 Z (o := 15) (ci := 2) rfl (rfl : vwCl[2]? = some (RX2, TX2, 2)) 1 (by decide) (hts _ k_X2_firstFault_w0) (fun _ h9 => h9) (f := 1) rfl rfl dX2_firstFault_26 ?_
        refine lv_icmp_lt (tgt := 35) hx hb dX2_firstFault_29 (by decide) (fun c29 => ?_) (fun c29 => ?_)
        · replace h := wx_ift c29 h
          refine lv_aload_n hx hb dX2_firstFault_35 rfl (lv_at hl 1 rfl) ?_
          refine lv_iload_n hx hb dX2_firstFault_36 rfl (lv_at hl 0 rfl) ?_
          obtain ⟨v37, hc37, h⟩ := wx_o_ok h
          refine wx_call (va_runV (As := [.int v12]) (rest := []) ⟨hx, hb, hml, hown, hts⟩ (c_X2_codeAt l (D := D) (ad := ad) (rd := rd) (ca := ca) (A := A) (σ := σ) hc37) (cwV 1 hts gX2_firstFault_X2_codeAt rfl rfl rfl (by decide +kernel) ⟨Nat.le_of_ble_eq_true rfl, Nat.le_of_ble_eq_true rfl⟩) (wx_preV hC Z hS hA rfl (rfl : vwCl[2]? = some (RX2, TX2, 2))) rfl rfl hl.1 rfl (lv_room (Nat.le_of_ble_eq_true rfl)) dX2_firstFault_37 ⟨Nat.zero_le _, Nat.zero_le _⟩) hS (fun H locs Z hS => ?_)
          refine lv_bipush (v := 59) hx hb dX2_firstFault_40 (by decide) ?_
          refine lv_icmp_eq (tgt := 47) hx hb dX2_firstFault_42 (by decide) (fun c42 => ?_) (fun c42 => ?_)
          · replace h := wx_ift c42 h
            refine lv_iload_n hx hb dX2_firstFault_47 rfl (lv_at hl 0 rfl) ?_
            refine lv_iconst (v := 1) hx hb dX2_firstFault_48 (by decide) ?_
            refine lv_iadd hx hb dX2_firstFault_49 ?_
            refine lv_istore_n (lv' := [(1, .int (v12 + 1)), (3, .int v12), (0, .ref (ad 15 99)), (2, .int x2)]) hx hb dX2_firstFault_50 rfl hl (by decide) rfl (fun ls hl => ?_)
            refine lv_iinc (v := x2 + 1) (lv' := [(2, .int (x2 + 1)), (1, .int (v12 + 1)), (3, .int v12), (0, .ref (ad 15 99))]) hx hb dX2_firstFault_51 hl (k := 3) rfl rfl (by decide) rfl (fun ls hl => ?_)
            refine lv_goto (tgt := 4) hx hb dX2_firstFault_54 (by decide) ?_
            exact ih h Z hS (lv_sub hl [3, 1, 0] rfl)
          · replace h := wx_iff c42 h
            refine lv_iload_n hx hb dX2_firstFault_45 rfl (lv_at hl 0 rfl) ?_
            obtain rfl := Option.some.inj h
            exact W.iret hx hb hr (fun t ht hW => ⟨rfl, by rw [ht]; exact Z, hS.F ht⟩) hS.2.2 dX2_firstFault_46
        · replace h := wx_iff c29 h
          refine lv_bipush (v := (-6)) hx hb dX2_firstFault_32 (by decide) ?_
          obtain rfl := Option.some.inj h
          exact W.iret hx hb hr (fun t ht hW => ⟨rfl, by rw [ht]; exact Z, hS.F ht⟩) hS.2.2 dX2_firstFault_34
      · replace h := wx_iff c17 h
        refine lv_iload_n hx hb dX2_firstFault_20 rfl (lv_at hl 0 rfl) ?_
        refine lv_iconst (v := (-1)) hx hb dX2_firstFault_21 (by decide) ?_
        refine lv_ixor hx hb dX2_firstFault_22 ?_
        obtain rfl := Option.some.inj h
        exact W.iret hx hb hr (fun t ht hW => ⟨rfl, by rw [ht]; exact Z, hS.F ht⟩) hS.2.2 dX2_firstFault_23
set_option maxRecDepth 20000 in
set_option maxHeartbeats 4000000 in
theorem b_X2_firstFault_0 (B : wx_B p s m args meth c cX2_firstFault 4 (some .int) wsX2_firstFault RX2 D ad ca A)    {r : Int32} {σ : wx_St}     (h : f_X2_firstFault σ = some r) {H : Heap} {locs : List Loc} (Z : wx_Z D ad rd ca A σ H) (hS : va_S A s.heap H locs) {ls : Array Slot} (hl : lv_has ls 4 [(0, .ref (ad 15 99))]) : W p l e ({ frames := 7, cells := 0, slots := 0, locals := 154 } : Room) s m args below meth c H locs 0 0 (MQ below (wx_Q D ad rd ca A (some (.int r)) σ) args s 0 0 A) (F0 m 0 ls []) := by
  obtain ⟨hx, hb, hml, hr, hts, hown, hlk, hC, hA⟩ := id B
  unfold f_X2_firstFault at h
  refine lv_iconst (v := 0) hx hb dX2_firstFault_0 (by decide) ?_
  refine lv_istore_n (lv' := [(1, .int 0), (0, .ref (ad 15 99))]) hx hb dX2_firstFault_1 rfl hl (by decide) rfl (fun ls hl => ?_)
  refine lv_iconst (v := 0) hx hb dX2_firstFault_2 (by decide) ?_
  refine lv_istore_n (lv' := [(2, .int 0), (1, .int 0), (0, .ref (ad 15 99))]) hx hb dX2_firstFault_3 rfl hl (by decide) rfl (fun ls hl => ?_)
  exact b_X2_firstFault_4 B h Z hS (lv_sub hl [2, 1, 0] rfl)
set_option maxRecDepth 20000 in
theorem c_X2_firstFault (l : Launch) {D : va_G} {ad : Nat → Nat → Nat} {rd : Nat → Nat} {ca : Nat → ClassId} {A : Nat → Prop} {σ : wx_St}     {r : Int32} (h : f_X2_firstFault σ = some r) : wx_M l yX2_firstFault wsX2_firstFault 7 154 D ad rd ca A [.ref (ad 15 99)] σ (some (.int r)) σ := by
  refine Met.ofW (cc := cX2_firstFault) (maxL := 4) (ret := (some .int)) (by decide +kernel) rfl ?_
  intro p e s m args below meth c s₁ B0 hml hv
  obtain ⟨rfl, hC, Z, hA⟩ := hv
  have hl := lv_entry ([.ref (ad 15 99)]) (n := 4) (Nat.le_of_ble_eq_true rfl)
  rw [lg_entry_eq]
  generalize (lg_sl ([.ref (ad 15 99)]) ++ List.replicate (4 - (lg_sl ([.ref (ad 15 99)])).length) Slot.unset).toArray = ls at hl ⊢
  exact b_X2_firstFault_0 ⟨B0.exec, B0.bytes, hml, B0.returns, atoms_spec (ws := wsX2_firstFault) B0.pre, findClass_of_methodNamed B0.named, B0.notSynchronized, hC, hA⟩   h Z va_S.rf hl
set_option maxRecDepth 20000 in
set_option maxHeartbeats 4000000 in
theorem b_X2_numberIn_5 (B : wx_B p s m args meth c cX2_numberIn 5 (some .int) wsX2_numberIn RX2 D ad ca A)    {r : Int32} {σ : wx_St}   :
    ∀ {n : Nat} {x1 : Int32} {x2 : Int32} {x3 : Int32} {x4 : Int32}   (h : f_X2_numberIn_5 n x1 x2 x3 x4 σ = some r) {H : Heap} {locs : List Loc} (Z : wx_Z D ad rd ca A σ H) (hS : va_S A s.heap H locs) {ls : Array Slot} (hl : lv_has ls 5 [(0, .ref (ad 15 99)), (1, .int x1), (2, .int x2), (3, .int x3), (4, .int x4)]), W p l e ({ frames := 2, cells := 0, slots := 0, locals := 42 } : Room) s m args below meth c H locs 0 0 (MQ below (wx_Q D ad rd ca A (some (.int r)) σ) args s 0 0 A) (F0 m 5 ls []) := by
  obtain ⟨hx, hb, hml, hr, hts, hown, hlk, hC, hA⟩ := id B
  intro n
  induction n with
  | zero => intro x1 x2 x3 x4   h H locs Z hS ls hl; exact wx_no h
  | succ n ih =>
    intro x1 x2 x3 x4   h H locs Z hS ls hl
    rw [f_X2_numberIn_5] at h
    refine lv_iload hx hb dX2_numberIn_5 (lv_at hl 4 rfl) ?_
    refine lv_iload_n hx hb dX2_numberIn_7 rfl (lv_at hl 2 rfl) ?_
    refine lv_icmp_ge (tgt := 29) hx hb dX2_numberIn_8 (by decide) (fun c8 => ?_) (fun c8 => ?_)
    · replace h := wx_ift c8 h
      refine lv_iload_n hx hb dX2_numberIn_29 rfl (lv_at hl 3 rfl) ?_
      obtain rfl := Option.some.inj h
      exact W.iret hx hb hr (fun t ht hW => ⟨rfl, by rw [ht]; exact Z, hS.F ht⟩) hS.2.2 dX2_numberIn_30
    · replace h := wx_iff c8 h
      refine lv_bipush (v := 10) hx hb dX2_numberIn_11 (by decide) ?_
      refine lv_iload_n hx hb dX2_numberIn_13 rfl (lv_at hl 3 rfl) ?_
      refine lv_imul hx hb dX2_numberIn_14 ?_
      refine lv_aload_n hx hb dX2_numberIn_15 rfl (lv_at hl 0 rfl) ?_
      refine lv_iload hx hb dX2_numberIn_16 (lv_at hl 4 rfl) ?_
      obtain ⟨v18, hc18, h⟩ := wx_o_ok h
      refine wx_call (va_runV (As := [.int x4]) (rest := [.int (10 * x3)]) ⟨hx, hb, hml, hown, hts⟩ (c_X2_digitAt l (D := D) (ad := ad) (rd := rd) (ca := ca) (A := A) (σ := σ) hc18) (cwV 1 hts gX2_numberIn_X2_digitAt rfl rfl rfl (by decide +kernel) ⟨Nat.le_of_ble_eq_true rfl, Nat.le_of_ble_eq_true rfl⟩) (wx_preV hC Z hS hA rfl (rfl : vwCl[2]? = some (RX2, TX2, 2))) rfl rfl hl.1 rfl (lv_room (Nat.le_of_ble_eq_true rfl)) dX2_numberIn_18 ⟨Nat.zero_le _, Nat.zero_le _⟩) hS (fun H locs Z hS => ?_)
      refine lv_iadd hx hb dX2_numberIn_21 ?_
      refine lv_istore_n (lv' := [(3, .int ((10 * x3) + v18)), (0, .ref (ad 15 99)), (1, .int x1), (2, .int x2), (4, .int x4)]) hx hb dX2_numberIn_22 rfl hl (by decide) rfl (fun ls hl => ?_)
      refine lv_iinc (v := x4 + 1) (lv' := [(4, .int (x4 + 1)), (3, .int ((10 * x3) + v18)), (0, .ref (ad 15 99)), (1, .int x1), (2, .int x2)]) hx hb dX2_numberIn_23 hl (k := 4) rfl rfl (by decide) rfl (fun ls hl => ?_)
      refine lv_goto (tgt := 5) hx hb dX2_numberIn_26 (by decide) ?_
      exact ih h Z hS (lv_sub hl [2, 3, 4, 1, 0] rfl)
set_option maxRecDepth 20000 in
set_option maxHeartbeats 4000000 in
theorem b_X2_numberIn_0 (B : wx_B p s m args meth c cX2_numberIn 5 (some .int) wsX2_numberIn RX2 D ad ca A)    {r : Int32} {σ : wx_St}  {x1 : Int32} {x2 : Int32}   (h : f_X2_numberIn x1 x2 σ = some r) {H : Heap} {locs : List Loc} (Z : wx_Z D ad rd ca A σ H) (hS : va_S A s.heap H locs) {ls : Array Slot} (hl : lv_has ls 5 [(0, .ref (ad 15 99)), (1, .int x1), (2, .int x2)]) : W p l e ({ frames := 2, cells := 0, slots := 0, locals := 42 } : Room) s m args below meth c H locs 0 0 (MQ below (wx_Q D ad rd ca A (some (.int r)) σ) args s 0 0 A) (F0 m 0 ls []) := by
  obtain ⟨hx, hb, hml, hr, hts, hown, hlk, hC, hA⟩ := id B
  unfold f_X2_numberIn at h
  refine lv_iconst (v := 0) hx hb dX2_numberIn_0 (by decide) ?_
  refine lv_istore_n (lv' := [(3, .int 0), (0, .ref (ad 15 99)), (1, .int x1), (2, .int x2)]) hx hb dX2_numberIn_1 rfl hl (by decide) rfl (fun ls hl => ?_)
  refine lv_iload_n hx hb dX2_numberIn_2 rfl (lv_at hl 2 rfl) ?_
  refine lv_istore (lv' := [(4, .int x1), (3, .int 0), (0, .ref (ad 15 99)), (1, .int x1), (2, .int x2)]) hx hb dX2_numberIn_3 hl (by decide) rfl (fun ls hl => ?_)
  exact b_X2_numberIn_5 B h Z hS (lv_sub hl [2, 3, 4, 1, 0] rfl)
set_option maxRecDepth 20000 in
theorem c_X2_numberIn (l : Launch) {D : va_G} {ad : Nat → Nat → Nat} {rd : Nat → Nat} {ca : Nat → ClassId} {A : Nat → Prop} {σ : wx_St}    {x1 : Int32} {x2 : Int32} {r : Int32} (h : f_X2_numberIn x1 x2 σ = some r) : wx_M l yX2_numberIn wsX2_numberIn 2 42 D ad rd ca A [.ref (ad 15 99), .int x1, .int x2] σ (some (.int r)) σ := by
  refine Met.ofW (cc := cX2_numberIn) (maxL := 5) (ret := (some .int)) (by decide +kernel) rfl ?_
  intro p e s m args below meth c s₁ B0 hml hv
  obtain ⟨rfl, hC, Z, hA⟩ := hv
  have hl := lv_entry ([.ref (ad 15 99), .int x1, .int x2]) (n := 5) (Nat.le_of_ble_eq_true rfl)
  rw [lg_entry_eq]
  generalize (lg_sl ([.ref (ad 15 99), .int x1, .int x2]) ++ List.replicate (5 - (lg_sl ([.ref (ad 15 99), .int x1, .int x2])).length) Slot.unset).toArray = ls at hl ⊢
  exact b_X2_numberIn_0 ⟨B0.exec, B0.bytes, hml, B0.returns, atoms_spec (ws := wsX2_numberIn) B0.pre, findClass_of_methodNamed B0.named, B0.notSynchronized, hC, hA⟩   h Z va_S.rf hl
set_option maxRecDepth 20000 in
set_option maxHeartbeats 4000000 in
theorem b_X2_ordersIn_21 (B : wx_B p s m args meth c cX2_ordersIn 3 (some .int) wsX2_ordersIn RX2 D ad ca A)    {r : Int32} {σ : wx_St}  {x1 : Int32} {x2 : Int32} {y0 : Int32}   (h : f_X2_ordersIn_21 x1 x2 y0 σ = some r) {H : Heap} {locs : List Loc} (Z : wx_Z D ad rd ca A σ H) (hS : va_S A s.heap H locs) {ls : Array Slot} (hl : lv_has ls 3 [(0, .ref (ad 15 99)), (1, .int x1), (2, .int x2)]) : W p l e ({ frames := 1, cells := 0, slots := 0, locals := 21 } : Room) s m args below meth c H locs 0 0 (MQ below (wx_Q D ad rd ca A (some (.int r)) σ) args s 0 0 A) (F0 m 21 ls [.int y0]) := by
  obtain ⟨hx, hb, hml, hr, hts, hown, hlk, hC, hA⟩ := id B
  unfold f_X2_ordersIn_21 at h
  obtain rfl := Option.some.inj h
  exact W.iret hx hb hr (fun t ht hW => ⟨rfl, by rw [ht]; exact Z, hS.F ht⟩) hS.2.2 dX2_ordersIn_21
set_option maxRecDepth 20000 in
set_option maxHeartbeats 4000000 in
theorem b_X2_ordersIn_0 (B : wx_B p s m args meth c cX2_ordersIn 3 (some .int) wsX2_ordersIn RX2 D ad ca A)    {r : Int32} {σ : wx_St}  {x1 : Int32} {x2 : Int32}   (h : f_X2_ordersIn x1 x2 σ = some r) {H : Heap} {locs : List Loc} (Z : wx_Z D ad rd ca A σ H) (hS : va_S A s.heap H locs) {ls : Array Slot} (hl : lv_has ls 3 [(0, .ref (ad 15 99)), (1, .int x1), (2, .int x2)]) : W p l e ({ frames := 1, cells := 0, slots := 0, locals := 21 } : Room) s m args below meth c H locs 0 0 (MQ below (wx_Q D ad rd ca A (some (.int r)) σ) args s 0 0 A) (F0 m 0 ls []) := by
  obtain ⟨hx, hb, hml, hr, hts, hown, hlk, hC, hA⟩ := id B
  unfold f_X2_ordersIn at h
  refine lv_aload_n hx hb dX2_ordersIn_0 rfl (lv_at hl 0 rfl) ?_
  refine lv_iload_n hx hb dX2_ordersIn_1 rfl (lv_at hl 1 rfl) ?_
  obtain ⟨v2, hc2, h⟩ := wx_o_ok h
  refine wx_call (va_runV (As := [.int x1]) (rest := []) ⟨hx, hb, hml, hown, hts⟩ (c_X2_codeAt l (D := D) (ad := ad) (rd := rd) (ca := ca) (A := A) (σ := σ) hc2) (cwV 1 hts gX2_ordersIn_X2_codeAt rfl rfl rfl (by decide +kernel) ⟨Nat.le_of_ble_eq_true rfl, Nat.le_of_ble_eq_true rfl⟩) (wx_preV hC Z hS hA rfl (rfl : vwCl[2]? = some (RX2, TX2, 2))) rfl rfl hl.1 rfl (lv_room (Nat.le_of_ble_eq_true rfl)) dX2_ordersIn_2 ⟨Nat.zero_le _, Nat.zero_le _⟩) hS (fun H locs Z hS => ?_)
  refine lv_bipush (v := 116) hx hb dX2_ordersIn_5 (by decide) ?_
  refine lv_icmp_ne (tgt := 20) hx hb dX2_ordersIn_7 (by decide) (fun c7 => ?_) (fun c7 => ?_)
  · replace h := wx_iff c7 h
    refine lv_iconst (v := 1) hx hb dX2_ordersIn_20 (by decide) ?_
    exact b_X2_ordersIn_21 B h Z hS (lv_sub hl [0, 1, 2] rfl)
  · replace h := wx_ift c7 h
    refine lv_iload_n hx hb dX2_ordersIn_10 rfl (lv_at hl 2 rfl) ?_
    refine lv_iload_n hx hb dX2_ordersIn_11 rfl (lv_at hl 1 rfl) ?_
    refine lv_isub hx hb dX2_ordersIn_12 ?_
    refine lv_iconst (v := 2) hx hb dX2_ordersIn_13 (by decide) ?_
    refine lv_isub hx hb dX2_ordersIn_14 ?_
    refine lv_iconst (v := 2) hx hb dX2_ordersIn_15 (by decide) ?_
    refine lv_idiv hx hb dX2_ordersIn_16 (by decide) ?_
    refine lv_goto (tgt := 21) hx hb dX2_ordersIn_17 (by decide) ?_
    exact b_X2_ordersIn_21 B h Z hS (lv_sub hl [0, 1, 2] rfl)
set_option maxRecDepth 20000 in
theorem c_X2_ordersIn (l : Launch) {D : va_G} {ad : Nat → Nat → Nat} {rd : Nat → Nat} {ca : Nat → ClassId} {A : Nat → Prop} {σ : wx_St}    {x1 : Int32} {x2 : Int32} {r : Int32} (h : f_X2_ordersIn x1 x2 σ = some r) : wx_M l yX2_ordersIn wsX2_ordersIn 1 21 D ad rd ca A [.ref (ad 15 99), .int x1, .int x2] σ (some (.int r)) σ := by
  refine Met.ofW (cc := cX2_ordersIn) (maxL := 3) (ret := (some .int)) (by decide +kernel) rfl ?_
  intro p e s m args below meth c s₁ B0 hml hv
  obtain ⟨rfl, hC, Z, hA⟩ := hv
  have hl := lv_entry ([.ref (ad 15 99), .int x1, .int x2]) (n := 3) (Nat.le_of_ble_eq_true rfl)
  rw [lg_entry_eq]
  generalize (lg_sl ([.ref (ad 15 99), .int x1, .int x2]) ++ List.replicate (3 - (lg_sl ([.ref (ad 15 99), .int x1, .int x2])).length) Slot.unset).toArray = ls at hl ⊢
  exact b_X2_ordersIn_0 ⟨B0.exec, B0.bytes, hml, B0.returns, atoms_spec (ws := wsX2_ordersIn) B0.pre, findClass_of_methodNamed B0.named, B0.notSynchronized, hC, hA⟩   h Z va_S.rf hl
theorem i_X3_goBack_3 : ∀ w ∈ wsX30, w ∈ wsX3_goBack := by decide +kernel
theorem k_X3_goBack_w0 : Cond.fieldLink RX3 17 "WarmProbes$Past" "size" "I" ∈ wsX3_goBack := by decide +kernel
theorem k_X3_goBack_w1 : Cond.fieldLink RX3 11 "WarmProbes$Past" "states" "[LWarmProbes$Board;" ∈ wsX3_goBack := by decide +kernel
theorem k_X3_goBack_w2 : Cond.initialized RX0 ∈ wsX3_goBack := by decide +kernel
theorem k_X3_goBack_w3 : Cond.instanceMethod yX0_takeOver ∈ wsX3_goBack := by decide +kernel
theorem k_X3_goBack_w4 : Cond.selects RX0 yX0_takeOver yX0_takeOver ∈ wsX3_goBack := by decide +kernel
set_option maxRecDepth 20000 in
set_option maxHeartbeats 4000000 in
theorem b_X3_goBack_0 (B : wx_B p s m args meth c cX3_goBack 2 (some .int) wsX3_goBack RX3 D ad ca A) {b1 : Nat}  (hb1 : b1 < 11) {r : Int32} {σ' : wx_St}   {σ : wx_St}  (h : f_X3_goBack b1 σ = some (r, σ')) {H : Heap} {locs : List Loc} (Z : wx_Z D ad rd ca A σ H) (hS : va_S A s.heap H locs) {ls : Array Slot} (hl : lv_has ls 2 [(0, .ref (ad 14 99)), (1, .ref (ad b1 99))]) : W p l e ({ frames := 2, cells := 0, slots := 0, locals := 47 } : Room) s m args below meth c H locs 0 0 (MQ below (wx_Q D ad rd ca A (some (.int r)) σ') args s 0 0 A) (F0 m 0 ls []) := by
  obtain ⟨hx, hb, hml, hr, hts, hown, hlk, hC, hA⟩ := id B
  unfold f_X3_goBack at h
  refine lv_aload_n hx hb dX3_goBack_0 rfl (lv_at hl 0 rfl) ?_
  refine wx_get (own := RX3) hx hb hts i_X3_goBack_3 hown hC.1 Z (o := 14) (ci := 3) rfl (rfl : vwCl[3]? = some (RX3, TX3, 2)) 1 (by decide) (hts _ k_X3_goBack_w0) (fun _ h9 => h9) (f := 1) rfl rfl dX3_goBack_1 ?_
  refine lv_if_ne (tgt := 10) hx hb dX3_goBack_4 (by decide) (fun c4 => ?_) (fun c4 => ?_)
  · replace h := wx_iff c4 h
    refine lv_aload_n hx hb dX3_goBack_10 rfl (lv_at hl 0 rfl) ?_
    refine lv_dup hx hb dX3_goBack_11 rfl ?_
    refine wx_get (own := RX3) hx hb hts i_X3_goBack_3 hown hC.1 Z (o := 14) (ci := 3) rfl (rfl : vwCl[3]? = some (RX3, TX3, 2)) 1 (by decide) (hts _ k_X3_goBack_w0) (fun _ h9 => h9) (f := 1) rfl rfl dX3_goBack_12 ?_
    refine lv_iconst (v := 1) hx hb dX3_goBack_15 (by decide) ?_
    refine lv_isub hx hb dX3_goBack_16 ?_
    obtain ⟨σ17, e17, h⟩ := wx_l_ok h
    refine wx_put (own := RX3) hx hb hts i_X3_goBack_3 tyX3 tyX3_ok nmX3 hown hC.1 Z hS (o := 14) (ci := 3) rfl (rfl : vwCl[3]? = some (RX3, TX3, 2)) 1 (by decide) (hts _ k_X3_goBack_w0) (fun _ h9 => h9) rfl (by decide +kernel) rfl dX3_goBack_17 e17 (fun H locs Z hS => ?_)
    refine lv_aload_n hx hb dX3_goBack_20 rfl (lv_at hl 1 rfl) ?_
    refine lv_aload_n hx hb dX3_goBack_21 rfl (lv_at hl 0 rfl) ?_
    refine wx_get (own := RX3) hx hb hts i_X3_goBack_3 hown hC.1 Z (o := 14) (ci := 3) rfl (rfl : vwCl[3]? = some (RX3, TX3, 2)) 0 (by decide) (hts _ k_X3_goBack_w1) (fun _ h9 => h9) (f := 0) rfl rfl dX3_goBack_22 ?_
    refine lv_aload_n hx hb dX3_goBack_25 rfl (lv_at hl 0 rfl) ?_
    refine wx_get (own := RX3) hx hb hts i_X3_goBack_3 hown hC.1 Z (o := 14) (ci := 3) rfl (rfl : vwCl[3]? = some (RX3, TX3, 2)) 1 (by decide) (hts _ k_X3_goBack_w0) (fun _ h9 => h9) (f := 1) rfl rfl dX3_goBack_26 ?_
    obtain ⟨z29, ez29, hz29, iz29, h⟩ := wx_rR_ok h
    refine wx_bald hx hb hC.1 Z (o := 14) (k := 0) (n := 7) rfl rfl iz29 dX3_goBack_29 ez29 ?_
    obtain ⟨v30, σ30, hc30, h⟩ := wx_b_ok h
    refine wx_call (va_runVN (As := [.ref (ad z29 99)]) (rest := []) ⟨hx, hb, hml, hown, hts⟩ (c_X0_takeOver l (D := D) (ad := ad) (rd := rd) (ca := ca) (A := A) (σ := σ17) (o := b1) (b1 := z29) hb1 hz29 hc30) ⟨va_cnB 1 hts gX3_goBack_X0_takeOver_n22 rfl rfl rfl (hC.1.2.1 _ (List.mem_of_getElem? (i := 28) rfl)) (hts _ k_X3_goBack_w2) (by decide +kernel) ⟨Nat.le_of_ble_eq_true rfl, Nat.le_of_ble_eq_true rfl⟩, hts _ k_X3_goBack_w3, hts _ k_X3_goBack_w4⟩ (wx_preV hC Z hS hA (wx_sbo hb1 99) (rfl : vwCl[0]? = some (RX0, TX0, 13))) rfl rfl hl.1 rfl (lv_room (Nat.le_of_ble_eq_true rfl)) dX3_goBack_30 ⟨Nat.zero_le _, Nat.zero_le _⟩) hS (fun H locs Z hS => ?_)
    refine lv_aload_n hx hb dX3_goBack_33 rfl (lv_at hl 0 rfl) ?_
    refine wx_get (own := RX3) hx hb hts i_X3_goBack_3 hown hC.1 Z (o := 14) (ci := 3) rfl (rfl : vwCl[3]? = some (RX3, TX3, 2)) 1 (by decide) (hts _ k_X3_goBack_w0) (fun _ h9 => h9) (f := 1) rfl rfl dX3_goBack_34 ?_
    obtain ⟨rfl, rfl⟩ := wx_ret_ok h
    exact W.iret hx hb hr (fun t ht hW => ⟨rfl, by rw [ht]; exact Z, hS.F ht⟩) hS.2.2 dX3_goBack_37
  · replace h := wx_ift c4 h
    refine lv_bipush (v := (-5)) hx hb dX3_goBack_7 (by decide) ?_
    obtain ⟨rfl, rfl⟩ := wx_ret_ok h
    exact W.iret hx hb hr (fun t ht hW => ⟨rfl, by rw [ht]; exact Z, hS.F ht⟩) hS.2.2 dX3_goBack_9
set_option maxRecDepth 20000 in
theorem c_X3_goBack (l : Launch) {D : va_G} {ad : Nat → Nat → Nat} {rd : Nat → Nat} {ca : Nat → ClassId} {A : Nat → Prop} {σ : wx_St} {b1 : Nat}  (hb1 : b1 < 11)  {r : Int32} {σ' : wx_St} (h : f_X3_goBack b1 σ = some (r, σ')) : wx_M l yX3_goBack wsX3_goBack 2 47 D ad rd ca A [.ref (ad 14 99), .ref (ad b1 99)] σ (some (.int r)) σ' := by
  refine Met.ofW (cc := cX3_goBack) (maxL := 2) (ret := (some .int)) (by decide +kernel) rfl ?_
  intro p e s m args below meth c s₁ B0 hml hv
  obtain ⟨rfl, hC, Z, hA⟩ := hv
  have hl := lv_entry ([.ref (ad 14 99), .ref (ad b1 99)]) (n := 2) (Nat.le_of_ble_eq_true rfl)
  rw [lg_entry_eq]
  generalize (lg_sl ([.ref (ad 14 99), .ref (ad b1 99)]) ++ List.replicate (2 - (lg_sl ([.ref (ad 14 99), .ref (ad b1 99)])).length) Slot.unset).toArray = ls at hl ⊢
  exact b_X3_goBack_0 ⟨B0.exec, B0.bytes, hml, B0.returns, atoms_spec (ws := wsX3_goBack) B0.pre, findClass_of_methodNamed B0.named, B0.notSynchronized, hC, hA⟩ hb1  h Z va_S.rf hl
theorem i_X3_kept_3 : ∀ w ∈ wsX30, w ∈ wsX3_kept := by decide +kernel
theorem k_X3_kept_w0 : Cond.fieldLink RX3 17 "WarmProbes$Past" "size" "I" ∈ wsX3_kept := by decide +kernel
theorem k_X3_kept_w1 : Cond.fieldLink RX3 11 "WarmProbes$Past" "states" "[LWarmProbes$Board;" ∈ wsX3_kept := by decide +kernel
set_option maxRecDepth 20000 in
set_option maxHeartbeats 4000000 in
theorem b_X3_kept_36 (B : wx_B p s m args meth c cX3_kept 4 (some .int) wsX3_kept RX3 D ad ca A)    {r : Int32} {σ' : wx_St}   :
    ∀ {n : Nat} {x1 : Int32} {z2 : Nat} {x3 : Int32} {σ : wx_St} (hz2 : z2 < 11) (h : f_X3_kept_36 n x1 z2 x3 σ = some (r, σ')) {H : Heap} {locs : List Loc} (Z : wx_Z D ad rd ca A σ H) (hS : va_S A s.heap H locs) {ls : Array Slot} (hl : lv_has ls 4 [(0, .ref (ad 14 99)), (1, .int x1), (2, .ref (ad z2 99)), (3, .int x3)]), W p l e ({ frames := 0, cells := 0, slots := 0, locals := 0 } : Room) s m args below meth c H locs 0 0 (MQ below (wx_Q D ad rd ca A (some (.int r)) σ') args s 0 0 A) (F0 m 36 ls []) := by
  obtain ⟨hx, hb, hml, hr, hts, hown, hlk, hC, hA⟩ := id B
  intro n
  induction n with
  | zero => intro x1 z2 x3 σ hz2 h H locs Z hS ls hl; exact wx_no h
  | succ n ih =>
    intro x1 z2 x3 σ hz2 h H locs Z hS ls hl
    rw [f_X3_kept_36] at h
    refine lv_iload_n hx hb dX3_kept_36 rfl (lv_at hl 3 rfl) ?_
    refine lv_bipush (v := 6) hx hb dX3_kept_37 (by decide) ?_
    refine lv_icmp_ge (tgt := 62) hx hb dX3_kept_39 (by decide) (fun c39 => ?_) (fun c39 => ?_)
    · replace h := wx_ift c39 h
      refine lv_aload_n hx hb dX3_kept_62 rfl (lv_at hl 0 rfl) ?_
      refine wx_get (own := RX3) hx hb hts i_X3_kept_3 hown hC.1 Z (o := 14) (ci := 3) rfl (rfl : vwCl[3]? = some (RX3, TX3, 2)) 0 (by decide) (hts _ k_X3_kept_w1) (fun _ h9 => h9) (f := 0) rfl rfl dX3_kept_63 ?_
      refine lv_bipush (v := 6) hx hb dX3_kept_66 (by decide) ?_
      refine lv_aload_n hx hb dX3_kept_68 rfl (lv_at hl 2 rfl) ?_
      obtain ⟨σ69, e69, i69, h⟩ := wx_w_ok h
      refine wx_bast hx hb hC.1 Z hS hz2 i69 dX3_kept_69 e69 (fun H locs Z hS => ?_)
      refine lv_iload_n hx hb dX3_kept_70 rfl (lv_at hl 1 rfl) ?_
      obtain ⟨rfl, rfl⟩ := wx_ret_ok h
      exact W.iret hx hb hr (fun t ht hW => ⟨rfl, by rw [ht]; exact Z, hS.F ht⟩) hS.2.2 dX3_kept_71
    · replace h := wx_iff c39 h
      refine lv_aload_n hx hb dX3_kept_42 rfl (lv_at hl 0 rfl) ?_
      refine wx_get (own := RX3) hx hb hts i_X3_kept_3 hown hC.1 Z (o := 14) (ci := 3) rfl (rfl : vwCl[3]? = some (RX3, TX3, 2)) 0 (by decide) (hts _ k_X3_kept_w1) (fun _ h9 => h9) (f := 0) rfl rfl dX3_kept_43 ?_
      refine lv_iload_n hx hb dX3_kept_46 rfl (lv_at hl 3 rfl) ?_
      refine lv_aload_n hx hb dX3_kept_47 rfl (lv_at hl 0 rfl) ?_
      refine wx_get (own := RX3) hx hb hts i_X3_kept_3 hown hC.1 Z (o := 14) (ci := 3) rfl (rfl : vwCl[3]? = some (RX3, TX3, 2)) 0 (by decide) (hts _ k_X3_kept_w1) (fun _ h9 => h9) (f := 0) rfl rfl dX3_kept_48 ?_
      refine lv_iload_n hx hb dX3_kept_51 rfl (lv_at hl 3 rfl) ?_
      refine lv_iconst (v := 1) hx hb dX3_kept_52 (by decide) ?_
      refine lv_iadd hx hb dX3_kept_53 ?_
      obtain ⟨z54, ez54, hz54, iz54, h⟩ := wx_rR_ok h
      refine wx_bald hx hb hC.1 Z (o := 14) (k := 0) (n := 7) rfl rfl iz54 dX3_kept_54 ez54 ?_
      obtain ⟨σ55, e55, i55, h⟩ := wx_w_ok h
      refine wx_bast hx hb hC.1 Z hS hz54 i55 dX3_kept_55 e55 (fun H locs Z hS => ?_)
      refine lv_iinc (v := x3 + 1) (lv' := [(3, .int (x3 + 1)), (0, .ref (ad 14 99)), (1, .int x1), (2, .ref (ad z2 99))]) hx hb dX3_kept_56 hl (k := 3) rfl rfl (by decide) rfl (fun ls hl => ?_)
      refine lv_goto (tgt := 36) hx hb dX3_kept_59 (by decide) ?_
      exact ih hz2 h Z hS (lv_sub hl [1, 2, 3, 0] rfl)
set_option maxRecDepth 20000 in
set_option maxHeartbeats 4000000 in
theorem b_X3_kept_0 (B : wx_B p s m args meth c cX3_kept 4 (some .int) wsX3_kept RX3 D ad ca A)    {r : Int32} {σ' : wx_St}  {x1 : Int32} {σ : wx_St}  (h : f_X3_kept x1 σ = some (r, σ')) {H : Heap} {locs : List Loc} (Z : wx_Z D ad rd ca A σ H) (hS : va_S A s.heap H locs) {ls : Array Slot} (hl : lv_has ls 4 [(0, .ref (ad 14 99)), (1, .int x1)]) : W p l e ({ frames := 0, cells := 0, slots := 0, locals := 0 } : Room) s m args below meth c H locs 0 0 (MQ below (wx_Q D ad rd ca A (some (.int r)) σ') args s 0 0 A) (F0 m 0 ls []) := by
  obtain ⟨hx, hb, hml, hr, hts, hown, hlk, hC, hA⟩ := id B
  unfold f_X3_kept at h
  refine lv_iload_n hx hb dX3_kept_0 rfl (lv_at hl 1 rfl) ?_
  refine lv_if_ge (tgt := 6) hx hb dX3_kept_1 (by decide) (fun c1 => ?_) (fun c1 => ?_)
  · replace h := wx_ift c1 h
    refine lv_aload_n hx hb dX3_kept_6 rfl (lv_at hl 0 rfl) ?_
    refine wx_get (own := RX3) hx hb hts i_X3_kept_3 hown hC.1 Z (o := 14) (ci := 3) rfl (rfl : vwCl[3]? = some (RX3, TX3, 2)) 1 (by decide) (hts _ k_X3_kept_w0) (fun _ h9 => h9) (f := 1) rfl rfl dX3_kept_7 ?_
    refine lv_bipush (v := 6) hx hb dX3_kept_10 (by decide) ?_
    refine lv_icmp_ge (tgt := 27) hx hb dX3_kept_12 (by decide) (fun c12 => ?_) (fun c12 => ?_)
    · replace h := wx_ift c12 h
      refine lv_aload_n hx hb dX3_kept_27 rfl (lv_at hl 0 rfl) ?_
      refine wx_get (own := RX3) hx hb hts i_X3_kept_3 hown hC.1 Z (o := 14) (ci := 3) rfl (rfl : vwCl[3]? = some (RX3, TX3, 2)) 0 (by decide) (hts _ k_X3_kept_w1) (fun _ h9 => h9) (f := 0) rfl rfl dX3_kept_28 ?_
      refine lv_iconst (v := 0) hx hb dX3_kept_31 (by decide) ?_
      obtain ⟨z32, ez32, hz32, iz32, h⟩ := wx_rR_ok h
      refine wx_bald hx hb hC.1 Z (o := 14) (k := 0) (n := 7) rfl rfl iz32 dX3_kept_32 ez32 ?_
      refine lv_astore_n (lv' := [(2, .ref (ad z32 99)), (0, .ref (ad 14 99)), (1, .int x1)]) hx hb dX3_kept_33 rfl hl (by decide) rfl (fun ls hl => ?_)
      refine lv_iconst (v := 0) hx hb dX3_kept_34 (by decide) ?_
      refine lv_istore_n (lv' := [(3, .int 0), (2, .ref (ad z32 99)), (0, .ref (ad 14 99)), (1, .int x1)]) hx hb dX3_kept_35 rfl hl (by decide) rfl (fun ls hl => ?_)
      exact b_X3_kept_36 B hz32 h Z hS (lv_sub hl [2, 3, 1, 0] rfl)
    · replace h := wx_iff c12 h
      refine lv_aload_n hx hb dX3_kept_15 rfl (lv_at hl 0 rfl) ?_
      refine lv_dup hx hb dX3_kept_16 rfl ?_
      refine wx_get (own := RX3) hx hb hts i_X3_kept_3 hown hC.1 Z (o := 14) (ci := 3) rfl (rfl : vwCl[3]? = some (RX3, TX3, 2)) 1 (by decide) (hts _ k_X3_kept_w0) (fun _ h9 => h9) (f := 1) rfl rfl dX3_kept_17 ?_
      refine lv_iconst (v := 1) hx hb dX3_kept_20 (by decide) ?_
      refine lv_iadd hx hb dX3_kept_21 ?_
      obtain ⟨σ22, e22, h⟩ := wx_l_ok h
      refine wx_put (own := RX3) hx hb hts i_X3_kept_3 tyX3 tyX3_ok nmX3 hown hC.1 Z hS (o := 14) (ci := 3) rfl (rfl : vwCl[3]? = some (RX3, TX3, 2)) 1 (by decide) (hts _ k_X3_kept_w0) (fun _ h9 => h9) rfl (by decide +kernel) rfl dX3_kept_22 e22 (fun H locs Z hS => ?_)
      refine lv_iload_n hx hb dX3_kept_25 rfl (lv_at hl 1 rfl) ?_
      obtain ⟨rfl, rfl⟩ := wx_ret_ok h
      exact W.iret hx hb hr (fun t ht hW => ⟨rfl, by rw [ht]; exact Z, hS.F ht⟩) hS.2.2 dX3_kept_26
  · replace h := wx_iff c1 h
    refine lv_iload_n hx hb dX3_kept_4 rfl (lv_at hl 1 rfl) ?_
    obtain ⟨rfl, rfl⟩ := wx_ret_ok h
    exact W.iret hx hb hr (fun t ht hW => ⟨rfl, by rw [ht]; exact Z, hS.F ht⟩) hS.2.2 dX3_kept_5
set_option maxRecDepth 20000 in
theorem c_X3_kept (l : Launch) {D : va_G} {ad : Nat → Nat → Nat} {rd : Nat → Nat} {ca : Nat → ClassId} {A : Nat → Prop} {σ : wx_St}    {x1 : Int32} {r : Int32} {σ' : wx_St} (h : f_X3_kept x1 σ = some (r, σ')) : wx_M l yX3_kept wsX3_kept 0 0 D ad rd ca A [.ref (ad 14 99), .int x1] σ (some (.int r)) σ' := by
  refine Met.ofW (cc := cX3_kept) (maxL := 4) (ret := (some .int)) (by decide +kernel) rfl ?_
  intro p e s m args below meth c s₁ B0 hml hv
  obtain ⟨rfl, hC, Z, hA⟩ := hv
  have hl := lv_entry ([.ref (ad 14 99), .int x1]) (n := 4) (Nat.le_of_ble_eq_true rfl)
  rw [lg_entry_eq]
  generalize (lg_sl ([.ref (ad 14 99), .int x1]) ++ List.replicate (4 - (lg_sl ([.ref (ad 14 99), .int x1])).length) Slot.unset).toArray = ls at hl ⊢
  exact b_X3_kept_0 ⟨B0.exec, B0.bytes, hml, B0.returns, atoms_spec (ws := wsX3_kept) B0.pre, findClass_of_methodNamed B0.named, B0.notSynchronized, hC, hA⟩   h Z va_S.rf hl
theorem i_X3_prepare_3 : ∀ w ∈ wsX30, w ∈ wsX3_prepare := by decide +kernel
theorem k_X3_prepare_w0 : Cond.fieldLink RX3 11 "WarmProbes$Past" "states" "[LWarmProbes$Board;" ∈ wsX3_prepare := by decide +kernel
theorem k_X3_prepare_w1 : Cond.fieldLink RX3 17 "WarmProbes$Past" "size" "I" ∈ wsX3_prepare := by decide +kernel
theorem k_X3_prepare_w2 : Cond.initialized RX0 ∈ wsX3_prepare := by decide +kernel
theorem k_X3_prepare_w3 : Cond.instanceMethod yX0_takeOver ∈ wsX3_prepare := by decide +kernel
theorem k_X3_prepare_w4 : Cond.selects RX0 yX0_takeOver yX0_takeOver ∈ wsX3_prepare := by decide +kernel
set_option maxRecDepth 20000 in
set_option maxHeartbeats 4000000 in
theorem b_X3_prepare_0 (B : wx_B p s m args meth c cX3_prepare 2 none wsX3_prepare RX3 D ad ca A) {b1 : Nat}  (hb1 : b1 < 11)  {σ' : wx_St}   {σ : wx_St}  (h : f_X3_prepare b1 σ = some ((), σ')) {H : Heap} {locs : List Loc} (Z : wx_Z D ad rd ca A σ H) (hS : va_S A s.heap H locs) {ls : Array Slot} (hl : lv_has ls 2 [(0, .ref (ad 14 99)), (1, .ref (ad b1 99))]) : W p l e ({ frames := 2, cells := 0, slots := 0, locals := 47 } : Room) s m args below meth c H locs 0 0 (MQ below (wx_Q D ad rd ca A none σ') args s 0 0 A) (F0 m 0 ls []) := by
  obtain ⟨hx, hb, hml, hr, hts, hown, hlk, hC, hA⟩ := id B
  unfold f_X3_prepare at h
  refine lv_aload_n hx hb dX3_prepare_0 rfl (lv_at hl 0 rfl) ?_
  refine wx_get (own := RX3) hx hb hts i_X3_prepare_3 hown hC.1 Z (o := 14) (ci := 3) rfl (rfl : vwCl[3]? = some (RX3, TX3, 2)) 0 (by decide) (hts _ k_X3_prepare_w0) (fun _ h9 => h9) (f := 0) rfl rfl dX3_prepare_1 ?_
  refine lv_aload_n hx hb dX3_prepare_4 rfl (lv_at hl 0 rfl) ?_
  refine wx_get (own := RX3) hx hb hts i_X3_prepare_3 hown hC.1 Z (o := 14) (ci := 3) rfl (rfl : vwCl[3]? = some (RX3, TX3, 2)) 1 (by decide) (hts _ k_X3_prepare_w1) (fun _ h9 => h9) (f := 1) rfl rfl dX3_prepare_5 ?_
  obtain ⟨z8, ez8, hz8, iz8, h⟩ := wx_rR_ok h
  refine wx_bald hx hb hC.1 Z (o := 14) (k := 0) (n := 7) rfl rfl iz8 dX3_prepare_8 ez8 ?_
  refine lv_aload_n hx hb dX3_prepare_9 rfl (lv_at hl 1 rfl) ?_
  obtain ⟨v10, σ10, hc10, h⟩ := wx_b_ok h
  refine wx_call (va_runVN (As := [.ref (ad b1 99)]) (rest := []) ⟨hx, hb, hml, hown, hts⟩ (c_X0_takeOver l (D := D) (ad := ad) (rd := rd) (ca := ca) (A := A) (σ := σ) (o := z8) (b1 := b1) hz8 hb1 hc10) ⟨va_cnB 1 hts gX3_prepare_X0_takeOver_n22 rfl rfl rfl (hC.1.2.1 _ (List.mem_of_getElem? (i := 28) rfl)) (hts _ k_X3_prepare_w2) (by decide +kernel) ⟨Nat.le_of_ble_eq_true rfl, Nat.le_of_ble_eq_true rfl⟩, hts _ k_X3_prepare_w3, hts _ k_X3_prepare_w4⟩ (wx_preV hC Z hS hA (wx_sbo hz8 99) (rfl : vwCl[0]? = some (RX0, TX0, 13))) rfl rfl hl.1 rfl (lv_room (Nat.le_of_ble_eq_true rfl)) dX3_prepare_10 ⟨Nat.zero_le _, Nat.zero_le _⟩) hS (fun H locs Z hS => ?_)
  obtain ⟨-, rfl⟩ := wx_ret_ok h
  exact W.vret hx hb hr (fun t ht hW => ⟨rfl, by rw [ht]; exact Z, hS.F ht⟩) hS.2.2 dX3_prepare_13
set_option maxRecDepth 20000 in
theorem c_X3_prepare (l : Launch) {D : va_G} {ad : Nat → Nat → Nat} {rd : Nat → Nat} {ca : Nat → ClassId} {A : Nat → Prop} {σ : wx_St} {b1 : Nat}  (hb1 : b1 < 11)   {σ' : wx_St} (h : f_X3_prepare b1 σ = some ((), σ')) : wx_M l yX3_prepare wsX3_prepare 2 47 D ad rd ca A [.ref (ad 14 99), .ref (ad b1 99)] σ none σ' := by
  refine Met.ofW (cc := cX3_prepare) (maxL := 2) (ret := none) (by decide +kernel) rfl ?_
  intro p e s m args below meth c s₁ B0 hml hv
  obtain ⟨rfl, hC, Z, hA⟩ := hv
  have hl := lv_entry ([.ref (ad 14 99), .ref (ad b1 99)]) (n := 2) (Nat.le_of_ble_eq_true rfl)
  rw [lg_entry_eq]
  generalize (lg_sl ([.ref (ad 14 99), .ref (ad b1 99)]) ++ List.replicate (2 - (lg_sl ([.ref (ad 14 99), .ref (ad b1 99)])).length) Slot.unset).toArray = ls at hl ⊢
  exact b_X3_prepare_0 ⟨B0.exec, B0.bytes, hml, B0.returns, atoms_spec (ws := wsX3_prepare) B0.pre, findClass_of_methodNamed B0.named, B0.notSynchronized, hC, hA⟩ hb1  h Z va_S.rf hl
theorem i_X4_fits_0 : ∀ w ∈ wsX00, w ∈ wsX4_fits := by decide +kernel
theorem i_X4_fits_4 : ∀ w ∈ wsX40, w ∈ wsX4_fits := by decide +kernel
theorem k_X4_fits_w0 : Cond.fieldLink RX4 12 "WarmProbes$Suspicion" "lone" "LWarmProbes$Lone;" ∈ wsX4_fits := by decide +kernel
theorem k_X4_fits_w1 : Cond.initialized RX1 ∈ wsX4_fits := by decide +kernel
theorem k_X4_fits_w2 : Cond.instanceMethod yX1_follow ∈ wsX4_fits := by decide +kernel
theorem k_X4_fits_w3 : Cond.selects RX1 yX1_follow yX1_follow ∈ wsX4_fits := by decide +kernel
theorem k_X4_fits_w4 : Cond.instanceMethod yX1_warmthBy ∈ wsX4_fits := by decide +kernel
theorem k_X4_fits_w5 : Cond.selects RX1 yX1_warmthBy yX1_warmthBy ∈ wsX4_fits := by decide +kernel
theorem k_X4_fits_w6 : Cond.initialized RX5 ∈ wsX4_fits := by decide +kernel
theorem k_X4_fits_w7 : Cond.static yX5_readOf ∈ wsX4_fits := by decide +kernel
theorem k_X4_fits_w8 : Cond.methodLink RX4 81 Lib.Math.abs.name ∈ wsX4_fits := by decide +kernel
theorem k_X4_fits_w9 : Cond.static Lib.Math.abs.name ∈ wsX4_fits := by decide +kernel
theorem k_X4_fits_w10 : Cond.initialized "java/lang/Math" ∈ wsX4_fits := by decide +kernel
theorem k_X4_fits_w11 : Cond.code Lib.Math.abs.name Lib.Math.abs.code 1 (some .int) ∈ wsX4_fits := by decide +kernel
set_option maxRecDepth 20000 in
set_option maxHeartbeats 4000000 in
theorem m_X4_fits_80 {b1 : Nat} {r : Int32} {σ' : wx_St} {K14 : Int32 → Int32 → Int32 → wx_St → Option (Int32 × wx_St)} (mK14 : ∀ {x2 : Int32} {x3 : Int32} {x4 : Int32} {σ : wx_St}, K14 x2 x3 x4 σ = some (r, σ') → wx_n σ.2.2.2.2 ≤ wx_n σ'.2.2.2.2) {x2 : Int32} {x3 : Int32} {x4 : Int32} {x5 : UInt32} {σ : wx_St} (h : f_X4_fits_80 b1 K14 x2 x3 x4 x5 σ = some (r, σ')) : wx_n σ.2.2.2.2 ≤ wx_n σ'.2.2.2.2 := by
  unfold f_X4_fits_80 at h
  obtain ⟨v82, hc82, h⟩ := wx_o_ok h
  obtain ⟨v91, ev91, iv91, h⟩ := wx_rI_ok h
  obtain ⟨v101, ev101, iv101, h⟩ := wx_rI_ok h
  by_cases c102 : (if 0 ≤ (v82 - v91) then (v82 - v91) else 0 - (v82 - v91)) ≤ v101
  · replace h := wx_ift c102 h
    exact mK14 h
  · replace h := wx_iff c102 h
    obtain ⟨rfl, rfl⟩ := wx_ret_ok h
    exact Nat.le_refl _
set_option maxRecDepth 20000 in
set_option maxHeartbeats 4000000 in
theorem b_X4_fits_80 (B : wx_B p s m args meth c cX4_fits 6 (some .boolean) wsX4_fits RX4 D ad ca A) {b1 : Nat}  (hb1 : b1 < 11) {r : Int32} {σ' : wx_St} {mc : Nat} {K14 : Int32 → Int32 → Int32 → wx_St → Option (Int32 × wx_St)} (hK14 : ∀ {x2 : Int32} {x3 : Int32} {x4 : Int32} {σ : wx_St} {k : Nat} (hk : k + wx_n σ'.2.2.2.2 ≤ mc + wx_n σ.2.2.2.2)  (h : K14 x2 x3 x4 σ = some (r, σ')) {rd : Nat → Nat} {H : Heap} {locs : List Loc} (Z : wx_Z D ad rd ca A σ H) (hS : va_S A s.heap H locs) {ls : Array Slot} (hl : lv_has ls 6 [(0, .ref (ad 12 99)), (1, .ref (ad b1 99)), (2, .int x2), (3, .int x3), (4, .int x4)]), W p l e ({ frames := 3, cells := mc, slots := 6464 * mc, locals := 81 } : Room) s m args below meth c H locs k (6464 * k) (MQ below (wx_QA D ad ca A (some (.int r)) σ') args s mc (6464 * mc) A) (F0 m 14 ls [])) (mK14 : ∀ {x2 : Int32} {x3 : Int32} {x4 : Int32} {σ : wx_St}, K14 x2 x3 x4 σ = some (r, σ') → wx_n σ.2.2.2.2 ≤ wx_n σ'.2.2.2.2) {x2 : Int32} {x3 : Int32} {x4 : Int32} {x5 : UInt32} {σ : wx_St} {k : Nat} (hk : k + wx_n σ'.2.2.2.2 ≤ mc + wx_n σ.2.2.2.2)  (h : f_X4_fits_80 b1 K14 x2 x3 x4 x5 σ = some (r, σ')) {rd : Nat → Nat} {H : Heap} {locs : List Loc} (Z : wx_Z D ad rd ca A σ H) (hS : va_S A s.heap H locs) {ls : Array Slot} (hl : lv_has ls 6 [(0, .ref (ad 12 99)), (1, .ref (ad b1 99)), (2, .int x2), (3, .int x3), (4, .int x4), (5, .float x5)]) : W p l e ({ frames := 3, cells := mc, slots := 6464 * mc, locals := 81 } : Room) s m args below meth c H locs k (6464 * k) (MQ below (wx_QA D ad ca A (some (.int r)) σ') args s mc (6464 * mc) A) (F0 m 80 ls []) := by
  obtain ⟨hx, hb, hml, hr, hts, hown, hlk, hC, hA⟩ := id B
  have hm := m_X4_fits_80 (K14 := K14) @mK14 h
  unfold f_X4_fits_80 at h
  refine lv_fload hx hb dX4_fits_80 (lv_at hl 5 rfl) ?_
  obtain ⟨v82, hc82, h⟩ := wx_o_ok h
  refine wx_call (va_runSN (As := [.float x5]) (rest := []) ⟨hx, hb, hml, hown, hts⟩ (c_X5_readOf l (D := D) (ad := ad) (rd := rd) (ca := ca) (A := A) (σ := σ) hc82) ⟨va_cnB 1 hts gX4_fits_X5_readOf_n74 rfl rfl rfl (hC.1.2.1 _ (List.mem_of_getElem? (i := 52) rfl)) (hts _ k_X4_fits_w6) (by decide +kernel) ⟨Nat.le_of_ble_eq_true rfl, Nat.le_of_ble_eq_true rfl⟩, hts _ k_X4_fits_w7, trivial⟩ (wx_preS hC Z hS hA) rfl rfl hl.1 rfl (lv_room (Nat.le_of_ble_eq_true rfl)) dX4_fits_82 ⟨(by show k + 0 ≤ mc; omega), (by show 6464 * k + 0 ≤ 6464 * mc; omega)⟩) hS (fun H locs Z hS => ?_)
  refine lv_aload_n hx hb dX4_fits_85 rfl (lv_at hl 1 rfl) ?_
  refine wx_getN (own := RX4) hx hb hts i_X4_fits_0 hown hC.1 Z (o := b1) (ci := 0) (wx_sbo hb1 99) (rfl : vwCl[0]? = some (RX0, TX0, 13)) 11 (by decide) (wx_nst hC 16 rfl rfl) (fun _ h9 => h9) (f := 0) rfl rfl dX4_fits_86 ?_
  refine lv_iload hx hb dX4_fits_89 (lv_at hl 4 rfl) ?_
  obtain ⟨v91, ev91, iv91, h⟩ := wx_rI_ok h
  refine wx_iald hx hb hC.1 Z (o := b1) (k := 11) (n := 8) (wx_sbo hb1 11) rfl iv91 dX4_fits_91 ev91 ?_
  refine lv_isub hx hb dX4_fits_92 ?_
  refine va_mabs (own := RX4) hx hb (hml.trans hl.1.symm) hown (hts _ k_X4_fits_w8) (hts _ k_X4_fits_w9) (hts _ k_X4_fits_w10) (hts _ k_X4_fits_w11) (Nat.le_of_ble_eq_true rfl) (Nat.le_of_ble_eq_true rfl) (by show k ≤ mc; omega) (by show 6464 * k ≤ 6464 * mc; omega) dX4_fits_93 ?_
  refine lv_aload_n hx hb dX4_fits_96 rfl (lv_at hl 1 rfl) ?_
  refine wx_getN (own := RX4) hx hb hts i_X4_fits_0 hown hC.1 Z (o := b1) (ci := 0) (wx_sbo hb1 99) (rfl : vwCl[0]? = some (RX0, TX0, 13)) 0 (by decide) (wx_nst hC 2 rfl rfl) (fun _ h9 => h9) (f := 0) rfl rfl dX4_fits_97 ?_
  refine lv_iconst (v := 3) hx hb dX4_fits_100 (by decide) ?_
  obtain ⟨v101, ev101, iv101, h⟩ := wx_rI_ok h
  refine wx_iald hx hb hC.1 Z (o := b1) (k := 0) (n := 4) (wx_sbo hb1 0) rfl iv101 dX4_fits_101 ev101 ?_
  refine lv_icmp_le (tgt := 107) hx hb dX4_fits_102 (by decide) (fun c102 => ?_) (fun c102 => ?_)
  · replace h := wx_ift c102 h
    refine lv_iinc (v := x4 + 1) (lv' := [(4, .int (x4 + 1)), (0, .ref (ad 12 99)), (1, .ref (ad b1 99)), (2, .int x2), (3, .int x3), (5, .float x5)]) hx hb dX4_fits_107 hl (k := 4) rfl rfl (by decide) rfl (fun ls hl => ?_)
    refine lv_goto (tgt := 14) hx hb dX4_fits_110 (by decide) ?_
    exact hK14 (k := k) hk h Z hS (lv_sub hl [1, 2, 3, 4, 0] rfl)
  · replace h := wx_iff c102 h
    refine lv_iconst (v := 0) hx hb dX4_fits_105 (by decide) ?_
    obtain ⟨rfl, rfl⟩ := wx_ret_ok h
    refine W.widen (k := mc) (n := 6464 * mc) (by omega) (by omega) ?_
    exact W.zret hx hb hr rfl (fun t ht hW => ⟨rfl, ⟨_, by rw [ht]; exact Z⟩, hS.F ht⟩) hS.2.2 dX4_fits_106
set_option maxRecDepth 20000 in
set_option maxHeartbeats 4000000 in
theorem m_X4_fits_77 {b1 : Nat} {r : Int32} {σ' : wx_St} {K14 : Int32 → Int32 → Int32 → wx_St → Option (Int32 × wx_St)} (mK14 : ∀ {x2 : Int32} {x3 : Int32} {x4 : Int32} {σ : wx_St}, K14 x2 x3 x4 σ = some (r, σ') → wx_n σ.2.2.2.2 ≤ wx_n σ'.2.2.2.2) {x2 : Int32} {x3 : Int32} {x4 : Int32} {x5 : UInt32} {y0 : UInt32} {y1 : UInt32} {σ : wx_St} (h : f_X4_fits_77 b1 K14 x2 x3 x4 x5 y0 y1 σ = some (r, σ')) : wx_n σ.2.2.2.2 ≤ wx_n σ'.2.2.2.2 := by
  unfold f_X4_fits_77 at h
  obtain ⟨v77, ev77, nv77, h⟩ := wx_f_ok h
  exact m_X4_fits_80 (K14 := K14) @mK14 h
set_option maxRecDepth 20000 in
set_option maxHeartbeats 4000000 in
theorem b_X4_fits_77 (B : wx_B p s m args meth c cX4_fits 6 (some .boolean) wsX4_fits RX4 D ad ca A) {b1 : Nat}  (hb1 : b1 < 11) {r : Int32} {σ' : wx_St} {mc : Nat} {K14 : Int32 → Int32 → Int32 → wx_St → Option (Int32 × wx_St)} (hK14 : ∀ {x2 : Int32} {x3 : Int32} {x4 : Int32} {σ : wx_St} {k : Nat} (hk : k + wx_n σ'.2.2.2.2 ≤ mc + wx_n σ.2.2.2.2)  (h : K14 x2 x3 x4 σ = some (r, σ')) {rd : Nat → Nat} {H : Heap} {locs : List Loc} (Z : wx_Z D ad rd ca A σ H) (hS : va_S A s.heap H locs) {ls : Array Slot} (hl : lv_has ls 6 [(0, .ref (ad 12 99)), (1, .ref (ad b1 99)), (2, .int x2), (3, .int x3), (4, .int x4)]), W p l e ({ frames := 3, cells := mc, slots := 6464 * mc, locals := 81 } : Room) s m args below meth c H locs k (6464 * k) (MQ below (wx_QA D ad ca A (some (.int r)) σ') args s mc (6464 * mc) A) (F0 m 14 ls [])) (mK14 : ∀ {x2 : Int32} {x3 : Int32} {x4 : Int32} {σ : wx_St}, K14 x2 x3 x4 σ = some (r, σ') → wx_n σ.2.2.2.2 ≤ wx_n σ'.2.2.2.2) {x2 : Int32} {x3 : Int32} {x4 : Int32} {x5 : UInt32} {y0 : UInt32} {y1 : UInt32} {σ : wx_St} {k : Nat} (hk : k + wx_n σ'.2.2.2.2 ≤ mc + wx_n σ.2.2.2.2)  (h : f_X4_fits_77 b1 K14 x2 x3 x4 x5 y0 y1 σ = some (r, σ')) {rd : Nat → Nat} {H : Heap} {locs : List Loc} (Z : wx_Z D ad rd ca A σ H) (hS : va_S A s.heap H locs) {ls : Array Slot} (hl : lv_has ls 6 [(0, .ref (ad 12 99)), (1, .ref (ad b1 99)), (2, .int x2), (3, .int x3), (4, .int x4), (5, .float x5)]) : W p l e ({ frames := 3, cells := mc, slots := 6464 * mc, locals := 81 } : Room) s m args below meth c H locs k (6464 * k) (MQ below (wx_QA D ad ca A (some (.int r)) σ') args s mc (6464 * mc) A) (F0 m 77 ls [.float y1, .float y0]) := by
  obtain ⟨hx, hb, hml, hr, hts, hown, hlk, hC, hA⟩ := id B
  have hm := m_X4_fits_77 (K14 := K14) @mK14 h
  unfold f_X4_fits_77 at h
  obtain ⟨v77, ev77, nv77, h⟩ := wx_f_ok h
  refine wx_fadd hx hb dX4_fits_77 ev77 nv77 ?_
  refine lv_fstore (lv' := [(5, .float v77), (0, .ref (ad 12 99)), (1, .ref (ad b1 99)), (2, .int x2), (3, .int x3), (4, .int x4)]) hx hb dX4_fits_78 hl (by decide) rfl (fun ls hl => ?_)
  exact b_X4_fits_80 B hb1 (K14 := K14) @hK14 @mK14 (k := k) hk h Z hS (lv_sub hl [1, 2, 3, 4, 5, 0] rfl)
set_option maxRecDepth 20000 in
set_option maxHeartbeats 4000000 in
theorem m_X4_fits_45 {b1 : Nat} {r : Int32} {σ' : wx_St} {K14 : Int32 → Int32 → Int32 → wx_St → Option (Int32 × wx_St)} (mK14 : ∀ {x2 : Int32} {x3 : Int32} {x4 : Int32} {σ : wx_St}, K14 x2 x3 x4 σ = some (r, σ') → wx_n σ.2.2.2.2 ≤ wx_n σ'.2.2.2.2) {x2 : Int32} {x3 : Int32} {x4 : Int32} {y0 : UInt32} {σ : wx_St} (h : f_X4_fits_45 b1 K14 x2 x3 x4 y0 σ = some (r, σ')) : wx_n σ.2.2.2.2 ≤ wx_n σ'.2.2.2.2 := by
  unfold f_X4_fits_45 at h
  by_cases c50 : x3 = (-6)
  · replace h := wx_ift c50 h
    exact m_X4_fits_80 (K14 := K14) @mK14 h
  · replace h := wx_iff c50 h
    obtain ⟨v66, ev66, iv66, h⟩ := wx_rI_ok h
    obtain ⟨v73, ev73, iv73, h⟩ := wx_rI_ok h
    obtain ⟨v74, σ74, hc74, h⟩ := wx_b_ok h
    refine Nat.le_trans (m_X1_warmthBy_0 hc74) ?_
    exact m_X4_fits_77 (K14 := K14) @mK14 h
set_option maxRecDepth 20000 in
set_option maxHeartbeats 4000000 in
theorem b_X4_fits_45 (B : wx_B p s m args meth c cX4_fits 6 (some .boolean) wsX4_fits RX4 D ad ca A) {b1 : Nat}  (hb1 : b1 < 11) {r : Int32} {σ' : wx_St} {mc : Nat} {K14 : Int32 → Int32 → Int32 → wx_St → Option (Int32 × wx_St)} (hK14 : ∀ {x2 : Int32} {x3 : Int32} {x4 : Int32} {σ : wx_St} {k : Nat} (hk : k + wx_n σ'.2.2.2.2 ≤ mc + wx_n σ.2.2.2.2)  (h : K14 x2 x3 x4 σ = some (r, σ')) {rd : Nat → Nat} {H : Heap} {locs : List Loc} (Z : wx_Z D ad rd ca A σ H) (hS : va_S A s.heap H locs) {ls : Array Slot} (hl : lv_has ls 6 [(0, .ref (ad 12 99)), (1, .ref (ad b1 99)), (2, .int x2), (3, .int x3), (4, .int x4)]), W p l e ({ frames := 3, cells := mc, slots := 6464 * mc, locals := 81 } : Room) s m args below meth c H locs k (6464 * k) (MQ below (wx_QA D ad ca A (some (.int r)) σ') args s mc (6464 * mc) A) (F0 m 14 ls [])) (mK14 : ∀ {x2 : Int32} {x3 : Int32} {x4 : Int32} {σ : wx_St}, K14 x2 x3 x4 σ = some (r, σ') → wx_n σ.2.2.2.2 ≤ wx_n σ'.2.2.2.2) {x2 : Int32} {x3 : Int32} {x4 : Int32} {y0 : UInt32} {σ : wx_St} {k : Nat} (hk : k + wx_n σ'.2.2.2.2 ≤ mc + wx_n σ.2.2.2.2)  (h : f_X4_fits_45 b1 K14 x2 x3 x4 y0 σ = some (r, σ')) {rd : Nat → Nat} {H : Heap} {locs : List Loc} (Z : wx_Z D ad rd ca A σ H) (hS : va_S A s.heap H locs) {ls : Array Slot} (hl : lv_has ls 6 [(0, .ref (ad 12 99)), (1, .ref (ad b1 99)), (2, .int x2), (3, .int x3), (4, .int x4)]) : W p l e ({ frames := 3, cells := mc, slots := 6464 * mc, locals := 81 } : Room) s m args below meth c H locs k (6464 * k) (MQ below (wx_QA D ad ca A (some (.int r)) σ') args s mc (6464 * mc) A) (F0 m 45 ls [.float y0]) := by
  obtain ⟨hx, hb, hml, hr, hts, hown, hlk, hC, hA⟩ := id B
  have hm := m_X4_fits_45 (K14 := K14) @mK14 h
  unfold f_X4_fits_45 at h
  refine lv_fstore (lv' := [(5, .float y0), (0, .ref (ad 12 99)), (1, .ref (ad b1 99)), (2, .int x2), (3, .int x3), (4, .int x4)]) hx hb dX4_fits_45 hl (by decide) rfl (fun ls hl => ?_)
  refine lv_iload_n hx hb dX4_fits_47 rfl (lv_at hl 4 rfl) ?_
  refine lv_bipush (v := (-6)) hx hb dX4_fits_48 (by decide) ?_
  refine lv_icmp_eq (tgt := 80) hx hb dX4_fits_50 (by decide) (fun c50 => ?_) (fun c50 => ?_)
  · replace h := wx_ift c50 h
    exact b_X4_fits_80 B hb1 (K14 := K14) @hK14 @mK14 (k := k) hk h Z hS (lv_sub hl [1, 2, 3, 4, 5, 0] rfl)
  · replace h := wx_iff c50 h
    refine lv_fload hx hb dX4_fits_53 (lv_at hl 0 rfl) ?_
    refine lv_aload_n hx hb dX4_fits_55 rfl (lv_at hl 1 rfl) ?_
    refine wx_get (own := RX4) hx hb hts i_X4_fits_4 hown hC.1 Z (o := 12) (ci := 4) rfl (rfl : vwCl[4]? = some (RX4, TX4, 2)) 0 (by decide) (hts _ k_X4_fits_w0) (fun _ h9 => h9) (f := 113) rfl rfl dX4_fits_56 ?_
    refine lv_iload_n hx hb dX4_fits_59 rfl (lv_at hl 4 rfl) ?_
    refine lv_aload_n hx hb dX4_fits_60 rfl (lv_at hl 2 rfl) ?_
    refine wx_getN (own := RX4) hx hb hts i_X4_fits_0 hown hC.1 Z (o := b1) (ci := 0) (wx_sbo hb1 99) (rfl : vwCl[0]? = some (RX0, TX0, 13)) 12 (by decide) (wx_nst hC 18 rfl rfl) (fun _ h9 => h9) (f := 0) rfl rfl dX4_fits_61 ?_
    refine lv_iload hx hb dX4_fits_64 (lv_at hl 5 rfl) ?_
    obtain ⟨v66, ev66, iv66, h⟩ := wx_rI_ok h
    refine wx_iald hx hb hC.1 Z (o := b1) (k := 12) (n := 8) (wx_sbo hb1 12) rfl iv66 dX4_fits_66 ev66 ?_
    refine lv_aload_n hx hb dX4_fits_67 rfl (lv_at hl 2 rfl) ?_
    refine wx_getN (own := RX4) hx hb hts i_X4_fits_0 hown hC.1 Z (o := b1) (ci := 0) (wx_sbo hb1 99) (rfl : vwCl[0]? = some (RX0, TX0, 13)) 10 (by decide) (wx_nst hC 14 rfl rfl) (fun _ h9 => h9) (f := 0) rfl rfl dX4_fits_68 ?_
    refine lv_iload hx hb dX4_fits_71 (lv_at hl 5 rfl) ?_
    obtain ⟨v73, ev73, iv73, h⟩ := wx_rI_ok h
    refine wx_iald hx hb hC.1 Z (o := b1) (k := 10) (n := 8) (wx_sbo hb1 10) rfl iv73 dX4_fits_73 ev73 ?_
    obtain ⟨v74, σ74, hc74, h⟩ := wx_b_ok h
    have m1 := m_X1_warmthBy_0 hc74
    have m2 := m_X4_fits_77 (K14 := K14) @mK14 h
    refine wx_callA (va_runVN (As := [.int x3, .int v66, .int v73]) (rest := [.float y0]) ⟨hx, hb, hml, hown, hts⟩ (c_X1_warmthBy l (D := D) (ad := ad) (rd := rd) (ca := ca) (A := A) (σ := σ) hc74) ⟨va_cnB 3 hts gX4_fits_X1_warmthBy_n70 rfl rfl rfl (hC.1.2.1 _ (List.mem_of_getElem? (i := 50) rfl)) (hts _ k_X4_fits_w1) (by decide +kernel) ⟨Nat.le_of_ble_eq_true rfl, Nat.le_of_ble_eq_true rfl⟩, hts _ k_X4_fits_w4, hts _ k_X4_fits_w5⟩ (wx_preV hC Z hS hA rfl (rfl : vwCl[1]? = some (RX1, TX1, 3))) rfl rfl hl.1 rfl (lv_room (Nat.le_of_ble_eq_true rfl)) dX4_fits_74 ⟨(by show k + (wx_n σ74.2.2.2.2 - wx_n σ.2.2.2.2) ≤ mc; omega), (by show 6464 * k + 6464 * (wx_n σ74.2.2.2.2 - wx_n σ.2.2.2.2) ≤ 6464 * mc; omega)⟩) hS (fun rd H locs Z hS => ?_)
    refine W.widen (k := k + (wx_n σ74.2.2.2.2 - wx_n σ.2.2.2.2)) (n := 6464 * (k + (wx_n σ74.2.2.2.2 - wx_n σ.2.2.2.2))) (Nat.le_refl _) (by omega) ?_
    exact b_X4_fits_77 B hb1 (K14 := K14) @hK14 @mK14 (k := k + (wx_n σ74.2.2.2.2 - wx_n σ.2.2.2.2)) (by omega) h Z hS (lv_sub hl [1, 2, 3, 4, 5, 0] rfl)
set_option maxRecDepth 20000 in
set_option maxHeartbeats 4000000 in
theorem m_X4_fits_14 {b1 : Nat} {r : Int32} {σ' : wx_St}  :
    ∀ {n : Nat} {x2 : Int32} {x3 : Int32} {x4 : Int32} {σ : wx_St} (h : f_X4_fits_14 b1 n x2 x3 x4 σ = some (r, σ')), wx_n σ.2.2.2.2 ≤ wx_n σ'.2.2.2.2 := by
  intro n
  induction n with
  | zero => intro x2 x3 x4 σ h; exact wx_no h
  | succ n ih =>
    intro x2 x3 x4 σ h
    rw [f_X4_fits_14] at h
    by_cases c20 : (σ.2.2.1 b1 9) ≤ x4
    · replace h := wx_ift c20 h
      obtain ⟨rfl, rfl⟩ := wx_ret_ok h
      exact Nat.le_refl _
    · replace h := wx_iff c20 h
      obtain ⟨v34, ev34, iv34, h⟩ := wx_rI_ok h
      obtain ⟨v41, ev41, iv41, h⟩ := wx_rI_ok h
      obtain ⟨v42, σ42, hc42, h⟩ := wx_b_ok h
      refine Nat.le_trans (m_X1_warmthBy_0 hc42) ?_
      exact m_X4_fits_45 (K14 := (f_X4_fits_14 b1 n)) @ih h
set_option maxRecDepth 20000 in
set_option maxHeartbeats 4000000 in
theorem b_X4_fits_14 (B : wx_B p s m args meth c cX4_fits 6 (some .boolean) wsX4_fits RX4 D ad ca A) {b1 : Nat}  (hb1 : b1 < 11) {r : Int32} {σ' : wx_St} {mc : Nat}   :
    ∀ {n : Nat} {x2 : Int32} {x3 : Int32} {x4 : Int32} {σ : wx_St} {k : Nat} (hk : k + wx_n σ'.2.2.2.2 ≤ mc + wx_n σ.2.2.2.2)  (h : f_X4_fits_14 b1 n x2 x3 x4 σ = some (r, σ')) {rd : Nat → Nat} {H : Heap} {locs : List Loc} (Z : wx_Z D ad rd ca A σ H) (hS : va_S A s.heap H locs) {ls : Array Slot} (hl : lv_has ls 6 [(0, .ref (ad 12 99)), (1, .ref (ad b1 99)), (2, .int x2), (3, .int x3), (4, .int x4)]), W p l e ({ frames := 3, cells := mc, slots := 6464 * mc, locals := 81 } : Room) s m args below meth c H locs k (6464 * k) (MQ below (wx_QA D ad ca A (some (.int r)) σ') args s mc (6464 * mc) A) (F0 m 14 ls []) := by
  obtain ⟨hx, hb, hml, hr, hts, hown, hlk, hC, hA⟩ := id B
  intro n
  induction n with
  | zero => intro x2 x3 x4 σ k hk  h rd H locs Z hS ls hl; exact wx_no h
  | succ n ih =>
    intro x2 x3 x4 σ k hk  h rd H locs Z hS ls hl
    have hm := m_X4_fits_14 h
    have mih : ∀ {x2 : Int32} {x3 : Int32} {x4 : Int32} {σ : wx_St}, f_X4_fits_14 b1 n x2 x3 x4 σ = some (r, σ') → wx_n σ.2.2.2.2 ≤ wx_n σ'.2.2.2.2 := fun h => m_X4_fits_14 h
    rw [f_X4_fits_14] at h
    refine lv_iload hx hb dX4_fits_14 (lv_at hl 4 rfl) ?_
    refine lv_aload_n hx hb dX4_fits_16 rfl (lv_at hl 1 rfl) ?_
    refine wx_getN (own := RX4) hx hb hts i_X4_fits_0 hown hC.1 Z (o := b1) (ci := 0) (wx_sbo hb1 99) (rfl : vwCl[0]? = some (RX0, TX0, 13)) 9 (by decide) (wx_nst hC 12 rfl rfl) (fun _ h9 => h9) (f := 1) rfl rfl dX4_fits_17 ?_
    refine lv_icmp_ge (tgt := 113) hx hb dX4_fits_20 (by decide) (fun c20 => ?_) (fun c20 => ?_)
    · replace h := wx_ift c20 h
      refine lv_iconst (v := 1) hx hb dX4_fits_113 (by decide) ?_
      obtain ⟨rfl, rfl⟩ := wx_ret_ok h
      refine W.widen (k := mc) (n := 6464 * mc) (by omega) (by omega) ?_
      exact W.zret hx hb hr rfl (fun t ht hW => ⟨rfl, ⟨_, by rw [ht]; exact Z⟩, hS.F ht⟩) hS.2.2 dX4_fits_114
    · replace h := wx_iff c20 h
      refine lv_aload_n hx hb dX4_fits_23 rfl (lv_at hl 0 rfl) ?_
      refine wx_get (own := RX4) hx hb hts i_X4_fits_4 hown hC.1 Z (o := 12) (ci := 4) rfl (rfl : vwCl[4]? = some (RX4, TX4, 2)) 0 (by decide) (hts _ k_X4_fits_w0) (fun _ h9 => h9) (f := 113) rfl rfl dX4_fits_24 ?_
      refine lv_iload_n hx hb dX4_fits_27 rfl (lv_at hl 2 rfl) ?_
      refine lv_aload_n hx hb dX4_fits_28 rfl (lv_at hl 1 rfl) ?_
      refine wx_getN (own := RX4) hx hb hts i_X4_fits_0 hown hC.1 Z (o := b1) (ci := 0) (wx_sbo hb1 99) (rfl : vwCl[0]? = some (RX0, TX0, 13)) 12 (by decide) (wx_nst hC 18 rfl rfl) (fun _ h9 => h9) (f := 0) rfl rfl dX4_fits_29 ?_
      refine lv_iload hx hb dX4_fits_32 (lv_at hl 4 rfl) ?_
      obtain ⟨v34, ev34, iv34, h⟩ := wx_rI_ok h
      refine wx_iald hx hb hC.1 Z (o := b1) (k := 12) (n := 8) (wx_sbo hb1 12) rfl iv34 dX4_fits_34 ev34 ?_
      refine lv_aload_n hx hb dX4_fits_35 rfl (lv_at hl 1 rfl) ?_
      refine wx_getN (own := RX4) hx hb hts i_X4_fits_0 hown hC.1 Z (o := b1) (ci := 0) (wx_sbo hb1 99) (rfl : vwCl[0]? = some (RX0, TX0, 13)) 10 (by decide) (wx_nst hC 14 rfl rfl) (fun _ h9 => h9) (f := 0) rfl rfl dX4_fits_36 ?_
      refine lv_iload hx hb dX4_fits_39 (lv_at hl 4 rfl) ?_
      obtain ⟨v41, ev41, iv41, h⟩ := wx_rI_ok h
      refine wx_iald hx hb hC.1 Z (o := b1) (k := 10) (n := 8) (wx_sbo hb1 10) rfl iv41 dX4_fits_41 ev41 ?_
      obtain ⟨v42, σ42, hc42, h⟩ := wx_b_ok h
      have m1 := m_X1_warmthBy_0 hc42
      have m2 := m_X4_fits_45 (K14 := (f_X4_fits_14 b1 n)) mih h
      refine wx_callA (va_runVN (As := [.int x2, .int v34, .int v41]) (rest := []) ⟨hx, hb, hml, hown, hts⟩ (c_X1_warmthBy l (D := D) (ad := ad) (rd := rd) (ca := ca) (A := A) (σ := σ) hc42) ⟨va_cnB 3 hts gX4_fits_X1_warmthBy_n70 rfl rfl rfl (hC.1.2.1 _ (List.mem_of_getElem? (i := 50) rfl)) (hts _ k_X4_fits_w1) (by decide +kernel) ⟨Nat.le_of_ble_eq_true rfl, Nat.le_of_ble_eq_true rfl⟩, hts _ k_X4_fits_w4, hts _ k_X4_fits_w5⟩ (wx_preV hC Z hS hA rfl (rfl : vwCl[1]? = some (RX1, TX1, 3))) rfl rfl hl.1 rfl (lv_room (Nat.le_of_ble_eq_true rfl)) dX4_fits_42 ⟨(by show k + (wx_n σ42.2.2.2.2 - wx_n σ.2.2.2.2) ≤ mc; omega), (by show 6464 * k + 6464 * (wx_n σ42.2.2.2.2 - wx_n σ.2.2.2.2) ≤ 6464 * mc; omega)⟩) hS (fun rd H locs Z hS => ?_)
      refine W.widen (k := k + (wx_n σ42.2.2.2.2 - wx_n σ.2.2.2.2)) (n := 6464 * (k + (wx_n σ42.2.2.2.2 - wx_n σ.2.2.2.2))) (Nat.le_refl _) (by omega) ?_
      exact b_X4_fits_45 B hb1 (K14 := (f_X4_fits_14 b1 n)) @ih mih (k := k + (wx_n σ42.2.2.2.2 - wx_n σ.2.2.2.2)) (by omega) h Z hS (lv_sub hl [0, 1, 2, 3, 4] rfl)
set_option maxRecDepth 20000 in
set_option maxHeartbeats 4000000 in
theorem m_X4_fits_0 {b1 : Nat} {r : Int32} {σ' : wx_St}  {x2 : Int32} {x3 : Int32} {σ : wx_St} (h : f_X4_fits b1 x2 x3 σ = some (r, σ')) : wx_n σ.2.2.2.2 ≤ wx_n σ'.2.2.2.2 := by
  unfold f_X4_fits at h
  obtain ⟨v8, σ8, hc8, h⟩ := wx_b_ok h
  refine Nat.le_trans (Nat.le_of_eq (congrArg wx_n (show σ8.2.2.2.2 = σ.2.2.2.2 from m_X1_follow_0 hc8)).symm) ?_
  exact m_X4_fits_14 h
set_option maxRecDepth 20000 in
set_option maxHeartbeats 4000000 in
theorem b_X4_fits_0 (B : wx_B p s m args meth c cX4_fits 6 (some .boolean) wsX4_fits RX4 D ad ca A) {b1 : Nat}  (hb1 : b1 < 11) {r : Int32} {σ' : wx_St} {mc : Nat}  {x2 : Int32} {x3 : Int32} {σ : wx_St} {k : Nat} (hk : k + wx_n σ'.2.2.2.2 ≤ mc + wx_n σ.2.2.2.2)  (h : f_X4_fits b1 x2 x3 σ = some (r, σ')) {rd : Nat → Nat} {H : Heap} {locs : List Loc} (Z : wx_Z D ad rd ca A σ H) (hS : va_S A s.heap H locs) {ls : Array Slot} (hl : lv_has ls 6 [(0, .ref (ad 12 99)), (1, .ref (ad b1 99)), (2, .int x2), (3, .int x3)]) : W p l e ({ frames := 3, cells := mc, slots := 6464 * mc, locals := 81 } : Room) s m args below meth c H locs k (6464 * k) (MQ below (wx_QA D ad ca A (some (.int r)) σ') args s mc (6464 * mc) A) (F0 m 0 ls []) := by
  obtain ⟨hx, hb, hml, hr, hts, hown, hlk, hC, hA⟩ := id B
  have hm := m_X4_fits_0 h
  unfold f_X4_fits at h
  refine lv_aload_n hx hb dX4_fits_0 rfl (lv_at hl 0 rfl) ?_
  refine wx_get (own := RX4) hx hb hts i_X4_fits_4 hown hC.1 Z (o := 12) (ci := 4) rfl (rfl : vwCl[4]? = some (RX4, TX4, 2)) 0 (by decide) (hts _ k_X4_fits_w0) (fun _ h9 => h9) (f := 113) rfl rfl dX4_fits_1 ?_
  refine lv_aload_n hx hb dX4_fits_4 rfl (lv_at hl 1 rfl) ?_
  refine wx_getN (own := RX4) hx hb hts i_X4_fits_0 hown hC.1 Z (o := b1) (ci := 0) (wx_sbo hb1 99) (rfl : vwCl[0]? = some (RX0, TX0, 13)) 0 (by decide) (wx_nst hC 2 rfl rfl) (fun _ h9 => h9) (f := 0) rfl rfl dX4_fits_5 ?_
  obtain ⟨v8, σ8, hc8, h⟩ := wx_b_ok h
  refine wx_call (va_runVN (As := [.ref (ad b1 0)]) (rest := []) ⟨hx, hb, hml, hown, hts⟩ (c_X1_follow l (D := D) (ad := ad) (rd := rd) (ca := ca) (A := A) (σ := σ) (o1 := b1) (k1 := 0) (al := σ.2.2.2.2) (wx_sbo hb1 0) rfl hc8) ⟨va_cnB 1 hts gX4_fits_X1_follow_n56 rfl rfl rfl (hC.1.2.1 _ (List.mem_of_getElem? (i := 49) rfl)) (hts _ k_X4_fits_w1) (by decide +kernel) ⟨Nat.le_of_ble_eq_true rfl, Nat.le_of_ble_eq_true rfl⟩, hts _ k_X4_fits_w2, hts _ k_X4_fits_w3⟩ (wx_preV hC Z hS hA rfl (rfl : vwCl[1]? = some (RX1, TX1, 3))) rfl rfl hl.1 rfl (lv_room (Nat.le_of_ble_eq_true rfl)) dX4_fits_8 ⟨(by show k + 0 ≤ mc; omega), (by show 6464 * k + 0 ≤ 6464 * mc; omega)⟩) hS (fun H locs Z hS => ?_)
  have hqσ8 := congrArg wx_n (show σ8.2.2.2.2 = σ.2.2.2.2 from m_X1_follow_0 hc8)
  rw [← hqσ8] at hk hm
  refine lv_iconst (v := 0) hx hb dX4_fits_11 (by decide) ?_
  refine lv_istore (lv' := [(4, .int 0), (0, .ref (ad 12 99)), (1, .ref (ad b1 99)), (2, .int x2), (3, .int x3)]) hx hb dX4_fits_12 hl (by decide) rfl (fun ls hl => ?_)
  exact b_X4_fits_14 B hb1 (k := k) hk h Z hS (lv_sub hl [1, 2, 3, 4, 0] rfl)
set_option maxRecDepth 20000 in
theorem c_X4_fits (l : Launch) {D : va_G} {ad : Nat → Nat → Nat} {rd : Nat → Nat} {ca : Nat → ClassId} {A : Nat → Prop} {σ : wx_St} {b1 : Nat}  (hb1 : b1 < 11) {x2 : Int32} {x3 : Int32} {r : Int32} {σ' : wx_St} (h : f_X4_fits b1 x2 x3 σ = some (r, σ')) : wx_MA l yX4_fits wsX4_fits 3 81 D ad rd ca A [.ref (ad 12 99), .ref (ad b1 99), .int x2, .int x3] σ (some (.int r)) σ' := by
  refine Met.ofW (cc := cX4_fits) (maxL := 6) (ret := (some .boolean)) (by decide +kernel) rfl ?_
  intro p e s m args below meth c s₁ B0 hml hv
  obtain ⟨rfl, hC, Z, hA⟩ := hv
  have hl := lv_entry ([.ref (ad 12 99), .ref (ad b1 99), .int x2, .int x3]) (n := 6) (Nat.le_of_ble_eq_true rfl)
  rw [lg_entry_eq]
  generalize (lg_sl ([.ref (ad 12 99), .ref (ad b1 99), .int x2, .int x3]) ++ List.replicate (6 - (lg_sl ([.ref (ad 12 99), .ref (ad b1 99), .int x2, .int x3])).length) Slot.unset).toArray = ls at hl ⊢
  exact b_X4_fits_0 ⟨B0.exec, B0.bytes, hml, B0.returns, atoms_spec (ws := wsX4_fits) B0.pre, findClass_of_methodNamed B0.named, B0.notSynchronized, hC, hA⟩ hb1 (k := 0) (by have hm := m_X4_fits_0 h; omega) h Z va_S.rf hl
theorem k_X4_couldBe_w0 : Cond.initialized RX0 ∈ wsX4_couldBe := by decide +kernel
theorem k_X4_couldBe_w1 : Cond.instanceMethod yX0_isSuspect ∈ wsX4_couldBe := by decide +kernel
theorem k_X4_couldBe_w2 : Cond.selects RX0 yX0_isSuspect yX0_isSuspect ∈ wsX4_couldBe := by decide +kernel
set_option maxRecDepth 20000 in
set_option maxHeartbeats 4000000 in
theorem m_X4_couldBe_24 {b1 : Nat} {r : Int32} {σ' : wx_St}  {x2 : Int32} {y0 : Int32} {σ : wx_St} (h : f_X4_couldBe_24 b1 x2 y0 σ = some (r, σ')) : wx_n σ.2.2.2.2 ≤ wx_n σ'.2.2.2.2 := by
  unfold f_X4_couldBe_24 at h
  obtain ⟨hz, h⟩ := wx_z_ok h
  obtain ⟨rfl, rfl⟩ := wx_ret_ok h
  exact Nat.le_refl _
set_option maxRecDepth 20000 in
set_option maxHeartbeats 4000000 in
theorem b_X4_couldBe_24 (B : wx_B p s m args meth c cX4_couldBe 3 (some .boolean) wsX4_couldBe RX4 D ad ca A) {b1 : Nat}  (hb1 : b1 < 11) {r : Int32} {σ' : wx_St} {mc : Nat}  {x2 : Int32} {y0 : Int32} {σ : wx_St} {k : Nat} (hk : k + wx_n σ'.2.2.2.2 ≤ mc + wx_n σ.2.2.2.2)  (h : f_X4_couldBe_24 b1 x2 y0 σ = some (r, σ')) {rd : Nat → Nat} {H : Heap} {locs : List Loc} (Z : wx_Z D ad rd ca A σ H) (hS : va_S A s.heap H locs) {ls : Array Slot} (hl : lv_has ls 3 [(0, .ref (ad 12 99)), (1, .ref (ad b1 99)), (2, .int x2)]) : W p l e ({ frames := 4, cells := mc, slots := 6464 * mc, locals := 106 } : Room) s m args below meth c H locs k (6464 * k) (MQ below (wx_QA D ad ca A (some (.int r)) σ') args s mc (6464 * mc) A) (F0 m 24 ls [.int y0]) := by
  obtain ⟨hx, hb, hml, hr, hts, hown, hlk, hC, hA⟩ := id B
  have hm := m_X4_couldBe_24 h
  unfold f_X4_couldBe_24 at h
  obtain ⟨hz, h⟩ := wx_z_ok h
  obtain ⟨rfl, rfl⟩ := wx_ret_ok h
  refine W.widen (k := mc) (n := 6464 * mc) (by omega) (by omega) ?_
  exact W.zret hx hb hr (wx_nb hz) (fun t ht hW => ⟨rfl, ⟨_, by rw [ht]; exact Z⟩, hS.F ht⟩) hS.2.2 dX4_couldBe_24
set_option maxRecDepth 20000 in
set_option maxHeartbeats 4000000 in
theorem m_X4_couldBe_23 {b1 : Nat} {r : Int32} {σ' : wx_St}  {x2 : Int32} {σ : wx_St} (h : f_X4_couldBe_23 b1 x2 σ = some (r, σ')) : wx_n σ.2.2.2.2 ≤ wx_n σ'.2.2.2.2 := by
  unfold f_X4_couldBe_23 at h
  exact m_X4_couldBe_24 h
set_option maxRecDepth 20000 in
set_option maxHeartbeats 4000000 in
theorem b_X4_couldBe_23 (B : wx_B p s m args meth c cX4_couldBe 3 (some .boolean) wsX4_couldBe RX4 D ad ca A) {b1 : Nat}  (hb1 : b1 < 11) {r : Int32} {σ' : wx_St} {mc : Nat}  {x2 : Int32} {σ : wx_St} {k : Nat} (hk : k + wx_n σ'.2.2.2.2 ≤ mc + wx_n σ.2.2.2.2)  (h : f_X4_couldBe_23 b1 x2 σ = some (r, σ')) {rd : Nat → Nat} {H : Heap} {locs : List Loc} (Z : wx_Z D ad rd ca A σ H) (hS : va_S A s.heap H locs) {ls : Array Slot} (hl : lv_has ls 3 [(0, .ref (ad 12 99)), (1, .ref (ad b1 99)), (2, .int x2)]) : W p l e ({ frames := 4, cells := mc, slots := 6464 * mc, locals := 106 } : Room) s m args below meth c H locs k (6464 * k) (MQ below (wx_QA D ad ca A (some (.int r)) σ') args s mc (6464 * mc) A) (F0 m 23 ls []) := by
  obtain ⟨hx, hb, hml, hr, hts, hown, hlk, hC, hA⟩ := id B
  have hm := m_X4_couldBe_23 h
  unfold f_X4_couldBe_23 at h
  refine lv_iconst (v := 0) hx hb dX4_couldBe_23 (by decide) ?_
  exact b_X4_couldBe_24 B hb1 (k := k) hk h Z hS (lv_sub hl [0, 1, 2] rfl)
set_option maxRecDepth 20000 in
set_option maxHeartbeats 4000000 in
theorem m_X4_couldBe_16 {b1 : Nat} {r : Int32} {σ' : wx_St}  {x2 : Int32} {y0 : Int32} {σ : wx_St} (h : f_X4_couldBe_16 b1 x2 y0 σ = some (r, σ')) : wx_n σ.2.2.2.2 ≤ wx_n σ'.2.2.2.2 := by
  unfold f_X4_couldBe_16 at h
  by_cases c16 : y0 = 0
  · replace h := wx_ift c16 h
    exact m_X4_couldBe_23 h
  · replace h := wx_iff c16 h
    exact m_X4_couldBe_24 h
set_option maxRecDepth 20000 in
set_option maxHeartbeats 4000000 in
theorem b_X4_couldBe_16 (B : wx_B p s m args meth c cX4_couldBe 3 (some .boolean) wsX4_couldBe RX4 D ad ca A) {b1 : Nat}  (hb1 : b1 < 11) {r : Int32} {σ' : wx_St} {mc : Nat}  {x2 : Int32} {y0 : Int32} {σ : wx_St} {k : Nat} (hk : k + wx_n σ'.2.2.2.2 ≤ mc + wx_n σ.2.2.2.2)  (h : f_X4_couldBe_16 b1 x2 y0 σ = some (r, σ')) {rd : Nat → Nat} {H : Heap} {locs : List Loc} (Z : wx_Z D ad rd ca A σ H) (hS : va_S A s.heap H locs) {ls : Array Slot} (hl : lv_has ls 3 [(0, .ref (ad 12 99)), (1, .ref (ad b1 99)), (2, .int x2)]) : W p l e ({ frames := 4, cells := mc, slots := 6464 * mc, locals := 106 } : Room) s m args below meth c H locs k (6464 * k) (MQ below (wx_QA D ad ca A (some (.int r)) σ') args s mc (6464 * mc) A) (F0 m 16 ls [.int y0]) := by
  obtain ⟨hx, hb, hml, hr, hts, hown, hlk, hC, hA⟩ := id B
  have hm := m_X4_couldBe_16 h
  unfold f_X4_couldBe_16 at h
  refine lv_if_eq (tgt := 23) hx hb dX4_couldBe_16 (by decide) (fun c16 => ?_) (fun c16 => ?_)
  · replace h := wx_ift c16 h
    exact b_X4_couldBe_23 B hb1 (k := k) hk h Z hS (lv_sub hl [0, 1, 2] rfl)
  · replace h := wx_iff c16 h
    refine lv_iconst (v := 1) hx hb dX4_couldBe_19 (by decide) ?_
    refine lv_goto (tgt := 24) hx hb dX4_couldBe_20 (by decide) ?_
    exact b_X4_couldBe_24 B hb1 (k := k) hk h Z hS (lv_sub hl [0, 1, 2] rfl)
set_option maxRecDepth 20000 in
set_option maxHeartbeats 4000000 in
theorem m_X4_couldBe_0 {b1 : Nat} {r : Int32} {σ' : wx_St}  {x2 : Int32} {σ : wx_St} (h : f_X4_couldBe b1 x2 σ = some (r, σ')) : wx_n σ.2.2.2.2 ≤ wx_n σ'.2.2.2.2 := by
  unfold f_X4_couldBe at h
  obtain ⟨v2, hc2, h⟩ := wx_o_ok h
  by_cases c5 : v2 = 0
  · replace h := wx_ift c5 h
    exact m_X4_couldBe_23 h
  · replace h := wx_iff c5 h
    obtain ⟨v13, σ13, hc13, h⟩ := wx_b_ok h
    refine Nat.le_trans (m_X4_fits_0 hc13) ?_
    exact m_X4_couldBe_16 h
set_option maxRecDepth 20000 in
set_option maxHeartbeats 4000000 in
theorem b_X4_couldBe_0 (B : wx_B p s m args meth c cX4_couldBe 3 (some .boolean) wsX4_couldBe RX4 D ad ca A) {b1 : Nat}  (hb1 : b1 < 11) {r : Int32} {σ' : wx_St} {mc : Nat}  {x2 : Int32} {σ : wx_St} {k : Nat} (hk : k + wx_n σ'.2.2.2.2 ≤ mc + wx_n σ.2.2.2.2)  (h : f_X4_couldBe b1 x2 σ = some (r, σ')) {rd : Nat → Nat} {H : Heap} {locs : List Loc} (Z : wx_Z D ad rd ca A σ H) (hS : va_S A s.heap H locs) {ls : Array Slot} (hl : lv_has ls 3 [(0, .ref (ad 12 99)), (1, .ref (ad b1 99)), (2, .int x2)]) : W p l e ({ frames := 4, cells := mc, slots := 6464 * mc, locals := 106 } : Room) s m args below meth c H locs k (6464 * k) (MQ below (wx_QA D ad ca A (some (.int r)) σ') args s mc (6464 * mc) A) (F0 m 0 ls []) := by
  obtain ⟨hx, hb, hml, hr, hts, hown, hlk, hC, hA⟩ := id B
  have hm := m_X4_couldBe_0 h
  unfold f_X4_couldBe at h
  refine lv_aload_n hx hb dX4_couldBe_0 rfl (lv_at hl 1 rfl) ?_
  refine lv_iload_n hx hb dX4_couldBe_1 rfl (lv_at hl 2 rfl) ?_
  obtain ⟨v2, hc2, h⟩ := wx_o_ok h
  refine wx_call (va_runVN (As := [.int x2]) (rest := []) ⟨hx, hb, hml, hown, hts⟩ (c_X0_isSuspect l (D := D) (ad := ad) (rd := rd) (ca := ca) (A := A) (σ := σ) (o := b1) hb1 hc2) ⟨va_cnB 1 hts gX4_couldBe_X0_isSuspect_n22 rfl rfl rfl (hC.1.2.1 _ (List.mem_of_getElem? (i := 48) rfl)) (hts _ k_X4_couldBe_w0) (by decide +kernel) ⟨Nat.le_of_ble_eq_true rfl, Nat.le_of_ble_eq_true rfl⟩, hts _ k_X4_couldBe_w1, hts _ k_X4_couldBe_w2⟩ (wx_preV hC Z hS hA (wx_sbo hb1 99) (rfl : vwCl[0]? = some (RX0, TX0, 13))) rfl rfl hl.1 rfl (lv_room (Nat.le_of_ble_eq_true rfl)) dX4_couldBe_2 ⟨(by show k + 0 ≤ mc; omega), (by show 6464 * k + 0 ≤ 6464 * mc; omega)⟩) hS (fun H locs Z hS => ?_)
  refine lv_if_eq (tgt := 23) hx hb dX4_couldBe_5 (by decide) (fun c5 => ?_) (fun c5 => ?_)
  · replace h := wx_ift c5 h
    exact b_X4_couldBe_23 B hb1 (k := k) hk h Z hS (lv_sub hl [0, 1, 2] rfl)
  · replace h := wx_iff c5 h
    refine lv_aload_n hx hb dX4_couldBe_8 rfl (lv_at hl 0 rfl) ?_
    refine lv_aload_n hx hb dX4_couldBe_9 rfl (lv_at hl 1 rfl) ?_
    refine lv_iload_n hx hb dX4_couldBe_10 rfl (lv_at hl 2 rfl) ?_
    refine lv_bipush (v := (-6)) hx hb dX4_couldBe_11 (by decide) ?_
    obtain ⟨v13, σ13, hc13, h⟩ := wx_b_ok h
    have m1 := m_X4_fits_0 hc13
    have m2 := m_X4_couldBe_16 h
    refine wx_callA (va_runV (As := [.ref (ad b1 99), .int x2, .int (-6)]) (rest := []) ⟨hx, hb, hml, hown, hts⟩ (c_X4_fits l (D := D) (ad := ad) (rd := rd) (ca := ca) (A := A) (σ := σ) (b1 := b1) hb1 hc13) (cwV 3 hts gX4_couldBe_X4_fits rfl rfl rfl (by decide +kernel) ⟨Nat.le_of_ble_eq_true rfl, Nat.le_of_ble_eq_true rfl⟩) (wx_preV hC Z hS hA rfl (rfl : vwCl[4]? = some (RX4, TX4, 2))) rfl rfl hl.1 rfl (lv_room (Nat.le_of_ble_eq_true rfl)) dX4_couldBe_13 ⟨(by show k + (wx_n σ13.2.2.2.2 - wx_n σ.2.2.2.2) ≤ mc; omega), (by show 6464 * k + 6464 * (wx_n σ13.2.2.2.2 - wx_n σ.2.2.2.2) ≤ 6464 * mc; omega)⟩) hS (fun rd H locs Z hS => ?_)
    refine W.widen (k := k + (wx_n σ13.2.2.2.2 - wx_n σ.2.2.2.2)) (n := 6464 * (k + (wx_n σ13.2.2.2.2 - wx_n σ.2.2.2.2))) (Nat.le_refl _) (by omega) ?_
    exact b_X4_couldBe_16 B hb1 (k := k + (wx_n σ13.2.2.2.2 - wx_n σ.2.2.2.2)) (by omega) h Z hS (lv_sub hl [0, 1, 2] rfl)
set_option maxRecDepth 20000 in
theorem c_X4_couldBe (l : Launch) {D : va_G} {ad : Nat → Nat → Nat} {rd : Nat → Nat} {ca : Nat → ClassId} {A : Nat → Prop} {σ : wx_St} {b1 : Nat}  (hb1 : b1 < 11) {x2 : Int32} {r : Int32} {σ' : wx_St} (h : f_X4_couldBe b1 x2 σ = some (r, σ')) : wx_MA l yX4_couldBe wsX4_couldBe 4 106 D ad rd ca A [.ref (ad 12 99), .ref (ad b1 99), .int x2] σ (some (.int r)) σ' := by
  refine Met.ofW (cc := cX4_couldBe) (maxL := 3) (ret := (some .boolean)) (by decide +kernel) rfl ?_
  intro p e s m args below meth c s₁ B0 hml hv
  obtain ⟨rfl, hC, Z, hA⟩ := hv
  have hl := lv_entry ([.ref (ad 12 99), .ref (ad b1 99), .int x2]) (n := 3) (Nat.le_of_ble_eq_true rfl)
  rw [lg_entry_eq]
  generalize (lg_sl ([.ref (ad 12 99), .ref (ad b1 99), .int x2]) ++ List.replicate (3 - (lg_sl ([.ref (ad 12 99), .ref (ad b1 99), .int x2])).length) Slot.unset).toArray = ls at hl ⊢
  exact b_X4_couldBe_0 ⟨B0.exec, B0.bytes, hml, B0.returns, atoms_spec (ws := wsX4_couldBe) B0.pre, findClass_of_methodNamed B0.named, B0.notSynchronized, hC, hA⟩ hb1 (k := 0) (by have hm := m_X4_couldBe_0 h; omega) h Z va_S.rf hl
theorem k_X4_couldBeOneOfTwo_w0 : Cond.initialized RX0 ∈ wsX4_couldBeOneOfTwo := by decide +kernel
theorem k_X4_couldBeOneOfTwo_w1 : Cond.instanceMethod yX0_isSuspect ∈ wsX4_couldBeOneOfTwo := by decide +kernel
theorem k_X4_couldBeOneOfTwo_w2 : Cond.selects RX0 yX0_isSuspect yX0_isSuspect ∈ wsX4_couldBeOneOfTwo := by decide +kernel
theorem k_X4_couldBeOneOfTwo_w3 : Cond.methodLink RX4 44 Lib.Math.min.name ∈ wsX4_couldBeOneOfTwo := by decide +kernel
theorem k_X4_couldBeOneOfTwo_w4 : Cond.static Lib.Math.min.name ∈ wsX4_couldBeOneOfTwo := by decide +kernel
theorem k_X4_couldBeOneOfTwo_w5 : Cond.initialized "java/lang/Math" ∈ wsX4_couldBeOneOfTwo := by decide +kernel
theorem k_X4_couldBeOneOfTwo_w6 : Cond.code Lib.Math.min.name Lib.Math.min.code 2 (some .int) ∈ wsX4_couldBeOneOfTwo := by decide +kernel
theorem k_X4_couldBeOneOfTwo_w7 : Cond.methodLink RX4 50 Lib.Math.max.name ∈ wsX4_couldBeOneOfTwo := by decide +kernel
theorem k_X4_couldBeOneOfTwo_w8 : Cond.static Lib.Math.max.name ∈ wsX4_couldBeOneOfTwo := by decide +kernel
theorem k_X4_couldBeOneOfTwo_w9 : Cond.code Lib.Math.max.name Lib.Math.max.code 2 (some .int) ∈ wsX4_couldBeOneOfTwo := by decide +kernel
set_option maxRecDepth 20000 in
set_option maxHeartbeats 4000000 in
theorem m_X4_couldBeOneOfTwo_51 {b1 : Nat} {r : Int32} {σ' : wx_St} {K12 : Int32 → Int32 → wx_St → Option (Int32 × wx_St)} (mK12 : ∀ {x2 : Int32} {x3 : Int32} {σ : wx_St}, K12 x2 x3 σ = some (r, σ') → wx_n σ.2.2.2.2 ≤ wx_n σ'.2.2.2.2) {x2 : Int32} {x3 : Int32} {σ : wx_St} (h : f_X4_couldBeOneOfTwo_51 b1 K12 x2 x3 σ = some (r, σ')) : wx_n σ.2.2.2.2 ≤ wx_n σ'.2.2.2.2 := by
  unfold f_X4_couldBeOneOfTwo_51 at h
  exact mK12 h
set_option maxRecDepth 20000 in
set_option maxHeartbeats 4000000 in
theorem b_X4_couldBeOneOfTwo_51 (B : wx_B p s m args meth c cX4_couldBeOneOfTwo 4 (some .boolean) wsX4_couldBeOneOfTwo RX4 D ad ca A) {b1 : Nat}  (hb1 : b1 < 11) {r : Int32} {σ' : wx_St} {mc : Nat} {K12 : Int32 → Int32 → wx_St → Option (Int32 × wx_St)} (hK12 : ∀ {x2 : Int32} {x3 : Int32} {σ : wx_St} {k : Nat} (hk : k + wx_n σ'.2.2.2.2 ≤ mc + wx_n σ.2.2.2.2)  (h : K12 x2 x3 σ = some (r, σ')) {rd : Nat → Nat} {H : Heap} {locs : List Loc} (Z : wx_Z D ad rd ca A σ H) (hS : va_S A s.heap H locs) {ls : Array Slot} (hl : lv_has ls 4 [(0, .ref (ad 12 99)), (1, .ref (ad b1 99)), (2, .int x2), (3, .int x3)]), W p l e ({ frames := 4, cells := mc, slots := 6464 * mc, locals := 106 } : Room) s m args below meth c H locs k (6464 * k) (MQ below (wx_QA D ad ca A (some (.int r)) σ') args s mc (6464 * mc) A) (F0 m 12 ls [])) (mK12 : ∀ {x2 : Int32} {x3 : Int32} {σ : wx_St}, K12 x2 x3 σ = some (r, σ') → wx_n σ.2.2.2.2 ≤ wx_n σ'.2.2.2.2) {x2 : Int32} {x3 : Int32} {σ : wx_St} {k : Nat} (hk : k + wx_n σ'.2.2.2.2 ≤ mc + wx_n σ.2.2.2.2)  (h : f_X4_couldBeOneOfTwo_51 b1 K12 x2 x3 σ = some (r, σ')) {rd : Nat → Nat} {H : Heap} {locs : List Loc} (Z : wx_Z D ad rd ca A σ H) (hS : va_S A s.heap H locs) {ls : Array Slot} (hl : lv_has ls 4 [(0, .ref (ad 12 99)), (1, .ref (ad b1 99)), (2, .int x2), (3, .int x3)]) : W p l e ({ frames := 4, cells := mc, slots := 6464 * mc, locals := 106 } : Room) s m args below meth c H locs k (6464 * k) (MQ below (wx_QA D ad ca A (some (.int r)) σ') args s mc (6464 * mc) A) (F0 m 51 ls []) := by
  obtain ⟨hx, hb, hml, hr, hts, hown, hlk, hC, hA⟩ := id B
  have hm := m_X4_couldBeOneOfTwo_51 (K12 := K12) @mK12 h
  unfold f_X4_couldBeOneOfTwo_51 at h
  refine lv_iinc (v := x3 + 1) (lv' := [(3, .int (x3 + 1)), (0, .ref (ad 12 99)), (1, .ref (ad b1 99)), (2, .int x2)]) hx hb dX4_couldBeOneOfTwo_51 hl (k := 3) rfl rfl (by decide) rfl (fun ls hl => ?_)
  refine lv_goto (tgt := 12) hx hb dX4_couldBeOneOfTwo_54 (by decide) ?_
  exact hK12 (k := k) hk h Z hS (lv_sub hl [1, 2, 3, 0] rfl)
set_option maxRecDepth 20000 in
set_option maxHeartbeats 4000000 in
theorem m_X4_couldBeOneOfTwo_46 {b1 : Nat} {r : Int32} {σ' : wx_St} {K12 : Int32 → Int32 → wx_St → Option (Int32 × wx_St)} (mK12 : ∀ {x2 : Int32} {x3 : Int32} {σ : wx_St}, K12 x2 x3 σ = some (r, σ') → wx_n σ.2.2.2.2 ≤ wx_n σ'.2.2.2.2) {x2 : Int32} {x3 : Int32} {y0 : Int32} {σ : wx_St} (h : f_X4_couldBeOneOfTwo_46 b1 K12 x2 x3 y0 σ = some (r, σ')) : wx_n σ.2.2.2.2 ≤ wx_n σ'.2.2.2.2 := by
  unfold f_X4_couldBeOneOfTwo_46 at h
  by_cases c46 : y0 = 0
  · replace h := wx_ift c46 h
    exact m_X4_couldBeOneOfTwo_51 (K12 := K12) @mK12 h
  · replace h := wx_iff c46 h
    obtain ⟨rfl, rfl⟩ := wx_ret_ok h
    exact Nat.le_refl _
set_option maxRecDepth 20000 in
set_option maxHeartbeats 4000000 in
theorem b_X4_couldBeOneOfTwo_46 (B : wx_B p s m args meth c cX4_couldBeOneOfTwo 4 (some .boolean) wsX4_couldBeOneOfTwo RX4 D ad ca A) {b1 : Nat}  (hb1 : b1 < 11) {r : Int32} {σ' : wx_St} {mc : Nat} {K12 : Int32 → Int32 → wx_St → Option (Int32 × wx_St)} (hK12 : ∀ {x2 : Int32} {x3 : Int32} {σ : wx_St} {k : Nat} (hk : k + wx_n σ'.2.2.2.2 ≤ mc + wx_n σ.2.2.2.2)  (h : K12 x2 x3 σ = some (r, σ')) {rd : Nat → Nat} {H : Heap} {locs : List Loc} (Z : wx_Z D ad rd ca A σ H) (hS : va_S A s.heap H locs) {ls : Array Slot} (hl : lv_has ls 4 [(0, .ref (ad 12 99)), (1, .ref (ad b1 99)), (2, .int x2), (3, .int x3)]), W p l e ({ frames := 4, cells := mc, slots := 6464 * mc, locals := 106 } : Room) s m args below meth c H locs k (6464 * k) (MQ below (wx_QA D ad ca A (some (.int r)) σ') args s mc (6464 * mc) A) (F0 m 12 ls [])) (mK12 : ∀ {x2 : Int32} {x3 : Int32} {σ : wx_St}, K12 x2 x3 σ = some (r, σ') → wx_n σ.2.2.2.2 ≤ wx_n σ'.2.2.2.2) {x2 : Int32} {x3 : Int32} {y0 : Int32} {σ : wx_St} {k : Nat} (hk : k + wx_n σ'.2.2.2.2 ≤ mc + wx_n σ.2.2.2.2)  (h : f_X4_couldBeOneOfTwo_46 b1 K12 x2 x3 y0 σ = some (r, σ')) {rd : Nat → Nat} {H : Heap} {locs : List Loc} (Z : wx_Z D ad rd ca A σ H) (hS : va_S A s.heap H locs) {ls : Array Slot} (hl : lv_has ls 4 [(0, .ref (ad 12 99)), (1, .ref (ad b1 99)), (2, .int x2), (3, .int x3)]) : W p l e ({ frames := 4, cells := mc, slots := 6464 * mc, locals := 106 } : Room) s m args below meth c H locs k (6464 * k) (MQ below (wx_QA D ad ca A (some (.int r)) σ') args s mc (6464 * mc) A) (F0 m 46 ls [.int y0]) := by
  obtain ⟨hx, hb, hml, hr, hts, hown, hlk, hC, hA⟩ := id B
  have hm := m_X4_couldBeOneOfTwo_46 (K12 := K12) @mK12 h
  unfold f_X4_couldBeOneOfTwo_46 at h
  refine lv_if_eq (tgt := 51) hx hb dX4_couldBeOneOfTwo_46 (by decide) (fun c46 => ?_) (fun c46 => ?_)
  · replace h := wx_ift c46 h
    exact b_X4_couldBeOneOfTwo_51 B hb1 (K12 := K12) @hK12 @mK12 (k := k) hk h Z hS (lv_sub hl [0, 1, 2, 3] rfl)
  · replace h := wx_iff c46 h
    refine lv_iconst (v := 1) hx hb dX4_couldBeOneOfTwo_49 (by decide) ?_
    obtain ⟨rfl, rfl⟩ := wx_ret_ok h
    refine W.widen (k := mc) (n := 6464 * mc) (by omega) (by omega) ?_
    exact W.zret hx hb hr rfl (fun t ht hW => ⟨rfl, ⟨_, by rw [ht]; exact Z⟩, hS.F ht⟩) hS.2.2 dX4_couldBeOneOfTwo_50
set_option maxRecDepth 20000 in
set_option maxHeartbeats 4000000 in
theorem m_X4_couldBeOneOfTwo_12 {b1 : Nat} {r : Int32} {σ' : wx_St}  :
    ∀ {n : Nat} {x2 : Int32} {x3 : Int32} {σ : wx_St} (h : f_X4_couldBeOneOfTwo_12 b1 n x2 x3 σ = some (r, σ')), wx_n σ.2.2.2.2 ≤ wx_n σ'.2.2.2.2 := by
  intro n
  induction n with
  | zero => intro x2 x3 σ h; exact wx_no h
  | succ n ih =>
    intro x2 x3 σ h
    rw [f_X4_couldBeOneOfTwo_12] at h
    by_cases c15 : 64 ≤ x3
    · replace h := wx_ift c15 h
      obtain ⟨rfl, rfl⟩ := wx_ret_ok h
      exact Nat.le_refl _
    · replace h := wx_iff c15 h
      by_cases c20 : x3 = x2
      · replace h := wx_ift c20 h
        exact m_X4_couldBeOneOfTwo_51 (K12 := (f_X4_couldBeOneOfTwo_12 b1 n)) @ih h
      · replace h := wx_iff c20 h
        obtain ⟨v25, hc25, h⟩ := wx_o_ok h
        by_cases c28 : v25 = 0
        · replace h := wx_ift c28 h
          exact m_X4_couldBeOneOfTwo_51 (K12 := (f_X4_couldBeOneOfTwo_12 b1 n)) @ih h
        · replace h := wx_iff c28 h
          obtain ⟨v43, σ43, hc43, h⟩ := wx_b_ok h
          refine Nat.le_trans (m_X4_fits_0 hc43) ?_
          exact m_X4_couldBeOneOfTwo_46 (K12 := (f_X4_couldBeOneOfTwo_12 b1 n)) @ih h
set_option maxRecDepth 20000 in
set_option maxHeartbeats 4000000 in
theorem b_X4_couldBeOneOfTwo_12 (B : wx_B p s m args meth c cX4_couldBeOneOfTwo 4 (some .boolean) wsX4_couldBeOneOfTwo RX4 D ad ca A) {b1 : Nat}  (hb1 : b1 < 11) {r : Int32} {σ' : wx_St} {mc : Nat}   :
    ∀ {n : Nat} {x2 : Int32} {x3 : Int32} {σ : wx_St} {k : Nat} (hk : k + wx_n σ'.2.2.2.2 ≤ mc + wx_n σ.2.2.2.2)  (h : f_X4_couldBeOneOfTwo_12 b1 n x2 x3 σ = some (r, σ')) {rd : Nat → Nat} {H : Heap} {locs : List Loc} (Z : wx_Z D ad rd ca A σ H) (hS : va_S A s.heap H locs) {ls : Array Slot} (hl : lv_has ls 4 [(0, .ref (ad 12 99)), (1, .ref (ad b1 99)), (2, .int x2), (3, .int x3)]), W p l e ({ frames := 4, cells := mc, slots := 6464 * mc, locals := 106 } : Room) s m args below meth c H locs k (6464 * k) (MQ below (wx_QA D ad ca A (some (.int r)) σ') args s mc (6464 * mc) A) (F0 m 12 ls []) := by
  obtain ⟨hx, hb, hml, hr, hts, hown, hlk, hC, hA⟩ := id B
  intro n
  induction n with
  | zero => intro x2 x3 σ k hk  h rd H locs Z hS ls hl; exact wx_no h
  | succ n ih =>
    intro x2 x3 σ k hk  h rd H locs Z hS ls hl
    have hm := m_X4_couldBeOneOfTwo_12 h
    have mih : ∀ {x2 : Int32} {x3 : Int32} {σ : wx_St}, f_X4_couldBeOneOfTwo_12 b1 n x2 x3 σ = some (r, σ') → wx_n σ.2.2.2.2 ≤ wx_n σ'.2.2.2.2 := fun h => m_X4_couldBeOneOfTwo_12 h
    rw [f_X4_couldBeOneOfTwo_12] at h
    refine lv_iload_n hx hb dX4_couldBeOneOfTwo_12 rfl (lv_at hl 3 rfl) ?_
    refine lv_bipush (v := 64) hx hb dX4_couldBeOneOfTwo_13 (by decide) ?_
    refine lv_icmp_ge (tgt := 57) hx hb dX4_couldBeOneOfTwo_15 (by decide) (fun c15 => ?_) (fun c15 => ?_)
    · replace h := wx_ift c15 h
      refine lv_iconst (v := 0) hx hb dX4_couldBeOneOfTwo_57 (by decide) ?_
      obtain ⟨rfl, rfl⟩ := wx_ret_ok h
      refine W.widen (k := mc) (n := 6464 * mc) (by omega) (by omega) ?_
      exact W.zret hx hb hr rfl (fun t ht hW => ⟨rfl, ⟨_, by rw [ht]; exact Z⟩, hS.F ht⟩) hS.2.2 dX4_couldBeOneOfTwo_58
    · replace h := wx_iff c15 h
      refine lv_iload_n hx hb dX4_couldBeOneOfTwo_18 rfl (lv_at hl 3 rfl) ?_
      refine lv_iload_n hx hb dX4_couldBeOneOfTwo_19 rfl (lv_at hl 2 rfl) ?_
      refine lv_icmp_eq (tgt := 51) hx hb dX4_couldBeOneOfTwo_20 (by decide) (fun c20 => ?_) (fun c20 => ?_)
      · replace h := wx_ift c20 h
        exact b_X4_couldBeOneOfTwo_51 B hb1 (K12 := (f_X4_couldBeOneOfTwo_12 b1 n)) @ih mih (k := k) hk h Z hS (lv_sub hl [0, 1, 2, 3] rfl)
      · replace h := wx_iff c20 h
        refine lv_aload_n hx hb dX4_couldBeOneOfTwo_23 rfl (lv_at hl 1 rfl) ?_
        refine lv_iload_n hx hb dX4_couldBeOneOfTwo_24 rfl (lv_at hl 3 rfl) ?_
        obtain ⟨v25, hc25, h⟩ := wx_o_ok h
        refine wx_call (va_runVN (As := [.int x3]) (rest := []) ⟨hx, hb, hml, hown, hts⟩ (c_X0_isSuspect l (D := D) (ad := ad) (rd := rd) (ca := ca) (A := A) (σ := σ) (o := b1) hb1 hc25) ⟨va_cnB 1 hts gX4_couldBeOneOfTwo_X0_isSuspect_n22 rfl rfl rfl (hC.1.2.1 _ (List.mem_of_getElem? (i := 48) rfl)) (hts _ k_X4_couldBeOneOfTwo_w0) (by decide +kernel) ⟨Nat.le_of_ble_eq_true rfl, Nat.le_of_ble_eq_true rfl⟩, hts _ k_X4_couldBeOneOfTwo_w1, hts _ k_X4_couldBeOneOfTwo_w2⟩ (wx_preV hC Z hS hA (wx_sbo hb1 99) (rfl : vwCl[0]? = some (RX0, TX0, 13))) rfl rfl hl.1 rfl (lv_room (Nat.le_of_ble_eq_true rfl)) dX4_couldBeOneOfTwo_25 ⟨(by show k + 0 ≤ mc; omega), (by show 6464 * k + 0 ≤ 6464 * mc; omega)⟩) hS (fun H locs Z hS => ?_)
        refine lv_if_eq (tgt := 51) hx hb dX4_couldBeOneOfTwo_28 (by decide) (fun c28 => ?_) (fun c28 => ?_)
        · replace h := wx_ift c28 h
          exact b_X4_couldBeOneOfTwo_51 B hb1 (K12 := (f_X4_couldBeOneOfTwo_12 b1 n)) @ih mih (k := k) hk h Z hS (lv_sub hl [0, 1, 2, 3] rfl)
        · replace h := wx_iff c28 h
          refine lv_aload_n hx hb dX4_couldBeOneOfTwo_31 rfl (lv_at hl 0 rfl) ?_
          refine lv_aload_n hx hb dX4_couldBeOneOfTwo_32 rfl (lv_at hl 1 rfl) ?_
          refine lv_iload_n hx hb dX4_couldBeOneOfTwo_33 rfl (lv_at hl 2 rfl) ?_
          refine lv_iload_n hx hb dX4_couldBeOneOfTwo_34 rfl (lv_at hl 3 rfl) ?_
          refine va_mmin (own := RX4) hx hb (hml.trans hl.1.symm) hown (hts _ k_X4_couldBeOneOfTwo_w3) (hts _ k_X4_couldBeOneOfTwo_w4) (hts _ k_X4_couldBeOneOfTwo_w5) (hts _ k_X4_couldBeOneOfTwo_w6) (Nat.le_of_ble_eq_true rfl) (Nat.le_of_ble_eq_true rfl) (by show k ≤ mc; omega) (by show 6464 * k ≤ 6464 * mc; omega) dX4_couldBeOneOfTwo_35 ?_
          refine lv_iload_n hx hb dX4_couldBeOneOfTwo_38 rfl (lv_at hl 2 rfl) ?_
          refine lv_iload_n hx hb dX4_couldBeOneOfTwo_39 rfl (lv_at hl 3 rfl) ?_
          refine va_mmax (own := RX4) hx hb (hml.trans hl.1.symm) hown (hts _ k_X4_couldBeOneOfTwo_w7) (hts _ k_X4_couldBeOneOfTwo_w8) (hts _ k_X4_couldBeOneOfTwo_w5) (hts _ k_X4_couldBeOneOfTwo_w9) (Nat.le_of_ble_eq_true rfl) (Nat.le_of_ble_eq_true rfl) (by show k ≤ mc; omega) (by show 6464 * k ≤ 6464 * mc; omega) dX4_couldBeOneOfTwo_40 ?_
          obtain ⟨v43, σ43, hc43, h⟩ := wx_b_ok h
          have m1 := m_X4_fits_0 hc43
          have m2 := m_X4_couldBeOneOfTwo_46 (K12 := (f_X4_couldBeOneOfTwo_12 b1 n)) mih h
          refine wx_callA (va_runV (As := [.ref (ad b1 99), .int (if x3 < x2 then x3 else x2), .int (if x2 < x3 then x3 else x2)]) (rest := []) ⟨hx, hb, hml, hown, hts⟩ (c_X4_fits l (D := D) (ad := ad) (rd := rd) (ca := ca) (A := A) (σ := σ) (b1 := b1) hb1 hc43) (cwV 3 hts gX4_couldBeOneOfTwo_X4_fits rfl rfl rfl (by decide +kernel) ⟨Nat.le_of_ble_eq_true rfl, Nat.le_of_ble_eq_true rfl⟩) (wx_preV hC Z hS hA rfl (rfl : vwCl[4]? = some (RX4, TX4, 2))) rfl rfl hl.1 rfl (lv_room (Nat.le_of_ble_eq_true rfl)) dX4_couldBeOneOfTwo_43 ⟨(by show k + (wx_n σ43.2.2.2.2 - wx_n σ.2.2.2.2) ≤ mc; omega), (by show 6464 * k + 6464 * (wx_n σ43.2.2.2.2 - wx_n σ.2.2.2.2) ≤ 6464 * mc; omega)⟩) hS (fun rd H locs Z hS => ?_)
          refine W.widen (k := k + (wx_n σ43.2.2.2.2 - wx_n σ.2.2.2.2)) (n := 6464 * (k + (wx_n σ43.2.2.2.2 - wx_n σ.2.2.2.2))) (Nat.le_refl _) (by omega) ?_
          exact b_X4_couldBeOneOfTwo_46 B hb1 (K12 := (f_X4_couldBeOneOfTwo_12 b1 n)) @ih mih (k := k + (wx_n σ43.2.2.2.2 - wx_n σ.2.2.2.2)) (by omega) h Z hS (lv_sub hl [0, 1, 2, 3] rfl)
set_option maxRecDepth 20000 in
set_option maxHeartbeats 4000000 in
theorem m_X4_couldBeOneOfTwo_0 {b1 : Nat} {r : Int32} {σ' : wx_St}  {x2 : Int32} {σ : wx_St} (h : f_X4_couldBeOneOfTwo b1 x2 σ = some (r, σ')) : wx_n σ.2.2.2.2 ≤ wx_n σ'.2.2.2.2 := by
  unfold f_X4_couldBeOneOfTwo at h
  obtain ⟨v2, hc2, h⟩ := wx_o_ok h
  by_cases c5 : v2 = 0
  · replace h := wx_ift c5 h
    obtain ⟨rfl, rfl⟩ := wx_ret_ok h
    exact Nat.le_refl _
  · replace h := wx_iff c5 h
    exact m_X4_couldBeOneOfTwo_12 h
set_option maxRecDepth 20000 in
set_option maxHeartbeats 4000000 in
theorem b_X4_couldBeOneOfTwo_0 (B : wx_B p s m args meth c cX4_couldBeOneOfTwo 4 (some .boolean) wsX4_couldBeOneOfTwo RX4 D ad ca A) {b1 : Nat}  (hb1 : b1 < 11) {r : Int32} {σ' : wx_St} {mc : Nat}  {x2 : Int32} {σ : wx_St} {k : Nat} (hk : k + wx_n σ'.2.2.2.2 ≤ mc + wx_n σ.2.2.2.2)  (h : f_X4_couldBeOneOfTwo b1 x2 σ = some (r, σ')) {rd : Nat → Nat} {H : Heap} {locs : List Loc} (Z : wx_Z D ad rd ca A σ H) (hS : va_S A s.heap H locs) {ls : Array Slot} (hl : lv_has ls 4 [(0, .ref (ad 12 99)), (1, .ref (ad b1 99)), (2, .int x2)]) : W p l e ({ frames := 4, cells := mc, slots := 6464 * mc, locals := 106 } : Room) s m args below meth c H locs k (6464 * k) (MQ below (wx_QA D ad ca A (some (.int r)) σ') args s mc (6464 * mc) A) (F0 m 0 ls []) := by
  obtain ⟨hx, hb, hml, hr, hts, hown, hlk, hC, hA⟩ := id B
  have hm := m_X4_couldBeOneOfTwo_0 h
  unfold f_X4_couldBeOneOfTwo at h
  refine lv_aload_n hx hb dX4_couldBeOneOfTwo_0 rfl (lv_at hl 1 rfl) ?_
  refine lv_iload_n hx hb dX4_couldBeOneOfTwo_1 rfl (lv_at hl 2 rfl) ?_
  obtain ⟨v2, hc2, h⟩ := wx_o_ok h
  refine wx_call (va_runVN (As := [.int x2]) (rest := []) ⟨hx, hb, hml, hown, hts⟩ (c_X0_isSuspect l (D := D) (ad := ad) (rd := rd) (ca := ca) (A := A) (σ := σ) (o := b1) hb1 hc2) ⟨va_cnB 1 hts gX4_couldBeOneOfTwo_X0_isSuspect_n22 rfl rfl rfl (hC.1.2.1 _ (List.mem_of_getElem? (i := 48) rfl)) (hts _ k_X4_couldBeOneOfTwo_w0) (by decide +kernel) ⟨Nat.le_of_ble_eq_true rfl, Nat.le_of_ble_eq_true rfl⟩, hts _ k_X4_couldBeOneOfTwo_w1, hts _ k_X4_couldBeOneOfTwo_w2⟩ (wx_preV hC Z hS hA (wx_sbo hb1 99) (rfl : vwCl[0]? = some (RX0, TX0, 13))) rfl rfl hl.1 rfl (lv_room (Nat.le_of_ble_eq_true rfl)) dX4_couldBeOneOfTwo_2 ⟨(by show k + 0 ≤ mc; omega), (by show 6464 * k + 0 ≤ 6464 * mc; omega)⟩) hS (fun H locs Z hS => ?_)
  refine lv_if_ne (tgt := 10) hx hb dX4_couldBeOneOfTwo_5 (by decide) (fun c5 => ?_) (fun c5 => ?_)
  · replace h := wx_iff c5 h
    refine lv_iconst (v := 0) hx hb dX4_couldBeOneOfTwo_10 (by decide) ?_
    refine lv_istore_n (lv' := [(3, .int 0), (0, .ref (ad 12 99)), (1, .ref (ad b1 99)), (2, .int x2)]) hx hb dX4_couldBeOneOfTwo_11 rfl hl (by decide) rfl (fun ls hl => ?_)
    exact b_X4_couldBeOneOfTwo_12 B hb1 (k := k) hk h Z hS (lv_sub hl [1, 2, 3, 0] rfl)
  · replace h := wx_ift c5 h
    refine lv_iconst (v := 0) hx hb dX4_couldBeOneOfTwo_8 (by decide) ?_
    obtain ⟨rfl, rfl⟩ := wx_ret_ok h
    refine W.widen (k := mc) (n := 6464 * mc) (by omega) (by omega) ?_
    exact W.zret hx hb hr rfl (fun t ht hW => ⟨rfl, ⟨_, by rw [ht]; exact Z⟩, hS.F ht⟩) hS.2.2 dX4_couldBeOneOfTwo_9
set_option maxRecDepth 20000 in
theorem c_X4_couldBeOneOfTwo (l : Launch) {D : va_G} {ad : Nat → Nat → Nat} {rd : Nat → Nat} {ca : Nat → ClassId} {A : Nat → Prop} {σ : wx_St} {b1 : Nat}  (hb1 : b1 < 11) {x2 : Int32} {r : Int32} {σ' : wx_St} (h : f_X4_couldBeOneOfTwo b1 x2 σ = some (r, σ')) : wx_MA l yX4_couldBeOneOfTwo wsX4_couldBeOneOfTwo 4 106 D ad rd ca A [.ref (ad 12 99), .ref (ad b1 99), .int x2] σ (some (.int r)) σ' := by
  refine Met.ofW (cc := cX4_couldBeOneOfTwo) (maxL := 4) (ret := (some .boolean)) (by decide +kernel) rfl ?_
  intro p e s m args below meth c s₁ B0 hml hv
  obtain ⟨rfl, hC, Z, hA⟩ := hv
  have hl := lv_entry ([.ref (ad 12 99), .ref (ad b1 99), .int x2]) (n := 4) (Nat.le_of_ble_eq_true rfl)
  rw [lg_entry_eq]
  generalize (lg_sl ([.ref (ad 12 99), .ref (ad b1 99), .int x2]) ++ List.replicate (4 - (lg_sl ([.ref (ad 12 99), .ref (ad b1 99), .int x2])).length) Slot.unset).toArray = ls at hl ⊢
  exact b_X4_couldBeOneOfTwo_0 ⟨B0.exec, B0.bytes, hml, B0.returns, atoms_spec (ws := wsX4_couldBeOneOfTwo) B0.pre, findClass_of_methodNamed B0.named, B0.notSynchronized, hC, hA⟩ hb1 (k := 0) (by have hm := m_X4_couldBeOneOfTwo_0 h; omega) h Z va_S.rf hl
set_option maxRecDepth 20000 in
set_option maxHeartbeats 4000000 in
theorem m_X4_fitting_29 {b1 : Nat} {r : Int64} {σ' : wx_St} {K5 : Int64 → Int32 → wx_St → Option (Int64 × wx_St)} (mK5 : ∀ {x2 : Int64} {x4 : Int32} {σ : wx_St}, K5 x2 x4 σ = some (r, σ') → wx_n σ.2.2.2.2 ≤ wx_n σ'.2.2.2.2) {x2 : Int64} {x4 : Int32} {σ : wx_St} (h : f_X4_fitting_29 b1 K5 x2 x4 σ = some (r, σ')) : wx_n σ.2.2.2.2 ≤ wx_n σ'.2.2.2.2 := by
  unfold f_X4_fitting_29 at h
  exact mK5 h
set_option maxRecDepth 20000 in
set_option maxHeartbeats 4000000 in
theorem b_X4_fitting_29 (B : wx_B p s m args meth c cX4_fitting 5 (some .long) wsX4_fitting RX4 D ad ca A) {b1 : Nat}  (hb1 : b1 < 11) {r : Int64} {σ' : wx_St} {mc : Nat} {K5 : Int64 → Int32 → wx_St → Option (Int64 × wx_St)} (hK5 : ∀ {x2 : Int64} {x4 : Int32} {σ : wx_St} {k : Nat} (hk : k + wx_n σ'.2.2.2.2 ≤ mc + wx_n σ.2.2.2.2)  (h : K5 x2 x4 σ = some (r, σ')) {rd : Nat → Nat} {H : Heap} {locs : List Loc} (Z : wx_Z D ad rd ca A σ H) (hS : va_S A s.heap H locs) {ls : Array Slot} (hl : lv_has ls 5 [(0, .ref (ad 12 99)), (1, .ref (ad b1 99)), (2, .long x2), (4, .int x4)]), W p l e ({ frames := 5, cells := mc, slots := 6464 * mc, locals := 128 } : Room) s m args below meth c H locs k (6464 * k) (MQ below (wx_QA D ad ca A (some (.long r)) σ') args s mc (6464 * mc) A) (F0 m 5 ls [])) (mK5 : ∀ {x2 : Int64} {x4 : Int32} {σ : wx_St}, K5 x2 x4 σ = some (r, σ') → wx_n σ.2.2.2.2 ≤ wx_n σ'.2.2.2.2) {x2 : Int64} {x4 : Int32} {σ : wx_St} {k : Nat} (hk : k + wx_n σ'.2.2.2.2 ≤ mc + wx_n σ.2.2.2.2)  (h : f_X4_fitting_29 b1 K5 x2 x4 σ = some (r, σ')) {rd : Nat → Nat} {H : Heap} {locs : List Loc} (Z : wx_Z D ad rd ca A σ H) (hS : va_S A s.heap H locs) {ls : Array Slot} (hl : lv_has ls 5 [(0, .ref (ad 12 99)), (1, .ref (ad b1 99)), (2, .long x2), (4, .int x4)]) : W p l e ({ frames := 5, cells := mc, slots := 6464 * mc, locals := 128 } : Room) s m args below meth c H locs k (6464 * k) (MQ below (wx_QA D ad ca A (some (.long r)) σ') args s mc (6464 * mc) A) (F0 m 29 ls []) := by
  obtain ⟨hx, hb, hml, hr, hts, hown, hlk, hC, hA⟩ := id B
  have hm := m_X4_fitting_29 (K5 := K5) @mK5 h
  unfold f_X4_fitting_29 at h
  refine lv_iinc (v := x4 + 1) (lv' := [(4, .int (x4 + 1)), (0, .ref (ad 12 99)), (1, .ref (ad b1 99)), (2, .long x2)]) hx hb dX4_fitting_29 hl (k := 3) rfl rfl (by decide) rfl (fun ls hl => ?_)
  refine lv_goto (tgt := 5) hx hb dX4_fitting_32 (by decide) ?_
  exact hK5 (k := k) hk h Z hS (lv_sub hl [1, 2, 3, 0] rfl)
set_option maxRecDepth 20000 in
set_option maxHeartbeats 4000000 in
theorem m_X4_fitting_19 {b1 : Nat} {r : Int64} {σ' : wx_St} {K5 : Int64 → Int32 → wx_St → Option (Int64 × wx_St)} (mK5 : ∀ {x2 : Int64} {x4 : Int32} {σ : wx_St}, K5 x2 x4 σ = some (r, σ') → wx_n σ.2.2.2.2 ≤ wx_n σ'.2.2.2.2) {x2 : Int64} {x4 : Int32} {y0 : Int32} {σ : wx_St} (h : f_X4_fitting_19 b1 K5 x2 x4 y0 σ = some (r, σ')) : wx_n σ.2.2.2.2 ≤ wx_n σ'.2.2.2.2 := by
  unfold f_X4_fitting_19 at h
  by_cases c19 : y0 = 0
  · replace h := wx_ift c19 h
    exact m_X4_fitting_29 (K5 := K5) @mK5 h
  · replace h := wx_iff c19 h
    exact m_X4_fitting_29 (K5 := K5) @mK5 h
set_option maxRecDepth 20000 in
set_option maxHeartbeats 4000000 in
theorem b_X4_fitting_19 (B : wx_B p s m args meth c cX4_fitting 5 (some .long) wsX4_fitting RX4 D ad ca A) {b1 : Nat}  (hb1 : b1 < 11) {r : Int64} {σ' : wx_St} {mc : Nat} {K5 : Int64 → Int32 → wx_St → Option (Int64 × wx_St)} (hK5 : ∀ {x2 : Int64} {x4 : Int32} {σ : wx_St} {k : Nat} (hk : k + wx_n σ'.2.2.2.2 ≤ mc + wx_n σ.2.2.2.2)  (h : K5 x2 x4 σ = some (r, σ')) {rd : Nat → Nat} {H : Heap} {locs : List Loc} (Z : wx_Z D ad rd ca A σ H) (hS : va_S A s.heap H locs) {ls : Array Slot} (hl : lv_has ls 5 [(0, .ref (ad 12 99)), (1, .ref (ad b1 99)), (2, .long x2), (4, .int x4)]), W p l e ({ frames := 5, cells := mc, slots := 6464 * mc, locals := 128 } : Room) s m args below meth c H locs k (6464 * k) (MQ below (wx_QA D ad ca A (some (.long r)) σ') args s mc (6464 * mc) A) (F0 m 5 ls [])) (mK5 : ∀ {x2 : Int64} {x4 : Int32} {σ : wx_St}, K5 x2 x4 σ = some (r, σ') → wx_n σ.2.2.2.2 ≤ wx_n σ'.2.2.2.2) {x2 : Int64} {x4 : Int32} {y0 : Int32} {σ : wx_St} {k : Nat} (hk : k + wx_n σ'.2.2.2.2 ≤ mc + wx_n σ.2.2.2.2)  (h : f_X4_fitting_19 b1 K5 x2 x4 y0 σ = some (r, σ')) {rd : Nat → Nat} {H : Heap} {locs : List Loc} (Z : wx_Z D ad rd ca A σ H) (hS : va_S A s.heap H locs) {ls : Array Slot} (hl : lv_has ls 5 [(0, .ref (ad 12 99)), (1, .ref (ad b1 99)), (2, .long x2), (4, .int x4)]) : W p l e ({ frames := 5, cells := mc, slots := 6464 * mc, locals := 128 } : Room) s m args below meth c H locs k (6464 * k) (MQ below (wx_QA D ad ca A (some (.long r)) σ') args s mc (6464 * mc) A) (F0 m 19 ls [.int y0]) := by
  obtain ⟨hx, hb, hml, hr, hts, hown, hlk, hC, hA⟩ := id B
  have hm := m_X4_fitting_19 (K5 := K5) @mK5 h
  unfold f_X4_fitting_19 at h
  refine lv_if_eq (tgt := 29) hx hb dX4_fitting_19 (by decide) (fun c19 => ?_) (fun c19 => ?_)
  · replace h := wx_ift c19 h
    exact b_X4_fitting_29 B hb1 (K5 := K5) @hK5 @mK5 (k := k) hk h Z hS (lv_sub hl [0, 1, 2, 3] rfl)
  · replace h := wx_iff c19 h
    refine lv_lload_n hx hb dX4_fitting_22 rfl (lv_at hl 2 rfl) ?_
    refine lv_lconst (v := 1) hx hb dX4_fitting_23 (by decide) ?_
    refine lv_iload hx hb dX4_fitting_24 (lv_at hl 3 rfl) ?_
    refine lv_lshl (v := ((1 : Int64) <<< (x4.toInt64 &&& 63))) hx hb dX4_fitting_26 rfl ?_
    refine lv_lor hx hb dX4_fitting_27 ?_
    refine lv_lstore_n (lv' := [(2, .long (x2 ||| ((1 : Int64) <<< (x4.toInt64 &&& 63)))), (0, .ref (ad 12 99)), (1, .ref (ad b1 99)), (4, .int x4)]) hx hb dX4_fitting_28 rfl hl (by decide) rfl (fun ls hl => ?_)
    exact b_X4_fitting_29 B hb1 (K5 := K5) @hK5 @mK5 (k := k) hk h Z hS (lv_sub hl [1, 2, 0, 3] rfl)
set_option maxRecDepth 20000 in
set_option maxHeartbeats 4000000 in
theorem m_X4_fitting_5 {b1 : Nat} {r : Int64} {σ' : wx_St}  :
    ∀ {n : Nat} {x2 : Int64} {x4 : Int32} {σ : wx_St} (h : f_X4_fitting_5 b1 n x2 x4 σ = some (r, σ')), wx_n σ.2.2.2.2 ≤ wx_n σ'.2.2.2.2 := by
  intro n
  induction n with
  | zero => intro x2 x4 σ h; exact wx_no h
  | succ n ih =>
    intro x2 x4 σ h
    rw [f_X4_fitting_5] at h
    by_cases c9 : 64 ≤ x4
    · replace h := wx_ift c9 h
      obtain ⟨rfl, rfl⟩ := wx_ret_ok h
      exact Nat.le_refl _
    · replace h := wx_iff c9 h
      obtain ⟨v16, σ16, hc16, h⟩ := wx_b_ok h
      refine Nat.le_trans (m_X4_couldBe_0 hc16) ?_
      exact m_X4_fitting_19 (K5 := (f_X4_fitting_5 b1 n)) @ih h
set_option maxRecDepth 20000 in
set_option maxHeartbeats 4000000 in
theorem b_X4_fitting_5 (B : wx_B p s m args meth c cX4_fitting 5 (some .long) wsX4_fitting RX4 D ad ca A) {b1 : Nat}  (hb1 : b1 < 11) {r : Int64} {σ' : wx_St} {mc : Nat}   :
    ∀ {n : Nat} {x2 : Int64} {x4 : Int32} {σ : wx_St} {k : Nat} (hk : k + wx_n σ'.2.2.2.2 ≤ mc + wx_n σ.2.2.2.2)  (h : f_X4_fitting_5 b1 n x2 x4 σ = some (r, σ')) {rd : Nat → Nat} {H : Heap} {locs : List Loc} (Z : wx_Z D ad rd ca A σ H) (hS : va_S A s.heap H locs) {ls : Array Slot} (hl : lv_has ls 5 [(0, .ref (ad 12 99)), (1, .ref (ad b1 99)), (2, .long x2), (4, .int x4)]), W p l e ({ frames := 5, cells := mc, slots := 6464 * mc, locals := 128 } : Room) s m args below meth c H locs k (6464 * k) (MQ below (wx_QA D ad ca A (some (.long r)) σ') args s mc (6464 * mc) A) (F0 m 5 ls []) := by
  obtain ⟨hx, hb, hml, hr, hts, hown, hlk, hC, hA⟩ := id B
  intro n
  induction n with
  | zero => intro x2 x4 σ k hk  h rd H locs Z hS ls hl; exact wx_no h
  | succ n ih =>
    intro x2 x4 σ k hk  h rd H locs Z hS ls hl
    have hm := m_X4_fitting_5 h
    have mih : ∀ {x2 : Int64} {x4 : Int32} {σ : wx_St}, f_X4_fitting_5 b1 n x2 x4 σ = some (r, σ') → wx_n σ.2.2.2.2 ≤ wx_n σ'.2.2.2.2 := fun h => m_X4_fitting_5 h
    rw [f_X4_fitting_5] at h
    refine lv_iload hx hb dX4_fitting_5 (lv_at hl 3 rfl) ?_
    refine lv_bipush (v := 64) hx hb dX4_fitting_7 (by decide) ?_
    refine lv_icmp_ge (tgt := 35) hx hb dX4_fitting_9 (by decide) (fun c9 => ?_) (fun c9 => ?_)
    · replace h := wx_ift c9 h
      refine lv_lload_n hx hb dX4_fitting_35 rfl (lv_at hl 2 rfl) ?_
      obtain ⟨rfl, rfl⟩ := wx_ret_ok h
      refine W.widen (k := mc) (n := 6464 * mc) (by omega) (by omega) ?_
      exact W.lret hx hb hr (fun t ht hW => ⟨rfl, ⟨_, by rw [ht]; exact Z⟩, hS.F ht⟩) hS.2.2 dX4_fitting_36
    · replace h := wx_iff c9 h
      refine lv_aload_n hx hb dX4_fitting_12 rfl (lv_at hl 0 rfl) ?_
      refine lv_aload_n hx hb dX4_fitting_13 rfl (lv_at hl 1 rfl) ?_
      refine lv_iload hx hb dX4_fitting_14 (lv_at hl 3 rfl) ?_
      obtain ⟨v16, σ16, hc16, h⟩ := wx_b_ok h
      have m1 := m_X4_couldBe_0 hc16
      have m2 := m_X4_fitting_19 (K5 := (f_X4_fitting_5 b1 n)) mih h
      refine wx_callA (va_runV (As := [.ref (ad b1 99), .int x4]) (rest := []) ⟨hx, hb, hml, hown, hts⟩ (c_X4_couldBe l (D := D) (ad := ad) (rd := rd) (ca := ca) (A := A) (σ := σ) (b1 := b1) hb1 hc16) (cwV 2 hts gX4_fitting_X4_couldBe rfl rfl rfl (by decide +kernel) ⟨Nat.le_of_ble_eq_true rfl, Nat.le_of_ble_eq_true rfl⟩) (wx_preV hC Z hS hA rfl (rfl : vwCl[4]? = some (RX4, TX4, 2))) rfl rfl hl.1 rfl (lv_room (Nat.le_of_ble_eq_true rfl)) dX4_fitting_16 ⟨(by show k + (wx_n σ16.2.2.2.2 - wx_n σ.2.2.2.2) ≤ mc; omega), (by show 6464 * k + 6464 * (wx_n σ16.2.2.2.2 - wx_n σ.2.2.2.2) ≤ 6464 * mc; omega)⟩) hS (fun rd H locs Z hS => ?_)
      refine W.widen (k := k + (wx_n σ16.2.2.2.2 - wx_n σ.2.2.2.2)) (n := 6464 * (k + (wx_n σ16.2.2.2.2 - wx_n σ.2.2.2.2))) (Nat.le_refl _) (by omega) ?_
      exact b_X4_fitting_19 B hb1 (K5 := (f_X4_fitting_5 b1 n)) @ih mih (k := k + (wx_n σ16.2.2.2.2 - wx_n σ.2.2.2.2)) (by omega) h Z hS (lv_sub hl [0, 1, 2, 3] rfl)
set_option maxRecDepth 20000 in
set_option maxHeartbeats 4000000 in
theorem m_X4_fitting_0 {b1 : Nat} {r : Int64} {σ' : wx_St}   {σ : wx_St} (h : f_X4_fitting b1 σ = some (r, σ')) : wx_n σ.2.2.2.2 ≤ wx_n σ'.2.2.2.2 := by
  unfold f_X4_fitting at h
  exact m_X4_fitting_5 h
set_option maxRecDepth 20000 in
set_option maxHeartbeats 4000000 in
theorem b_X4_fitting_0 (B : wx_B p s m args meth c cX4_fitting 5 (some .long) wsX4_fitting RX4 D ad ca A) {b1 : Nat}  (hb1 : b1 < 11) {r : Int64} {σ' : wx_St} {mc : Nat}   {σ : wx_St} {k : Nat} (hk : k + wx_n σ'.2.2.2.2 ≤ mc + wx_n σ.2.2.2.2)  (h : f_X4_fitting b1 σ = some (r, σ')) {rd : Nat → Nat} {H : Heap} {locs : List Loc} (Z : wx_Z D ad rd ca A σ H) (hS : va_S A s.heap H locs) {ls : Array Slot} (hl : lv_has ls 5 [(0, .ref (ad 12 99)), (1, .ref (ad b1 99))]) : W p l e ({ frames := 5, cells := mc, slots := 6464 * mc, locals := 128 } : Room) s m args below meth c H locs k (6464 * k) (MQ below (wx_QA D ad ca A (some (.long r)) σ') args s mc (6464 * mc) A) (F0 m 0 ls []) := by
  obtain ⟨hx, hb, hml, hr, hts, hown, hlk, hC, hA⟩ := id B
  have hm := m_X4_fitting_0 h
  unfold f_X4_fitting at h
  refine lv_lconst (v := 0) hx hb dX4_fitting_0 (by decide) ?_
  refine lv_lstore_n (lv' := [(2, .long (0 : Int64)), (0, .ref (ad 12 99)), (1, .ref (ad b1 99))]) hx hb dX4_fitting_1 rfl hl (by decide) rfl (fun ls hl => ?_)
  refine lv_iconst (v := 0) hx hb dX4_fitting_2 (by decide) ?_
  refine lv_istore (lv' := [(4, .int 0), (2, .long (0 : Int64)), (0, .ref (ad 12 99)), (1, .ref (ad b1 99))]) hx hb dX4_fitting_3 hl (by decide) rfl (fun ls hl => ?_)
  exact b_X4_fitting_5 B hb1 (k := k) hk h Z hS (lv_sub hl [2, 3, 1, 0] rfl)
set_option maxRecDepth 20000 in
theorem c_X4_fitting (l : Launch) {D : va_G} {ad : Nat → Nat → Nat} {rd : Nat → Nat} {ca : Nat → ClassId} {A : Nat → Prop} {σ : wx_St} {b1 : Nat}  (hb1 : b1 < 11)  {r : Int64} {σ' : wx_St} (h : f_X4_fitting b1 σ = some (r, σ')) : wx_MA l yX4_fitting wsX4_fitting 5 128 D ad rd ca A [.ref (ad 12 99), .ref (ad b1 99)] σ (some (.long r)) σ' := by
  refine Met.ofW (cc := cX4_fitting) (maxL := 5) (ret := (some .long)) (by decide +kernel) rfl ?_
  intro p e s m args below meth c s₁ B0 hml hv
  obtain ⟨rfl, hC, Z, hA⟩ := hv
  have hl := lv_entry ([.ref (ad 12 99), .ref (ad b1 99)]) (n := 5) (Nat.le_of_ble_eq_true rfl)
  rw [lg_entry_eq]
  generalize (lg_sl ([.ref (ad 12 99), .ref (ad b1 99)]) ++ List.replicate (5 - (lg_sl ([.ref (ad 12 99), .ref (ad b1 99)])).length) Slot.unset).toArray = ls at hl ⊢
  exact b_X4_fitting_0 ⟨B0.exec, B0.bytes, hml, B0.returns, atoms_spec (ws := wsX4_fitting) B0.pre, findClass_of_methodNamed B0.named, B0.notSynchronized, hC, hA⟩ hb1 (k := 0) (by have hm := m_X4_fitting_0 h; omega) h Z va_S.rf hl
theorem i_X4_isAmong_4 : ∀ w ∈ wsX40, w ∈ wsX4_isAmong := by decide +kernel
theorem k_X4_isAmong_w0 : Cond.fieldLink RX4 18 "WarmProbes$Suspicion" "reads" "[I" ∈ wsX4_isAmong := by decide +kernel
set_option maxRecDepth 20000 in
set_option maxHeartbeats 4000000 in
theorem b_X4_isAmong_2 (B : wx_B p s m args meth c cX4_isAmong 4 (some .boolean) wsX4_isAmong RX4 D ad ca A)    {r : Int32} {σ : wx_St}   :
    ∀ {n : Nat} {x1 : Int32} {x2 : Int32} {x3 : Int32}   (h : f_X4_isAmong_2 n x1 x2 x3 σ = some r) {H : Heap} {locs : List Loc} (Z : wx_Z D ad rd ca A σ H) (hS : va_S A s.heap H locs) {ls : Array Slot} (hl : lv_has ls 4 [(0, .ref (ad 12 99)), (1, .int x1), (2, .int x2), (3, .int x3)]), W p l e ({ frames := 0, cells := 0, slots := 0, locals := 0 } : Room) s m args below meth c H locs 0 0 (MQ below (wx_Q D ad rd ca A (some (.int r)) σ) args s 0 0 A) (F0 m 2 ls []) := by
  obtain ⟨hx, hb, hml, hr, hts, hown, hlk, hC, hA⟩ := id B
  intro n
  induction n with
  | zero => intro x1 x2 x3   h H locs Z hS ls hl; exact wx_no h
  | succ n ih =>
    intro x1 x2 x3   h H locs Z hS ls hl
    rw [f_X4_isAmong_2] at h
    refine lv_iload_n hx hb dX4_isAmong_2 rfl (lv_at hl 3 rfl) ?_
    refine lv_iload_n hx hb dX4_isAmong_3 rfl (lv_at hl 1 rfl) ?_
    refine lv_icmp_ge (tgt := 25) hx hb dX4_isAmong_4 (by decide) (fun c4 => ?_) (fun c4 => ?_)
    · replace h := wx_ift c4 h
      refine lv_iconst (v := 0) hx hb dX4_isAmong_25 (by decide) ?_
      obtain rfl := Option.some.inj h
      exact W.zret hx hb hr rfl (fun t ht hW => ⟨rfl, by rw [ht]; exact Z, hS.F ht⟩) hS.2.2 dX4_isAmong_26
    · replace h := wx_iff c4 h
      refine lv_aload_n hx hb dX4_isAmong_7 rfl (lv_at hl 0 rfl) ?_
      refine wx_get (own := RX4) hx hb hts i_X4_isAmong_4 hown hC.1 Z (o := 12) (ci := 4) rfl (rfl : vwCl[4]? = some (RX4, TX4, 2)) 1 (by decide) (hts _ k_X4_isAmong_w0) (fun _ h9 => h9) (f := 0) rfl rfl dX4_isAmong_8 ?_
      refine lv_iload_n hx hb dX4_isAmong_11 rfl (lv_at hl 3 rfl) ?_
      obtain ⟨v12, ev12, iv12, h⟩ := wx_rI_ok h
      refine wx_iald hx hb hC.1 Z (o := 12) (k := 1) (n := 64) rfl rfl iv12 dX4_isAmong_12 ev12 ?_
      refine lv_iload_n hx hb dX4_isAmong_13 rfl (lv_at hl 2 rfl) ?_
      refine lv_icmp_ne (tgt := 19) hx hb dX4_isAmong_14 (by decide) (fun c14 => ?_) (fun c14 => ?_)
      · replace h := wx_iff c14 h
        refine lv_iinc (v := x3 + 1) (lv' := [(3, .int (x3 + 1)), (0, .ref (ad 12 99)), (1, .int x1), (2, .int x2)]) hx hb dX4_isAmong_19 hl (k := 3) rfl rfl (by decide) rfl (fun ls hl => ?_)
        refine lv_goto (tgt := 2) hx hb dX4_isAmong_22 (by decide) ?_
        exact ih h Z hS (lv_sub hl [1, 2, 3, 0] rfl)
      · replace h := wx_ift c14 h
        refine lv_iconst (v := 1) hx hb dX4_isAmong_17 (by decide) ?_
        obtain rfl := Option.some.inj h
        exact W.zret hx hb hr rfl (fun t ht hW => ⟨rfl, by rw [ht]; exact Z, hS.F ht⟩) hS.2.2 dX4_isAmong_18
set_option maxRecDepth 20000 in
set_option maxHeartbeats 4000000 in
theorem b_X4_isAmong_0 (B : wx_B p s m args meth c cX4_isAmong 4 (some .boolean) wsX4_isAmong RX4 D ad ca A)    {r : Int32} {σ : wx_St}  {x1 : Int32} {x2 : Int32}   (h : f_X4_isAmong x1 x2 σ = some r) {H : Heap} {locs : List Loc} (Z : wx_Z D ad rd ca A σ H) (hS : va_S A s.heap H locs) {ls : Array Slot} (hl : lv_has ls 4 [(0, .ref (ad 12 99)), (1, .int x1), (2, .int x2)]) : W p l e ({ frames := 0, cells := 0, slots := 0, locals := 0 } : Room) s m args below meth c H locs 0 0 (MQ below (wx_Q D ad rd ca A (some (.int r)) σ) args s 0 0 A) (F0 m 0 ls []) := by
  obtain ⟨hx, hb, hml, hr, hts, hown, hlk, hC, hA⟩ := id B
  unfold f_X4_isAmong at h
  refine lv_iconst (v := 0) hx hb dX4_isAmong_0 (by decide) ?_
  refine lv_istore_n (lv' := [(3, .int 0), (0, .ref (ad 12 99)), (1, .int x1), (2, .int x2)]) hx hb dX4_isAmong_1 rfl hl (by decide) rfl (fun ls hl => ?_)
  exact b_X4_isAmong_2 B h Z hS (lv_sub hl [1, 2, 3, 0] rfl)
set_option maxRecDepth 20000 in
theorem c_X4_isAmong (l : Launch) {D : va_G} {ad : Nat → Nat → Nat} {rd : Nat → Nat} {ca : Nat → ClassId} {A : Nat → Prop} {σ : wx_St}    {x1 : Int32} {x2 : Int32} {r : Int32} (h : f_X4_isAmong x1 x2 σ = some r) : wx_M l yX4_isAmong wsX4_isAmong 0 0 D ad rd ca A [.ref (ad 12 99), .int x1, .int x2] σ (some (.int r)) σ := by
  refine Met.ofW (cc := cX4_isAmong) (maxL := 4) (ret := (some .boolean)) (by decide +kernel) rfl ?_
  intro p e s m args below meth c s₁ B0 hml hv
  obtain ⟨rfl, hC, Z, hA⟩ := hv
  have hl := lv_entry ([.ref (ad 12 99), .int x1, .int x2]) (n := 4) (Nat.le_of_ble_eq_true rfl)
  rw [lg_entry_eq]
  generalize (lg_sl ([.ref (ad 12 99), .int x1, .int x2]) ++ List.replicate (4 - (lg_sl ([.ref (ad 12 99), .int x1, .int x2])).length) Slot.unset).toArray = ls at hl ⊢
  exact b_X4_isAmong_0 ⟨B0.exec, B0.bytes, hml, B0.returns, atoms_spec (ws := wsX4_isAmong) B0.pre, findClass_of_methodNamed B0.named, B0.notSynchronized, hC, hA⟩   h Z va_S.rf hl
theorem k_X4_pairs_w0 : Cond.initialized RX0 ∈ wsX4_pairs := by decide +kernel
theorem k_X4_pairs_w1 : Cond.instanceMethod yX0_suspects ∈ wsX4_pairs := by decide +kernel
theorem k_X4_pairs_w2 : Cond.selects RX0 yX0_suspects yX0_suspects ∈ wsX4_pairs := by decide +kernel
theorem k_X4_pairs_w3 : Cond.initialized RX5 ∈ wsX4_pairs := by decide +kernel
theorem k_X4_pairs_w4 : Cond.static yX5_isIn ∈ wsX4_pairs := by decide +kernel
set_option maxRecDepth 20000 in
set_option maxHeartbeats 4000000 in
theorem m_X4_pairs_64 {b1 : Nat} {r : Int32} {σ' : wx_St} {K11 : Int64 → Int32 → Int32 → wx_St → Option (Int32 × wx_St)} (mK11 : ∀ {x2 : Int64} {x4 : Int32} {x5 : Int32} {σ : wx_St}, K11 x2 x4 x5 σ = some (r, σ') → wx_n σ.2.2.2.2 ≤ wx_n σ'.2.2.2.2) {K24 : Int64 → Int32 → Int32 → Int32 → wx_St → Option (Int32 × wx_St)} (mK24 : ∀ {x2 : Int64} {x4 : Int32} {x5 : Int32} {x6 : Int32} {σ : wx_St}, K24 x2 x4 x5 x6 σ = some (r, σ') → wx_n σ.2.2.2.2 ≤ wx_n σ'.2.2.2.2) {x2 : Int64} {x4 : Int32} {x5 : Int32} {x6 : Int32} {σ : wx_St} (h : f_X4_pairs_64 b1 K11 K24 x2 x4 x5 x6 σ = some (r, σ')) : wx_n σ.2.2.2.2 ≤ wx_n σ'.2.2.2.2 := by
  unfold f_X4_pairs_64 at h
  exact mK24 h
set_option maxRecDepth 20000 in
set_option maxHeartbeats 4000000 in
theorem b_X4_pairs_64 (B : wx_B p s m args meth c cX4_pairs 7 (some .int) wsX4_pairs RX4 D ad ca A) {b1 : Nat}  (hb1 : b1 < 11) {r : Int32} {σ' : wx_St} {mc : Nat} {K11 : Int64 → Int32 → Int32 → wx_St → Option (Int32 × wx_St)} (hK11 : ∀ {x2 : Int64} {x4 : Int32} {x5 : Int32} {σ : wx_St} {k : Nat} (hk : k + wx_n σ'.2.2.2.2 ≤ mc + wx_n σ.2.2.2.2)  (h : K11 x2 x4 x5 σ = some (r, σ')) {rd : Nat → Nat} {H : Heap} {locs : List Loc} (Z : wx_Z D ad rd ca A σ H) (hS : va_S A s.heap H locs) {ls : Array Slot} (hl : lv_has ls 7 [(0, .ref (ad 12 99)), (1, .ref (ad b1 99)), (2, .long x2), (4, .int x4), (5, .int x5)]), W p l e ({ frames := 4, cells := mc, slots := 6464 * mc, locals := 106 } : Room) s m args below meth c H locs k (6464 * k) (MQ below (wx_QA D ad ca A (some (.int r)) σ') args s mc (6464 * mc) A) (F0 m 11 ls [])) (mK11 : ∀ {x2 : Int64} {x4 : Int32} {x5 : Int32} {σ : wx_St}, K11 x2 x4 x5 σ = some (r, σ') → wx_n σ.2.2.2.2 ≤ wx_n σ'.2.2.2.2) {K24 : Int64 → Int32 → Int32 → Int32 → wx_St → Option (Int32 × wx_St)} (hK24 : ∀ {x2 : Int64} {x4 : Int32} {x5 : Int32} {x6 : Int32} {σ : wx_St} {k : Nat} (hk : k + wx_n σ'.2.2.2.2 ≤ mc + wx_n σ.2.2.2.2)  (h : K24 x2 x4 x5 x6 σ = some (r, σ')) {rd : Nat → Nat} {H : Heap} {locs : List Loc} (Z : wx_Z D ad rd ca A σ H) (hS : va_S A s.heap H locs) {ls : Array Slot} (hl : lv_has ls 7 [(0, .ref (ad 12 99)), (1, .ref (ad b1 99)), (2, .long x2), (4, .int x4), (5, .int x5), (6, .int x6)]), W p l e ({ frames := 4, cells := mc, slots := 6464 * mc, locals := 106 } : Room) s m args below meth c H locs k (6464 * k) (MQ below (wx_QA D ad ca A (some (.int r)) σ') args s mc (6464 * mc) A) (F0 m 24 ls [])) (mK24 : ∀ {x2 : Int64} {x4 : Int32} {x5 : Int32} {x6 : Int32} {σ : wx_St}, K24 x2 x4 x5 x6 σ = some (r, σ') → wx_n σ.2.2.2.2 ≤ wx_n σ'.2.2.2.2) {x2 : Int64} {x4 : Int32} {x5 : Int32} {x6 : Int32} {σ : wx_St} {k : Nat} (hk : k + wx_n σ'.2.2.2.2 ≤ mc + wx_n σ.2.2.2.2)  (h : f_X4_pairs_64 b1 K11 K24 x2 x4 x5 x6 σ = some (r, σ')) {rd : Nat → Nat} {H : Heap} {locs : List Loc} (Z : wx_Z D ad rd ca A σ H) (hS : va_S A s.heap H locs) {ls : Array Slot} (hl : lv_has ls 7 [(0, .ref (ad 12 99)), (1, .ref (ad b1 99)), (2, .long x2), (4, .int x4), (5, .int x5), (6, .int x6)]) : W p l e ({ frames := 4, cells := mc, slots := 6464 * mc, locals := 106 } : Room) s m args below meth c H locs k (6464 * k) (MQ below (wx_QA D ad ca A (some (.int r)) σ') args s mc (6464 * mc) A) (F0 m 64 ls []) := by
  obtain ⟨hx, hb, hml, hr, hts, hown, hlk, hC, hA⟩ := id B
  have hm := m_X4_pairs_64 (K11 := K11) @mK11 (K24 := K24) @mK24 h
  unfold f_X4_pairs_64 at h
  refine lv_iinc (v := x6 + 1) (lv' := [(6, .int (x6 + 1)), (0, .ref (ad 12 99)), (1, .ref (ad b1 99)), (2, .long x2), (4, .int x4), (5, .int x5)]) hx hb dX4_pairs_64 hl (k := 5) rfl rfl (by decide) rfl (fun ls hl => ?_)
  refine lv_goto (tgt := 24) hx hb dX4_pairs_67 (by decide) ?_
  exact hK24 (k := k) hk h Z hS (lv_sub hl [1, 2, 3, 4, 5, 0] rfl)
set_option maxRecDepth 20000 in
set_option maxHeartbeats 4000000 in
theorem m_X4_pairs_58 {b1 : Nat} {r : Int32} {σ' : wx_St} {K11 : Int64 → Int32 → Int32 → wx_St → Option (Int32 × wx_St)} (mK11 : ∀ {x2 : Int64} {x4 : Int32} {x5 : Int32} {σ : wx_St}, K11 x2 x4 x5 σ = some (r, σ') → wx_n σ.2.2.2.2 ≤ wx_n σ'.2.2.2.2) {K24 : Int64 → Int32 → Int32 → Int32 → wx_St → Option (Int32 × wx_St)} (mK24 : ∀ {x2 : Int64} {x4 : Int32} {x5 : Int32} {x6 : Int32} {σ : wx_St}, K24 x2 x4 x5 x6 σ = some (r, σ') → wx_n σ.2.2.2.2 ≤ wx_n σ'.2.2.2.2) {x2 : Int64} {x4 : Int32} {x5 : Int32} {x6 : Int32} {y0 : Int32} {σ : wx_St} (h : f_X4_pairs_58 b1 K11 K24 x2 x4 x5 x6 y0 σ = some (r, σ')) : wx_n σ.2.2.2.2 ≤ wx_n σ'.2.2.2.2 := by
  unfold f_X4_pairs_58 at h
  by_cases c58 : y0 = 0
  · replace h := wx_ift c58 h
    exact m_X4_pairs_64 (K11 := K11) @mK11 (K24 := K24) @mK24 h
  · replace h := wx_iff c58 h
    exact m_X4_pairs_64 (K11 := K11) @mK11 (K24 := K24) @mK24 h
set_option maxRecDepth 20000 in
set_option maxHeartbeats 4000000 in
theorem b_X4_pairs_58 (B : wx_B p s m args meth c cX4_pairs 7 (some .int) wsX4_pairs RX4 D ad ca A) {b1 : Nat}  (hb1 : b1 < 11) {r : Int32} {σ' : wx_St} {mc : Nat} {K11 : Int64 → Int32 → Int32 → wx_St → Option (Int32 × wx_St)} (hK11 : ∀ {x2 : Int64} {x4 : Int32} {x5 : Int32} {σ : wx_St} {k : Nat} (hk : k + wx_n σ'.2.2.2.2 ≤ mc + wx_n σ.2.2.2.2)  (h : K11 x2 x4 x5 σ = some (r, σ')) {rd : Nat → Nat} {H : Heap} {locs : List Loc} (Z : wx_Z D ad rd ca A σ H) (hS : va_S A s.heap H locs) {ls : Array Slot} (hl : lv_has ls 7 [(0, .ref (ad 12 99)), (1, .ref (ad b1 99)), (2, .long x2), (4, .int x4), (5, .int x5)]), W p l e ({ frames := 4, cells := mc, slots := 6464 * mc, locals := 106 } : Room) s m args below meth c H locs k (6464 * k) (MQ below (wx_QA D ad ca A (some (.int r)) σ') args s mc (6464 * mc) A) (F0 m 11 ls [])) (mK11 : ∀ {x2 : Int64} {x4 : Int32} {x5 : Int32} {σ : wx_St}, K11 x2 x4 x5 σ = some (r, σ') → wx_n σ.2.2.2.2 ≤ wx_n σ'.2.2.2.2) {K24 : Int64 → Int32 → Int32 → Int32 → wx_St → Option (Int32 × wx_St)} (hK24 : ∀ {x2 : Int64} {x4 : Int32} {x5 : Int32} {x6 : Int32} {σ : wx_St} {k : Nat} (hk : k + wx_n σ'.2.2.2.2 ≤ mc + wx_n σ.2.2.2.2)  (h : K24 x2 x4 x5 x6 σ = some (r, σ')) {rd : Nat → Nat} {H : Heap} {locs : List Loc} (Z : wx_Z D ad rd ca A σ H) (hS : va_S A s.heap H locs) {ls : Array Slot} (hl : lv_has ls 7 [(0, .ref (ad 12 99)), (1, .ref (ad b1 99)), (2, .long x2), (4, .int x4), (5, .int x5), (6, .int x6)]), W p l e ({ frames := 4, cells := mc, slots := 6464 * mc, locals := 106 } : Room) s m args below meth c H locs k (6464 * k) (MQ below (wx_QA D ad ca A (some (.int r)) σ') args s mc (6464 * mc) A) (F0 m 24 ls [])) (mK24 : ∀ {x2 : Int64} {x4 : Int32} {x5 : Int32} {x6 : Int32} {σ : wx_St}, K24 x2 x4 x5 x6 σ = some (r, σ') → wx_n σ.2.2.2.2 ≤ wx_n σ'.2.2.2.2) {x2 : Int64} {x4 : Int32} {x5 : Int32} {x6 : Int32} {y0 : Int32} {σ : wx_St} {k : Nat} (hk : k + wx_n σ'.2.2.2.2 ≤ mc + wx_n σ.2.2.2.2)  (h : f_X4_pairs_58 b1 K11 K24 x2 x4 x5 x6 y0 σ = some (r, σ')) {rd : Nat → Nat} {H : Heap} {locs : List Loc} (Z : wx_Z D ad rd ca A σ H) (hS : va_S A s.heap H locs) {ls : Array Slot} (hl : lv_has ls 7 [(0, .ref (ad 12 99)), (1, .ref (ad b1 99)), (2, .long x2), (4, .int x4), (5, .int x5), (6, .int x6)]) : W p l e ({ frames := 4, cells := mc, slots := 6464 * mc, locals := 106 } : Room) s m args below meth c H locs k (6464 * k) (MQ below (wx_QA D ad ca A (some (.int r)) σ') args s mc (6464 * mc) A) (F0 m 58 ls [.int y0]) := by
  obtain ⟨hx, hb, hml, hr, hts, hown, hlk, hC, hA⟩ := id B
  have hm := m_X4_pairs_58 (K11 := K11) @mK11 (K24 := K24) @mK24 h
  unfold f_X4_pairs_58 at h
  refine lv_if_eq (tgt := 64) hx hb dX4_pairs_58 (by decide) (fun c58 => ?_) (fun c58 => ?_)
  · replace h := wx_ift c58 h
    exact b_X4_pairs_64 B hb1 (K11 := K11) @hK11 @mK11 (K24 := K24) @hK24 @mK24 (k := k) hk h Z hS (lv_sub hl [0, 1, 2, 3, 4, 5] rfl)
  · replace h := wx_iff c58 h
    refine lv_iinc (v := x4 + 1) (lv' := [(4, .int (x4 + 1)), (0, .ref (ad 12 99)), (1, .ref (ad b1 99)), (2, .long x2), (5, .int x5), (6, .int x6)]) hx hb dX4_pairs_61 hl (k := 3) rfl rfl (by decide) rfl (fun ls hl => ?_)
    exact b_X4_pairs_64 B hb1 (K11 := K11) @hK11 @mK11 (K24 := K24) @hK24 @mK24 (k := k) hk h Z hS (lv_sub hl [1, 2, 3, 0, 4, 5] rfl)
set_option maxRecDepth 20000 in
set_option maxHeartbeats 4000000 in
theorem m_X4_pairs_24 {b1 : Nat} {r : Int32} {σ' : wx_St} {K11 : Int64 → Int32 → Int32 → wx_St → Option (Int32 × wx_St)} (mK11 : ∀ {x2 : Int64} {x4 : Int32} {x5 : Int32} {σ : wx_St}, K11 x2 x4 x5 σ = some (r, σ') → wx_n σ.2.2.2.2 ≤ wx_n σ'.2.2.2.2) :
    ∀ {n : Nat} {x2 : Int64} {x4 : Int32} {x5 : Int32} {x6 : Int32} {σ : wx_St} (h : f_X4_pairs_24 b1 K11 n x2 x4 x5 x6 σ = some (r, σ')), wx_n σ.2.2.2.2 ≤ wx_n σ'.2.2.2.2 := by
  intro n
  induction n with
  | zero => intro x2 x4 x5 x6 σ h; exact wx_no h
  | succ n ih =>
    intro x2 x4 x5 x6 σ h
    rw [f_X4_pairs_24] at h
    by_cases c28 : 64 ≤ x6
    · replace h := wx_ift c28 h
      exact mK11 h
    · replace h := wx_iff c28 h
      obtain ⟨v34, hc34, h⟩ := wx_o_ok h
      by_cases c37 : v34 = 0
      · replace h := wx_ift c37 h
        exact m_X4_pairs_64 (K11 := K11) @mK11 (K24 := (f_X4_pairs_24 b1 K11 n)) @ih h
      · replace h := wx_iff c37 h
        obtain ⟨v43, hc43, h⟩ := wx_o_ok h
        by_cases c46 : v43 = 0
        · replace h := wx_ift c46 h
          exact m_X4_pairs_64 (K11 := K11) @mK11 (K24 := (f_X4_pairs_24 b1 K11 n)) @ih h
        · replace h := wx_iff c46 h
          obtain ⟨v55, σ55, hc55, h⟩ := wx_b_ok h
          refine Nat.le_trans (m_X4_fits_0 hc55) ?_
          exact m_X4_pairs_58 (K11 := K11) @mK11 (K24 := (f_X4_pairs_24 b1 K11 n)) @ih h
set_option maxRecDepth 20000 in
set_option maxHeartbeats 4000000 in
theorem b_X4_pairs_24 (B : wx_B p s m args meth c cX4_pairs 7 (some .int) wsX4_pairs RX4 D ad ca A) {b1 : Nat}  (hb1 : b1 < 11) {r : Int32} {σ' : wx_St} {mc : Nat} {K11 : Int64 → Int32 → Int32 → wx_St → Option (Int32 × wx_St)} (hK11 : ∀ {x2 : Int64} {x4 : Int32} {x5 : Int32} {σ : wx_St} {k : Nat} (hk : k + wx_n σ'.2.2.2.2 ≤ mc + wx_n σ.2.2.2.2)  (h : K11 x2 x4 x5 σ = some (r, σ')) {rd : Nat → Nat} {H : Heap} {locs : List Loc} (Z : wx_Z D ad rd ca A σ H) (hS : va_S A s.heap H locs) {ls : Array Slot} (hl : lv_has ls 7 [(0, .ref (ad 12 99)), (1, .ref (ad b1 99)), (2, .long x2), (4, .int x4), (5, .int x5)]), W p l e ({ frames := 4, cells := mc, slots := 6464 * mc, locals := 106 } : Room) s m args below meth c H locs k (6464 * k) (MQ below (wx_QA D ad ca A (some (.int r)) σ') args s mc (6464 * mc) A) (F0 m 11 ls [])) (mK11 : ∀ {x2 : Int64} {x4 : Int32} {x5 : Int32} {σ : wx_St}, K11 x2 x4 x5 σ = some (r, σ') → wx_n σ.2.2.2.2 ≤ wx_n σ'.2.2.2.2)  :
    ∀ {n : Nat} {x2 : Int64} {x4 : Int32} {x5 : Int32} {x6 : Int32} {σ : wx_St} {k : Nat} (hk : k + wx_n σ'.2.2.2.2 ≤ mc + wx_n σ.2.2.2.2)  (h : f_X4_pairs_24 b1 K11 n x2 x4 x5 x6 σ = some (r, σ')) {rd : Nat → Nat} {H : Heap} {locs : List Loc} (Z : wx_Z D ad rd ca A σ H) (hS : va_S A s.heap H locs) {ls : Array Slot} (hl : lv_has ls 7 [(0, .ref (ad 12 99)), (1, .ref (ad b1 99)), (2, .long x2), (4, .int x4), (5, .int x5), (6, .int x6)]), W p l e ({ frames := 4, cells := mc, slots := 6464 * mc, locals := 106 } : Room) s m args below meth c H locs k (6464 * k) (MQ below (wx_QA D ad ca A (some (.int r)) σ') args s mc (6464 * mc) A) (F0 m 24 ls []) := by
  obtain ⟨hx, hb, hml, hr, hts, hown, hlk, hC, hA⟩ := id B
  intro n
  induction n with
  | zero => intro x2 x4 x5 x6 σ k hk  h rd H locs Z hS ls hl; exact wx_no h
  | succ n ih =>
    intro x2 x4 x5 x6 σ k hk  h rd H locs Z hS ls hl
    have hm := m_X4_pairs_24 (K11 := K11) @mK11 h
    have mih : ∀ {x2 : Int64} {x4 : Int32} {x5 : Int32} {x6 : Int32} {σ : wx_St}, f_X4_pairs_24 b1 K11 n x2 x4 x5 x6 σ = some (r, σ') → wx_n σ.2.2.2.2 ≤ wx_n σ'.2.2.2.2 := fun h => m_X4_pairs_24 (K11 := K11) @mK11 h
    rw [f_X4_pairs_24] at h
    refine lv_iload hx hb dX4_pairs_24 (lv_at hl 5 rfl) ?_
    refine lv_bipush (v := 64) hx hb dX4_pairs_26 (by decide) ?_
    refine lv_icmp_ge (tgt := 70) hx hb dX4_pairs_28 (by decide) (fun c28 => ?_) (fun c28 => ?_)
    · replace h := wx_ift c28 h
      refine lv_iinc (v := x5 + 1) (lv' := [(5, .int (x5 + 1)), (0, .ref (ad 12 99)), (1, .ref (ad b1 99)), (2, .long x2), (4, .int x4), (6, .int x6)]) hx hb dX4_pairs_70 hl (k := 4) rfl rfl (by decide) rfl (fun ls hl => ?_)
      refine lv_goto (tgt := 11) hx hb dX4_pairs_73 (by decide) ?_
      exact hK11 (k := k) hk h Z hS (lv_sub hl [1, 2, 3, 4, 0] rfl)
    · replace h := wx_iff c28 h
      refine lv_lload_n hx hb dX4_pairs_31 rfl (lv_at hl 2 rfl) ?_
      refine lv_iload hx hb dX4_pairs_32 (lv_at hl 4 rfl) ?_
      obtain ⟨v34, hc34, h⟩ := wx_o_ok h
      refine wx_call (va_runSN (As := [.long x2, .int x5]) (rest := []) ⟨hx, hb, hml, hown, hts⟩ (c_X5_isIn l (D := D) (ad := ad) (rd := rd) (ca := ca) (A := A) (σ := σ) hc34) ⟨va_cnB 2 hts gX4_pairs_X5_isIn_n40 rfl rfl rfl (hC.1.2.1 _ (List.mem_of_getElem? (i := 64) rfl)) (hts _ k_X4_pairs_w3) (by decide +kernel) ⟨Nat.le_of_ble_eq_true rfl, Nat.le_of_ble_eq_true rfl⟩, hts _ k_X4_pairs_w4, trivial⟩ (wx_preS hC Z hS hA) rfl rfl hl.1 rfl (lv_room (Nat.le_of_ble_eq_true rfl)) dX4_pairs_34 ⟨(by show k + 0 ≤ mc; omega), (by show 6464 * k + 0 ≤ 6464 * mc; omega)⟩) hS (fun H locs Z hS => ?_)
      refine lv_if_eq (tgt := 64) hx hb dX4_pairs_37 (by decide) (fun c37 => ?_) (fun c37 => ?_)
      · replace h := wx_ift c37 h
        exact b_X4_pairs_64 B hb1 (K11 := K11) @hK11 @mK11 (K24 := (f_X4_pairs_24 b1 K11 n)) @ih mih (k := k) hk h Z hS (lv_sub hl [0, 1, 2, 3, 4, 5] rfl)
      · replace h := wx_iff c37 h
        refine lv_lload_n hx hb dX4_pairs_40 rfl (lv_at hl 2 rfl) ?_
        refine lv_iload hx hb dX4_pairs_41 (lv_at hl 5 rfl) ?_
        obtain ⟨v43, hc43, h⟩ := wx_o_ok h
        refine wx_call (va_runSN (As := [.long x2, .int x6]) (rest := []) ⟨hx, hb, hml, hown, hts⟩ (c_X5_isIn l (D := D) (ad := ad) (rd := rd) (ca := ca) (A := A) (σ := σ) hc43) ⟨va_cnB 2 hts gX4_pairs_X5_isIn_n40 rfl rfl rfl (hC.1.2.1 _ (List.mem_of_getElem? (i := 64) rfl)) (hts _ k_X4_pairs_w3) (by decide +kernel) ⟨Nat.le_of_ble_eq_true rfl, Nat.le_of_ble_eq_true rfl⟩, hts _ k_X4_pairs_w4, trivial⟩ (wx_preS hC Z hS hA) rfl rfl hl.1 rfl (lv_room (Nat.le_of_ble_eq_true rfl)) dX4_pairs_43 ⟨(by show k + 0 ≤ mc; omega), (by show 6464 * k + 0 ≤ 6464 * mc; omega)⟩) hS (fun H locs Z hS => ?_)
        refine lv_if_eq (tgt := 64) hx hb dX4_pairs_46 (by decide) (fun c46 => ?_) (fun c46 => ?_)
        · replace h := wx_ift c46 h
          exact b_X4_pairs_64 B hb1 (K11 := K11) @hK11 @mK11 (K24 := (f_X4_pairs_24 b1 K11 n)) @ih mih (k := k) hk h Z hS (lv_sub hl [0, 1, 2, 3, 4, 5] rfl)
        · replace h := wx_iff c46 h
          refine lv_aload_n hx hb dX4_pairs_49 rfl (lv_at hl 0 rfl) ?_
          refine lv_aload_n hx hb dX4_pairs_50 rfl (lv_at hl 1 rfl) ?_
          refine lv_iload hx hb dX4_pairs_51 (lv_at hl 4 rfl) ?_
          refine lv_iload hx hb dX4_pairs_53 (lv_at hl 5 rfl) ?_
          obtain ⟨v55, σ55, hc55, h⟩ := wx_b_ok h
          have m1 := m_X4_fits_0 hc55
          have m2 := m_X4_pairs_58 (K11 := K11) @mK11 (K24 := (f_X4_pairs_24 b1 K11 n)) mih h
          refine wx_callA (va_runV (As := [.ref (ad b1 99), .int x5, .int x6]) (rest := []) ⟨hx, hb, hml, hown, hts⟩ (c_X4_fits l (D := D) (ad := ad) (rd := rd) (ca := ca) (A := A) (σ := σ) (b1 := b1) hb1 hc55) (cwV 3 hts gX4_pairs_X4_fits rfl rfl rfl (by decide +kernel) ⟨Nat.le_of_ble_eq_true rfl, Nat.le_of_ble_eq_true rfl⟩) (wx_preV hC Z hS hA rfl (rfl : vwCl[4]? = some (RX4, TX4, 2))) rfl rfl hl.1 rfl (lv_room (Nat.le_of_ble_eq_true rfl)) dX4_pairs_55 ⟨(by show k + (wx_n σ55.2.2.2.2 - wx_n σ.2.2.2.2) ≤ mc; omega), (by show 6464 * k + 6464 * (wx_n σ55.2.2.2.2 - wx_n σ.2.2.2.2) ≤ 6464 * mc; omega)⟩) hS (fun rd H locs Z hS => ?_)
          refine W.widen (k := k + (wx_n σ55.2.2.2.2 - wx_n σ.2.2.2.2)) (n := 6464 * (k + (wx_n σ55.2.2.2.2 - wx_n σ.2.2.2.2))) (Nat.le_refl _) (by omega) ?_
          exact b_X4_pairs_58 B hb1 (K11 := K11) @hK11 @mK11 (K24 := (f_X4_pairs_24 b1 K11 n)) @ih mih (k := k + (wx_n σ55.2.2.2.2 - wx_n σ.2.2.2.2)) (by omega) h Z hS (lv_sub hl [0, 1, 2, 3, 4, 5] rfl)
set_option maxRecDepth 20000 in
set_option maxHeartbeats 4000000 in
theorem m_X4_pairs_11 {b1 : Nat} {r : Int32} {σ' : wx_St}  :
    ∀ {n : Nat} {x2 : Int64} {x4 : Int32} {x5 : Int32} {σ : wx_St} (h : f_X4_pairs_11 b1 n x2 x4 x5 σ = some (r, σ')), wx_n σ.2.2.2.2 ≤ wx_n σ'.2.2.2.2 := by
  intro n
  induction n with
  | zero => intro x2 x4 x5 σ h; exact wx_no h
  | succ n ih =>
    intro x2 x4 x5 σ h
    rw [f_X4_pairs_11] at h
    by_cases c15 : 64 ≤ x5
    · replace h := wx_ift c15 h
      obtain ⟨rfl, rfl⟩ := wx_ret_ok h
      exact Nat.le_refl _
    · replace h := wx_iff c15 h
      exact m_X4_pairs_24 (K11 := (f_X4_pairs_11 b1 n)) @ih h
set_option maxRecDepth 20000 in
set_option maxHeartbeats 4000000 in
theorem b_X4_pairs_11 (B : wx_B p s m args meth c cX4_pairs 7 (some .int) wsX4_pairs RX4 D ad ca A) {b1 : Nat}  (hb1 : b1 < 11) {r : Int32} {σ' : wx_St} {mc : Nat}   :
    ∀ {n : Nat} {x2 : Int64} {x4 : Int32} {x5 : Int32} {σ : wx_St} {k : Nat} (hk : k + wx_n σ'.2.2.2.2 ≤ mc + wx_n σ.2.2.2.2)  (h : f_X4_pairs_11 b1 n x2 x4 x5 σ = some (r, σ')) {rd : Nat → Nat} {H : Heap} {locs : List Loc} (Z : wx_Z D ad rd ca A σ H) (hS : va_S A s.heap H locs) {ls : Array Slot} (hl : lv_has ls 7 [(0, .ref (ad 12 99)), (1, .ref (ad b1 99)), (2, .long x2), (4, .int x4), (5, .int x5)]), W p l e ({ frames := 4, cells := mc, slots := 6464 * mc, locals := 106 } : Room) s m args below meth c H locs k (6464 * k) (MQ below (wx_QA D ad ca A (some (.int r)) σ') args s mc (6464 * mc) A) (F0 m 11 ls []) := by
  obtain ⟨hx, hb, hml, hr, hts, hown, hlk, hC, hA⟩ := id B
  intro n
  induction n with
  | zero => intro x2 x4 x5 σ k hk  h rd H locs Z hS ls hl; exact wx_no h
  | succ n ih =>
    intro x2 x4 x5 σ k hk  h rd H locs Z hS ls hl
    have hm := m_X4_pairs_11 h
    have mih : ∀ {x2 : Int64} {x4 : Int32} {x5 : Int32} {σ : wx_St}, f_X4_pairs_11 b1 n x2 x4 x5 σ = some (r, σ') → wx_n σ.2.2.2.2 ≤ wx_n σ'.2.2.2.2 := fun h => m_X4_pairs_11 h
    rw [f_X4_pairs_11] at h
    refine lv_iload hx hb dX4_pairs_11 (lv_at hl 4 rfl) ?_
    refine lv_bipush (v := 64) hx hb dX4_pairs_13 (by decide) ?_
    refine lv_icmp_ge (tgt := 76) hx hb dX4_pairs_15 (by decide) (fun c15 => ?_) (fun c15 => ?_)
    · replace h := wx_ift c15 h
      refine lv_iload hx hb dX4_pairs_76 (lv_at hl 3 rfl) ?_
      obtain ⟨rfl, rfl⟩ := wx_ret_ok h
      refine W.widen (k := mc) (n := 6464 * mc) (by omega) (by omega) ?_
      exact W.iret hx hb hr (fun t ht hW => ⟨rfl, ⟨_, by rw [ht]; exact Z⟩, hS.F ht⟩) hS.2.2 dX4_pairs_78
    · replace h := wx_iff c15 h
      refine lv_iload hx hb dX4_pairs_18 (lv_at hl 4 rfl) ?_
      refine lv_iconst (v := 1) hx hb dX4_pairs_20 (by decide) ?_
      refine lv_iadd hx hb dX4_pairs_21 ?_
      refine lv_istore (lv' := [(6, .int (x5 + 1)), (0, .ref (ad 12 99)), (1, .ref (ad b1 99)), (2, .long x2), (4, .int x4), (5, .int x5)]) hx hb dX4_pairs_22 hl (by decide) rfl (fun ls hl => ?_)
      exact b_X4_pairs_24 B hb1 (K11 := (f_X4_pairs_11 b1 n)) @ih mih (k := k) hk h Z hS (lv_sub hl [1, 2, 3, 4, 5, 0] rfl)
set_option maxRecDepth 20000 in
set_option maxHeartbeats 4000000 in
theorem m_X4_pairs_0 {b1 : Nat} {r : Int32} {σ' : wx_St}   {σ : wx_St} (h : f_X4_pairs b1 σ = some (r, σ')) : wx_n σ.2.2.2.2 ≤ wx_n σ'.2.2.2.2 := by
  unfold f_X4_pairs at h
  obtain ⟨v1, hc1, h⟩ := wx_o_ok h
  exact m_X4_pairs_11 h
set_option maxRecDepth 20000 in
set_option maxHeartbeats 4000000 in
theorem b_X4_pairs_0 (B : wx_B p s m args meth c cX4_pairs 7 (some .int) wsX4_pairs RX4 D ad ca A) {b1 : Nat}  (hb1 : b1 < 11) {r : Int32} {σ' : wx_St} {mc : Nat}   {σ : wx_St} {k : Nat} (hk : k + wx_n σ'.2.2.2.2 ≤ mc + wx_n σ.2.2.2.2)  (h : f_X4_pairs b1 σ = some (r, σ')) {rd : Nat → Nat} {H : Heap} {locs : List Loc} (Z : wx_Z D ad rd ca A σ H) (hS : va_S A s.heap H locs) {ls : Array Slot} (hl : lv_has ls 7 [(0, .ref (ad 12 99)), (1, .ref (ad b1 99))]) : W p l e ({ frames := 4, cells := mc, slots := 6464 * mc, locals := 106 } : Room) s m args below meth c H locs k (6464 * k) (MQ below (wx_QA D ad ca A (some (.int r)) σ') args s mc (6464 * mc) A) (F0 m 0 ls []) := by
  obtain ⟨hx, hb, hml, hr, hts, hown, hlk, hC, hA⟩ := id B
  have hm := m_X4_pairs_0 h
  unfold f_X4_pairs at h
  refine lv_aload_n hx hb dX4_pairs_0 rfl (lv_at hl 1 rfl) ?_
  obtain ⟨v1, hc1, h⟩ := wx_o_ok h
  refine wx_call (va_runVN (As := []) (rest := []) ⟨hx, hb, hml, hown, hts⟩ (c_X0_suspects l (D := D) (ad := ad) (rd := rd) (ca := ca) (A := A) (σ := σ) (o := b1) hb1 hc1) ⟨va_cnB 0 hts gX4_pairs_X0_suspects_n36 rfl rfl rfl (hC.1.2.1 _ (List.mem_of_getElem? (i := 63) rfl)) (hts _ k_X4_pairs_w0) (by decide +kernel) ⟨Nat.le_of_ble_eq_true rfl, Nat.le_of_ble_eq_true rfl⟩, hts _ k_X4_pairs_w1, hts _ k_X4_pairs_w2⟩ (wx_preV hC Z hS hA (wx_sbo hb1 99) (rfl : vwCl[0]? = some (RX0, TX0, 13))) rfl rfl hl.1 rfl (lv_room (Nat.le_of_ble_eq_true rfl)) dX4_pairs_1 ⟨(by show k + 0 ≤ mc; omega), (by show 6464 * k + 0 ≤ 6464 * mc; omega)⟩) hS (fun H locs Z hS => ?_)
  refine lv_lstore_n (lv' := [(2, .long v1), (0, .ref (ad 12 99)), (1, .ref (ad b1 99))]) hx hb dX4_pairs_4 rfl hl (by decide) rfl (fun ls hl => ?_)
  refine lv_iconst (v := 0) hx hb dX4_pairs_5 (by decide) ?_
  refine lv_istore (lv' := [(4, .int 0), (2, .long v1), (0, .ref (ad 12 99)), (1, .ref (ad b1 99))]) hx hb dX4_pairs_6 hl (by decide) rfl (fun ls hl => ?_)
  refine lv_iconst (v := 0) hx hb dX4_pairs_8 (by decide) ?_
  refine lv_istore (lv' := [(5, .int 0), (4, .int 0), (2, .long v1), (0, .ref (ad 12 99)), (1, .ref (ad b1 99))]) hx hb dX4_pairs_9 hl (by decide) rfl (fun ls hl => ?_)
  exact b_X4_pairs_11 B hb1 (k := k) hk h Z hS (lv_sub hl [3, 4, 2, 1, 0] rfl)
set_option maxRecDepth 20000 in
theorem c_X4_pairs (l : Launch) {D : va_G} {ad : Nat → Nat → Nat} {rd : Nat → Nat} {ca : Nat → ClassId} {A : Nat → Prop} {σ : wx_St} {b1 : Nat}  (hb1 : b1 < 11)  {r : Int32} {σ' : wx_St} (h : f_X4_pairs b1 σ = some (r, σ')) : wx_MA l yX4_pairs wsX4_pairs 4 106 D ad rd ca A [.ref (ad 12 99), .ref (ad b1 99)] σ (some (.int r)) σ' := by
  refine Met.ofW (cc := cX4_pairs) (maxL := 7) (ret := (some .int)) (by decide +kernel) rfl ?_
  intro p e s m args below meth c s₁ B0 hml hv
  obtain ⟨rfl, hC, Z, hA⟩ := hv
  have hl := lv_entry ([.ref (ad 12 99), .ref (ad b1 99)]) (n := 7) (Nat.le_of_ble_eq_true rfl)
  rw [lg_entry_eq]
  generalize (lg_sl ([.ref (ad 12 99), .ref (ad b1 99)]) ++ List.replicate (7 - (lg_sl ([.ref (ad 12 99), .ref (ad b1 99)])).length) Slot.unset).toArray = ls at hl ⊢
  exact b_X4_pairs_0 ⟨B0.exec, B0.bytes, hml, B0.returns, atoms_spec (ws := wsX4_pairs) B0.pre, findClass_of_methodNamed B0.named, B0.notSynchronized, hC, hA⟩ hb1 (k := 0) (by have hm := m_X4_pairs_0 h; omega) h Z va_S.rf hl
theorem i_X4_readBy_0 : ∀ w ∈ wsX00, w ∈ wsX4_readBy := by decide +kernel
theorem i_X4_readBy_4 : ∀ w ∈ wsX40, w ∈ wsX4_readBy := by decide +kernel
theorem k_X4_readBy_w0 : Cond.fieldLink RX4 12 "WarmProbes$Suspicion" "lone" "LWarmProbes$Lone;" ∈ wsX4_readBy := by decide +kernel
theorem k_X4_readBy_w1 : Cond.initialized RX1 ∈ wsX4_readBy := by decide +kernel
theorem k_X4_readBy_w2 : Cond.instanceMethod yX1_follow ∈ wsX4_readBy := by decide +kernel
theorem k_X4_readBy_w3 : Cond.selects RX1 yX1_follow yX1_follow ∈ wsX4_readBy := by decide +kernel
theorem k_X4_readBy_w4 : Cond.instanceMethod yX1_warmthBy ∈ wsX4_readBy := by decide +kernel
theorem k_X4_readBy_w5 : Cond.selects RX1 yX1_warmthBy yX1_warmthBy ∈ wsX4_readBy := by decide +kernel
theorem k_X4_readBy_w6 : Cond.initialized RX5 ∈ wsX4_readBy := by decide +kernel
theorem k_X4_readBy_w7 : Cond.static yX5_readOf ∈ wsX4_readBy := by decide +kernel
set_option maxRecDepth 20000 in
set_option maxHeartbeats 4000000 in
theorem m_X4_readBy_24 {b1 : Nat} {r : Int32} {σ' : wx_St}  {x2 : Int32} {x3 : Int32} {y0 : UInt32} {σ : wx_St} (h : f_X4_readBy_24 b1 x2 x3 y0 σ = some (r, σ')) : wx_n σ.2.2.2.2 ≤ wx_n σ'.2.2.2.2 := by
  unfold f_X4_readBy_24 at h
  obtain ⟨v24, hc24, h⟩ := wx_o_ok h
  obtain ⟨rfl, rfl⟩ := wx_ret_ok h
  exact Nat.le_refl _
set_option maxRecDepth 20000 in
set_option maxHeartbeats 4000000 in
theorem b_X4_readBy_24 (B : wx_B p s m args meth c cX4_readBy 4 (some .int) wsX4_readBy RX4 D ad ca A) {b1 : Nat}  (hb1 : b1 < 11) {r : Int32} {σ' : wx_St} {mc : Nat}  {x2 : Int32} {x3 : Int32} {y0 : UInt32} {σ : wx_St} {k : Nat} (hk : k + wx_n σ'.2.2.2.2 ≤ mc + wx_n σ.2.2.2.2)  (h : f_X4_readBy_24 b1 x2 x3 y0 σ = some (r, σ')) {rd : Nat → Nat} {H : Heap} {locs : List Loc} (Z : wx_Z D ad rd ca A σ H) (hS : va_S A s.heap H locs) {ls : Array Slot} (hl : lv_has ls 4 [(0, .ref (ad 12 99)), (1, .ref (ad b1 99)), (2, .int x2), (3, .int x3)]) : W p l e ({ frames := 3, cells := mc, slots := 6464 * mc, locals := 81 } : Room) s m args below meth c H locs k (6464 * k) (MQ below (wx_QA D ad ca A (some (.int r)) σ') args s mc (6464 * mc) A) (F0 m 24 ls [.float y0]) := by
  obtain ⟨hx, hb, hml, hr, hts, hown, hlk, hC, hA⟩ := id B
  have hm := m_X4_readBy_24 h
  unfold f_X4_readBy_24 at h
  obtain ⟨v24, hc24, h⟩ := wx_o_ok h
  refine wx_call (va_runSN (As := [.float y0]) (rest := []) ⟨hx, hb, hml, hown, hts⟩ (c_X5_readOf l (D := D) (ad := ad) (rd := rd) (ca := ca) (A := A) (σ := σ) hc24) ⟨va_cnB 1 hts gX4_readBy_X5_readOf_n74 rfl rfl rfl (hC.1.2.1 _ (List.mem_of_getElem? (i := 52) rfl)) (hts _ k_X4_readBy_w6) (by decide +kernel) ⟨Nat.le_of_ble_eq_true rfl, Nat.le_of_ble_eq_true rfl⟩, hts _ k_X4_readBy_w7, trivial⟩ (wx_preS hC Z hS hA) rfl rfl hl.1 rfl (lv_room (Nat.le_of_ble_eq_true rfl)) dX4_readBy_24 ⟨(by show k + 0 ≤ mc; omega), (by show 6464 * k + 0 ≤ 6464 * mc; omega)⟩) hS (fun H locs Z hS => ?_)
  obtain ⟨rfl, rfl⟩ := wx_ret_ok h
  refine W.widen (k := mc) (n := 6464 * mc) (by omega) (by omega) ?_
  exact W.iret hx hb hr (fun t ht hW => ⟨rfl, ⟨_, by rw [ht]; exact Z⟩, hS.F ht⟩) hS.2.2 dX4_readBy_27
set_option maxRecDepth 20000 in
set_option maxHeartbeats 4000000 in
theorem m_X4_readBy_0 {b1 : Nat} {r : Int32} {σ' : wx_St}  {x2 : Int32} {x3 : Int32} {σ : wx_St} (h : f_X4_readBy b1 x2 x3 σ = some (r, σ')) : wx_n σ.2.2.2.2 ≤ wx_n σ'.2.2.2.2 := by
  unfold f_X4_readBy at h
  obtain ⟨v8, σ8, hc8, h⟩ := wx_b_ok h
  refine Nat.le_trans (Nat.le_of_eq (congrArg wx_n (show σ8.2.2.2.2 = σ.2.2.2.2 from m_X1_follow_0 hc8)).symm) ?_
  obtain ⟨v21, σ21, hc21, h⟩ := wx_b_ok h
  refine Nat.le_trans (m_X1_warmthBy_0 hc21) ?_
  exact m_X4_readBy_24 h
set_option maxRecDepth 20000 in
set_option maxHeartbeats 4000000 in
theorem b_X4_readBy_0 (B : wx_B p s m args meth c cX4_readBy 4 (some .int) wsX4_readBy RX4 D ad ca A) {b1 : Nat}  (hb1 : b1 < 11) {r : Int32} {σ' : wx_St} {mc : Nat}  {x2 : Int32} {x3 : Int32} {σ : wx_St} {k : Nat} (hk : k + wx_n σ'.2.2.2.2 ≤ mc + wx_n σ.2.2.2.2)  (h : f_X4_readBy b1 x2 x3 σ = some (r, σ')) {rd : Nat → Nat} {H : Heap} {locs : List Loc} (Z : wx_Z D ad rd ca A σ H) (hS : va_S A s.heap H locs) {ls : Array Slot} (hl : lv_has ls 4 [(0, .ref (ad 12 99)), (1, .ref (ad b1 99)), (2, .int x2), (3, .int x3)]) : W p l e ({ frames := 3, cells := mc, slots := 6464 * mc, locals := 81 } : Room) s m args below meth c H locs k (6464 * k) (MQ below (wx_QA D ad ca A (some (.int r)) σ') args s mc (6464 * mc) A) (F0 m 0 ls []) := by
  obtain ⟨hx, hb, hml, hr, hts, hown, hlk, hC, hA⟩ := id B
  have hm := m_X4_readBy_0 h
  unfold f_X4_readBy at h
  refine lv_aload_n hx hb dX4_readBy_0 rfl (lv_at hl 0 rfl) ?_
  refine wx_get (own := RX4) hx hb hts i_X4_readBy_4 hown hC.1 Z (o := 12) (ci := 4) rfl (rfl : vwCl[4]? = some (RX4, TX4, 2)) 0 (by decide) (hts _ k_X4_readBy_w0) (fun _ h9 => h9) (f := 113) rfl rfl dX4_readBy_1 ?_
  refine lv_aload_n hx hb dX4_readBy_4 rfl (lv_at hl 1 rfl) ?_
  refine wx_getN (own := RX4) hx hb hts i_X4_readBy_0 hown hC.1 Z (o := b1) (ci := 0) (wx_sbo hb1 99) (rfl : vwCl[0]? = some (RX0, TX0, 13)) 0 (by decide) (wx_nst hC 2 rfl rfl) (fun _ h9 => h9) (f := 0) rfl rfl dX4_readBy_5 ?_
  obtain ⟨v8, σ8, hc8, h⟩ := wx_b_ok h
  refine wx_call (va_runVN (As := [.ref (ad b1 0)]) (rest := []) ⟨hx, hb, hml, hown, hts⟩ (c_X1_follow l (D := D) (ad := ad) (rd := rd) (ca := ca) (A := A) (σ := σ) (o1 := b1) (k1 := 0) (al := σ.2.2.2.2) (wx_sbo hb1 0) rfl hc8) ⟨va_cnB 1 hts gX4_readBy_X1_follow_n56 rfl rfl rfl (hC.1.2.1 _ (List.mem_of_getElem? (i := 49) rfl)) (hts _ k_X4_readBy_w1) (by decide +kernel) ⟨Nat.le_of_ble_eq_true rfl, Nat.le_of_ble_eq_true rfl⟩, hts _ k_X4_readBy_w2, hts _ k_X4_readBy_w3⟩ (wx_preV hC Z hS hA rfl (rfl : vwCl[1]? = some (RX1, TX1, 3))) rfl rfl hl.1 rfl (lv_room (Nat.le_of_ble_eq_true rfl)) dX4_readBy_8 ⟨(by show k + 0 ≤ mc; omega), (by show 6464 * k + 0 ≤ 6464 * mc; omega)⟩) hS (fun H locs Z hS => ?_)
  have hqσ8 := congrArg wx_n (show σ8.2.2.2.2 = σ.2.2.2.2 from m_X1_follow_0 hc8)
  rw [← hqσ8] at hk hm
  refine lv_aload_n hx hb dX4_readBy_11 rfl (lv_at hl 0 rfl) ?_
  refine wx_get (own := RX4) hx hb hts i_X4_readBy_4 hown hC.1 Z (o := 12) (ci := 4) rfl (rfl : vwCl[4]? = some (RX4, TX4, 2)) 0 (by decide) (hts _ k_X4_readBy_w0) (fun _ h9 => h9) (f := 113) rfl rfl dX4_readBy_12 ?_
  refine lv_iload_n hx hb dX4_readBy_15 rfl (lv_at hl 2 rfl) ?_
  refine lv_aload_n hx hb dX4_readBy_16 rfl (lv_at hl 1 rfl) ?_
  refine wx_getN (own := RX4) hx hb hts i_X4_readBy_0 hown hC.1 Z (o := b1) (ci := 0) (wx_sbo hb1 99) (rfl : vwCl[0]? = some (RX0, TX0, 13)) 6 (by decide) (wx_nst hC 10 rfl rfl) (fun _ h9 => h9) (f := 1) rfl rfl dX4_readBy_17 ?_
  refine lv_iload_n hx hb dX4_readBy_20 rfl (lv_at hl 3 rfl) ?_
  obtain ⟨v21, σ21, hc21, h⟩ := wx_b_ok h
  have m1 := m_X1_warmthBy_0 hc21
  have m2 := m_X4_readBy_24 h
  refine wx_callA (va_runVN (As := [.int x2, .int (σ8.2.2.1 b1 6), .int x3]) (rest := []) ⟨hx, hb, hml, hown, hts⟩ (c_X1_warmthBy l (D := D) (ad := ad) (rd := rd) (ca := ca) (A := A) (σ := σ8) hc21) ⟨va_cnB 3 hts gX4_readBy_X1_warmthBy_n70 rfl rfl rfl (hC.1.2.1 _ (List.mem_of_getElem? (i := 50) rfl)) (hts _ k_X4_readBy_w1) (by decide +kernel) ⟨Nat.le_of_ble_eq_true rfl, Nat.le_of_ble_eq_true rfl⟩, hts _ k_X4_readBy_w4, hts _ k_X4_readBy_w5⟩ (wx_preV hC Z hS hA rfl (rfl : vwCl[1]? = some (RX1, TX1, 3))) rfl rfl hl.1 rfl (lv_room (Nat.le_of_ble_eq_true rfl)) dX4_readBy_21 ⟨(by show k + (wx_n σ21.2.2.2.2 - wx_n σ8.2.2.2.2) ≤ mc; omega), (by show 6464 * k + 6464 * (wx_n σ21.2.2.2.2 - wx_n σ8.2.2.2.2) ≤ 6464 * mc; omega)⟩) hS (fun rd H locs Z hS => ?_)
  refine W.widen (k := k + (wx_n σ21.2.2.2.2 - wx_n σ8.2.2.2.2)) (n := 6464 * (k + (wx_n σ21.2.2.2.2 - wx_n σ8.2.2.2.2))) (Nat.le_refl _) (by omega) ?_
  exact b_X4_readBy_24 B hb1 (k := k + (wx_n σ21.2.2.2.2 - wx_n σ8.2.2.2.2)) (by omega) h Z hS (lv_sub hl [0, 1, 2, 3] rfl)
set_option maxRecDepth 20000 in
theorem c_X4_readBy (l : Launch) {D : va_G} {ad : Nat → Nat → Nat} {rd : Nat → Nat} {ca : Nat → ClassId} {A : Nat → Prop} {σ : wx_St} {b1 : Nat}  (hb1 : b1 < 11) {x2 : Int32} {x3 : Int32} {r : Int32} {σ' : wx_St} (h : f_X4_readBy b1 x2 x3 σ = some (r, σ')) : wx_MA l yX4_readBy wsX4_readBy 3 81 D ad rd ca A [.ref (ad 12 99), .ref (ad b1 99), .int x2, .int x3] σ (some (.int r)) σ' := by
  refine Met.ofW (cc := cX4_readBy) (maxL := 4) (ret := (some .int)) (by decide +kernel) rfl ?_
  intro p e s m args below meth c s₁ B0 hml hv
  obtain ⟨rfl, hC, Z, hA⟩ := hv
  have hl := lv_entry ([.ref (ad 12 99), .ref (ad b1 99), .int x2, .int x3]) (n := 4) (Nat.le_of_ble_eq_true rfl)
  rw [lg_entry_eq]
  generalize (lg_sl ([.ref (ad 12 99), .ref (ad b1 99), .int x2, .int x3]) ++ List.replicate (4 - (lg_sl ([.ref (ad 12 99), .ref (ad b1 99), .int x2, .int x3])).length) Slot.unset).toArray = ls at hl ⊢
  exact b_X4_readBy_0 ⟨B0.exec, B0.bytes, hml, B0.returns, atoms_spec (ws := wsX4_readBy) B0.pre, findClass_of_methodNamed B0.named, B0.notSynchronized, hC, hA⟩ hb1 (k := 0) (by have hm := m_X4_readBy_0 h; omega) h Z va_S.rf hl
theorem i_X4_unlikeReads_4 : ∀ w ∈ wsX40, w ∈ wsX4_unlikeReads := by decide +kernel
theorem k_X4_unlikeReads_w0 : Cond.initialized RX5 ∈ wsX4_unlikeReads := by decide +kernel
theorem k_X4_unlikeReads_w1 : Cond.static yX5_isIn ∈ wsX4_unlikeReads := by decide +kernel
theorem k_X4_unlikeReads_w2 : Cond.fieldLink RX4 18 "WarmProbes$Suspicion" "reads" "[I" ∈ wsX4_unlikeReads := by decide +kernel
set_option maxRecDepth 20000 in
set_option maxHeartbeats 4000000 in
theorem m_X4_unlikeReads_56 {b1 : Nat} {r : Int32} {σ' : wx_St} {K6 : Int64 → Int32 → Int32 → Int32 → wx_St → Option (Int32 × wx_St)} (mK6 : ∀ {x2 : Int64} {x4 : Int32} {x5 : Int32} {x6 : Int32} {σ : wx_St}, K6 x2 x4 x5 x6 σ = some (r, σ') → wx_n σ.2.2.2.2 ≤ wx_n σ'.2.2.2.2) {x2 : Int64} {x4 : Int32} {x5 : Int32} {x6 : Int32} {σ : wx_St} (h : f_X4_unlikeReads_56 b1 K6 x2 x4 x5 x6 σ = some (r, σ')) : wx_n σ.2.2.2.2 ≤ wx_n σ'.2.2.2.2 := by
  unfold f_X4_unlikeReads_56 at h
  exact mK6 h
set_option maxRecDepth 20000 in
set_option maxHeartbeats 4000000 in
theorem b_X4_unlikeReads_56 (B : wx_B p s m args meth c cX4_unlikeReads 8 (some .int) wsX4_unlikeReads RX4 D ad ca A) {b1 : Nat}  (hb1 : b1 < 11) {r : Int32} {σ' : wx_St} {mc : Nat} {K6 : Int64 → Int32 → Int32 → Int32 → wx_St → Option (Int32 × wx_St)} (hK6 : ∀ {x2 : Int64} {x4 : Int32} {x5 : Int32} {x6 : Int32} {σ : wx_St} {k : Nat} (hk : k + wx_n σ'.2.2.2.2 ≤ mc + wx_n σ.2.2.2.2)  (h : K6 x2 x4 x5 x6 σ = some (r, σ')) {rd : Nat → Nat} {H : Heap} {locs : List Loc} (Z : wx_Z D ad rd ca A σ H) (hS : va_S A s.heap H locs) {ls : Array Slot} (hl : lv_has ls 8 [(0, .ref (ad 12 99)), (1, .ref (ad b1 99)), (2, .long x2), (4, .int x4), (5, .int x5), (6, .int x6)]), W p l e ({ frames := 4, cells := mc, slots := 6464 * mc, locals := 104 } : Room) s m args below meth c H locs k (6464 * k) (MQ below (wx_QA D ad ca A (some (.int r)) σ') args s mc (6464 * mc) A) (F0 m 6 ls [])) (mK6 : ∀ {x2 : Int64} {x4 : Int32} {x5 : Int32} {x6 : Int32} {σ : wx_St}, K6 x2 x4 x5 x6 σ = some (r, σ') → wx_n σ.2.2.2.2 ≤ wx_n σ'.2.2.2.2) {x2 : Int64} {x4 : Int32} {x5 : Int32} {x6 : Int32} {σ : wx_St} {k : Nat} (hk : k + wx_n σ'.2.2.2.2 ≤ mc + wx_n σ.2.2.2.2)  (h : f_X4_unlikeReads_56 b1 K6 x2 x4 x5 x6 σ = some (r, σ')) {rd : Nat → Nat} {H : Heap} {locs : List Loc} (Z : wx_Z D ad rd ca A σ H) (hS : va_S A s.heap H locs) {ls : Array Slot} (hl : lv_has ls 8 [(0, .ref (ad 12 99)), (1, .ref (ad b1 99)), (2, .long x2), (4, .int x4), (5, .int x5), (6, .int x6)]) : W p l e ({ frames := 4, cells := mc, slots := 6464 * mc, locals := 104 } : Room) s m args below meth c H locs k (6464 * k) (MQ below (wx_QA D ad ca A (some (.int r)) σ') args s mc (6464 * mc) A) (F0 m 56 ls []) := by
  obtain ⟨hx, hb, hml, hr, hts, hown, hlk, hC, hA⟩ := id B
  have hm := m_X4_unlikeReads_56 (K6 := K6) @mK6 h
  unfold f_X4_unlikeReads_56 at h
  refine lv_iinc (v := x6 + 1) (lv' := [(6, .int (x6 + 1)), (0, .ref (ad 12 99)), (1, .ref (ad b1 99)), (2, .long x2), (4, .int x4), (5, .int x5)]) hx hb dX4_unlikeReads_56 hl (k := 5) rfl rfl (by decide) rfl (fun ls hl => ?_)
  refine lv_goto (tgt := 6) hx hb dX4_unlikeReads_59 (by decide) ?_
  exact hK6 (k := k) hk h Z hS (lv_sub hl [1, 2, 3, 4, 5, 0] rfl)
set_option maxRecDepth 20000 in
set_option maxHeartbeats 4000000 in
theorem m_X4_unlikeReads_31 {b1 : Nat} {r : Int32} {σ' : wx_St} {K6 : Int64 → Int32 → Int32 → Int32 → wx_St → Option (Int32 × wx_St)} (mK6 : ∀ {x2 : Int64} {x4 : Int32} {x5 : Int32} {x6 : Int32} {σ : wx_St}, K6 x2 x4 x5 x6 σ = some (r, σ') → wx_n σ.2.2.2.2 ≤ wx_n σ'.2.2.2.2) {x2 : Int64} {x4 : Int32} {x5 : Int32} {x6 : Int32} {y0 : Int32} {σ : wx_St} (h : f_X4_unlikeReads_31 b1 K6 x2 x4 x5 x6 y0 σ = some (r, σ')) : wx_n σ.2.2.2.2 ≤ wx_n σ'.2.2.2.2 := by
  unfold f_X4_unlikeReads_31 at h
  obtain ⟨v38, hc38, h⟩ := wx_o_ok h
  by_cases c41 : v38 = 0
  · replace h := wx_ift c41 h
    obtain ⟨σ52, e52, i52, h⟩ := wx_w_ok h
    refine Nat.le_trans (Nat.le_of_eq (congrArg wx_n (show σ52.2.2.2.2 = σ.2.2.2.2 from (congrArg (fun z : wx_St => z.2.2.2.2) e52).trans rfl)).symm) ?_
    exact m_X4_unlikeReads_56 (K6 := K6) @mK6 h
  · replace h := wx_iff c41 h
    exact m_X4_unlikeReads_56 (K6 := K6) @mK6 h
set_option maxRecDepth 20000 in
set_option maxHeartbeats 4000000 in
theorem b_X4_unlikeReads_31 (B : wx_B p s m args meth c cX4_unlikeReads 8 (some .int) wsX4_unlikeReads RX4 D ad ca A) {b1 : Nat}  (hb1 : b1 < 11) {r : Int32} {σ' : wx_St} {mc : Nat} {K6 : Int64 → Int32 → Int32 → Int32 → wx_St → Option (Int32 × wx_St)} (hK6 : ∀ {x2 : Int64} {x4 : Int32} {x5 : Int32} {x6 : Int32} {σ : wx_St} {k : Nat} (hk : k + wx_n σ'.2.2.2.2 ≤ mc + wx_n σ.2.2.2.2)  (h : K6 x2 x4 x5 x6 σ = some (r, σ')) {rd : Nat → Nat} {H : Heap} {locs : List Loc} (Z : wx_Z D ad rd ca A σ H) (hS : va_S A s.heap H locs) {ls : Array Slot} (hl : lv_has ls 8 [(0, .ref (ad 12 99)), (1, .ref (ad b1 99)), (2, .long x2), (4, .int x4), (5, .int x5), (6, .int x6)]), W p l e ({ frames := 4, cells := mc, slots := 6464 * mc, locals := 104 } : Room) s m args below meth c H locs k (6464 * k) (MQ below (wx_QA D ad ca A (some (.int r)) σ') args s mc (6464 * mc) A) (F0 m 6 ls [])) (mK6 : ∀ {x2 : Int64} {x4 : Int32} {x5 : Int32} {x6 : Int32} {σ : wx_St}, K6 x2 x4 x5 x6 σ = some (r, σ') → wx_n σ.2.2.2.2 ≤ wx_n σ'.2.2.2.2) {x2 : Int64} {x4 : Int32} {x5 : Int32} {x6 : Int32} {y0 : Int32} {σ : wx_St} {k : Nat} (hk : k + wx_n σ'.2.2.2.2 ≤ mc + wx_n σ.2.2.2.2)  (h : f_X4_unlikeReads_31 b1 K6 x2 x4 x5 x6 y0 σ = some (r, σ')) {rd : Nat → Nat} {H : Heap} {locs : List Loc} (Z : wx_Z D ad rd ca A σ H) (hS : va_S A s.heap H locs) {ls : Array Slot} (hl : lv_has ls 8 [(0, .ref (ad 12 99)), (1, .ref (ad b1 99)), (2, .long x2), (4, .int x4), (5, .int x5), (6, .int x6)]) : W p l e ({ frames := 4, cells := mc, slots := 6464 * mc, locals := 104 } : Room) s m args below meth c H locs k (6464 * k) (MQ below (wx_QA D ad ca A (some (.int r)) σ') args s mc (6464 * mc) A) (F0 m 31 ls [.int y0]) := by
  obtain ⟨hx, hb, hml, hr, hts, hown, hlk, hC, hA⟩ := id B
  have hm := m_X4_unlikeReads_31 (K6 := K6) @mK6 h
  unfold f_X4_unlikeReads_31 at h
  refine lv_istore (lv' := [(7, .int y0), (0, .ref (ad 12 99)), (1, .ref (ad b1 99)), (2, .long x2), (4, .int x4), (5, .int x5), (6, .int x6)]) hx hb dX4_unlikeReads_31 hl (by decide) rfl (fun ls hl => ?_)
  refine lv_aload_n hx hb dX4_unlikeReads_33 rfl (lv_at hl 1 rfl) ?_
  refine lv_iload hx hb dX4_unlikeReads_34 (lv_at hl 5 rfl) ?_
  refine lv_iload hx hb dX4_unlikeReads_36 (lv_at hl 0 rfl) ?_
  obtain ⟨v38, hc38, h⟩ := wx_o_ok h
  refine wx_call (va_runV (As := [.int x5, .int y0]) (rest := []) ⟨hx, hb, hml, hown, hts⟩ (c_X4_isAmong l (D := D) (ad := ad) (rd := rd) (ca := ca) (A := A) (σ := σ) hc38) (cwV 2 hts gX4_unlikeReads_X4_isAmong rfl rfl rfl (by decide +kernel) ⟨Nat.le_of_ble_eq_true rfl, Nat.le_of_ble_eq_true rfl⟩) (wx_preV hC Z hS hA rfl (rfl : vwCl[4]? = some (RX4, TX4, 2))) rfl rfl hl.1 rfl (lv_room (Nat.le_of_ble_eq_true rfl)) dX4_unlikeReads_38 ⟨(by show k + 0 ≤ mc; omega), (by show 6464 * k + 0 ≤ 6464 * mc; omega)⟩) hS (fun H locs Z hS => ?_)
  refine lv_if_ne (tgt := 56) hx hb dX4_unlikeReads_41 (by decide) (fun c41 => ?_) (fun c41 => ?_)
  · replace h := wx_iff c41 h
    exact b_X4_unlikeReads_56 B hb1 (K6 := K6) @hK6 @mK6 (k := k) hk h Z hS (lv_sub hl [1, 2, 3, 4, 5, 6] rfl)
  · replace h := wx_ift c41 h
    refine lv_aload_n hx hb dX4_unlikeReads_44 rfl (lv_at hl 1 rfl) ?_
    refine wx_get (own := RX4) hx hb hts i_X4_unlikeReads_4 hown hC.1 Z (o := 12) (ci := 4) rfl (rfl : vwCl[4]? = some (RX4, TX4, 2)) 1 (by decide) (hts _ k_X4_unlikeReads_w2) (fun _ h9 => h9) (f := 0) rfl rfl dX4_unlikeReads_45 ?_
    refine lv_iload hx hb dX4_unlikeReads_48 (lv_at hl 5 rfl) ?_
    refine lv_iload hx hb dX4_unlikeReads_50 (lv_at hl 0 rfl) ?_
    obtain ⟨σ52, e52, i52, h⟩ := wx_w_ok h
    refine wx_iast hx hb hC.1 Z hS (o := 12) (k := 1) (n := 64) rfl rfl i52 dX4_unlikeReads_52 e52 (fun H locs Z hS => ?_)
    have hqσ52 := congrArg wx_n (show σ52.2.2.2.2 = σ.2.2.2.2 from (congrArg (fun z : wx_St => z.2.2.2.2) e52).trans rfl)
    rw [← hqσ52] at hk hm
    refine lv_iinc (v := x5 + 1) (lv' := [(5, .int (x5 + 1)), (7, .int y0), (0, .ref (ad 12 99)), (1, .ref (ad b1 99)), (2, .long x2), (4, .int x4), (6, .int x6)]) hx hb dX4_unlikeReads_53 hl (k := 5) rfl rfl (by decide) rfl (fun ls hl => ?_)
    exact b_X4_unlikeReads_56 B hb1 (K6 := K6) @hK6 @mK6 (k := k) hk h Z hS (lv_sub hl [2, 3, 4, 5, 0, 6] rfl)
set_option maxRecDepth 20000 in
set_option maxHeartbeats 4000000 in
theorem m_X4_unlikeReads_6 {b1 : Nat} {r : Int32} {σ' : wx_St}  :
    ∀ {n : Nat} {x2 : Int64} {x4 : Int32} {x5 : Int32} {x6 : Int32} {σ : wx_St} (h : f_X4_unlikeReads_6 b1 n x2 x4 x5 x6 σ = some (r, σ')), wx_n σ.2.2.2.2 ≤ wx_n σ'.2.2.2.2 := by
  intro n
  induction n with
  | zero => intro x2 x4 x5 x6 σ h; exact wx_no h
  | succ n ih =>
    intro x2 x4 x5 x6 σ h
    rw [f_X4_unlikeReads_6] at h
    by_cases c10 : 64 ≤ x6
    · replace h := wx_ift c10 h
      obtain ⟨rfl, rfl⟩ := wx_ret_ok h
      exact Nat.le_refl _
    · replace h := wx_iff c10 h
      obtain ⟨v16, hc16, h⟩ := wx_o_ok h
      by_cases c19 : v16 = 0
      · replace h := wx_ift c19 h
        exact m_X4_unlikeReads_56 (K6 := (f_X4_unlikeReads_6 b1 n)) @ih h
      · replace h := wx_iff c19 h
        obtain ⟨v28, σ28, hc28, h⟩ := wx_b_ok h
        refine Nat.le_trans (m_X4_readBy_0 hc28) ?_
        exact m_X4_unlikeReads_31 (K6 := (f_X4_unlikeReads_6 b1 n)) @ih h
set_option maxRecDepth 20000 in
set_option maxHeartbeats 4000000 in
theorem b_X4_unlikeReads_6 (B : wx_B p s m args meth c cX4_unlikeReads 8 (some .int) wsX4_unlikeReads RX4 D ad ca A) {b1 : Nat}  (hb1 : b1 < 11) {r : Int32} {σ' : wx_St} {mc : Nat}   :
    ∀ {n : Nat} {x2 : Int64} {x4 : Int32} {x5 : Int32} {x6 : Int32} {σ : wx_St} {k : Nat} (hk : k + wx_n σ'.2.2.2.2 ≤ mc + wx_n σ.2.2.2.2)  (h : f_X4_unlikeReads_6 b1 n x2 x4 x5 x6 σ = some (r, σ')) {rd : Nat → Nat} {H : Heap} {locs : List Loc} (Z : wx_Z D ad rd ca A σ H) (hS : va_S A s.heap H locs) {ls : Array Slot} (hl : lv_has ls 8 [(0, .ref (ad 12 99)), (1, .ref (ad b1 99)), (2, .long x2), (4, .int x4), (5, .int x5), (6, .int x6)]), W p l e ({ frames := 4, cells := mc, slots := 6464 * mc, locals := 104 } : Room) s m args below meth c H locs k (6464 * k) (MQ below (wx_QA D ad ca A (some (.int r)) σ') args s mc (6464 * mc) A) (F0 m 6 ls []) := by
  obtain ⟨hx, hb, hml, hr, hts, hown, hlk, hC, hA⟩ := id B
  intro n
  induction n with
  | zero => intro x2 x4 x5 x6 σ k hk  h rd H locs Z hS ls hl; exact wx_no h
  | succ n ih =>
    intro x2 x4 x5 x6 σ k hk  h rd H locs Z hS ls hl
    have hm := m_X4_unlikeReads_6 h
    have mih : ∀ {x2 : Int64} {x4 : Int32} {x5 : Int32} {x6 : Int32} {σ : wx_St}, f_X4_unlikeReads_6 b1 n x2 x4 x5 x6 σ = some (r, σ') → wx_n σ.2.2.2.2 ≤ wx_n σ'.2.2.2.2 := fun h => m_X4_unlikeReads_6 h
    rw [f_X4_unlikeReads_6] at h
    refine lv_iload hx hb dX4_unlikeReads_6 (lv_at hl 5 rfl) ?_
    refine lv_bipush (v := 64) hx hb dX4_unlikeReads_8 (by decide) ?_
    refine lv_icmp_ge (tgt := 62) hx hb dX4_unlikeReads_10 (by decide) (fun c10 => ?_) (fun c10 => ?_)
    · replace h := wx_ift c10 h
      refine lv_iload hx hb dX4_unlikeReads_62 (lv_at hl 4 rfl) ?_
      obtain ⟨rfl, rfl⟩ := wx_ret_ok h
      refine W.widen (k := mc) (n := 6464 * mc) (by omega) (by omega) ?_
      exact W.iret hx hb hr (fun t ht hW => ⟨rfl, ⟨_, by rw [ht]; exact Z⟩, hS.F ht⟩) hS.2.2 dX4_unlikeReads_64
    · replace h := wx_iff c10 h
      refine lv_lload_n hx hb dX4_unlikeReads_13 rfl (lv_at hl 2 rfl) ?_
      refine lv_iload hx hb dX4_unlikeReads_14 (lv_at hl 5 rfl) ?_
      obtain ⟨v16, hc16, h⟩ := wx_o_ok h
      refine wx_call (va_runSN (As := [.long x2, .int x6]) (rest := []) ⟨hx, hb, hml, hown, hts⟩ (c_X5_isIn l (D := D) (ad := ad) (rd := rd) (ca := ca) (A := A) (σ := σ) hc16) ⟨va_cnB 2 hts gX4_unlikeReads_X5_isIn_n40 rfl rfl rfl (hC.1.2.1 _ (List.mem_of_getElem? (i := 64) rfl)) (hts _ k_X4_unlikeReads_w0) (by decide +kernel) ⟨Nat.le_of_ble_eq_true rfl, Nat.le_of_ble_eq_true rfl⟩, hts _ k_X4_unlikeReads_w1, trivial⟩ (wx_preS hC Z hS hA) rfl rfl hl.1 rfl (lv_room (Nat.le_of_ble_eq_true rfl)) dX4_unlikeReads_16 ⟨(by show k + 0 ≤ mc; omega), (by show 6464 * k + 0 ≤ 6464 * mc; omega)⟩) hS (fun H locs Z hS => ?_)
      refine lv_if_eq (tgt := 56) hx hb dX4_unlikeReads_19 (by decide) (fun c19 => ?_) (fun c19 => ?_)
      · replace h := wx_ift c19 h
        exact b_X4_unlikeReads_56 B hb1 (K6 := (f_X4_unlikeReads_6 b1 n)) @ih mih (k := k) hk h Z hS (lv_sub hl [0, 1, 2, 3, 4, 5] rfl)
      · replace h := wx_iff c19 h
        refine lv_aload_n hx hb dX4_unlikeReads_22 rfl (lv_at hl 0 rfl) ?_
        refine lv_aload_n hx hb dX4_unlikeReads_23 rfl (lv_at hl 1 rfl) ?_
        refine lv_iload hx hb dX4_unlikeReads_24 (lv_at hl 5 rfl) ?_
        refine lv_iload hx hb dX4_unlikeReads_26 (lv_at hl 3 rfl) ?_
        obtain ⟨v28, σ28, hc28, h⟩ := wx_b_ok h
        have m1 := m_X4_readBy_0 hc28
        have m2 := m_X4_unlikeReads_31 (K6 := (f_X4_unlikeReads_6 b1 n)) mih h
        refine wx_callA (va_runV (As := [.ref (ad b1 99), .int x6, .int x4]) (rest := []) ⟨hx, hb, hml, hown, hts⟩ (c_X4_readBy l (D := D) (ad := ad) (rd := rd) (ca := ca) (A := A) (σ := σ) (b1 := b1) hb1 hc28) (cwV 3 hts gX4_unlikeReads_X4_readBy rfl rfl rfl (by decide +kernel) ⟨Nat.le_of_ble_eq_true rfl, Nat.le_of_ble_eq_true rfl⟩) (wx_preV hC Z hS hA rfl (rfl : vwCl[4]? = some (RX4, TX4, 2))) rfl rfl hl.1 rfl (lv_room (Nat.le_of_ble_eq_true rfl)) dX4_unlikeReads_28 ⟨(by show k + (wx_n σ28.2.2.2.2 - wx_n σ.2.2.2.2) ≤ mc; omega), (by show 6464 * k + 6464 * (wx_n σ28.2.2.2.2 - wx_n σ.2.2.2.2) ≤ 6464 * mc; omega)⟩) hS (fun rd H locs Z hS => ?_)
        refine W.widen (k := k + (wx_n σ28.2.2.2.2 - wx_n σ.2.2.2.2)) (n := 6464 * (k + (wx_n σ28.2.2.2.2 - wx_n σ.2.2.2.2))) (Nat.le_refl _) (by omega) ?_
        exact b_X4_unlikeReads_31 B hb1 (K6 := (f_X4_unlikeReads_6 b1 n)) @ih mih (k := k + (wx_n σ28.2.2.2.2 - wx_n σ.2.2.2.2)) (by omega) h Z hS (lv_sub hl [0, 1, 2, 3, 4, 5] rfl)
set_option maxRecDepth 20000 in
set_option maxHeartbeats 4000000 in
theorem m_X4_unlikeReads_0 {b1 : Nat} {r : Int32} {σ' : wx_St}  {x2 : Int64} {x4 : Int32} {σ : wx_St} (h : f_X4_unlikeReads b1 x2 x4 σ = some (r, σ')) : wx_n σ.2.2.2.2 ≤ wx_n σ'.2.2.2.2 := by
  unfold f_X4_unlikeReads at h
  exact m_X4_unlikeReads_6 h
set_option maxRecDepth 20000 in
set_option maxHeartbeats 4000000 in
theorem b_X4_unlikeReads_0 (B : wx_B p s m args meth c cX4_unlikeReads 8 (some .int) wsX4_unlikeReads RX4 D ad ca A) {b1 : Nat}  (hb1 : b1 < 11) {r : Int32} {σ' : wx_St} {mc : Nat}  {x2 : Int64} {x4 : Int32} {σ : wx_St} {k : Nat} (hk : k + wx_n σ'.2.2.2.2 ≤ mc + wx_n σ.2.2.2.2)  (h : f_X4_unlikeReads b1 x2 x4 σ = some (r, σ')) {rd : Nat → Nat} {H : Heap} {locs : List Loc} (Z : wx_Z D ad rd ca A σ H) (hS : va_S A s.heap H locs) {ls : Array Slot} (hl : lv_has ls 8 [(0, .ref (ad 12 99)), (1, .ref (ad b1 99)), (2, .long x2), (4, .int x4)]) : W p l e ({ frames := 4, cells := mc, slots := 6464 * mc, locals := 104 } : Room) s m args below meth c H locs k (6464 * k) (MQ below (wx_QA D ad ca A (some (.int r)) σ') args s mc (6464 * mc) A) (F0 m 0 ls []) := by
  obtain ⟨hx, hb, hml, hr, hts, hown, hlk, hC, hA⟩ := id B
  have hm := m_X4_unlikeReads_0 h
  unfold f_X4_unlikeReads at h
  refine lv_iconst (v := 0) hx hb dX4_unlikeReads_0 (by decide) ?_
  refine lv_istore (lv' := [(5, .int 0), (0, .ref (ad 12 99)), (1, .ref (ad b1 99)), (2, .long x2), (4, .int x4)]) hx hb dX4_unlikeReads_1 hl (by decide) rfl (fun ls hl => ?_)
  refine lv_iconst (v := 0) hx hb dX4_unlikeReads_3 (by decide) ?_
  refine lv_istore (lv' := [(6, .int 0), (5, .int 0), (0, .ref (ad 12 99)), (1, .ref (ad b1 99)), (2, .long x2), (4, .int x4)]) hx hb dX4_unlikeReads_4 hl (by decide) rfl (fun ls hl => ?_)
  exact b_X4_unlikeReads_6 B hb1 (k := k) hk h Z hS (lv_sub hl [2, 3, 4, 5, 1, 0] rfl)
set_option maxRecDepth 20000 in
theorem c_X4_unlikeReads (l : Launch) {D : va_G} {ad : Nat → Nat → Nat} {rd : Nat → Nat} {ca : Nat → ClassId} {A : Nat → Prop} {σ : wx_St} {b1 : Nat}  (hb1 : b1 < 11) {x2 : Int64} {x4 : Int32} {r : Int32} {σ' : wx_St} (h : f_X4_unlikeReads b1 x2 x4 σ = some (r, σ')) : wx_MA l yX4_unlikeReads wsX4_unlikeReads 4 104 D ad rd ca A [.ref (ad 12 99), .ref (ad b1 99), .long x2, .int x4] σ (some (.int r)) σ' := by
  refine Met.ofW (cc := cX4_unlikeReads) (maxL := 8) (ret := (some .int)) (by decide +kernel) rfl ?_
  intro p e s m args below meth c s₁ B0 hml hv
  obtain ⟨rfl, hC, Z, hA⟩ := hv
  have hl := lv_entry ([.ref (ad 12 99), .ref (ad b1 99), .long x2, .int x4]) (n := 8) (Nat.le_of_ble_eq_true rfl)
  rw [lg_entry_eq]
  generalize (lg_sl ([.ref (ad 12 99), .ref (ad b1 99), .long x2, .int x4]) ++ List.replicate (8 - (lg_sl ([.ref (ad 12 99), .ref (ad b1 99), .long x2, .int x4])).length) Slot.unset).toArray = ls at hl ⊢
  exact b_X4_unlikeReads_0 ⟨B0.exec, B0.bytes, hml, B0.returns, atoms_spec (ws := wsX4_unlikeReads) B0.pre, findClass_of_methodNamed B0.named, B0.notSynchronized, hC, hA⟩ hb1 (k := 0) (by have hm := m_X4_unlikeReads_0 h; omega) h Z va_S.rf hl
theorem i_X5_answerOf_5 : ∀ w ∈ wsX50, w ∈ wsX5_answerOf := by decide +kernel
theorem k_X5_answerOf_w0 : Cond.fieldLink RX5 36 "WarmProbes" "pad" "LWarmProbes$Pad;" ∈ wsX5_answerOf := by decide +kernel
theorem k_X5_answerOf_w1 : Cond.initialized RX2 ∈ wsX5_answerOf := by decide +kernel
theorem k_X5_answerOf_w2 : Cond.instanceMethod yX2_codeAt ∈ wsX5_answerOf := by decide +kernel
theorem k_X5_answerOf_w3 : Cond.selects RX2 yX2_codeAt yX2_codeAt ∈ wsX5_answerOf := by decide +kernel
theorem k_X5_answerOf_w4 : Cond.fieldLink RX5 10 "WarmProbes" "board" "LWarmProbes$Board;" ∈ wsX5_answerOf := by decide +kernel
theorem k_X5_answerOf_w5 : Cond.instanceMethod yX2_digitAt ∈ wsX5_answerOf := by decide +kernel
theorem k_X5_answerOf_w6 : Cond.selects RX2 yX2_digitAt yX2_digitAt ∈ wsX5_answerOf := by decide +kernel
theorem k_X5_answerOf_w7 : Cond.initialized RX0 ∈ wsX5_answerOf := by decide +kernel
theorem k_X5_answerOf_w8 : Cond.instanceMethod yX0_turnPair ∈ wsX5_answerOf := by decide +kernel
theorem k_X5_answerOf_w9 : Cond.selects RX0 yX0_turnPair yX0_turnPair ∈ wsX5_answerOf := by decide +kernel
theorem k_X5_answerOf_w10 : Cond.instanceMethod yX0_part ∈ wsX5_answerOf := by decide +kernel
theorem k_X5_answerOf_w11 : Cond.selects RX0 yX0_part yX0_part ∈ wsX5_answerOf := by decide +kernel
theorem k_X5_answerOf_w12 : Cond.instanceMethod yX2_columnAt ∈ wsX5_answerOf := by decide +kernel
theorem k_X5_answerOf_w13 : Cond.selects RX2 yX2_columnAt yX2_columnAt ∈ wsX5_answerOf := by decide +kernel
theorem k_X5_answerOf_w14 : Cond.instanceMethod yX0_join ∈ wsX5_answerOf := by decide +kernel
theorem k_X5_answerOf_w15 : Cond.selects RX0 yX0_join yX0_join ∈ wsX5_answerOf := by decide +kernel
theorem k_X5_answerOf_w16 : Cond.instanceMethod yX0_lay ∈ wsX5_answerOf := by decide +kernel
theorem k_X5_answerOf_w17 : Cond.selects RX0 yX0_lay yX0_lay ∈ wsX5_answerOf := by decide +kernel
theorem k_X5_answerOf_w18 : Cond.instanceMethod yX2_numberIn ∈ wsX5_answerOf := by decide +kernel
theorem k_X5_answerOf_w19 : Cond.selects RX2 yX2_numberIn yX2_numberIn ∈ wsX5_answerOf := by decide +kernel
theorem k_X5_answerOf_w20 : Cond.instanceMethod yX0_letPass ∈ wsX5_answerOf := by decide +kernel
theorem k_X5_answerOf_w21 : Cond.selects RX0 yX0_letPass yX0_letPass ∈ wsX5_answerOf := by decide +kernel
theorem k_X5_answerOf_w22 : Cond.instanceMethod yX0_measure ∈ wsX5_answerOf := by decide +kernel
theorem k_X5_answerOf_w23 : Cond.selects RX0 yX0_measure yX0_measure ∈ wsX5_answerOf := by decide +kernel
set_option maxRecDepth 20000 in
set_option maxHeartbeats 4000000 in
theorem b_X5_answerOf_0 (B : wx_B p s m args meth c cX5_answerOf 5 (some .int) wsX5_answerOf RX5 D ad ca A)    {r : Int32} {σ' : wx_St}  {x1 : Int32} {x2 : Int32} {x3 : Int32} {σ : wx_St}  (h : f_X5_answerOf x1 x2 x3 σ = some (r, σ')) {H : Heap} {locs : List Loc} (Z : wx_Z D ad rd ca A σ H) (hS : va_S A s.heap H locs) {ls : Array Slot} (hl : lv_has ls 5 [(0, .ref (ad 11 99)), (1, .int x1), (2, .int x2), (3, .int x3)]) : W p l e ({ frames := 4, cells := 0, slots := 0, locals := 102 } : Room) s m args below meth c H locs 0 0 (MQ below (wx_Q D ad rd ca A (some (.int r)) σ') args s 0 0 A) (F0 m 0 ls []) := by
  obtain ⟨hx, hb, hml, hr, hts, hown, hlk, hC, hA⟩ := id B
  unfold f_X5_answerOf at h
  refine lv_aload_n hx hb dX5_answerOf_0 rfl (lv_at hl 0 rfl) ?_
  refine wx_get (own := RX5) hx hb hts i_X5_answerOf_5 hown hC.1 Z (o := 11) (ci := 5) rfl (rfl : vwCl[5]? = some (RX5, TX5, 7)) 4 (by decide) (hts _ k_X5_answerOf_w0) (fun _ h9 => h9) (f := 115) rfl rfl dX5_answerOf_1 ?_
  refine lv_iload_n hx hb dX5_answerOf_4 rfl (lv_at hl 1 rfl) ?_
  obtain ⟨v5, hc5, h⟩ := wx_o_ok h
  refine wx_call (va_runVN (As := [.int x1]) (rest := []) ⟨hx, hb, hml, hown, hts⟩ (c_X2_codeAt l (D := D) (ad := ad) (rd := rd) (ca := ca) (A := A) (σ := σ) hc5) ⟨va_cnB 1 hts gX5_answerOf_X2_codeAt_n241 rfl rfl rfl (hC.1.2.1 _ (List.mem_of_getElem? (i := 75) rfl)) (hts _ k_X5_answerOf_w1) (by decide +kernel) ⟨Nat.le_of_ble_eq_true rfl, Nat.le_of_ble_eq_true rfl⟩, hts _ k_X5_answerOf_w2, hts _ k_X5_answerOf_w3⟩ (wx_preV hC Z hS hA rfl (rfl : vwCl[2]? = some (RX2, TX2, 2))) rfl rfl hl.1 rfl (lv_room (Nat.le_of_ble_eq_true rfl)) dX5_answerOf_5 ⟨Nat.zero_le _, Nat.zero_le _⟩) hS (fun H locs Z hS => ?_)
  by_cases c8_0 : v5 = 102
  · replace h := wx_ift c8_0 h
    refine lv_lookup (off := 99) (tgt := 107) hx hb dX5_answerOf_8 (by decide) (by rw [c8_0]; decide) (by decide) ?_
    refine lv_aload_n hx hb dX5_answerOf_107 rfl (lv_at hl 0 rfl) ?_
    refine wx_get (own := RX5) hx hb hts i_X5_answerOf_5 hown hC.1 Z (o := 11) (ci := 5) rfl (rfl : vwCl[5]? = some (RX5, TX5, 7)) 0 (by decide) (hts _ k_X5_answerOf_w4) (fun _ h9 => h9) (f := 107) rfl rfl dX5_answerOf_108 ?_
    refine lv_aload_n hx hb dX5_answerOf_111 rfl (lv_at hl 0 rfl) ?_
    refine wx_get (own := RX5) hx hb hts i_X5_answerOf_5 hown hC.1 Z (o := 11) (ci := 5) rfl (rfl : vwCl[5]? = some (RX5, TX5, 7)) 4 (by decide) (hts _ k_X5_answerOf_w0) (fun _ h9 => h9) (f := 115) rfl rfl dX5_answerOf_112 ?_
    refine lv_iload_n hx hb dX5_answerOf_115 rfl (lv_at hl 1 rfl) ?_
    refine lv_iconst (v := 1) hx hb dX5_answerOf_116 (by decide) ?_
    refine lv_iadd hx hb dX5_answerOf_117 ?_
    obtain ⟨v118, hc118, h⟩ := wx_o_ok h
    refine wx_call (va_runVN (As := [.int (x1 + 1)]) (rest := [.ref (ad 7 99)]) ⟨hx, hb, hml, hown, hts⟩ (c_X2_digitAt l (D := D) (ad := ad) (rd := rd) (ca := ca) (A := A) (σ := σ) hc118) ⟨va_cnB 1 hts gX5_answerOf_X2_digitAt_n244 rfl rfl rfl (hC.1.2.1 _ (List.mem_of_getElem? (i := 76) rfl)) (hts _ k_X5_answerOf_w1) (by decide +kernel) ⟨Nat.le_of_ble_eq_true rfl, Nat.le_of_ble_eq_true rfl⟩, hts _ k_X5_answerOf_w5, hts _ k_X5_answerOf_w6⟩ (wx_preV hC Z hS hA rfl (rfl : vwCl[2]? = some (RX2, TX2, 2))) rfl rfl hl.1 rfl (lv_room (Nat.le_of_ble_eq_true rfl)) dX5_answerOf_118 ⟨Nat.zero_le _, Nat.zero_le _⟩) hS (fun H locs Z hS => ?_)
    refine lv_aload_n hx hb dX5_answerOf_121 rfl (lv_at hl 0 rfl) ?_
    refine wx_get (own := RX5) hx hb hts i_X5_answerOf_5 hown hC.1 Z (o := 11) (ci := 5) rfl (rfl : vwCl[5]? = some (RX5, TX5, 7)) 4 (by decide) (hts _ k_X5_answerOf_w0) (fun _ h9 => h9) (f := 115) rfl rfl dX5_answerOf_122 ?_
    refine lv_iload_n hx hb dX5_answerOf_125 rfl (lv_at hl 1 rfl) ?_
    refine lv_iconst (v := 2) hx hb dX5_answerOf_126 (by decide) ?_
    refine lv_iadd hx hb dX5_answerOf_127 ?_
    obtain ⟨v128, hc128, h⟩ := wx_o_ok h
    refine wx_call (va_runVN (As := [.int (x1 + 2)]) (rest := [.int v118, .ref (ad 7 99)]) ⟨hx, hb, hml, hown, hts⟩ (c_X2_digitAt l (D := D) (ad := ad) (rd := rd) (ca := ca) (A := A) (σ := σ) hc128) ⟨va_cnB 1 hts gX5_answerOf_X2_digitAt_n244 rfl rfl rfl (hC.1.2.1 _ (List.mem_of_getElem? (i := 76) rfl)) (hts _ k_X5_answerOf_w1) (by decide +kernel) ⟨Nat.le_of_ble_eq_true rfl, Nat.le_of_ble_eq_true rfl⟩, hts _ k_X5_answerOf_w5, hts _ k_X5_answerOf_w6⟩ (wx_preV hC Z hS hA rfl (rfl : vwCl[2]? = some (RX2, TX2, 2))) rfl rfl hl.1 rfl (lv_room (Nat.le_of_ble_eq_true rfl)) dX5_answerOf_128 ⟨Nat.zero_le _, Nat.zero_le _⟩) hS (fun H locs Z hS => ?_)
    obtain ⟨v131, σ131, hc131, h⟩ := wx_b_ok h
    refine wx_call (va_runVN (As := [.int v118, .int v128]) (rest := []) ⟨hx, hb, hml, hown, hts⟩ (c_X0_turnPair l (D := D) (ad := ad) (rd := rd) (ca := ca) (A := A) (σ := σ) (o := 7) (by decide : 7 < 11) hc131) ⟨va_cnB 2 hts gX5_answerOf_X0_turnPair_n70 rfl rfl rfl (hC.1.2.1 _ (List.mem_of_getElem? (i := 40) rfl)) (hts _ k_X5_answerOf_w7) (by decide +kernel) ⟨Nat.le_of_ble_eq_true rfl, Nat.le_of_ble_eq_true rfl⟩, hts _ k_X5_answerOf_w8, hts _ k_X5_answerOf_w9⟩ (wx_preV hC Z hS hA rfl (rfl : vwCl[0]? = some (RX0, TX0, 13))) rfl rfl hl.1 rfl (lv_room (Nat.le_of_ble_eq_true rfl)) dX5_answerOf_131 ⟨Nat.zero_le _, Nat.zero_le _⟩) hS (fun H locs Z hS => ?_)
    obtain ⟨rfl, rfl⟩ := wx_ret_ok h
    exact W.iret hx hb hr (fun t ht hW => ⟨rfl, by rw [ht]; exact Z, hS.F ht⟩) hS.2.2 dX5_answerOf_134
  · replace h := wx_iff c8_0 h
    by_cases c8_1 : v5 = 109
    · replace h := wx_ift c8_1 h
      refine lv_lookup (off := 165) (tgt := 173) hx hb dX5_answerOf_8 (by decide) (by rw [c8_1]; decide) (by decide) ?_
      refine lv_aload_n hx hb dX5_answerOf_173 rfl (lv_at hl 0 rfl) ?_
      refine wx_get (own := RX5) hx hb hts i_X5_answerOf_5 hown hC.1 Z (o := 11) (ci := 5) rfl (rfl : vwCl[5]? = some (RX5, TX5, 7)) 0 (by decide) (hts _ k_X5_answerOf_w4) (fun _ h9 => h9) (f := 107) rfl rfl dX5_answerOf_174 ?_
      refine lv_aload_n hx hb dX5_answerOf_177 rfl (lv_at hl 0 rfl) ?_
      refine wx_get (own := RX5) hx hb hts i_X5_answerOf_5 hown hC.1 Z (o := 11) (ci := 5) rfl (rfl : vwCl[5]? = some (RX5, TX5, 7)) 4 (by decide) (hts _ k_X5_answerOf_w0) (fun _ h9 => h9) (f := 115) rfl rfl dX5_answerOf_178 ?_
      refine lv_iload_n hx hb dX5_answerOf_181 rfl (lv_at hl 1 rfl) ?_
      refine lv_iconst (v := 1) hx hb dX5_answerOf_182 (by decide) ?_
      refine lv_iadd hx hb dX5_answerOf_183 ?_
      obtain ⟨v184, hc184, h⟩ := wx_o_ok h
      refine wx_call (va_runVN (As := [.int (x1 + 1)]) (rest := [.ref (ad 7 99)]) ⟨hx, hb, hml, hown, hts⟩ (c_X2_digitAt l (D := D) (ad := ad) (rd := rd) (ca := ca) (A := A) (σ := σ) hc184) ⟨va_cnB 1 hts gX5_answerOf_X2_digitAt_n244 rfl rfl rfl (hC.1.2.1 _ (List.mem_of_getElem? (i := 76) rfl)) (hts _ k_X5_answerOf_w1) (by decide +kernel) ⟨Nat.le_of_ble_eq_true rfl, Nat.le_of_ble_eq_true rfl⟩, hts _ k_X5_answerOf_w5, hts _ k_X5_answerOf_w6⟩ (wx_preV hC Z hS hA rfl (rfl : vwCl[2]? = some (RX2, TX2, 2))) rfl rfl hl.1 rfl (lv_room (Nat.le_of_ble_eq_true rfl)) dX5_answerOf_184 ⟨Nat.zero_le _, Nat.zero_le _⟩) hS (fun H locs Z hS => ?_)
      obtain ⟨v187, σ187, hc187, h⟩ := wx_b_ok h
      refine wx_call (va_runVN (As := [.int v184]) (rest := []) ⟨hx, hb, hml, hown, hts⟩ (c_X0_part l (D := D) (ad := ad) (rd := rd) (ca := ca) (A := A) (σ := σ) (o := 7) (by decide : 7 < 11) hc187) ⟨va_cnB 1 hts gX5_answerOf_X0_part_n67 rfl rfl rfl (hC.1.2.1 _ (List.mem_of_getElem? (i := 39) rfl)) (hts _ k_X5_answerOf_w7) (by decide +kernel) ⟨Nat.le_of_ble_eq_true rfl, Nat.le_of_ble_eq_true rfl⟩, hts _ k_X5_answerOf_w10, hts _ k_X5_answerOf_w11⟩ (wx_preV hC Z hS hA rfl (rfl : vwCl[0]? = some (RX0, TX0, 13))) rfl rfl hl.1 rfl (lv_room (Nat.le_of_ble_eq_true rfl)) dX5_answerOf_187 ⟨Nat.zero_le _, Nat.zero_le _⟩) hS (fun H locs Z hS => ?_)
      obtain ⟨rfl, rfl⟩ := wx_ret_ok h
      exact W.iret hx hb hr (fun t ht hW => ⟨rfl, by rw [ht]; exact Z, hS.F ht⟩) hS.2.2 dX5_answerOf_190
    · replace h := wx_iff c8_1 h
      by_cases c8_2 : v5 = 115
      · replace h := wx_ift c8_2 h
        refine lv_lookup (off := 127) (tgt := 135) hx hb dX5_answerOf_8 (by decide) (by rw [c8_2]; decide) (by decide) ?_
        refine lv_aload_n hx hb dX5_answerOf_135 rfl (lv_at hl 0 rfl) ?_
        refine wx_get (own := RX5) hx hb hts i_X5_answerOf_5 hown hC.1 Z (o := 11) (ci := 5) rfl (rfl : vwCl[5]? = some (RX5, TX5, 7)) 0 (by decide) (hts _ k_X5_answerOf_w4) (fun _ h9 => h9) (f := 107) rfl rfl dX5_answerOf_136 ?_
        refine lv_aload_n hx hb dX5_answerOf_139 rfl (lv_at hl 0 rfl) ?_
        refine wx_get (own := RX5) hx hb hts i_X5_answerOf_5 hown hC.1 Z (o := 11) (ci := 5) rfl (rfl : vwCl[5]? = some (RX5, TX5, 7)) 4 (by decide) (hts _ k_X5_answerOf_w0) (fun _ h9 => h9) (f := 115) rfl rfl dX5_answerOf_140 ?_
        refine lv_iload_n hx hb dX5_answerOf_143 rfl (lv_at hl 1 rfl) ?_
        refine lv_iconst (v := 2) hx hb dX5_answerOf_144 (by decide) ?_
        refine lv_iadd hx hb dX5_answerOf_145 ?_
        obtain ⟨v146, hc146, h⟩ := wx_o_ok h
        refine wx_call (va_runVN (As := [.int (x1 + 2)]) (rest := [.ref (ad 7 99)]) ⟨hx, hb, hml, hown, hts⟩ (c_X2_digitAt l (D := D) (ad := ad) (rd := rd) (ca := ca) (A := A) (σ := σ) hc146) ⟨va_cnB 1 hts gX5_answerOf_X2_digitAt_n244 rfl rfl rfl (hC.1.2.1 _ (List.mem_of_getElem? (i := 76) rfl)) (hts _ k_X5_answerOf_w1) (by decide +kernel) ⟨Nat.le_of_ble_eq_true rfl, Nat.le_of_ble_eq_true rfl⟩, hts _ k_X5_answerOf_w5, hts _ k_X5_answerOf_w6⟩ (wx_preV hC Z hS hA rfl (rfl : vwCl[2]? = some (RX2, TX2, 2))) rfl rfl hl.1 rfl (lv_room (Nat.le_of_ble_eq_true rfl)) dX5_answerOf_146 ⟨Nat.zero_le _, Nat.zero_le _⟩) hS (fun H locs Z hS => ?_)
        refine lv_aload_n hx hb dX5_answerOf_149 rfl (lv_at hl 0 rfl) ?_
        refine wx_get (own := RX5) hx hb hts i_X5_answerOf_5 hown hC.1 Z (o := 11) (ci := 5) rfl (rfl : vwCl[5]? = some (RX5, TX5, 7)) 4 (by decide) (hts _ k_X5_answerOf_w0) (fun _ h9 => h9) (f := 115) rfl rfl dX5_answerOf_150 ?_
        refine lv_iload_n hx hb dX5_answerOf_153 rfl (lv_at hl 1 rfl) ?_
        refine lv_iconst (v := 1) hx hb dX5_answerOf_154 (by decide) ?_
        refine lv_iadd hx hb dX5_answerOf_155 ?_
        obtain ⟨v156, hc156, h⟩ := wx_o_ok h
        refine wx_call (va_runVN (As := [.int (x1 + 1)]) (rest := [.int v146, .ref (ad 7 99)]) ⟨hx, hb, hml, hown, hts⟩ (c_X2_columnAt l (D := D) (ad := ad) (rd := rd) (ca := ca) (A := A) (σ := σ) hc156) ⟨va_cnB 1 hts gX5_answerOf_X2_columnAt_n247 rfl rfl rfl (hC.1.2.1 _ (List.mem_of_getElem? (i := 77) rfl)) (hts _ k_X5_answerOf_w1) (by decide +kernel) ⟨Nat.le_of_ble_eq_true rfl, Nat.le_of_ble_eq_true rfl⟩, hts _ k_X5_answerOf_w12, hts _ k_X5_answerOf_w13⟩ (wx_preV hC Z hS hA rfl (rfl : vwCl[2]? = some (RX2, TX2, 2))) rfl rfl hl.1 rfl (lv_room (Nat.le_of_ble_eq_true rfl)) dX5_answerOf_156 ⟨Nat.zero_le _, Nat.zero_le _⟩) hS (fun H locs Z hS => ?_)
        refine lv_aload_n hx hb dX5_answerOf_159 rfl (lv_at hl 0 rfl) ?_
        refine wx_get (own := RX5) hx hb hts i_X5_answerOf_5 hown hC.1 Z (o := 11) (ci := 5) rfl (rfl : vwCl[5]? = some (RX5, TX5, 7)) 4 (by decide) (hts _ k_X5_answerOf_w0) (fun _ h9 => h9) (f := 115) rfl rfl dX5_answerOf_160 ?_
        refine lv_iload_n hx hb dX5_answerOf_163 rfl (lv_at hl 1 rfl) ?_
        refine lv_iconst (v := 4) hx hb dX5_answerOf_164 (by decide) ?_
        refine lv_iadd hx hb dX5_answerOf_165 ?_
        obtain ⟨v166, hc166, h⟩ := wx_o_ok h
        refine wx_call (va_runVN (As := [.int (x1 + 4)]) (rest := [.int v156, .int v146, .ref (ad 7 99)]) ⟨hx, hb, hml, hown, hts⟩ (c_X2_digitAt l (D := D) (ad := ad) (rd := rd) (ca := ca) (A := A) (σ := σ) hc166) ⟨va_cnB 1 hts gX5_answerOf_X2_digitAt_n244 rfl rfl rfl (hC.1.2.1 _ (List.mem_of_getElem? (i := 76) rfl)) (hts _ k_X5_answerOf_w1) (by decide +kernel) ⟨Nat.le_of_ble_eq_true rfl, Nat.le_of_ble_eq_true rfl⟩, hts _ k_X5_answerOf_w5, hts _ k_X5_answerOf_w6⟩ (wx_preV hC Z hS hA rfl (rfl : vwCl[2]? = some (RX2, TX2, 2))) rfl rfl hl.1 rfl (lv_room (Nat.le_of_ble_eq_true rfl)) dX5_answerOf_166 ⟨Nat.zero_le _, Nat.zero_le _⟩) hS (fun H locs Z hS => ?_)
        obtain ⟨v169, σ169, hc169, h⟩ := wx_b_ok h
        refine wx_call (va_runVN (As := [.int v146, .int v156, .int v166]) (rest := []) ⟨hx, hb, hml, hown, hts⟩ (c_X0_join l (D := D) (ad := ad) (rd := rd) (ca := ca) (A := A) (σ := σ) (o := 7) (by decide : 7 < 11) hc169) ⟨va_cnB 3 hts gX5_answerOf_X0_join_n64 rfl rfl rfl (hC.1.2.1 _ (List.mem_of_getElem? (i := 37) rfl)) (hts _ k_X5_answerOf_w7) (by decide +kernel) ⟨Nat.le_of_ble_eq_true rfl, Nat.le_of_ble_eq_true rfl⟩, hts _ k_X5_answerOf_w14, hts _ k_X5_answerOf_w15⟩ (wx_preV hC Z hS hA rfl (rfl : vwCl[0]? = some (RX0, TX0, 13))) rfl rfl hl.1 rfl (lv_room (Nat.le_of_ble_eq_true rfl)) dX5_answerOf_169 ⟨Nat.zero_le _, Nat.zero_le _⟩) hS (fun H locs Z hS => ?_)
        obtain ⟨rfl, rfl⟩ := wx_ret_ok h
        exact W.iret hx hb hr (fun t ht hW => ⟨rfl, by rw [ht]; exact Z, hS.F ht⟩) hS.2.2 dX5_answerOf_172
      · replace h := wx_iff c8_2 h
        by_cases c8_3 : v5 = 116
        · replace h := wx_ift c8_3 h
          refine lv_lookup (off := 52) (tgt := 60) hx hb dX5_answerOf_8 (by decide) (by rw [c8_3]; decide) (by decide) ?_
          refine lv_iload_n hx hb dX5_answerOf_60 rfl (lv_at hl 1 rfl) ?_
          refine lv_iconst (v := 2) hx hb dX5_answerOf_61 (by decide) ?_
          refine lv_iadd hx hb dX5_answerOf_62 ?_
          refine lv_iconst (v := 2) hx hb dX5_answerOf_63 (by decide) ?_
          refine lv_iload_n hx hb dX5_answerOf_64 rfl (lv_at hl 3 rfl) ?_
          refine lv_imul hx hb dX5_answerOf_65 ?_
          refine lv_iadd hx hb dX5_answerOf_66 ?_
          refine lv_istore (lv' := [(4, .int ((x1 + 2) + (2 * x3))), (0, .ref (ad 11 99)), (1, .int x1), (2, .int x2), (3, .int x3)]) hx hb dX5_answerOf_67 hl (by decide) rfl (fun ls hl => ?_)
          refine lv_aload_n hx hb dX5_answerOf_69 rfl (lv_at hl 1 rfl) ?_
          refine wx_get (own := RX5) hx hb hts i_X5_answerOf_5 hown hC.1 Z (o := 11) (ci := 5) rfl (rfl : vwCl[5]? = some (RX5, TX5, 7)) 0 (by decide) (hts _ k_X5_answerOf_w4) (fun _ h9 => h9) (f := 107) rfl rfl dX5_answerOf_70 ?_
          refine lv_aload_n hx hb dX5_answerOf_73 rfl (lv_at hl 1 rfl) ?_
          refine wx_get (own := RX5) hx hb hts i_X5_answerOf_5 hown hC.1 Z (o := 11) (ci := 5) rfl (rfl : vwCl[5]? = some (RX5, TX5, 7)) 4 (by decide) (hts _ k_X5_answerOf_w0) (fun _ h9 => h9) (f := 115) rfl rfl dX5_answerOf_74 ?_
          refine lv_iload hx hb dX5_answerOf_77 (lv_at hl 0 rfl) ?_
          refine lv_iconst (v := 1) hx hb dX5_answerOf_79 (by decide) ?_
          refine lv_iadd hx hb dX5_answerOf_80 ?_
          obtain ⟨v81, hc81, h⟩ := wx_o_ok h
          refine wx_call (va_runVN (As := [.int (((x1 + 2) + (2 * x3)) + 1)]) (rest := [.ref (ad 7 99)]) ⟨hx, hb, hml, hown, hts⟩ (c_X2_digitAt l (D := D) (ad := ad) (rd := rd) (ca := ca) (A := A) (σ := σ) hc81) ⟨va_cnB 1 hts gX5_answerOf_X2_digitAt_n244 rfl rfl rfl (hC.1.2.1 _ (List.mem_of_getElem? (i := 76) rfl)) (hts _ k_X5_answerOf_w1) (by decide +kernel) ⟨Nat.le_of_ble_eq_true rfl, Nat.le_of_ble_eq_true rfl⟩, hts _ k_X5_answerOf_w5, hts _ k_X5_answerOf_w6⟩ (wx_preV hC Z hS hA rfl (rfl : vwCl[2]? = some (RX2, TX2, 2))) rfl rfl hl.1 rfl (lv_room (Nat.le_of_ble_eq_true rfl)) dX5_answerOf_81 ⟨Nat.zero_le _, Nat.zero_le _⟩) hS (fun H locs Z hS => ?_)
          refine lv_aload_n hx hb dX5_answerOf_84 rfl (lv_at hl 1 rfl) ?_
          refine wx_get (own := RX5) hx hb hts i_X5_answerOf_5 hown hC.1 Z (o := 11) (ci := 5) rfl (rfl : vwCl[5]? = some (RX5, TX5, 7)) 4 (by decide) (hts _ k_X5_answerOf_w0) (fun _ h9 => h9) (f := 115) rfl rfl dX5_answerOf_85 ?_
          refine lv_iload hx hb dX5_answerOf_88 (lv_at hl 0 rfl) ?_
          obtain ⟨v90, hc90, h⟩ := wx_o_ok h
          refine wx_call (va_runVN (As := [.int ((x1 + 2) + (2 * x3))]) (rest := [.int v81, .ref (ad 7 99)]) ⟨hx, hb, hml, hown, hts⟩ (c_X2_columnAt l (D := D) (ad := ad) (rd := rd) (ca := ca) (A := A) (σ := σ) hc90) ⟨va_cnB 1 hts gX5_answerOf_X2_columnAt_n247 rfl rfl rfl (hC.1.2.1 _ (List.mem_of_getElem? (i := 77) rfl)) (hts _ k_X5_answerOf_w1) (by decide +kernel) ⟨Nat.le_of_ble_eq_true rfl, Nat.le_of_ble_eq_true rfl⟩, hts _ k_X5_answerOf_w12, hts _ k_X5_answerOf_w13⟩ (wx_preV hC Z hS hA rfl (rfl : vwCl[2]? = some (RX2, TX2, 2))) rfl rfl hl.1 rfl (lv_room (Nat.le_of_ble_eq_true rfl)) dX5_answerOf_90 ⟨Nat.zero_le _, Nat.zero_le _⟩) hS (fun H locs Z hS => ?_)
          refine lv_aload_n hx hb dX5_answerOf_93 rfl (lv_at hl 1 rfl) ?_
          refine wx_get (own := RX5) hx hb hts i_X5_answerOf_5 hown hC.1 Z (o := 11) (ci := 5) rfl (rfl : vwCl[5]? = some (RX5, TX5, 7)) 4 (by decide) (hts _ k_X5_answerOf_w0) (fun _ h9 => h9) (f := 115) rfl rfl dX5_answerOf_94 ?_
          refine lv_iload_n hx hb dX5_answerOf_97 rfl (lv_at hl 2 rfl) ?_
          refine lv_iconst (v := 1) hx hb dX5_answerOf_98 (by decide) ?_
          refine lv_iadd hx hb dX5_answerOf_99 ?_
          obtain ⟨v100, hc100, h⟩ := wx_o_ok h
          refine wx_call (va_runVN (As := [.int (x1 + 1)]) (rest := [.int v90, .int v81, .ref (ad 7 99)]) ⟨hx, hb, hml, hown, hts⟩ (c_X2_digitAt l (D := D) (ad := ad) (rd := rd) (ca := ca) (A := A) (σ := σ) hc100) ⟨va_cnB 1 hts gX5_answerOf_X2_digitAt_n244 rfl rfl rfl (hC.1.2.1 _ (List.mem_of_getElem? (i := 76) rfl)) (hts _ k_X5_answerOf_w1) (by decide +kernel) ⟨Nat.le_of_ble_eq_true rfl, Nat.le_of_ble_eq_true rfl⟩, hts _ k_X5_answerOf_w5, hts _ k_X5_answerOf_w6⟩ (wx_preV hC Z hS hA rfl (rfl : vwCl[2]? = some (RX2, TX2, 2))) rfl rfl hl.1 rfl (lv_room (Nat.le_of_ble_eq_true rfl)) dX5_answerOf_100 ⟨Nat.zero_le _, Nat.zero_le _⟩) hS (fun H locs Z hS => ?_)
          obtain ⟨v103, σ103, hc103, h⟩ := wx_b_ok h
          refine wx_call (va_runVN (As := [.int v81, .int v90, .int v100]) (rest := []) ⟨hx, hb, hml, hown, hts⟩ (c_X0_lay l (D := D) (ad := ad) (rd := rd) (ca := ca) (A := A) (σ := σ) (o := 7) (by decide : 7 < 11) hc103) ⟨va_cnB 3 hts gX5_answerOf_X0_lay_n60 rfl rfl rfl (hC.1.2.1 _ (List.mem_of_getElem? (i := 33) rfl)) (hts _ k_X5_answerOf_w7) (by decide +kernel) ⟨Nat.le_of_ble_eq_true rfl, Nat.le_of_ble_eq_true rfl⟩, hts _ k_X5_answerOf_w16, hts _ k_X5_answerOf_w17⟩ (wx_preV hC Z hS hA rfl (rfl : vwCl[0]? = some (RX0, TX0, 13))) rfl rfl hl.1 rfl (lv_room (Nat.le_of_ble_eq_true rfl)) dX5_answerOf_103 ⟨Nat.zero_le _, Nat.zero_le _⟩) hS (fun H locs Z hS => ?_)
          obtain ⟨rfl, rfl⟩ := wx_ret_ok h
          exact W.iret hx hb hr (fun t ht hW => ⟨rfl, by rw [ht]; exact Z, hS.F ht⟩) hS.2.2 dX5_answerOf_106
        · replace h := wx_iff c8_3 h
          by_cases c8_4 : v5 = 119
          · replace h := wx_ift c8_4 h
            refine lv_lookup (off := 183) (tgt := 191) hx hb dX5_answerOf_8 (by decide) (by rw [c8_4]; decide) (by decide) ?_
            refine lv_aload_n hx hb dX5_answerOf_191 rfl (lv_at hl 0 rfl) ?_
            refine wx_get (own := RX5) hx hb hts i_X5_answerOf_5 hown hC.1 Z (o := 11) (ci := 5) rfl (rfl : vwCl[5]? = some (RX5, TX5, 7)) 0 (by decide) (hts _ k_X5_answerOf_w4) (fun _ h9 => h9) (f := 107) rfl rfl dX5_answerOf_192 ?_
            refine lv_aload_n hx hb dX5_answerOf_195 rfl (lv_at hl 0 rfl) ?_
            refine wx_get (own := RX5) hx hb hts i_X5_answerOf_5 hown hC.1 Z (o := 11) (ci := 5) rfl (rfl : vwCl[5]? = some (RX5, TX5, 7)) 4 (by decide) (hts _ k_X5_answerOf_w0) (fun _ h9 => h9) (f := 115) rfl rfl dX5_answerOf_196 ?_
            refine lv_iload_n hx hb dX5_answerOf_199 rfl (lv_at hl 1 rfl) ?_
            refine lv_iconst (v := 1) hx hb dX5_answerOf_200 (by decide) ?_
            refine lv_iadd hx hb dX5_answerOf_201 ?_
            refine lv_iload_n hx hb dX5_answerOf_202 rfl (lv_at hl 2 rfl) ?_
            obtain ⟨v203, hc203, h⟩ := wx_o_ok h
            refine wx_call (va_runVN (As := [.int (x1 + 1), .int x2]) (rest := [.ref (ad 7 99)]) ⟨hx, hb, hml, hown, hts⟩ (c_X2_numberIn l (D := D) (ad := ad) (rd := rd) (ca := ca) (A := A) (σ := σ) hc203) ⟨va_cnB 2 hts gX5_answerOf_X2_numberIn_n250 rfl rfl rfl (hC.1.2.1 _ (List.mem_of_getElem? (i := 78) rfl)) (hts _ k_X5_answerOf_w1) (by decide +kernel) ⟨Nat.le_of_ble_eq_true rfl, Nat.le_of_ble_eq_true rfl⟩, hts _ k_X5_answerOf_w18, hts _ k_X5_answerOf_w19⟩ (wx_preV hC Z hS hA rfl (rfl : vwCl[2]? = some (RX2, TX2, 2))) rfl rfl hl.1 rfl (lv_room (Nat.le_of_ble_eq_true rfl)) dX5_answerOf_203 ⟨Nat.zero_le _, Nat.zero_le _⟩) hS (fun H locs Z hS => ?_)
            obtain ⟨v206, σ206, hc206, h⟩ := wx_b_ok h
            refine wx_call (va_runVN (As := [.int v203]) (rest := []) ⟨hx, hb, hml, hown, hts⟩ (c_X0_letPass l (D := D) (ad := ad) (rd := rd) (ca := ca) (A := A) (σ := σ) (o := 7) (by decide : 7 < 11) hc206) ⟨va_cnB 1 hts gX5_answerOf_X0_letPass_n80 rfl rfl rfl (hC.1.2.1 _ (List.mem_of_getElem? (i := 42) rfl)) (hts _ k_X5_answerOf_w7) (by decide +kernel) ⟨Nat.le_of_ble_eq_true rfl, Nat.le_of_ble_eq_true rfl⟩, hts _ k_X5_answerOf_w20, hts _ k_X5_answerOf_w21⟩ (wx_preV hC Z hS hA rfl (rfl : vwCl[0]? = some (RX0, TX0, 13))) rfl rfl hl.1 rfl (lv_room (Nat.le_of_ble_eq_true rfl)) dX5_answerOf_206 ⟨Nat.zero_le _, Nat.zero_le _⟩) hS (fun H locs Z hS => ?_)
            obtain ⟨rfl, rfl⟩ := wx_ret_ok h
            exact W.iret hx hb hr (fun t ht hW => ⟨rfl, by rw [ht]; exact Z, hS.F ht⟩) hS.2.2 dX5_answerOf_209
          · replace h := wx_iff c8_4 h
            refine lv_lookup (off := 202) (tgt := 210) hx hb dX5_answerOf_8 (by decide) (by have hz : ∀ v : Int32, ¬ v5 = v → ¬ v.toInt = (v5).toInt := fun v h1 h2 => h1 (Int32.toInt_inj.mp h2.symm); simp [Op.lookupswitch.offset, show ¬ (102 : Int) = (v5).toInt from hz 102 c8_0, show ¬ (109 : Int) = (v5).toInt from hz 109 c8_1, show ¬ (115 : Int) = (v5).toInt from hz 115 c8_2, show ¬ (116 : Int) = (v5).toInt from hz 116 c8_3, show ¬ (119 : Int) = (v5).toInt from hz 119 c8_4]) (by decide) ?_
            refine lv_aload_n hx hb dX5_answerOf_210 rfl (lv_at hl 0 rfl) ?_
            refine wx_get (own := RX5) hx hb hts i_X5_answerOf_5 hown hC.1 Z (o := 11) (ci := 5) rfl (rfl : vwCl[5]? = some (RX5, TX5, 7)) 0 (by decide) (hts _ k_X5_answerOf_w4) (fun _ h9 => h9) (f := 107) rfl rfl dX5_answerOf_211 ?_
            refine lv_aload_n hx hb dX5_answerOf_214 rfl (lv_at hl 0 rfl) ?_
            refine wx_get (own := RX5) hx hb hts i_X5_answerOf_5 hown hC.1 Z (o := 11) (ci := 5) rfl (rfl : vwCl[5]? = some (RX5, TX5, 7)) 4 (by decide) (hts _ k_X5_answerOf_w0) (fun _ h9 => h9) (f := 115) rfl rfl dX5_answerOf_215 ?_
            refine lv_iload_n hx hb dX5_answerOf_218 rfl (lv_at hl 1 rfl) ?_
            refine lv_iconst (v := 2) hx hb dX5_answerOf_219 (by decide) ?_
            refine lv_iadd hx hb dX5_answerOf_220 ?_
            obtain ⟨v221, hc221, h⟩ := wx_o_ok h
            refine wx_call (va_runVN (As := [.int (x1 + 2)]) (rest := [.ref (ad 7 99)]) ⟨hx, hb, hml, hown, hts⟩ (c_X2_digitAt l (D := D) (ad := ad) (rd := rd) (ca := ca) (A := A) (σ := σ) hc221) ⟨va_cnB 1 hts gX5_answerOf_X2_digitAt_n244 rfl rfl rfl (hC.1.2.1 _ (List.mem_of_getElem? (i := 76) rfl)) (hts _ k_X5_answerOf_w1) (by decide +kernel) ⟨Nat.le_of_ble_eq_true rfl, Nat.le_of_ble_eq_true rfl⟩, hts _ k_X5_answerOf_w5, hts _ k_X5_answerOf_w6⟩ (wx_preV hC Z hS hA rfl (rfl : vwCl[2]? = some (RX2, TX2, 2))) rfl rfl hl.1 rfl (lv_room (Nat.le_of_ble_eq_true rfl)) dX5_answerOf_221 ⟨Nat.zero_le _, Nat.zero_le _⟩) hS (fun H locs Z hS => ?_)
            refine lv_aload_n hx hb dX5_answerOf_224 rfl (lv_at hl 0 rfl) ?_
            refine wx_get (own := RX5) hx hb hts i_X5_answerOf_5 hown hC.1 Z (o := 11) (ci := 5) rfl (rfl : vwCl[5]? = some (RX5, TX5, 7)) 4 (by decide) (hts _ k_X5_answerOf_w0) (fun _ h9 => h9) (f := 115) rfl rfl dX5_answerOf_225 ?_
            refine lv_iload_n hx hb dX5_answerOf_228 rfl (lv_at hl 1 rfl) ?_
            refine lv_iconst (v := 1) hx hb dX5_answerOf_229 (by decide) ?_
            refine lv_iadd hx hb dX5_answerOf_230 ?_
            obtain ⟨v231, hc231, h⟩ := wx_o_ok h
            refine wx_call (va_runVN (As := [.int (x1 + 1)]) (rest := [.int v221, .ref (ad 7 99)]) ⟨hx, hb, hml, hown, hts⟩ (c_X2_columnAt l (D := D) (ad := ad) (rd := rd) (ca := ca) (A := A) (σ := σ) hc231) ⟨va_cnB 1 hts gX5_answerOf_X2_columnAt_n247 rfl rfl rfl (hC.1.2.1 _ (List.mem_of_getElem? (i := 77) rfl)) (hts _ k_X5_answerOf_w1) (by decide +kernel) ⟨Nat.le_of_ble_eq_true rfl, Nat.le_of_ble_eq_true rfl⟩, hts _ k_X5_answerOf_w12, hts _ k_X5_answerOf_w13⟩ (wx_preV hC Z hS hA rfl (rfl : vwCl[2]? = some (RX2, TX2, 2))) rfl rfl hl.1 rfl (lv_room (Nat.le_of_ble_eq_true rfl)) dX5_answerOf_231 ⟨Nat.zero_le _, Nat.zero_le _⟩) hS (fun H locs Z hS => ?_)
            obtain ⟨v234, σ234, hc234, h⟩ := wx_b_ok h
            refine wx_call (va_runVN (As := [.int v221, .int v231]) (rest := []) ⟨hx, hb, hml, hown, hts⟩ (c_X0_measure l (D := D) (ad := ad) (rd := rd) (ca := ca) (A := A) (σ := σ) (o := 7) (by decide : 7 < 11) hc234) ⟨va_cnB 2 hts gX5_answerOf_X0_measure_n83 rfl rfl rfl (hC.1.2.1 _ (List.mem_of_getElem? (i := 44) rfl)) (hts _ k_X5_answerOf_w7) (by decide +kernel) ⟨Nat.le_of_ble_eq_true rfl, Nat.le_of_ble_eq_true rfl⟩, hts _ k_X5_answerOf_w22, hts _ k_X5_answerOf_w23⟩ (wx_preV hC Z hS hA rfl (rfl : vwCl[0]? = some (RX0, TX0, 13))) rfl rfl hl.1 rfl (lv_room (Nat.le_of_ble_eq_true rfl)) dX5_answerOf_234 ⟨Nat.zero_le _, Nat.zero_le _⟩) hS (fun H locs Z hS => ?_)
            obtain ⟨rfl, rfl⟩ := wx_ret_ok h
            exact W.iret hx hb hr (fun t ht hW => ⟨rfl, by rw [ht]; exact Z, hS.F ht⟩) hS.2.2 dX5_answerOf_237
set_option maxRecDepth 20000 in
theorem c_X5_answerOf (l : Launch) {D : va_G} {ad : Nat → Nat → Nat} {rd : Nat → Nat} {ca : Nat → ClassId} {A : Nat → Prop} {σ : wx_St}    {x1 : Int32} {x2 : Int32} {x3 : Int32} {r : Int32} {σ' : wx_St} (h : f_X5_answerOf x1 x2 x3 σ = some (r, σ')) : wx_M l yX5_answerOf wsX5_answerOf 4 102 D ad rd ca A [.ref (ad 11 99), .int x1, .int x2, .int x3] σ (some (.int r)) σ' := by
  refine Met.ofW (cc := cX5_answerOf) (maxL := 5) (ret := (some .int)) (by decide +kernel) rfl ?_
  intro p e s m args below meth c s₁ B0 hml hv
  obtain ⟨rfl, hC, Z, hA⟩ := hv
  have hl := lv_entry ([.ref (ad 11 99), .int x1, .int x2, .int x3]) (n := 5) (Nat.le_of_ble_eq_true rfl)
  rw [lg_entry_eq]
  generalize (lg_sl ([.ref (ad 11 99), .int x1, .int x2, .int x3]) ++ List.replicate (5 - (lg_sl ([.ref (ad 11 99), .int x1, .int x2, .int x3])).length) Slot.unset).toArray = ls at hl ⊢
  exact b_X5_answerOf_0 ⟨B0.exec, B0.bytes, hml, B0.returns, atoms_spec (ws := wsX5_answerOf) B0.pre, findClass_of_methodNamed B0.named, B0.notSynchronized, hC, hA⟩   h Z va_S.rf hl
theorem k_X5_bitsOfFloat_w0 : Cond.constantFloat RX5 264 (1258291200) ∈ wsX5_bitsOfFloat := by decide +kernel
theorem k_X5_bitsOfFloat_w1 : Cond.constant RX5 265 (8388608) ∈ wsX5_bitsOfFloat := by decide +kernel
set_option maxRecDepth 20000 in
set_option maxHeartbeats 4000000 in
theorem b_X5_bitsOfFloat_53 (B : wx_B p s m args meth c cX5_bitsOfFloat 4 (some .int) wsX5_bitsOfFloat RX5 D ad ca A)    {r : Int32} {σ : wx_St}  {x0 : UInt32} {x1 : UInt32} {x2 : Int32} {x3 : Int32} {y0 : Int32}   (h : f_X5_bitsOfFloat_53 x0 x1 x2 x3 y0 = some r) {H : Heap} {locs : List Loc} (Z : wx_Z D ad rd ca A σ H) (hS : va_S A s.heap H locs) {ls : Array Slot} (hl : lv_has ls 4 [(0, .float x0), (1, .float x1), (2, .int x2), (3, .int x3)]) : W p l e ({ frames := 0, cells := 0, slots := 0, locals := 0 } : Room) s m args below meth c H locs 0 0 (MQ below (wx_Q D ad rd ca A (some (.int r)) σ) args s 0 0 A) (F0 m 53 ls [.int y0]) := by
  obtain ⟨hx, hb, hml, hr, hts, hown, hlk, hC, hA⟩ := id B
  unfold f_X5_bitsOfFloat_53 at h
  obtain rfl := Option.some.inj h
  exact W.iret hx hb hr (fun t ht hW => ⟨rfl, by rw [ht]; exact Z, hS.F ht⟩) hS.2.2 dX5_bitsOfFloat_53
set_option maxRecDepth 20000 in
set_option maxHeartbeats 4000000 in
theorem b_X5_bitsOfFloat_29 (B : wx_B p s m args meth c cX5_bitsOfFloat 4 (some .int) wsX5_bitsOfFloat RX5 D ad ca A)    {r : Int32} {σ : wx_St}  {x0 : UInt32} {x1 : UInt32} {x2 : Int32}   (h : f_X5_bitsOfFloat_29 x0 x1 x2 = some r) {H : Heap} {locs : List Loc} (Z : wx_Z D ad rd ca A σ H) (hS : va_S A s.heap H locs) {ls : Array Slot} (hl : lv_has ls 4 [(0, .float x0), (1, .float x1), (2, .int x2)]) : W p l e ({ frames := 0, cells := 0, slots := 0, locals := 0 } : Room) s m args below meth c H locs 0 0 (MQ below (wx_Q D ad rd ca A (some (.int r)) σ) args s 0 0 A) (F0 m 29 ls []) := by
  obtain ⟨hx, hb, hml, hr, hts, hown, hlk, hC, hA⟩ := id B
  unfold f_X5_bitsOfFloat_29 at h
  refine lv_fload_n hx hb dX5_bitsOfFloat_29 rfl (lv_at hl 1 rfl) ?_
  refine lv_f2i hx hb dX5_bitsOfFloat_30 ?_
  refine lv_istore_n (lv' := [(3, .int (FP.f2i x1)), (0, .float x0), (1, .float x1), (2, .int x2)]) hx hb dX5_bitsOfFloat_31 rfl hl (by decide) rfl (fun ls hl => ?_)
  refine lv_iload_n hx hb dX5_bitsOfFloat_32 rfl (lv_at hl 0 rfl) ?_
  refine lv_ldcw hx hb hown (hts _ k_X5_bitsOfFloat_w1) dX5_bitsOfFloat_33 ?_
  refine lv_icmp_ge (tgt := 43) hx hb dX5_bitsOfFloat_36 (by decide) (fun c36 => ?_) (fun c36 => ?_)
  · replace h := wx_ift c36 h
    refine lv_iload_n hx hb dX5_bitsOfFloat_43 rfl (lv_at hl 3 rfl) ?_
    refine lv_bipush (v := 23) hx hb dX5_bitsOfFloat_44 (by decide) ?_
    refine lv_ishl hx hb dX5_bitsOfFloat_46 ?_
    refine lv_iload_n hx hb dX5_bitsOfFloat_47 rfl (lv_at hl 0 rfl) ?_
    refine lv_ldcw hx hb hown (hts _ k_X5_bitsOfFloat_w1) dX5_bitsOfFloat_48 ?_
    refine lv_isub hx hb dX5_bitsOfFloat_51 ?_
    refine lv_iadd hx hb dX5_bitsOfFloat_52 ?_
    exact b_X5_bitsOfFloat_53 B h Z hS (lv_sub hl [1, 2, 3, 0] rfl)
  · replace h := wx_iff c36 h
    refine lv_iload_n hx hb dX5_bitsOfFloat_39 rfl (lv_at hl 0 rfl) ?_
    refine lv_goto (tgt := 53) hx hb dX5_bitsOfFloat_40 (by decide) ?_
    exact b_X5_bitsOfFloat_53 B h Z hS (lv_sub hl [1, 2, 3, 0] rfl)
set_option maxRecDepth 20000 in
set_option maxHeartbeats 4000000 in
theorem b_X5_bitsOfFloat_6 (B : wx_B p s m args meth c cX5_bitsOfFloat 4 (some .int) wsX5_bitsOfFloat RX5 D ad ca A)    {r : Int32} {σ : wx_St}   :
    ∀ {n : Nat} {x0 : UInt32} {x1 : UInt32} {x2 : Int32}   (h : f_X5_bitsOfFloat_6 n x0 x1 x2 = some r) {H : Heap} {locs : List Loc} (Z : wx_Z D ad rd ca A σ H) (hS : va_S A s.heap H locs) {ls : Array Slot} (hl : lv_has ls 4 [(0, .float x0), (1, .float x1), (2, .int x2)]), W p l e ({ frames := 0, cells := 0, slots := 0, locals := 0 } : Room) s m args below meth c H locs 0 0 (MQ below (wx_Q D ad rd ca A (some (.int r)) σ) args s 0 0 A) (F0 m 6 ls []) := by
  obtain ⟨hx, hb, hml, hr, hts, hown, hlk, hC, hA⟩ := id B
  intro n
  induction n with
  | zero => intro x0 x1 x2   h H locs Z hS ls hl; exact wx_no h
  | succ n ih =>
    intro x0 x1 x2   h H locs Z hS ls hl
    rw [f_X5_bitsOfFloat_6] at h
    refine lv_iload_n hx hb dX5_bitsOfFloat_6 rfl (lv_at hl 2 rfl) ?_
    refine lv_iconst (v := 1) hx hb dX5_bitsOfFloat_7 (by decide) ?_
    refine lv_icmp_le (tgt := 29) hx hb dX5_bitsOfFloat_8 (by decide) (fun c8 => ?_) (fun c8 => ?_)
    · replace h := wx_ift c8 h
      exact b_X5_bitsOfFloat_29 B h Z hS (lv_sub hl [0, 1, 2] rfl)
    · replace h := wx_iff c8 h
      refine lv_fload_n hx hb dX5_bitsOfFloat_11 rfl (lv_at hl 1 rfl) ?_
      refine wx_ldcwF hx hb hown (hts _ k_X5_bitsOfFloat_w0) dX5_bitsOfFloat_12 ?_
      refine lv_fcmp hx hb dX5_bitsOfFloat_15 ?_
      refine lv_if_ge (tgt := 29) hx hb dX5_bitsOfFloat_16 (by decide) (fun c16 => ?_) (fun c16 => ?_)
      · replace h := wx_ift c16 h
        exact b_X5_bitsOfFloat_29 B h Z hS (lv_sub hl [0, 1, 2] rfl)
      · replace h := wx_iff c16 h
        refine lv_fload_n hx hb dX5_bitsOfFloat_19 rfl (lv_at hl 1 rfl) ?_
        refine lv_fconst2 hx hb dX5_bitsOfFloat_20 ?_
        obtain ⟨v21, ev21, nv21, h⟩ := wx_f_ok h
        refine wx_fmul hx hb dX5_bitsOfFloat_21 ev21 nv21 ?_
        refine lv_fstore_n (lv' := [(1, .float v21), (0, .float x0), (2, .int x2)]) hx hb dX5_bitsOfFloat_22 rfl hl (by decide) rfl (fun ls hl => ?_)
        refine lv_iinc (v := x2 + (-1)) (lv' := [(2, .int (x2 + (-1))), (1, .float v21), (0, .float x0)]) hx hb dX5_bitsOfFloat_23 hl (k := 2) rfl rfl (by decide) rfl (fun ls hl => ?_)
        refine lv_goto (tgt := 6) hx hb dX5_bitsOfFloat_26 (by decide) ?_
        exact ih h Z hS (lv_sub hl [2, 1, 0] rfl)
set_option maxRecDepth 20000 in
set_option maxHeartbeats 4000000 in
theorem b_X5_bitsOfFloat_0 (B : wx_B p s m args meth c cX5_bitsOfFloat 4 (some .int) wsX5_bitsOfFloat RX5 D ad ca A)    {r : Int32} {σ : wx_St}  {x0 : UInt32}   (h : f_X5_bitsOfFloat x0 = some r) {H : Heap} {locs : List Loc} (Z : wx_Z D ad rd ca A σ H) (hS : va_S A s.heap H locs) {ls : Array Slot} (hl : lv_has ls 4 [(0, .float x0)]) : W p l e ({ frames := 0, cells := 0, slots := 0, locals := 0 } : Room) s m args below meth c H locs 0 0 (MQ below (wx_Q D ad rd ca A (some (.int r)) σ) args s 0 0 A) (F0 m 0 ls []) := by
  obtain ⟨hx, hb, hml, hr, hts, hown, hlk, hC, hA⟩ := id B
  unfold f_X5_bitsOfFloat at h
  refine lv_fload_n hx hb dX5_bitsOfFloat_0 rfl (lv_at hl 0 rfl) ?_
  refine lv_fstore_n (lv' := [(1, .float x0), (0, .float x0)]) hx hb dX5_bitsOfFloat_1 rfl hl (by decide) rfl (fun ls hl => ?_)
  refine lv_sipush (v := 150) hx hb dX5_bitsOfFloat_2 (by decide) ?_
  refine lv_istore_n (lv' := [(2, .int 150), (1, .float x0), (0, .float x0)]) hx hb dX5_bitsOfFloat_5 rfl hl (by decide) rfl (fun ls hl => ?_)
  exact b_X5_bitsOfFloat_6 B h Z hS (lv_sub hl [2, 1, 0] rfl)
set_option maxRecDepth 20000 in
theorem c_X5_bitsOfFloat (l : Launch) {D : va_G} {ad : Nat → Nat → Nat} {rd : Nat → Nat} {ca : Nat → ClassId} {A : Nat → Prop} {σ : wx_St}    {x0 : UInt32} {r : Int32} (h : f_X5_bitsOfFloat x0 = some r) : wx_M l yX5_bitsOfFloat wsX5_bitsOfFloat 0 0 D ad rd ca A [.float x0] σ (some (.int r)) σ := by
  refine Met.ofW (cc := cX5_bitsOfFloat) (maxL := 4) (ret := (some .int)) (by decide +kernel) rfl ?_
  intro p e s m args below meth c s₁ B0 hml hv
  obtain ⟨rfl, hC, Z, hA⟩ := hv
  have hl := lv_entry ([.float x0]) (n := 4) (Nat.le_of_ble_eq_true rfl)
  rw [lg_entry_eq]
  generalize (lg_sl ([.float x0]) ++ List.replicate (4 - (lg_sl ([.float x0])).length) Slot.unset).toArray = ls at hl ⊢
  exact b_X5_bitsOfFloat_0 ⟨B0.exec, B0.bytes, hml, B0.returns, atoms_spec (ws := wsX5_bitsOfFloat) B0.pre, findClass_of_methodNamed B0.named, B0.notSynchronized, hC, hA⟩   h Z va_S.rf hl
theorem i_X5_at_0 : ∀ w ∈ wsX00, w ∈ wsX5_at := by decide +kernel
theorem i_X5_at_5 : ∀ w ∈ wsX50, w ∈ wsX5_at := by decide +kernel
theorem k_X5_at_w0 : Cond.fieldLink RX5 10 "WarmProbes" "board" "LWarmProbes$Board;" ∈ wsX5_at := by decide +kernel
theorem k_X5_at_w1 : Cond.initialized RX0 ∈ wsX5_at := by decide +kernel
theorem k_X5_at_w2 : Cond.instanceMethod yX0_isSuspect ∈ wsX5_at := by decide +kernel
theorem k_X5_at_w3 : Cond.selects RX0 yX0_isSuspect yX0_isSuspect ∈ wsX5_at := by decide +kernel
theorem k_X5_at_w4 : Cond.fieldLink RX5 22 "WarmProbes" "suspicion" "LWarmProbes$Suspicion;" ∈ wsX5_at := by decide +kernel
theorem k_X5_at_w5 : Cond.initialized RX4 ∈ wsX5_at := by decide +kernel
theorem k_X5_at_w6 : Cond.instanceMethod yX4_couldBe ∈ wsX5_at := by decide +kernel
theorem k_X5_at_w7 : Cond.selects RX4 yX4_couldBe yX4_couldBe ∈ wsX5_at := by decide +kernel
theorem k_X5_at_w8 : Cond.instanceMethod yX4_couldBeOneOfTwo ∈ wsX5_at := by decide +kernel
theorem k_X5_at_w9 : Cond.selects RX4 yX4_couldBeOneOfTwo yX4_couldBeOneOfTwo ∈ wsX5_at := by decide +kernel
theorem k_X5_at_w10 : Cond.instanceMethod yX0_touchAt ∈ wsX5_at := by decide +kernel
theorem k_X5_at_w11 : Cond.selects RX0 yX0_touchAt yX0_touchAt ∈ wsX5_at := by decide +kernel
set_option maxRecDepth 20000 in
set_option maxHeartbeats 4000000 in
theorem m_X5_at_112  {r : Int32} {σ' : wx_St}  {x1 : Int32} {x2 : Int32} {x3 : Int32} {x4 : Int32} {y0 : Int32} {σ : wx_St} (h : f_X5_at_112 x1 x2 x3 x4 y0 σ = some (r, σ')) : wx_n σ.2.2.2.2 ≤ wx_n σ'.2.2.2.2 := by
  unfold f_X5_at_112 at h
  obtain ⟨rfl, rfl⟩ := wx_ret_ok h
  exact Nat.le_refl _
set_option maxRecDepth 20000 in
set_option maxHeartbeats 4000000 in
theorem b_X5_at_112 (B : wx_B p s m args meth c cX5_at 5 (some .int) wsX5_at RX5 D ad ca A)    {r : Int32} {σ' : wx_St} {mc : Nat}  {x1 : Int32} {x2 : Int32} {x3 : Int32} {x4 : Int32} {y0 : Int32} {σ : wx_St} {k : Nat} (hk : k + wx_n σ'.2.2.2.2 ≤ mc + wx_n σ.2.2.2.2)  (h : f_X5_at_112 x1 x2 x3 x4 y0 σ = some (r, σ')) {rd : Nat → Nat} {H : Heap} {locs : List Loc} (Z : wx_Z D ad rd ca A σ H) (hS : va_S A s.heap H locs) {ls : Array Slot} (hl : lv_has ls 5 [(0, .ref (ad 11 99)), (1, .int x1), (2, .int x2), (3, .int x3), (4, .int x4)]) : W p l e ({ frames := 5, cells := mc, slots := 6464 * mc, locals := 129 } : Room) s m args below meth c H locs k (6464 * k) (MQ below (wx_QA D ad ca A (some (.int r)) σ') args s mc (6464 * mc) A) (F0 m 112 ls [.int y0]) := by
  obtain ⟨hx, hb, hml, hr, hts, hown, hlk, hC, hA⟩ := id B
  have hm := m_X5_at_112 h
  unfold f_X5_at_112 at h
  obtain ⟨rfl, rfl⟩ := wx_ret_ok h
  refine W.widen (k := mc) (n := 6464 * mc) (by omega) (by omega) ?_
  exact W.iret hx hb hr (fun t ht hW => ⟨rfl, ⟨_, by rw [ht]; exact Z⟩, hS.F ht⟩) hS.2.2 dX5_at_112
set_option maxRecDepth 20000 in
set_option maxHeartbeats 4000000 in
theorem m_X5_at_134  {r : Int32} {σ' : wx_St}  {x1 : Int32} {x2 : Int32} {x3 : Int32} {x4 : Int32} {y0 : Int32} {σ : wx_St} (h : f_X5_at_134 x1 x2 x3 x4 y0 σ = some (r, σ')) : wx_n σ.2.2.2.2 ≤ wx_n σ'.2.2.2.2 := by
  unfold f_X5_at_134 at h
  obtain ⟨rfl, rfl⟩ := wx_ret_ok h
  exact Nat.le_refl _
set_option maxRecDepth 20000 in
set_option maxHeartbeats 4000000 in
theorem b_X5_at_134 (B : wx_B p s m args meth c cX5_at 5 (some .int) wsX5_at RX5 D ad ca A)    {r : Int32} {σ' : wx_St} {mc : Nat}  {x1 : Int32} {x2 : Int32} {x3 : Int32} {x4 : Int32} {y0 : Int32} {σ : wx_St} {k : Nat} (hk : k + wx_n σ'.2.2.2.2 ≤ mc + wx_n σ.2.2.2.2)  (h : f_X5_at_134 x1 x2 x3 x4 y0 σ = some (r, σ')) {rd : Nat → Nat} {H : Heap} {locs : List Loc} (Z : wx_Z D ad rd ca A σ H) (hS : va_S A s.heap H locs) {ls : Array Slot} (hl : lv_has ls 5 [(0, .ref (ad 11 99)), (1, .int x1), (2, .int x2), (3, .int x3), (4, .int x4)]) : W p l e ({ frames := 5, cells := mc, slots := 6464 * mc, locals := 129 } : Room) s m args below meth c H locs k (6464 * k) (MQ below (wx_QA D ad ca A (some (.int r)) σ') args s mc (6464 * mc) A) (F0 m 134 ls [.int y0]) := by
  obtain ⟨hx, hb, hml, hr, hts, hown, hlk, hC, hA⟩ := id B
  have hm := m_X5_at_134 h
  unfold f_X5_at_134 at h
  obtain ⟨rfl, rfl⟩ := wx_ret_ok h
  refine W.widen (k := mc) (n := 6464 * mc) (by omega) (by omega) ?_
  exact W.iret hx hb hr (fun t ht hW => ⟨rfl, ⟨_, by rw [ht]; exact Z⟩, hS.F ht⟩) hS.2.2 dX5_at_134
set_option maxRecDepth 20000 in
set_option maxHeartbeats 4000000 in
theorem m_X5_at_126  {r : Int32} {σ' : wx_St}  {x1 : Int32} {x2 : Int32} {x3 : Int32} {x4 : Int32} {y0 : Int32} {σ : wx_St} (h : f_X5_at_126 x1 x2 x3 x4 y0 σ = some (r, σ')) : wx_n σ.2.2.2.2 ≤ wx_n σ'.2.2.2.2 := by
  unfold f_X5_at_126 at h
  by_cases c126 : y0 = 0
  · replace h := wx_ift c126 h
    exact m_X5_at_134 h
  · replace h := wx_iff c126 h
    exact m_X5_at_134 h
set_option maxRecDepth 20000 in
set_option maxHeartbeats 4000000 in
theorem b_X5_at_126 (B : wx_B p s m args meth c cX5_at 5 (some .int) wsX5_at RX5 D ad ca A)    {r : Int32} {σ' : wx_St} {mc : Nat}  {x1 : Int32} {x2 : Int32} {x3 : Int32} {x4 : Int32} {y0 : Int32} {σ : wx_St} {k : Nat} (hk : k + wx_n σ'.2.2.2.2 ≤ mc + wx_n σ.2.2.2.2)  (h : f_X5_at_126 x1 x2 x3 x4 y0 σ = some (r, σ')) {rd : Nat → Nat} {H : Heap} {locs : List Loc} (Z : wx_Z D ad rd ca A σ H) (hS : va_S A s.heap H locs) {ls : Array Slot} (hl : lv_has ls 5 [(0, .ref (ad 11 99)), (1, .int x1), (2, .int x2), (3, .int x3), (4, .int x4)]) : W p l e ({ frames := 5, cells := mc, slots := 6464 * mc, locals := 129 } : Room) s m args below meth c H locs k (6464 * k) (MQ below (wx_QA D ad ca A (some (.int r)) σ') args s mc (6464 * mc) A) (F0 m 126 ls [.int y0]) := by
  obtain ⟨hx, hb, hml, hr, hts, hown, hlk, hC, hA⟩ := id B
  have hm := m_X5_at_126 h
  unfold f_X5_at_126 at h
  refine lv_if_eq (tgt := 133) hx hb dX5_at_126 (by decide) (fun c126 => ?_) (fun c126 => ?_)
  · replace h := wx_ift c126 h
    refine lv_iconst (v := 0) hx hb dX5_at_133 (by decide) ?_
    exact b_X5_at_134 B (k := k) hk h Z hS (lv_sub hl [0, 1, 2, 3, 4] rfl)
  · replace h := wx_iff c126 h
    refine lv_iconst (v := 1) hx hb dX5_at_129 (by decide) ?_
    refine lv_goto (tgt := 134) hx hb dX5_at_130 (by decide) ?_
    exact b_X5_at_134 B (k := k) hk h Z hS (lv_sub hl [0, 1, 2, 3, 4] rfl)
set_option maxRecDepth 20000 in
set_option maxHeartbeats 4000000 in
theorem m_X5_at_156  {r : Int32} {σ' : wx_St}  {x1 : Int32} {x2 : Int32} {x3 : Int32} {x4 : Int32} {y0 : Int32} {σ : wx_St} (h : f_X5_at_156 x1 x2 x3 x4 y0 σ = some (r, σ')) : wx_n σ.2.2.2.2 ≤ wx_n σ'.2.2.2.2 := by
  unfold f_X5_at_156 at h
  obtain ⟨rfl, rfl⟩ := wx_ret_ok h
  exact Nat.le_refl _
set_option maxRecDepth 20000 in
set_option maxHeartbeats 4000000 in
theorem b_X5_at_156 (B : wx_B p s m args meth c cX5_at 5 (some .int) wsX5_at RX5 D ad ca A)    {r : Int32} {σ' : wx_St} {mc : Nat}  {x1 : Int32} {x2 : Int32} {x3 : Int32} {x4 : Int32} {y0 : Int32} {σ : wx_St} {k : Nat} (hk : k + wx_n σ'.2.2.2.2 ≤ mc + wx_n σ.2.2.2.2)  (h : f_X5_at_156 x1 x2 x3 x4 y0 σ = some (r, σ')) {rd : Nat → Nat} {H : Heap} {locs : List Loc} (Z : wx_Z D ad rd ca A σ H) (hS : va_S A s.heap H locs) {ls : Array Slot} (hl : lv_has ls 5 [(0, .ref (ad 11 99)), (1, .int x1), (2, .int x2), (3, .int x3), (4, .int x4)]) : W p l e ({ frames := 5, cells := mc, slots := 6464 * mc, locals := 129 } : Room) s m args below meth c H locs k (6464 * k) (MQ below (wx_QA D ad ca A (some (.int r)) σ') args s mc (6464 * mc) A) (F0 m 156 ls [.int y0]) := by
  obtain ⟨hx, hb, hml, hr, hts, hown, hlk, hC, hA⟩ := id B
  have hm := m_X5_at_156 h
  unfold f_X5_at_156 at h
  obtain ⟨rfl, rfl⟩ := wx_ret_ok h
  refine W.widen (k := mc) (n := 6464 * mc) (by omega) (by omega) ?_
  exact W.iret hx hb hr (fun t ht hW => ⟨rfl, ⟨_, by rw [ht]; exact Z⟩, hS.F ht⟩) hS.2.2 dX5_at_156
set_option maxRecDepth 20000 in
set_option maxHeartbeats 4000000 in
theorem m_X5_at_148  {r : Int32} {σ' : wx_St}  {x1 : Int32} {x2 : Int32} {x3 : Int32} {x4 : Int32} {y0 : Int32} {σ : wx_St} (h : f_X5_at_148 x1 x2 x3 x4 y0 σ = some (r, σ')) : wx_n σ.2.2.2.2 ≤ wx_n σ'.2.2.2.2 := by
  unfold f_X5_at_148 at h
  by_cases c148 : y0 = 0
  · replace h := wx_ift c148 h
    exact m_X5_at_156 h
  · replace h := wx_iff c148 h
    exact m_X5_at_156 h
set_option maxRecDepth 20000 in
set_option maxHeartbeats 4000000 in
theorem b_X5_at_148 (B : wx_B p s m args meth c cX5_at 5 (some .int) wsX5_at RX5 D ad ca A)    {r : Int32} {σ' : wx_St} {mc : Nat}  {x1 : Int32} {x2 : Int32} {x3 : Int32} {x4 : Int32} {y0 : Int32} {σ : wx_St} {k : Nat} (hk : k + wx_n σ'.2.2.2.2 ≤ mc + wx_n σ.2.2.2.2)  (h : f_X5_at_148 x1 x2 x3 x4 y0 σ = some (r, σ')) {rd : Nat → Nat} {H : Heap} {locs : List Loc} (Z : wx_Z D ad rd ca A σ H) (hS : va_S A s.heap H locs) {ls : Array Slot} (hl : lv_has ls 5 [(0, .ref (ad 11 99)), (1, .int x1), (2, .int x2), (3, .int x3), (4, .int x4)]) : W p l e ({ frames := 5, cells := mc, slots := 6464 * mc, locals := 129 } : Room) s m args below meth c H locs k (6464 * k) (MQ below (wx_QA D ad ca A (some (.int r)) σ') args s mc (6464 * mc) A) (F0 m 148 ls [.int y0]) := by
  obtain ⟨hx, hb, hml, hr, hts, hown, hlk, hC, hA⟩ := id B
  have hm := m_X5_at_148 h
  unfold f_X5_at_148 at h
  refine lv_if_eq (tgt := 155) hx hb dX5_at_148 (by decide) (fun c148 => ?_) (fun c148 => ?_)
  · replace h := wx_ift c148 h
    refine lv_iconst (v := 0) hx hb dX5_at_155 (by decide) ?_
    exact b_X5_at_156 B (k := k) hk h Z hS (lv_sub hl [0, 1, 2, 3, 4] rfl)
  · replace h := wx_iff c148 h
    refine lv_iconst (v := 1) hx hb dX5_at_151 (by decide) ?_
    refine lv_goto (tgt := 156) hx hb dX5_at_152 (by decide) ?_
    exact b_X5_at_156 B (k := k) hk h Z hS (lv_sub hl [0, 1, 2, 3, 4] rfl)
set_option maxRecDepth 20000 in
set_option maxHeartbeats 4000000 in
theorem m_X5_at_0  {r : Int32} {σ' : wx_St}  {x1 : Int32} {x2 : Int32} {x3 : Int32} {σ : wx_St} (h : f_X5_at x1 x2 x3 σ = some (r, σ')) : wx_n σ.2.2.2.2 ≤ wx_n σ'.2.2.2.2 := by
  unfold f_X5_at at h
  obtain ⟨v2, hc2, h⟩ := wx_o_ok h
  by_cases c9 : 0 ≤ v2
  · replace h := wx_ift c9 h
    by_cases c15_0 : x3 = 0
    · replace h := wx_ift c15_0 h
      obtain ⟨v65, ev65, iv65, h⟩ := wx_rI_ok h
      obtain ⟨rfl, rfl⟩ := wx_ret_ok h
      exact Nat.le_refl _
    · replace h := wx_iff c15_0 h
      by_cases c15_1 : x3 = 1
      · replace h := wx_ift c15_1 h
        obtain ⟨v76, ev76, iv76, h⟩ := wx_rF_ok h
        obtain ⟨v77, hc77, h⟩ := wx_o_ok h
        obtain ⟨rfl, rfl⟩ := wx_ret_ok h
        exact Nat.le_refl _
      · replace h := wx_iff c15_1 h
        by_cases c15_2 : x3 = 2
        · replace h := wx_ift c15_2 h
          obtain ⟨v90, ev90, iv90, h⟩ := wx_rF_ok h
          obtain ⟨v91, hc91, h⟩ := wx_o_ok h
          obtain ⟨rfl, rfl⟩ := wx_ret_ok h
          exact Nat.le_refl _
        · replace h := wx_iff c15_2 h
          by_cases c15_3 : x3 = 3
          · replace h := wx_ift c15_3 h
            obtain ⟨v101, hc101, h⟩ := wx_o_ok h
            by_cases c104 : v101 = 0
            · replace h := wx_ift c104 h
              exact m_X5_at_112 h
            · replace h := wx_iff c104 h
              exact m_X5_at_112 h
          · replace h := wx_iff c15_3 h
            by_cases c15_4 : x3 = 4
            · replace h := wx_ift c15_4 h
              obtain ⟨v123, σ123, hc123, h⟩ := wx_b_ok h
              refine Nat.le_trans (m_X4_couldBe_0 hc123) ?_
              exact m_X5_at_126 h
            · replace h := wx_iff c15_4 h
              by_cases c15_5 : x3 = 5
              · replace h := wx_ift c15_5 h
                obtain ⟨v145, σ145, hc145, h⟩ := wx_b_ok h
                refine Nat.le_trans (m_X4_couldBeOneOfTwo_0 hc145) ?_
                exact m_X5_at_148 h
              · replace h := wx_iff c15_5 h
                by_cases c15_6 : x3 = 6
                · replace h := wx_ift c15_6 h
                  obtain ⟨v163, hc163, h⟩ := wx_o_ok h
                  obtain ⟨rfl, rfl⟩ := wx_ret_ok h
                  exact Nat.le_refl _
                · replace h := wx_iff c15_6 h
                  obtain ⟨rfl, rfl⟩ := wx_ret_ok h
                  exact Nat.le_refl _
  · replace h := wx_iff c9 h
    obtain ⟨rfl, rfl⟩ := wx_ret_ok h
    exact Nat.le_refl _
set_option maxRecDepth 20000 in
set_option maxHeartbeats 4000000 in
theorem b_X5_at_0 (B : wx_B p s m args meth c cX5_at 5 (some .int) wsX5_at RX5 D ad ca A)    {r : Int32} {σ' : wx_St} {mc : Nat}  {x1 : Int32} {x2 : Int32} {x3 : Int32} {σ : wx_St} {k : Nat} (hk : k + wx_n σ'.2.2.2.2 ≤ mc + wx_n σ.2.2.2.2)  (h : f_X5_at x1 x2 x3 σ = some (r, σ')) {rd : Nat → Nat} {H : Heap} {locs : List Loc} (Z : wx_Z D ad rd ca A σ H) (hS : va_S A s.heap H locs) {ls : Array Slot} (hl : lv_has ls 5 [(0, .ref (ad 11 99)), (1, .int x1), (2, .int x2), (3, .int x3)]) : W p l e ({ frames := 5, cells := mc, slots := 6464 * mc, locals := 129 } : Room) s m args below meth c H locs k (6464 * k) (MQ below (wx_QA D ad ca A (some (.int r)) σ') args s mc (6464 * mc) A) (F0 m 0 ls []) := by
  obtain ⟨hx, hb, hml, hr, hts, hown, hlk, hC, hA⟩ := id B
  have hm := m_X5_at_0 h
  unfold f_X5_at at h
  refine lv_iload_n hx hb dX5_at_0 rfl (lv_at hl 1 rfl) ?_
  refine lv_iload_n hx hb dX5_at_1 rfl (lv_at hl 2 rfl) ?_
  obtain ⟨v2, hc2, h⟩ := wx_o_ok h
  refine wx_call (va_runS (As := [.int x1, .int x2]) (rest := []) ⟨hx, hb, hml, hown, hts⟩ (c_X5_placeOf l (D := D) (ad := ad) (rd := rd) (ca := ca) (A := A) (σ := σ) hc2) (va_cwS 2 hts gX5_at_X5_placeOf rfl rfl rfl (by decide +kernel) ⟨Nat.le_of_ble_eq_true rfl, Nat.le_of_ble_eq_true rfl⟩) (wx_preS hC Z hS hA) rfl rfl hl.1 rfl (lv_room (Nat.le_of_ble_eq_true rfl)) dX5_at_2 ⟨(by show k + 0 ≤ mc; omega), (by show 6464 * k + 0 ≤ 6464 * mc; omega)⟩) hS (fun H locs Z hS => ?_)
  refine lv_istore (lv' := [(4, .int v2), (0, .ref (ad 11 99)), (1, .int x1), (2, .int x2), (3, .int x3)]) hx hb dX5_at_5 hl (by decide) rfl (fun ls hl => ?_)
  refine lv_iload hx hb dX5_at_7 (lv_at hl 0 rfl) ?_
  refine lv_if_ge (tgt := 14) hx hb dX5_at_9 (by decide) (fun c9 => ?_) (fun c9 => ?_)
  · replace h := wx_ift c9 h
    refine lv_iload_n hx hb dX5_at_14 rfl (lv_at hl 4 rfl) ?_
    by_cases c15_0 : x3 = 0
    · replace h := wx_ift c15_0 h
      refine lv_tableIn (off := 41) (tgt := 56) hx hb dX5_at_15 (by rw [c15_0]; decide) (by rw [c15_0]; decide) (by rw [c15_0]; rfl) (by decide) ?_
      refine lv_aload_n hx hb dX5_at_56 rfl (lv_at hl 1 rfl) ?_
      refine wx_get (own := RX5) hx hb hts i_X5_at_5 hown hC.1 Z (o := 11) (ci := 5) rfl (rfl : vwCl[5]? = some (RX5, TX5, 7)) 0 (by decide) (hts _ k_X5_at_w0) (fun _ h9 => h9) (f := 107) rfl rfl dX5_at_57 ?_
      refine wx_getN (own := RX5) hx hb hts i_X5_at_0 hown hC.1 Z (o := 7) (ci := 0) rfl (rfl : vwCl[0]? = some (RX0, TX0, 13)) 1 (by decide) (wx_nst hC 4 rfl rfl) (fun _ h9 => h9) (f := 0) rfl rfl dX5_at_60 ?_
      refine lv_iload hx hb dX5_at_63 (lv_at hl 0 rfl) ?_
      obtain ⟨v65, ev65, iv65, h⟩ := wx_rI_ok h
      refine wx_iald hx hb hC.1 Z (o := 7) (k := 1) (n := 64) rfl rfl iv65 dX5_at_65 ev65 ?_
      obtain ⟨rfl, rfl⟩ := wx_ret_ok h
      refine W.widen (k := mc) (n := 6464 * mc) (by omega) (by omega) ?_
      exact W.iret hx hb hr (fun t ht hW => ⟨rfl, ⟨_, by rw [ht]; exact Z⟩, hS.F ht⟩) hS.2.2 dX5_at_66
    · replace h := wx_iff c15_0 h
      by_cases c15_1 : x3 = 1
      · replace h := wx_ift c15_1 h
        refine lv_tableIn (off := 52) (tgt := 67) hx hb dX5_at_15 (by rw [c15_1]; decide) (by rw [c15_1]; decide) (by rw [c15_1]; rfl) (by decide) ?_
        refine lv_aload_n hx hb dX5_at_67 rfl (lv_at hl 1 rfl) ?_
        refine wx_get (own := RX5) hx hb hts i_X5_at_5 hown hC.1 Z (o := 11) (ci := 5) rfl (rfl : vwCl[5]? = some (RX5, TX5, 7)) 0 (by decide) (hts _ k_X5_at_w0) (fun _ h9 => h9) (f := 107) rfl rfl dX5_at_68 ?_
        refine wx_getN (own := RX5) hx hb hts i_X5_at_0 hown hC.1 Z (o := 7) (ci := 0) rfl (rfl : vwCl[0]? = some (RX0, TX0, 13)) 7 (by decide) (wx_nst hC 11 rfl rfl) (fun _ h9 => h9) (f := 0) rfl rfl dX5_at_71 ?_
        refine lv_iload hx hb dX5_at_74 (lv_at hl 0 rfl) ?_
        obtain ⟨v76, ev76, iv76, h⟩ := wx_rF_ok h
        refine wx_fald hx hb hC.1 Z (o := 7) (k := 7) (n := 64) rfl rfl iv76 dX5_at_76 ev76 ?_
        obtain ⟨v77, hc77, h⟩ := wx_o_ok h
        refine wx_call (va_runS (As := [.float v76]) (rest := []) ⟨hx, hb, hml, hown, hts⟩ (c_X5_bitsOfFloat l (D := D) (ad := ad) (rd := rd) (ca := ca) (A := A) (σ := σ) hc77) (va_cwS 1 hts gX5_at_X5_bitsOfFloat rfl rfl rfl (by decide +kernel) ⟨Nat.le_of_ble_eq_true rfl, Nat.le_of_ble_eq_true rfl⟩) (wx_preS hC Z hS hA) rfl rfl hl.1 rfl (lv_room (Nat.le_of_ble_eq_true rfl)) dX5_at_77 ⟨(by show k + 0 ≤ mc; omega), (by show 6464 * k + 0 ≤ 6464 * mc; omega)⟩) hS (fun H locs Z hS => ?_)
        obtain ⟨rfl, rfl⟩ := wx_ret_ok h
        refine W.widen (k := mc) (n := 6464 * mc) (by omega) (by omega) ?_
        exact W.iret hx hb hr (fun t ht hW => ⟨rfl, ⟨_, by rw [ht]; exact Z⟩, hS.F ht⟩) hS.2.2 dX5_at_80
      · replace h := wx_iff c15_1 h
        by_cases c15_2 : x3 = 2
        · replace h := wx_ift c15_2 h
          refine lv_tableIn (off := 66) (tgt := 81) hx hb dX5_at_15 (by rw [c15_2]; decide) (by rw [c15_2]; decide) (by rw [c15_2]; rfl) (by decide) ?_
          refine lv_aload_n hx hb dX5_at_81 rfl (lv_at hl 1 rfl) ?_
          refine wx_get (own := RX5) hx hb hts i_X5_at_5 hown hC.1 Z (o := 11) (ci := 5) rfl (rfl : vwCl[5]? = some (RX5, TX5, 7)) 0 (by decide) (hts _ k_X5_at_w0) (fun _ h9 => h9) (f := 107) rfl rfl dX5_at_82 ?_
          refine wx_getN (own := RX5) hx hb hts i_X5_at_0 hown hC.1 Z (o := 7) (ci := 0) rfl (rfl : vwCl[0]? = some (RX0, TX0, 13)) 7 (by decide) (wx_nst hC 11 rfl rfl) (fun _ h9 => h9) (f := 0) rfl rfl dX5_at_85 ?_
          refine lv_iload hx hb dX5_at_88 (lv_at hl 0 rfl) ?_
          obtain ⟨v90, ev90, iv90, h⟩ := wx_rF_ok h
          refine wx_fald hx hb hC.1 Z (o := 7) (k := 7) (n := 64) rfl rfl iv90 dX5_at_90 ev90 ?_
          obtain ⟨v91, hc91, h⟩ := wx_o_ok h
          refine wx_call (va_runS (As := [.float v90]) (rest := []) ⟨hx, hb, hml, hown, hts⟩ (c_X5_readOf l (D := D) (ad := ad) (rd := rd) (ca := ca) (A := A) (σ := σ) hc91) (va_cwS 1 hts gX5_at_X5_readOf rfl rfl rfl (by decide +kernel) ⟨Nat.le_of_ble_eq_true rfl, Nat.le_of_ble_eq_true rfl⟩) (wx_preS hC Z hS hA) rfl rfl hl.1 rfl (lv_room (Nat.le_of_ble_eq_true rfl)) dX5_at_91 ⟨(by show k + 0 ≤ mc; omega), (by show 6464 * k + 0 ≤ 6464 * mc; omega)⟩) hS (fun H locs Z hS => ?_)
          obtain ⟨rfl, rfl⟩ := wx_ret_ok h
          refine W.widen (k := mc) (n := 6464 * mc) (by omega) (by omega) ?_
          exact W.iret hx hb hr (fun t ht hW => ⟨rfl, ⟨_, by rw [ht]; exact Z⟩, hS.F ht⟩) hS.2.2 dX5_at_94
        · replace h := wx_iff c15_2 h
          by_cases c15_3 : x3 = 3
          · replace h := wx_ift c15_3 h
            refine lv_tableIn (off := 80) (tgt := 95) hx hb dX5_at_15 (by rw [c15_3]; decide) (by rw [c15_3]; decide) (by rw [c15_3]; rfl) (by decide) ?_
            refine lv_aload_n hx hb dX5_at_95 rfl (lv_at hl 1 rfl) ?_
            refine wx_get (own := RX5) hx hb hts i_X5_at_5 hown hC.1 Z (o := 11) (ci := 5) rfl (rfl : vwCl[5]? = some (RX5, TX5, 7)) 0 (by decide) (hts _ k_X5_at_w0) (fun _ h9 => h9) (f := 107) rfl rfl dX5_at_96 ?_
            refine lv_iload hx hb dX5_at_99 (lv_at hl 0 rfl) ?_
            obtain ⟨v101, hc101, h⟩ := wx_o_ok h
            refine wx_call (va_runVN (As := [.int v2]) (rest := []) ⟨hx, hb, hml, hown, hts⟩ (c_X0_isSuspect l (D := D) (ad := ad) (rd := rd) (ca := ca) (A := A) (σ := σ) (o := 7) (by decide : 7 < 11) hc101) ⟨va_cnB 1 hts gX5_at_X0_isSuspect_n104 rfl rfl rfl (hC.1.2.1 _ (List.mem_of_getElem? (i := 46) rfl)) (hts _ k_X5_at_w1) (by decide +kernel) ⟨Nat.le_of_ble_eq_true rfl, Nat.le_of_ble_eq_true rfl⟩, hts _ k_X5_at_w2, hts _ k_X5_at_w3⟩ (wx_preV hC Z hS hA rfl (rfl : vwCl[0]? = some (RX0, TX0, 13))) rfl rfl hl.1 rfl (lv_room (Nat.le_of_ble_eq_true rfl)) dX5_at_101 ⟨(by show k + 0 ≤ mc; omega), (by show 6464 * k + 0 ≤ 6464 * mc; omega)⟩) hS (fun H locs Z hS => ?_)
            refine lv_if_eq (tgt := 111) hx hb dX5_at_104 (by decide) (fun c104 => ?_) (fun c104 => ?_)
            · replace h := wx_ift c104 h
              refine lv_iconst (v := 0) hx hb dX5_at_111 (by decide) ?_
              exact b_X5_at_112 B (k := k) hk h Z hS (lv_sub hl [1, 2, 3, 4, 0] rfl)
            · replace h := wx_iff c104 h
              refine lv_iconst (v := 1) hx hb dX5_at_107 (by decide) ?_
              refine lv_goto (tgt := 112) hx hb dX5_at_108 (by decide) ?_
              exact b_X5_at_112 B (k := k) hk h Z hS (lv_sub hl [1, 2, 3, 4, 0] rfl)
          · replace h := wx_iff c15_3 h
            by_cases c15_4 : x3 = 4
            · replace h := wx_ift c15_4 h
              refine lv_tableIn (off := 98) (tgt := 113) hx hb dX5_at_15 (by rw [c15_4]; decide) (by rw [c15_4]; decide) (by rw [c15_4]; rfl) (by decide) ?_
              refine lv_aload_n hx hb dX5_at_113 rfl (lv_at hl 1 rfl) ?_
              refine wx_get (own := RX5) hx hb hts i_X5_at_5 hown hC.1 Z (o := 11) (ci := 5) rfl (rfl : vwCl[5]? = some (RX5, TX5, 7)) 2 (by decide) (hts _ k_X5_at_w4) (fun _ h9 => h9) (f := 112) rfl rfl dX5_at_114 ?_
              refine lv_aload_n hx hb dX5_at_117 rfl (lv_at hl 1 rfl) ?_
              refine wx_get (own := RX5) hx hb hts i_X5_at_5 hown hC.1 Z (o := 11) (ci := 5) rfl (rfl : vwCl[5]? = some (RX5, TX5, 7)) 0 (by decide) (hts _ k_X5_at_w0) (fun _ h9 => h9) (f := 107) rfl rfl dX5_at_118 ?_
              refine lv_iload hx hb dX5_at_121 (lv_at hl 0 rfl) ?_
              obtain ⟨v123, σ123, hc123, h⟩ := wx_b_ok h
              have m1 := m_X4_couldBe_0 hc123
              have m2 := m_X5_at_126 h
              refine wx_callA (va_runVN (As := [.ref (ad 7 99), .int v2]) (rest := []) ⟨hx, hb, hml, hown, hts⟩ (c_X4_couldBe l (D := D) (ad := ad) (rd := rd) (ca := ca) (A := A) (σ := σ) (b1 := 7) (by decide : 7 < 11) hc123) ⟨va_cnB 2 hts gX5_at_X4_couldBe_n108 rfl rfl rfl (hC.1.2.1 _ (List.mem_of_getElem? (i := 47) rfl)) (hts _ k_X5_at_w5) (by decide +kernel) ⟨Nat.le_of_ble_eq_true rfl, Nat.le_of_ble_eq_true rfl⟩, hts _ k_X5_at_w6, hts _ k_X5_at_w7⟩ (wx_preV hC Z hS hA rfl (rfl : vwCl[4]? = some (RX4, TX4, 2))) rfl rfl hl.1 rfl (lv_room (Nat.le_of_ble_eq_true rfl)) dX5_at_123 ⟨(by show k + (wx_n σ123.2.2.2.2 - wx_n σ.2.2.2.2) ≤ mc; omega), (by show 6464 * k + 6464 * (wx_n σ123.2.2.2.2 - wx_n σ.2.2.2.2) ≤ 6464 * mc; omega)⟩) hS (fun rd H locs Z hS => ?_)
              refine W.widen (k := k + (wx_n σ123.2.2.2.2 - wx_n σ.2.2.2.2)) (n := 6464 * (k + (wx_n σ123.2.2.2.2 - wx_n σ.2.2.2.2))) (Nat.le_refl _) (by omega) ?_
              exact b_X5_at_126 B (k := k + (wx_n σ123.2.2.2.2 - wx_n σ.2.2.2.2)) (by omega) h Z hS (lv_sub hl [1, 2, 3, 4, 0] rfl)
            · replace h := wx_iff c15_4 h
              by_cases c15_5 : x3 = 5
              · replace h := wx_ift c15_5 h
                refine lv_tableIn (off := 120) (tgt := 135) hx hb dX5_at_15 (by rw [c15_5]; decide) (by rw [c15_5]; decide) (by rw [c15_5]; rfl) (by decide) ?_
                refine lv_aload_n hx hb dX5_at_135 rfl (lv_at hl 1 rfl) ?_
                refine wx_get (own := RX5) hx hb hts i_X5_at_5 hown hC.1 Z (o := 11) (ci := 5) rfl (rfl : vwCl[5]? = some (RX5, TX5, 7)) 2 (by decide) (hts _ k_X5_at_w4) (fun _ h9 => h9) (f := 112) rfl rfl dX5_at_136 ?_
                refine lv_aload_n hx hb dX5_at_139 rfl (lv_at hl 1 rfl) ?_
                refine wx_get (own := RX5) hx hb hts i_X5_at_5 hown hC.1 Z (o := 11) (ci := 5) rfl (rfl : vwCl[5]? = some (RX5, TX5, 7)) 0 (by decide) (hts _ k_X5_at_w0) (fun _ h9 => h9) (f := 107) rfl rfl dX5_at_140 ?_
                refine lv_iload hx hb dX5_at_143 (lv_at hl 0 rfl) ?_
                obtain ⟨v145, σ145, hc145, h⟩ := wx_b_ok h
                have m1 := m_X4_couldBeOneOfTwo_0 hc145
                have m2 := m_X5_at_148 h
                refine wx_callA (va_runVN (As := [.ref (ad 7 99), .int v2]) (rest := []) ⟨hx, hb, hml, hown, hts⟩ (c_X4_couldBeOneOfTwo l (D := D) (ad := ad) (rd := rd) (ca := ca) (A := A) (σ := σ) (b1 := 7) (by decide : 7 < 11) hc145) ⟨va_cnB 2 hts gX5_at_X4_couldBeOneOfTwo_n112 rfl rfl rfl (hC.1.2.1 _ (List.mem_of_getElem? (i := 53) rfl)) (hts _ k_X5_at_w5) (by decide +kernel) ⟨Nat.le_of_ble_eq_true rfl, Nat.le_of_ble_eq_true rfl⟩, hts _ k_X5_at_w8, hts _ k_X5_at_w9⟩ (wx_preV hC Z hS hA rfl (rfl : vwCl[4]? = some (RX4, TX4, 2))) rfl rfl hl.1 rfl (lv_room (Nat.le_of_ble_eq_true rfl)) dX5_at_145 ⟨(by show k + (wx_n σ145.2.2.2.2 - wx_n σ.2.2.2.2) ≤ mc; omega), (by show 6464 * k + 6464 * (wx_n σ145.2.2.2.2 - wx_n σ.2.2.2.2) ≤ 6464 * mc; omega)⟩) hS (fun rd H locs Z hS => ?_)
                refine W.widen (k := k + (wx_n σ145.2.2.2.2 - wx_n σ.2.2.2.2)) (n := 6464 * (k + (wx_n σ145.2.2.2.2 - wx_n σ.2.2.2.2))) (Nat.le_refl _) (by omega) ?_
                exact b_X5_at_148 B (k := k + (wx_n σ145.2.2.2.2 - wx_n σ.2.2.2.2)) (by omega) h Z hS (lv_sub hl [1, 2, 3, 4, 0] rfl)
              · replace h := wx_iff c15_5 h
                by_cases c15_6 : x3 = 6
                · replace h := wx_ift c15_6 h
                  refine lv_tableIn (off := 142) (tgt := 157) hx hb dX5_at_15 (by rw [c15_6]; decide) (by rw [c15_6]; decide) (by rw [c15_6]; rfl) (by decide) ?_
                  refine lv_aload_n hx hb dX5_at_157 rfl (lv_at hl 1 rfl) ?_
                  refine wx_get (own := RX5) hx hb hts i_X5_at_5 hown hC.1 Z (o := 11) (ci := 5) rfl (rfl : vwCl[5]? = some (RX5, TX5, 7)) 0 (by decide) (hts _ k_X5_at_w0) (fun _ h9 => h9) (f := 107) rfl rfl dX5_at_158 ?_
                  refine lv_iload hx hb dX5_at_161 (lv_at hl 0 rfl) ?_
                  obtain ⟨v163, hc163, h⟩ := wx_o_ok h
                  refine wx_call (va_runVN (As := [.int v2]) (rest := []) ⟨hx, hb, hml, hown, hts⟩ (c_X0_touchAt l (D := D) (ad := ad) (rd := rd) (ca := ca) (A := A) (σ := σ) (o := 7) (by decide : 7 < 11) hc163) ⟨va_cnB 1 hts gX5_at_X0_touchAt_n115 rfl rfl rfl (hC.1.2.1 _ (List.mem_of_getElem? (i := 54) rfl)) (hts _ k_X5_at_w1) (by decide +kernel) ⟨Nat.le_of_ble_eq_true rfl, Nat.le_of_ble_eq_true rfl⟩, hts _ k_X5_at_w10, hts _ k_X5_at_w11⟩ (wx_preV hC Z hS hA rfl (rfl : vwCl[0]? = some (RX0, TX0, 13))) rfl rfl hl.1 rfl (lv_room (Nat.le_of_ble_eq_true rfl)) dX5_at_163 ⟨(by show k + 0 ≤ mc; omega), (by show 6464 * k + 0 ≤ 6464 * mc; omega)⟩) hS (fun H locs Z hS => ?_)
                  obtain ⟨rfl, rfl⟩ := wx_ret_ok h
                  refine W.widen (k := mc) (n := 6464 * mc) (by omega) (by omega) ?_
                  exact W.iret hx hb hr (fun t ht hW => ⟨rfl, ⟨_, by rw [ht]; exact Z⟩, hS.F ht⟩) hS.2.2 dX5_at_166
                · replace h := wx_iff c15_6 h
                  have n15_0 := wx_ni c15_0
                  have n15_1 := wx_ni c15_1
                  have n15_2 := wx_ni c15_2
                  have n15_3 := wx_ni c15_3
                  have n15_4 := wx_ni c15_4
                  have n15_5 := wx_ni c15_5
                  have n15_6 := wx_ni c15_6
                  rw [show (0 : Int32).toInt = 0 from by decide] at n15_0
                  rw [show (1 : Int32).toInt = 1 from by decide] at n15_1
                  rw [show (2 : Int32).toInt = 2 from by decide] at n15_2
                  rw [show (3 : Int32).toInt = 3 from by decide] at n15_3
                  rw [show (4 : Int32).toInt = 4 from by decide] at n15_4
                  rw [show (5 : Int32).toInt = 5 from by decide] at n15_5
                  rw [show (6 : Int32).toInt = 6 from by decide] at n15_6
                  refine lv_tableOut (tgt := 167) hx hb dX5_at_15 (by omega) (by decide) ?_
                  refine lv_bipush (v := (-2)) hx hb dX5_at_167 (by decide) ?_
                  obtain ⟨rfl, rfl⟩ := wx_ret_ok h
                  refine W.widen (k := mc) (n := 6464 * mc) (by omega) (by omega) ?_
                  exact W.iret hx hb hr (fun t ht hW => ⟨rfl, ⟨_, by rw [ht]; exact Z⟩, hS.F ht⟩) hS.2.2 dX5_at_169
  · replace h := wx_iff c9 h
    refine lv_iconst (v := (-1)) hx hb dX5_at_12 (by decide) ?_
    obtain ⟨rfl, rfl⟩ := wx_ret_ok h
    refine W.widen (k := mc) (n := 6464 * mc) (by omega) (by omega) ?_
    exact W.iret hx hb hr (fun t ht hW => ⟨rfl, ⟨_, by rw [ht]; exact Z⟩, hS.F ht⟩) hS.2.2 dX5_at_13
set_option maxRecDepth 20000 in
theorem c_X5_at (l : Launch) {D : va_G} {ad : Nat → Nat → Nat} {rd : Nat → Nat} {ca : Nat → ClassId} {A : Nat → Prop} {σ : wx_St}    {x1 : Int32} {x2 : Int32} {x3 : Int32} {r : Int32} {σ' : wx_St} (h : f_X5_at x1 x2 x3 σ = some (r, σ')) : wx_MA l yX5_at wsX5_at 5 129 D ad rd ca A [.ref (ad 11 99), .int x1, .int x2, .int x3] σ (some (.int r)) σ' := by
  refine Met.ofW (cc := cX5_at) (maxL := 5) (ret := (some .int)) (by decide +kernel) rfl ?_
  intro p e s m args below meth c s₁ B0 hml hv
  obtain ⟨rfl, hC, Z, hA⟩ := hv
  have hl := lv_entry ([.ref (ad 11 99), .int x1, .int x2, .int x3]) (n := 5) (Nat.le_of_ble_eq_true rfl)
  rw [lg_entry_eq]
  generalize (lg_sl ([.ref (ad 11 99), .int x1, .int x2, .int x3]) ++ List.replicate (5 - (lg_sl ([.ref (ad 11 99), .int x1, .int x2, .int x3])).length) Slot.unset).toArray = ls at hl ⊢
  exact b_X5_at_0 ⟨B0.exec, B0.bytes, hml, B0.returns, atoms_spec (ws := wsX5_at) B0.pre, findClass_of_methodNamed B0.named, B0.notSynchronized, hC, hA⟩  (k := 0) (by have hm := m_X5_at_0 h; omega) h Z va_S.rf hl
theorem i_X5_bestProbe_5 : ∀ w ∈ wsX50, w ∈ wsX5_bestProbe := by decide +kernel
theorem k_X5_bestProbe_w0 : Cond.fieldLink RX5 22 "WarmProbes" "suspicion" "LWarmProbes$Suspicion;" ∈ wsX5_bestProbe := by decide +kernel
theorem k_X5_bestProbe_w1 : Cond.fieldLink RX5 10 "WarmProbes" "board" "LWarmProbes$Board;" ∈ wsX5_bestProbe := by decide +kernel
theorem k_X5_bestProbe_w2 : Cond.initialized RX4 ∈ wsX5_bestProbe := by decide +kernel
theorem k_X5_bestProbe_w3 : Cond.instanceMethod yX4_fitting ∈ wsX5_bestProbe := by decide +kernel
theorem k_X5_bestProbe_w4 : Cond.selects RX4 yX4_fitting yX4_fitting ∈ wsX5_bestProbe := by decide +kernel
theorem k_X5_bestProbe_w5 : Cond.instanceMethod yX4_unlikeReads ∈ wsX5_bestProbe := by decide +kernel
theorem k_X5_bestProbe_w6 : Cond.selects RX4 yX4_unlikeReads yX4_unlikeReads ∈ wsX5_bestProbe := by decide +kernel
set_option maxRecDepth 20000 in
set_option maxHeartbeats 4000000 in
theorem m_X5_bestProbe_82  {r : Int32} {σ' : wx_St} {K44 : Int32 → Int64 → Int32 → Int32 → Int32 → wx_St → Option (Int32 × wx_St)} (mK44 : ∀ {x1 : Int32} {x2 : Int64} {x4 : Int32} {x5 : Int32} {x6 : Int32} {σ : wx_St}, K44 x1 x2 x4 x5 x6 σ = some (r, σ') → wx_n σ.2.2.2.2 ≤ wx_n σ'.2.2.2.2) {x1 : Int32} {x2 : Int64} {x4 : Int32} {x5 : Int32} {x6 : Int32} {x7 : Int32} {σ : wx_St} (h : f_X5_bestProbe_82 K44 x1 x2 x4 x5 x6 x7 σ = some (r, σ')) : wx_n σ.2.2.2.2 ≤ wx_n σ'.2.2.2.2 := by
  unfold f_X5_bestProbe_82 at h
  exact mK44 h
set_option maxRecDepth 20000 in
set_option maxHeartbeats 4000000 in
theorem b_X5_bestProbe_82 (B : wx_B p s m args meth c cX5_bestProbe 8 (some .int) wsX5_bestProbe RX5 D ad ca A)    {r : Int32} {σ' : wx_St} {mc : Nat} {K44 : Int32 → Int64 → Int32 → Int32 → Int32 → wx_St → Option (Int32 × wx_St)} (hK44 : ∀ {x1 : Int32} {x2 : Int64} {x4 : Int32} {x5 : Int32} {x6 : Int32} {σ : wx_St} {k : Nat} (hk : k + wx_n σ'.2.2.2.2 ≤ mc + wx_n σ.2.2.2.2)  (h : K44 x1 x2 x4 x5 x6 σ = some (r, σ')) {rd : Nat → Nat} {H : Heap} {locs : List Loc} (Z : wx_Z D ad rd ca A σ H) (hS : va_S A s.heap H locs) {ls : Array Slot} (hl : lv_has ls 8 [(0, .ref (ad 11 99)), (1, .int x1), (2, .long x2), (4, .int x4), (5, .int x5), (6, .int x6)]), W p l e ({ frames := 6, cells := mc, slots := 6464 * mc, locals := 152 } : Room) s m args below meth c H locs k (6464 * k) (MQ below (wx_QA D ad ca A (some (.int r)) σ') args s mc (6464 * mc) A) (F0 m 44 ls [])) (mK44 : ∀ {x1 : Int32} {x2 : Int64} {x4 : Int32} {x5 : Int32} {x6 : Int32} {σ : wx_St}, K44 x1 x2 x4 x5 x6 σ = some (r, σ') → wx_n σ.2.2.2.2 ≤ wx_n σ'.2.2.2.2) {x1 : Int32} {x2 : Int64} {x4 : Int32} {x5 : Int32} {x6 : Int32} {x7 : Int32} {σ : wx_St} {k : Nat} (hk : k + wx_n σ'.2.2.2.2 ≤ mc + wx_n σ.2.2.2.2)  (h : f_X5_bestProbe_82 K44 x1 x2 x4 x5 x6 x7 σ = some (r, σ')) {rd : Nat → Nat} {H : Heap} {locs : List Loc} (Z : wx_Z D ad rd ca A σ H) (hS : va_S A s.heap H locs) {ls : Array Slot} (hl : lv_has ls 8 [(0, .ref (ad 11 99)), (1, .int x1), (2, .long x2), (4, .int x4), (5, .int x5), (6, .int x6), (7, .int x7)]) : W p l e ({ frames := 6, cells := mc, slots := 6464 * mc, locals := 152 } : Room) s m args below meth c H locs k (6464 * k) (MQ below (wx_QA D ad ca A (some (.int r)) σ') args s mc (6464 * mc) A) (F0 m 82 ls []) := by
  obtain ⟨hx, hb, hml, hr, hts, hown, hlk, hC, hA⟩ := id B
  have hm := m_X5_bestProbe_82 (K44 := K44) @mK44 h
  unfold f_X5_bestProbe_82 at h
  refine lv_iinc (v := x6 + 1) (lv' := [(6, .int (x6 + 1)), (0, .ref (ad 11 99)), (1, .int x1), (2, .long x2), (4, .int x4), (5, .int x5), (7, .int x7)]) hx hb dX5_bestProbe_82 hl (k := 5) rfl rfl (by decide) rfl (fun ls hl => ?_)
  refine lv_goto (tgt := 44) hx hb dX5_bestProbe_85 (by decide) ?_
  exact hK44 (k := k) hk h Z hS (lv_sub hl [1, 2, 3, 4, 5, 0] rfl)
set_option maxRecDepth 20000 in
set_option maxHeartbeats 4000000 in
theorem m_X5_bestProbe_65  {r : Int32} {σ' : wx_St} {K44 : Int32 → Int64 → Int32 → Int32 → Int32 → wx_St → Option (Int32 × wx_St)} (mK44 : ∀ {x1 : Int32} {x2 : Int64} {x4 : Int32} {x5 : Int32} {x6 : Int32} {σ : wx_St}, K44 x1 x2 x4 x5 x6 σ = some (r, σ') → wx_n σ.2.2.2.2 ≤ wx_n σ'.2.2.2.2) {x1 : Int32} {x2 : Int64} {x4 : Int32} {x5 : Int32} {x6 : Int32} {y0 : Int32} {σ : wx_St} (h : f_X5_bestProbe_65 K44 x1 x2 x4 x5 x6 y0 σ = some (r, σ')) : wx_n σ.2.2.2.2 ≤ wx_n σ'.2.2.2.2 := by
  unfold f_X5_bestProbe_65 at h
  by_cases c71 : y0 ≤ x5
  · replace h := wx_ift c71 h
    exact m_X5_bestProbe_82 (K44 := K44) @mK44 h
  · replace h := wx_iff c71 h
    exact m_X5_bestProbe_82 (K44 := K44) @mK44 h
set_option maxRecDepth 20000 in
set_option maxHeartbeats 4000000 in
theorem b_X5_bestProbe_65 (B : wx_B p s m args meth c cX5_bestProbe 8 (some .int) wsX5_bestProbe RX5 D ad ca A)    {r : Int32} {σ' : wx_St} {mc : Nat} {K44 : Int32 → Int64 → Int32 → Int32 → Int32 → wx_St → Option (Int32 × wx_St)} (hK44 : ∀ {x1 : Int32} {x2 : Int64} {x4 : Int32} {x5 : Int32} {x6 : Int32} {σ : wx_St} {k : Nat} (hk : k + wx_n σ'.2.2.2.2 ≤ mc + wx_n σ.2.2.2.2)  (h : K44 x1 x2 x4 x5 x6 σ = some (r, σ')) {rd : Nat → Nat} {H : Heap} {locs : List Loc} (Z : wx_Z D ad rd ca A σ H) (hS : va_S A s.heap H locs) {ls : Array Slot} (hl : lv_has ls 8 [(0, .ref (ad 11 99)), (1, .int x1), (2, .long x2), (4, .int x4), (5, .int x5), (6, .int x6)]), W p l e ({ frames := 6, cells := mc, slots := 6464 * mc, locals := 152 } : Room) s m args below meth c H locs k (6464 * k) (MQ below (wx_QA D ad ca A (some (.int r)) σ') args s mc (6464 * mc) A) (F0 m 44 ls [])) (mK44 : ∀ {x1 : Int32} {x2 : Int64} {x4 : Int32} {x5 : Int32} {x6 : Int32} {σ : wx_St}, K44 x1 x2 x4 x5 x6 σ = some (r, σ') → wx_n σ.2.2.2.2 ≤ wx_n σ'.2.2.2.2) {x1 : Int32} {x2 : Int64} {x4 : Int32} {x5 : Int32} {x6 : Int32} {y0 : Int32} {σ : wx_St} {k : Nat} (hk : k + wx_n σ'.2.2.2.2 ≤ mc + wx_n σ.2.2.2.2)  (h : f_X5_bestProbe_65 K44 x1 x2 x4 x5 x6 y0 σ = some (r, σ')) {rd : Nat → Nat} {H : Heap} {locs : List Loc} (Z : wx_Z D ad rd ca A σ H) (hS : va_S A s.heap H locs) {ls : Array Slot} (hl : lv_has ls 8 [(0, .ref (ad 11 99)), (1, .int x1), (2, .long x2), (4, .int x4), (5, .int x5), (6, .int x6)]) : W p l e ({ frames := 6, cells := mc, slots := 6464 * mc, locals := 152 } : Room) s m args below meth c H locs k (6464 * k) (MQ below (wx_QA D ad ca A (some (.int r)) σ') args s mc (6464 * mc) A) (F0 m 65 ls [.int y0]) := by
  obtain ⟨hx, hb, hml, hr, hts, hown, hlk, hC, hA⟩ := id B
  have hm := m_X5_bestProbe_65 (K44 := K44) @mK44 h
  unfold f_X5_bestProbe_65 at h
  refine lv_istore (lv' := [(7, .int y0), (0, .ref (ad 11 99)), (1, .int x1), (2, .long x2), (4, .int x4), (5, .int x5), (6, .int x6)]) hx hb dX5_bestProbe_65 hl (by decide) rfl (fun ls hl => ?_)
  refine lv_iload hx hb dX5_bestProbe_67 (lv_at hl 0 rfl) ?_
  refine lv_iload hx hb dX5_bestProbe_69 (lv_at hl 5 rfl) ?_
  refine lv_icmp_le (tgt := 82) hx hb dX5_bestProbe_71 (by decide) (fun c71 => ?_) (fun c71 => ?_)
  · replace h := wx_ift c71 h
    exact b_X5_bestProbe_82 B (K44 := K44) @hK44 @mK44 (k := k) hk h Z hS (lv_sub hl [1, 2, 3, 4, 5, 6, 0] rfl)
  · replace h := wx_iff c71 h
    refine lv_iload hx hb dX5_bestProbe_74 (lv_at hl 0 rfl) ?_
    refine lv_istore (lv' := [(5, .int y0), (7, .int y0), (0, .ref (ad 11 99)), (1, .int x1), (2, .long x2), (4, .int x4), (6, .int x6)]) hx hb dX5_bestProbe_76 hl (by decide) rfl (fun ls hl => ?_)
    refine lv_iload hx hb dX5_bestProbe_78 (lv_at hl 6 rfl) ?_
    refine lv_istore (lv' := [(4, .int x6), (5, .int y0), (7, .int y0), (0, .ref (ad 11 99)), (1, .int x1), (2, .long x2), (6, .int x6)]) hx hb dX5_bestProbe_80 hl (by decide) rfl (fun ls hl => ?_)
    exact b_X5_bestProbe_82 B (K44 := K44) @hK44 @mK44 (k := k) hk h Z hS (lv_sub hl [3, 4, 5, 0, 1, 6, 2] rfl)
set_option maxRecDepth 20000 in
set_option maxHeartbeats 4000000 in
theorem m_X5_bestProbe_99  {r : Int32} {σ' : wx_St}  {x1 : Int32} {x2 : Int64} {x4 : Int32} {x5 : Int32} {x6 : Int32} {y0 : Int32} {σ : wx_St} (h : f_X5_bestProbe_99 x1 x2 x4 x5 x6 y0 σ = some (r, σ')) : wx_n σ.2.2.2.2 ≤ wx_n σ'.2.2.2.2 := by
  unfold f_X5_bestProbe_99 at h
  obtain ⟨rfl, rfl⟩ := wx_ret_ok h
  exact Nat.le_refl _
set_option maxRecDepth 20000 in
set_option maxHeartbeats 4000000 in
theorem b_X5_bestProbe_99 (B : wx_B p s m args meth c cX5_bestProbe 8 (some .int) wsX5_bestProbe RX5 D ad ca A)    {r : Int32} {σ' : wx_St} {mc : Nat}  {x1 : Int32} {x2 : Int64} {x4 : Int32} {x5 : Int32} {x6 : Int32} {y0 : Int32} {σ : wx_St} {k : Nat} (hk : k + wx_n σ'.2.2.2.2 ≤ mc + wx_n σ.2.2.2.2)  (h : f_X5_bestProbe_99 x1 x2 x4 x5 x6 y0 σ = some (r, σ')) {rd : Nat → Nat} {H : Heap} {locs : List Loc} (Z : wx_Z D ad rd ca A σ H) (hS : va_S A s.heap H locs) {ls : Array Slot} (hl : lv_has ls 8 [(0, .ref (ad 11 99)), (1, .int x1), (2, .long x2), (4, .int x4), (5, .int x5), (6, .int x6)]) : W p l e ({ frames := 6, cells := mc, slots := 6464 * mc, locals := 152 } : Room) s m args below meth c H locs k (6464 * k) (MQ below (wx_QA D ad ca A (some (.int r)) σ') args s mc (6464 * mc) A) (F0 m 99 ls [.int y0]) := by
  obtain ⟨hx, hb, hml, hr, hts, hown, hlk, hC, hA⟩ := id B
  have hm := m_X5_bestProbe_99 h
  unfold f_X5_bestProbe_99 at h
  obtain ⟨rfl, rfl⟩ := wx_ret_ok h
  refine W.widen (k := mc) (n := 6464 * mc) (by omega) (by omega) ?_
  exact W.iret hx hb hr (fun t ht hW => ⟨rfl, ⟨_, by rw [ht]; exact Z⟩, hS.F ht⟩) hS.2.2 dX5_bestProbe_99
set_option maxRecDepth 20000 in
set_option maxHeartbeats 4000000 in
theorem m_X5_bestProbe_44  {r : Int32} {σ' : wx_St}  :
    ∀ {n : Nat} {x1 : Int32} {x2 : Int64} {x4 : Int32} {x5 : Int32} {x6 : Int32} {σ : wx_St} (h : f_X5_bestProbe_44 n x1 x2 x4 x5 x6 σ = some (r, σ')), wx_n σ.2.2.2.2 ≤ wx_n σ'.2.2.2.2 := by
  intro n
  induction n with
  | zero => intro x1 x2 x4 x5 x6 σ h; exact wx_no h
  | succ n ih =>
    intro x1 x2 x4 x5 x6 σ h
    rw [f_X5_bestProbe_44] at h
    by_cases c48 : 64 ≤ x6
    · replace h := wx_ift c48 h
      by_cases c89 : x1 = 0
      · replace h := wx_ift c89 h
        exact m_X5_bestProbe_99 h
      · replace h := wx_iff c89 h
        exact m_X5_bestProbe_99 h
    · replace h := wx_iff c48 h
      obtain ⟨v62, σ62, hc62, h⟩ := wx_b_ok h
      refine Nat.le_trans (m_X4_unlikeReads_0 hc62) ?_
      exact m_X5_bestProbe_65 (K44 := (f_X5_bestProbe_44 n)) @ih h
set_option maxRecDepth 20000 in
set_option maxHeartbeats 4000000 in
theorem b_X5_bestProbe_44 (B : wx_B p s m args meth c cX5_bestProbe 8 (some .int) wsX5_bestProbe RX5 D ad ca A)    {r : Int32} {σ' : wx_St} {mc : Nat}   :
    ∀ {n : Nat} {x1 : Int32} {x2 : Int64} {x4 : Int32} {x5 : Int32} {x6 : Int32} {σ : wx_St} {k : Nat} (hk : k + wx_n σ'.2.2.2.2 ≤ mc + wx_n σ.2.2.2.2)  (h : f_X5_bestProbe_44 n x1 x2 x4 x5 x6 σ = some (r, σ')) {rd : Nat → Nat} {H : Heap} {locs : List Loc} (Z : wx_Z D ad rd ca A σ H) (hS : va_S A s.heap H locs) {ls : Array Slot} (hl : lv_has ls 8 [(0, .ref (ad 11 99)), (1, .int x1), (2, .long x2), (4, .int x4), (5, .int x5), (6, .int x6)]), W p l e ({ frames := 6, cells := mc, slots := 6464 * mc, locals := 152 } : Room) s m args below meth c H locs k (6464 * k) (MQ below (wx_QA D ad ca A (some (.int r)) σ') args s mc (6464 * mc) A) (F0 m 44 ls []) := by
  obtain ⟨hx, hb, hml, hr, hts, hown, hlk, hC, hA⟩ := id B
  intro n
  induction n with
  | zero => intro x1 x2 x4 x5 x6 σ k hk  h rd H locs Z hS ls hl; exact wx_no h
  | succ n ih =>
    intro x1 x2 x4 x5 x6 σ k hk  h rd H locs Z hS ls hl
    have hm := m_X5_bestProbe_44 h
    have mih : ∀ {x1 : Int32} {x2 : Int64} {x4 : Int32} {x5 : Int32} {x6 : Int32} {σ : wx_St}, f_X5_bestProbe_44 n x1 x2 x4 x5 x6 σ = some (r, σ') → wx_n σ.2.2.2.2 ≤ wx_n σ'.2.2.2.2 := fun h => m_X5_bestProbe_44 h
    rw [f_X5_bestProbe_44] at h
    refine lv_iload hx hb dX5_bestProbe_44 (lv_at hl 5 rfl) ?_
    refine lv_bipush (v := 64) hx hb dX5_bestProbe_46 (by decide) ?_
    refine lv_icmp_ge (tgt := 88) hx hb dX5_bestProbe_48 (by decide) (fun c48 => ?_) (fun c48 => ?_)
    · replace h := wx_ift c48 h
      refine lv_iload_n hx hb dX5_bestProbe_88 rfl (lv_at hl 1 rfl) ?_
      refine lv_if_ne (tgt := 97) hx hb dX5_bestProbe_89 (by decide) (fun c89 => ?_) (fun c89 => ?_)
      · replace h := wx_iff c89 h
        refine lv_iload hx hb dX5_bestProbe_97 (lv_at hl 4 rfl) ?_
        exact b_X5_bestProbe_99 B (k := k) hk h Z hS (lv_sub hl [0, 1, 2, 3, 4, 5] rfl)
      · replace h := wx_ift c89 h
        refine lv_iload hx hb dX5_bestProbe_92 (lv_at hl 3 rfl) ?_
        refine lv_goto (tgt := 99) hx hb dX5_bestProbe_94 (by decide) ?_
        exact b_X5_bestProbe_99 B (k := k) hk h Z hS (lv_sub hl [0, 1, 2, 3, 4, 5] rfl)
    · replace h := wx_iff c48 h
      refine lv_aload_n hx hb dX5_bestProbe_51 rfl (lv_at hl 0 rfl) ?_
      refine wx_get (own := RX5) hx hb hts i_X5_bestProbe_5 hown hC.1 Z (o := 11) (ci := 5) rfl (rfl : vwCl[5]? = some (RX5, TX5, 7)) 2 (by decide) (hts _ k_X5_bestProbe_w0) (fun _ h9 => h9) (f := 112) rfl rfl dX5_bestProbe_52 ?_
      refine lv_aload_n hx hb dX5_bestProbe_55 rfl (lv_at hl 0 rfl) ?_
      refine wx_get (own := RX5) hx hb hts i_X5_bestProbe_5 hown hC.1 Z (o := 11) (ci := 5) rfl (rfl : vwCl[5]? = some (RX5, TX5, 7)) 0 (by decide) (hts _ k_X5_bestProbe_w1) (fun _ h9 => h9) (f := 107) rfl rfl dX5_bestProbe_56 ?_
      refine lv_lload_n hx hb dX5_bestProbe_59 rfl (lv_at hl 2 rfl) ?_
      refine lv_iload hx hb dX5_bestProbe_60 (lv_at hl 5 rfl) ?_
      obtain ⟨v62, σ62, hc62, h⟩ := wx_b_ok h
      have m1 := m_X4_unlikeReads_0 hc62
      have m2 := m_X5_bestProbe_65 (K44 := (f_X5_bestProbe_44 n)) mih h
      refine wx_callA (va_runVN (As := [.ref (ad 7 99), .long x2, .int x6]) (rest := []) ⟨hx, hb, hml, hown, hts⟩ (c_X4_unlikeReads l (D := D) (ad := ad) (rd := rd) (ca := ca) (A := A) (σ := σ) (b1 := 7) (by decide : 7 < 11) hc62) ⟨va_cnB 3 hts gX5_bestProbe_X4_unlikeReads_n202 rfl rfl rfl (hC.1.2.1 _ (List.mem_of_getElem? (i := 66) rfl)) (hts _ k_X5_bestProbe_w2) (by decide +kernel) ⟨Nat.le_of_ble_eq_true rfl, Nat.le_of_ble_eq_true rfl⟩, hts _ k_X5_bestProbe_w5, hts _ k_X5_bestProbe_w6⟩ (wx_preV hC Z hS hA rfl (rfl : vwCl[4]? = some (RX4, TX4, 2))) rfl rfl hl.1 rfl (lv_room (Nat.le_of_ble_eq_true rfl)) dX5_bestProbe_62 ⟨(by show k + (wx_n σ62.2.2.2.2 - wx_n σ.2.2.2.2) ≤ mc; omega), (by show 6464 * k + 6464 * (wx_n σ62.2.2.2.2 - wx_n σ.2.2.2.2) ≤ 6464 * mc; omega)⟩) hS (fun rd H locs Z hS => ?_)
      refine W.widen (k := k + (wx_n σ62.2.2.2.2 - wx_n σ.2.2.2.2)) (n := 6464 * (k + (wx_n σ62.2.2.2.2 - wx_n σ.2.2.2.2))) (Nat.le_refl _) (by omega) ?_
      exact b_X5_bestProbe_65 B (K44 := (f_X5_bestProbe_44 n)) @ih mih (k := k + (wx_n σ62.2.2.2.2 - wx_n σ.2.2.2.2)) (by omega) h Z hS (lv_sub hl [0, 1, 2, 3, 4, 5] rfl)
set_option maxRecDepth 20000 in
set_option maxHeartbeats 4000000 in
theorem m_X5_bestProbe_23  {r : Int32} {σ' : wx_St}  {x1 : Int32} {y0 : Int64} {σ : wx_St} (h : f_X5_bestProbe_23 x1 y0 σ = some (r, σ')) : wx_n σ.2.2.2.2 ≤ wx_n σ'.2.2.2.2 := by
  unfold f_X5_bestProbe_23 at h
  obtain ⟨v25, hc25, h⟩ := wx_o_ok h
  by_cases c29 : 2 ≤ v25
  · replace h := wx_ift c29 h
    exact m_X5_bestProbe_44 h
  · replace h := wx_iff c29 h
    obtain ⟨rfl, rfl⟩ := wx_ret_ok h
    exact Nat.le_refl _
set_option maxRecDepth 20000 in
set_option maxHeartbeats 4000000 in
theorem b_X5_bestProbe_23 (B : wx_B p s m args meth c cX5_bestProbe 8 (some .int) wsX5_bestProbe RX5 D ad ca A)    {r : Int32} {σ' : wx_St} {mc : Nat}  {x1 : Int32} {y0 : Int64} {σ : wx_St} {k : Nat} (hk : k + wx_n σ'.2.2.2.2 ≤ mc + wx_n σ.2.2.2.2)  (h : f_X5_bestProbe_23 x1 y0 σ = some (r, σ')) {rd : Nat → Nat} {H : Heap} {locs : List Loc} (Z : wx_Z D ad rd ca A σ H) (hS : va_S A s.heap H locs) {ls : Array Slot} (hl : lv_has ls 8 [(0, .ref (ad 11 99)), (1, .int x1)]) : W p l e ({ frames := 6, cells := mc, slots := 6464 * mc, locals := 152 } : Room) s m args below meth c H locs k (6464 * k) (MQ below (wx_QA D ad ca A (some (.int r)) σ') args s mc (6464 * mc) A) (F0 m 23 ls [.long y0]) := by
  obtain ⟨hx, hb, hml, hr, hts, hown, hlk, hC, hA⟩ := id B
  have hm := m_X5_bestProbe_23 h
  unfold f_X5_bestProbe_23 at h
  refine lv_lstore_n (lv' := [(2, .long y0), (0, .ref (ad 11 99)), (1, .int x1)]) hx hb dX5_bestProbe_23 rfl hl (by decide) rfl (fun ls hl => ?_)
  refine lv_lload_n hx hb dX5_bestProbe_24 rfl (lv_at hl 0 rfl) ?_
  obtain ⟨v25, hc25, h⟩ := wx_o_ok h
  refine wx_call (va_runS (As := [.long y0]) (rest := []) ⟨hx, hb, hml, hown, hts⟩ (c_J13_bitCount_95d88 l (D := D) (ad := ad) (rd := rd) (ca := ca) (A := A) (σ := σ) hc25) (va_cwS 1 hts gX5_bestProbe_J13_bitCount_95d88 rfl rfl rfl (by decide +kernel) ⟨Nat.le_of_ble_eq_true rfl, Nat.le_of_ble_eq_true rfl⟩) (wx_preS hC Z hS hA) rfl rfl hl.1 rfl (lv_room (Nat.le_of_ble_eq_true rfl)) dX5_bestProbe_25 ⟨(by show k + 0 ≤ mc; omega), (by show 6464 * k + 0 ≤ 6464 * mc; omega)⟩) hS (fun H locs Z hS => ?_)
  refine lv_iconst (v := 2) hx hb dX5_bestProbe_28 (by decide) ?_
  refine lv_icmp_ge (tgt := 35) hx hb dX5_bestProbe_29 (by decide) (fun c29 => ?_) (fun c29 => ?_)
  · replace h := wx_ift c29 h
    refine lv_iconst (v := 0) hx hb dX5_bestProbe_35 (by decide) ?_
    refine lv_istore (lv' := [(4, .int 0), (2, .long y0), (0, .ref (ad 11 99)), (1, .int x1)]) hx hb dX5_bestProbe_36 hl (by decide) rfl (fun ls hl => ?_)
    refine lv_iconst (v := 0) hx hb dX5_bestProbe_38 (by decide) ?_
    refine lv_istore (lv' := [(5, .int 0), (4, .int 0), (2, .long y0), (0, .ref (ad 11 99)), (1, .int x1)]) hx hb dX5_bestProbe_39 hl (by decide) rfl (fun ls hl => ?_)
    refine lv_iconst (v := 0) hx hb dX5_bestProbe_41 (by decide) ?_
    refine lv_istore (lv' := [(6, .int 0), (5, .int 0), (4, .int 0), (2, .long y0), (0, .ref (ad 11 99)), (1, .int x1)]) hx hb dX5_bestProbe_42 hl (by decide) rfl (fun ls hl => ?_)
    exact b_X5_bestProbe_44 B (k := k) hk h Z hS (lv_sub hl [4, 5, 3, 2, 1, 0] rfl)
  · replace h := wx_iff c29 h
    refine lv_bipush (v := (-6)) hx hb dX5_bestProbe_32 (by decide) ?_
    obtain ⟨rfl, rfl⟩ := wx_ret_ok h
    refine W.widen (k := mc) (n := 6464 * mc) (by omega) (by omega) ?_
    exact W.iret hx hb hr (fun t ht hW => ⟨rfl, ⟨_, by rw [ht]; exact Z⟩, hS.F ht⟩) hS.2.2 dX5_bestProbe_34
set_option maxRecDepth 20000 in
set_option maxHeartbeats 4000000 in
theorem m_X5_bestProbe_12  {r : Int32} {σ' : wx_St}  {x1 : Int32} {σ : wx_St} (h : f_X5_bestProbe_12 x1 σ = some (r, σ')) : wx_n σ.2.2.2.2 ≤ wx_n σ'.2.2.2.2 := by
  unfold f_X5_bestProbe_12 at h
  obtain ⟨v20, σ20, hc20, h⟩ := wx_b_ok h
  refine Nat.le_trans (m_X4_fitting_0 hc20) ?_
  exact m_X5_bestProbe_23 h
set_option maxRecDepth 20000 in
set_option maxHeartbeats 4000000 in
theorem b_X5_bestProbe_12 (B : wx_B p s m args meth c cX5_bestProbe 8 (some .int) wsX5_bestProbe RX5 D ad ca A)    {r : Int32} {σ' : wx_St} {mc : Nat}  {x1 : Int32} {σ : wx_St} {k : Nat} (hk : k + wx_n σ'.2.2.2.2 ≤ mc + wx_n σ.2.2.2.2)  (h : f_X5_bestProbe_12 x1 σ = some (r, σ')) {rd : Nat → Nat} {H : Heap} {locs : List Loc} (Z : wx_Z D ad rd ca A σ H) (hS : va_S A s.heap H locs) {ls : Array Slot} (hl : lv_has ls 8 [(0, .ref (ad 11 99)), (1, .int x1)]) : W p l e ({ frames := 6, cells := mc, slots := 6464 * mc, locals := 152 } : Room) s m args below meth c H locs k (6464 * k) (MQ below (wx_QA D ad ca A (some (.int r)) σ') args s mc (6464 * mc) A) (F0 m 12 ls []) := by
  obtain ⟨hx, hb, hml, hr, hts, hown, hlk, hC, hA⟩ := id B
  have hm := m_X5_bestProbe_12 h
  unfold f_X5_bestProbe_12 at h
  refine lv_aload_n hx hb dX5_bestProbe_12 rfl (lv_at hl 0 rfl) ?_
  refine wx_get (own := RX5) hx hb hts i_X5_bestProbe_5 hown hC.1 Z (o := 11) (ci := 5) rfl (rfl : vwCl[5]? = some (RX5, TX5, 7)) 2 (by decide) (hts _ k_X5_bestProbe_w0) (fun _ h9 => h9) (f := 112) rfl rfl dX5_bestProbe_13 ?_
  refine lv_aload_n hx hb dX5_bestProbe_16 rfl (lv_at hl 0 rfl) ?_
  refine wx_get (own := RX5) hx hb hts i_X5_bestProbe_5 hown hC.1 Z (o := 11) (ci := 5) rfl (rfl : vwCl[5]? = some (RX5, TX5, 7)) 0 (by decide) (hts _ k_X5_bestProbe_w1) (fun _ h9 => h9) (f := 107) rfl rfl dX5_bestProbe_17 ?_
  obtain ⟨v20, σ20, hc20, h⟩ := wx_b_ok h
  have m1 := m_X4_fitting_0 hc20
  have m2 := m_X5_bestProbe_23 h
  refine wx_callA (va_runVN (As := [.ref (ad 7 99)]) (rest := []) ⟨hx, hb, hml, hown, hts⟩ (c_X4_fitting l (D := D) (ad := ad) (rd := rd) (ca := ca) (A := A) (σ := σ) (b1 := 7) (by decide : 7 < 11) hc20) ⟨va_cnB 1 hts gX5_bestProbe_X4_fitting_n129 rfl rfl rfl (hC.1.2.1 _ (List.mem_of_getElem? (i := 57) rfl)) (hts _ k_X5_bestProbe_w2) (by decide +kernel) ⟨Nat.le_of_ble_eq_true rfl, Nat.le_of_ble_eq_true rfl⟩, hts _ k_X5_bestProbe_w3, hts _ k_X5_bestProbe_w4⟩ (wx_preV hC Z hS hA rfl (rfl : vwCl[4]? = some (RX4, TX4, 2))) rfl rfl hl.1 rfl (lv_room (Nat.le_of_ble_eq_true rfl)) dX5_bestProbe_20 ⟨(by show k + (wx_n σ20.2.2.2.2 - wx_n σ.2.2.2.2) ≤ mc; omega), (by show 6464 * k + 6464 * (wx_n σ20.2.2.2.2 - wx_n σ.2.2.2.2) ≤ 6464 * mc; omega)⟩) hS (fun rd H locs Z hS => ?_)
  refine W.widen (k := k + (wx_n σ20.2.2.2.2 - wx_n σ.2.2.2.2)) (n := 6464 * (k + (wx_n σ20.2.2.2.2 - wx_n σ.2.2.2.2))) (Nat.le_refl _) (by omega) ?_
  exact b_X5_bestProbe_23 B (k := k + (wx_n σ20.2.2.2.2 - wx_n σ.2.2.2.2)) (by omega) h Z hS (lv_sub hl [0, 1] rfl)
set_option maxRecDepth 20000 in
set_option maxHeartbeats 4000000 in
theorem m_X5_bestProbe_0  {r : Int32} {σ' : wx_St}  {x1 : Int32} {σ : wx_St} (h : f_X5_bestProbe x1 σ = some (r, σ')) : wx_n σ.2.2.2.2 ≤ wx_n σ'.2.2.2.2 := by
  unfold f_X5_bestProbe at h
  by_cases c1 : x1 = 0
  · replace h := wx_ift c1 h
    exact m_X5_bestProbe_12 h
  · replace h := wx_iff c1 h
    by_cases c6 : x1 = 1
    · replace h := wx_ift c6 h
      exact m_X5_bestProbe_12 h
    · replace h := wx_iff c6 h
      obtain ⟨rfl, rfl⟩ := wx_ret_ok h
      exact Nat.le_refl _
set_option maxRecDepth 20000 in
set_option maxHeartbeats 4000000 in
theorem b_X5_bestProbe_0 (B : wx_B p s m args meth c cX5_bestProbe 8 (some .int) wsX5_bestProbe RX5 D ad ca A)    {r : Int32} {σ' : wx_St} {mc : Nat}  {x1 : Int32} {σ : wx_St} {k : Nat} (hk : k + wx_n σ'.2.2.2.2 ≤ mc + wx_n σ.2.2.2.2)  (h : f_X5_bestProbe x1 σ = some (r, σ')) {rd : Nat → Nat} {H : Heap} {locs : List Loc} (Z : wx_Z D ad rd ca A σ H) (hS : va_S A s.heap H locs) {ls : Array Slot} (hl : lv_has ls 8 [(0, .ref (ad 11 99)), (1, .int x1)]) : W p l e ({ frames := 6, cells := mc, slots := 6464 * mc, locals := 152 } : Room) s m args below meth c H locs k (6464 * k) (MQ below (wx_QA D ad ca A (some (.int r)) σ') args s mc (6464 * mc) A) (F0 m 0 ls []) := by
  obtain ⟨hx, hb, hml, hr, hts, hown, hlk, hC, hA⟩ := id B
  have hm := m_X5_bestProbe_0 h
  unfold f_X5_bestProbe at h
  refine lv_iload_n hx hb dX5_bestProbe_0 rfl (lv_at hl 1 rfl) ?_
  refine lv_if_eq (tgt := 12) hx hb dX5_bestProbe_1 (by decide) (fun c1 => ?_) (fun c1 => ?_)
  · replace h := wx_ift c1 h
    exact b_X5_bestProbe_12 B (k := k) hk h Z hS (lv_sub hl [0, 1] rfl)
  · replace h := wx_iff c1 h
    refine lv_iload_n hx hb dX5_bestProbe_4 rfl (lv_at hl 1 rfl) ?_
    refine lv_iconst (v := 1) hx hb dX5_bestProbe_5 (by decide) ?_
    refine lv_icmp_eq (tgt := 12) hx hb dX5_bestProbe_6 (by decide) (fun c6 => ?_) (fun c6 => ?_)
    · replace h := wx_ift c6 h
      exact b_X5_bestProbe_12 B (k := k) hk h Z hS (lv_sub hl [0, 1] rfl)
    · replace h := wx_iff c6 h
      refine lv_bipush (v := (-2)) hx hb dX5_bestProbe_9 (by decide) ?_
      obtain ⟨rfl, rfl⟩ := wx_ret_ok h
      refine W.widen (k := mc) (n := 6464 * mc) (by omega) (by omega) ?_
      exact W.iret hx hb hr (fun t ht hW => ⟨rfl, ⟨_, by rw [ht]; exact Z⟩, hS.F ht⟩) hS.2.2 dX5_bestProbe_11
set_option maxRecDepth 20000 in
theorem c_X5_bestProbe (l : Launch) {D : va_G} {ad : Nat → Nat → Nat} {rd : Nat → Nat} {ca : Nat → ClassId} {A : Nat → Prop} {σ : wx_St}    {x1 : Int32} {r : Int32} {σ' : wx_St} (h : f_X5_bestProbe x1 σ = some (r, σ')) : wx_MA l yX5_bestProbe wsX5_bestProbe 6 152 D ad rd ca A [.ref (ad 11 99), .int x1] σ (some (.int r)) σ' := by
  refine Met.ofW (cc := cX5_bestProbe) (maxL := 8) (ret := (some .int)) (by decide +kernel) rfl ?_
  intro p e s m args below meth c s₁ B0 hml hv
  obtain ⟨rfl, hC, Z, hA⟩ := hv
  have hl := lv_entry ([.ref (ad 11 99), .int x1]) (n := 8) (Nat.le_of_ble_eq_true rfl)
  rw [lg_entry_eq]
  generalize (lg_sl ([.ref (ad 11 99), .int x1]) ++ List.replicate (8 - (lg_sl ([.ref (ad 11 99), .int x1])).length) Slot.unset).toArray = ls at hl ⊢
  exact b_X5_bestProbe_0 ⟨B0.exec, B0.bytes, hml, B0.returns, atoms_spec (ws := wsX5_bestProbe) B0.pre, findClass_of_methodNamed B0.named, B0.notSynchronized, hC, hA⟩  (k := 0) (by have hm := m_X5_bestProbe_0 h; omega) h Z va_S.rf hl
theorem k_X5_bitsOfDouble_w0 : Cond.constantLong RX5 266 (1075) ∈ wsX5_bitsOfDouble := by decide +kernel
theorem k_X5_bitsOfDouble_w1 : Cond.constantDouble RX5 268 (4841369599423283200) ∈ wsX5_bitsOfDouble := by decide +kernel
theorem k_X5_bitsOfDouble_w2 : Cond.constantDouble RX5 270 (4611686018427387904) ∈ wsX5_bitsOfDouble := by decide +kernel
theorem k_X5_bitsOfDouble_w3 : Cond.constantLong RX5 272 (4503599627370496) ∈ wsX5_bitsOfDouble := by decide +kernel
set_option maxRecDepth 20000 in
set_option maxHeartbeats 4000000 in
theorem b_X5_bitsOfDouble_67 (B : wx_B p s m args meth c cX5_bitsOfDouble 8 (some .long) wsX5_bitsOfDouble RX5 D ad ca A)    {r : Int64} {σ : wx_St}  {x0 : UInt64} {x2 : UInt64} {x4 : Int64} {x6 : Int64} {y0 : Int64}   (h : f_X5_bitsOfDouble_67 x0 x2 x4 x6 y0 = some r) {H : Heap} {locs : List Loc} (Z : wx_Z D ad rd ca A σ H) (hS : va_S A s.heap H locs) {ls : Array Slot} (hl : lv_has ls 8 [(0, .double x0), (2, .double x2), (4, .long x4), (6, .long x6)]) : W p l e ({ frames := 0, cells := 0, slots := 0, locals := 0 } : Room) s m args below meth c H locs 0 0 (MQ below (wx_Q D ad rd ca A (some (.long r)) σ) args s 0 0 A) (F0 m 67 ls [.long y0]) := by
  obtain ⟨hx, hb, hml, hr, hts, hown, hlk, hC, hA⟩ := id B
  unfold f_X5_bitsOfDouble_67 at h
  obtain rfl := Option.some.inj h
  exact W.lret hx hb hr (fun t ht hW => ⟨rfl, by rw [ht]; exact Z, hS.F ht⟩) hS.2.2 dX5_bitsOfDouble_67
set_option maxRecDepth 20000 in
set_option maxHeartbeats 4000000 in
theorem b_X5_bitsOfDouble_37 (B : wx_B p s m args meth c cX5_bitsOfDouble 8 (some .long) wsX5_bitsOfDouble RX5 D ad ca A)    {r : Int64} {σ : wx_St}  {x0 : UInt64} {x2 : UInt64} {x4 : Int64}   (h : f_X5_bitsOfDouble_37 x0 x2 x4 = some r) {H : Heap} {locs : List Loc} (Z : wx_Z D ad rd ca A σ H) (hS : va_S A s.heap H locs) {ls : Array Slot} (hl : lv_has ls 8 [(0, .double x0), (2, .double x2), (4, .long x4)]) : W p l e ({ frames := 0, cells := 0, slots := 0, locals := 0 } : Room) s m args below meth c H locs 0 0 (MQ below (wx_Q D ad rd ca A (some (.long r)) σ) args s 0 0 A) (F0 m 37 ls []) := by
  obtain ⟨hx, hb, hml, hr, hts, hown, hlk, hC, hA⟩ := id B
  unfold f_X5_bitsOfDouble_37 at h
  refine lv_dload_n hx hb dX5_bitsOfDouble_37 rfl (lv_at hl 1 rfl) ?_
  refine lv_d2l hx hb dX5_bitsOfDouble_38 ?_
  refine lv_lstore (lv' := [(6, .long (FP.d2l x2)), (0, .double x0), (2, .double x2), (4, .long x4)]) hx hb dX5_bitsOfDouble_39 hl (by decide) rfl (fun ls hl => ?_)
  refine lv_lload hx hb dX5_bitsOfDouble_41 (lv_at hl 0 rfl) ?_
  refine lv_ldc2 hx hb hown (hts _ k_X5_bitsOfDouble_w3) dX5_bitsOfDouble_43 ?_
  refine W.lcmp hx hb dX5_bitsOfDouble_46 ?_
  refine lv_if_ge (tgt := 55) hx hb dX5_bitsOfDouble_47 (by decide) (fun c47 => ?_) (fun c47 => ?_)
  · replace h := wx_ift c47 h
    refine lv_lload hx hb dX5_bitsOfDouble_55 (lv_at hl 3 rfl) ?_
    refine lv_bipush (v := 52) hx hb dX5_bitsOfDouble_57 (by decide) ?_
    refine lv_lshl (v := (x4 <<< ((52 : Int32).toInt64 &&& 63))) hx hb dX5_bitsOfDouble_59 rfl ?_
    refine lv_lload hx hb dX5_bitsOfDouble_60 (lv_at hl 0 rfl) ?_
    refine lv_ldc2 hx hb hown (hts _ k_X5_bitsOfDouble_w3) dX5_bitsOfDouble_62 ?_
    refine lv_lsub hx hb dX5_bitsOfDouble_65 ?_
    refine lv_ladd hx hb dX5_bitsOfDouble_66 ?_
    exact b_X5_bitsOfDouble_67 B h Z hS (lv_sub hl [1, 2, 3, 0] rfl)
  · replace h := wx_iff c47 h
    refine lv_lload hx hb dX5_bitsOfDouble_50 (lv_at hl 0 rfl) ?_
    refine lv_goto (tgt := 67) hx hb dX5_bitsOfDouble_52 (by decide) ?_
    exact b_X5_bitsOfDouble_67 B h Z hS (lv_sub hl [1, 2, 3, 0] rfl)
set_option maxRecDepth 20000 in
set_option maxHeartbeats 4000000 in
theorem b_X5_bitsOfDouble_7 (B : wx_B p s m args meth c cX5_bitsOfDouble 8 (some .long) wsX5_bitsOfDouble RX5 D ad ca A)    {r : Int64} {σ : wx_St}   :
    ∀ {n : Nat} {x0 : UInt64} {x2 : UInt64} {x4 : Int64}   (h : f_X5_bitsOfDouble_7 n x0 x2 x4 = some r) {H : Heap} {locs : List Loc} (Z : wx_Z D ad rd ca A σ H) (hS : va_S A s.heap H locs) {ls : Array Slot} (hl : lv_has ls 8 [(0, .double x0), (2, .double x2), (4, .long x4)]), W p l e ({ frames := 0, cells := 0, slots := 0, locals := 0 } : Room) s m args below meth c H locs 0 0 (MQ below (wx_Q D ad rd ca A (some (.long r)) σ) args s 0 0 A) (F0 m 7 ls []) := by
  obtain ⟨hx, hb, hml, hr, hts, hown, hlk, hC, hA⟩ := id B
  intro n
  induction n with
  | zero => intro x0 x2 x4   h H locs Z hS ls hl; exact wx_no h
  | succ n ih =>
    intro x0 x2 x4   h H locs Z hS ls hl
    rw [f_X5_bitsOfDouble_7] at h
    refine lv_lload hx hb dX5_bitsOfDouble_7 (lv_at hl 2 rfl) ?_
    refine lv_lconst (v := 1) hx hb dX5_bitsOfDouble_9 (by decide) ?_
    refine W.lcmp hx hb dX5_bitsOfDouble_10 ?_
    refine lv_if_le (tgt := 37) hx hb dX5_bitsOfDouble_11 (by decide) (fun c11 => ?_) (fun c11 => ?_)
    · replace h := wx_ift c11 h
      exact b_X5_bitsOfDouble_37 B h Z hS (lv_sub hl [0, 1, 2] rfl)
    · replace h := wx_iff c11 h
      refine lv_dload_n hx hb dX5_bitsOfDouble_14 rfl (lv_at hl 1 rfl) ?_
      refine lv_ldc2d hx hb hown (hts _ k_X5_bitsOfDouble_w1) dX5_bitsOfDouble_15 ?_
      refine lv_dcmp hx hb dX5_bitsOfDouble_18 ?_
      refine lv_if_ge (tgt := 37) hx hb dX5_bitsOfDouble_19 (by decide) (fun c19 => ?_) (fun c19 => ?_)
      · replace h := wx_ift c19 h
        exact b_X5_bitsOfDouble_37 B h Z hS (lv_sub hl [0, 1, 2] rfl)
      · replace h := wx_iff c19 h
        refine lv_dload_n hx hb dX5_bitsOfDouble_22 rfl (lv_at hl 1 rfl) ?_
        refine lv_ldc2d hx hb hown (hts _ k_X5_bitsOfDouble_w2) dX5_bitsOfDouble_23 ?_
        obtain ⟨v26, ev26, nv26, h⟩ := wx_d_ok h
        refine wx_dmul hx hb dX5_bitsOfDouble_26 ev26 nv26 ?_
        refine lv_dstore_n (lv' := [(2, .double v26), (0, .double x0), (4, .long x4)]) hx hb dX5_bitsOfDouble_27 rfl hl (by decide) rfl (fun ls hl => ?_)
        refine lv_lload hx hb dX5_bitsOfDouble_28 (lv_at hl 2 rfl) ?_
        refine lv_lconst (v := 1) hx hb dX5_bitsOfDouble_30 (by decide) ?_
        refine lv_lsub hx hb dX5_bitsOfDouble_31 ?_
        refine lv_lstore (lv' := [(4, .long (x4 - (1 : Int64))), (2, .double v26), (0, .double x0)]) hx hb dX5_bitsOfDouble_32 hl (by decide) rfl (fun ls hl => ?_)
        refine lv_goto (tgt := 7) hx hb dX5_bitsOfDouble_34 (by decide) ?_
        exact ih h Z hS (lv_sub hl [2, 1, 0] rfl)
set_option maxRecDepth 20000 in
set_option maxHeartbeats 4000000 in
theorem b_X5_bitsOfDouble_0 (B : wx_B p s m args meth c cX5_bitsOfDouble 8 (some .long) wsX5_bitsOfDouble RX5 D ad ca A)    {r : Int64} {σ : wx_St}  {x0 : UInt64}   (h : f_X5_bitsOfDouble x0 = some r) {H : Heap} {locs : List Loc} (Z : wx_Z D ad rd ca A σ H) (hS : va_S A s.heap H locs) {ls : Array Slot} (hl : lv_has ls 8 [(0, .double x0)]) : W p l e ({ frames := 0, cells := 0, slots := 0, locals := 0 } : Room) s m args below meth c H locs 0 0 (MQ below (wx_Q D ad rd ca A (some (.long r)) σ) args s 0 0 A) (F0 m 0 ls []) := by
  obtain ⟨hx, hb, hml, hr, hts, hown, hlk, hC, hA⟩ := id B
  unfold f_X5_bitsOfDouble at h
  refine lv_dload_n hx hb dX5_bitsOfDouble_0 rfl (lv_at hl 0 rfl) ?_
  refine lv_dstore_n (lv' := [(2, .double x0), (0, .double x0)]) hx hb dX5_bitsOfDouble_1 rfl hl (by decide) rfl (fun ls hl => ?_)
  refine lv_ldc2 hx hb hown (hts _ k_X5_bitsOfDouble_w0) dX5_bitsOfDouble_2 ?_
  refine lv_lstore (lv' := [(4, .long (1075 : Int64)), (2, .double x0), (0, .double x0)]) hx hb dX5_bitsOfDouble_5 hl (by decide) rfl (fun ls hl => ?_)
  exact b_X5_bitsOfDouble_7 B h Z hS (lv_sub hl [2, 1, 0] rfl)
set_option maxRecDepth 20000 in
theorem c_X5_bitsOfDouble (l : Launch) {D : va_G} {ad : Nat → Nat → Nat} {rd : Nat → Nat} {ca : Nat → ClassId} {A : Nat → Prop} {σ : wx_St}    {x0 : UInt64} {r : Int64} (h : f_X5_bitsOfDouble x0 = some r) : wx_M l yX5_bitsOfDouble wsX5_bitsOfDouble 0 0 D ad rd ca A [.double x0] σ (some (.long r)) σ := by
  refine Met.ofW (cc := cX5_bitsOfDouble) (maxL := 8) (ret := (some .long)) (by decide +kernel) rfl ?_
  intro p e s m args below meth c s₁ B0 hml hv
  obtain ⟨rfl, hC, Z, hA⟩ := hv
  have hl := lv_entry ([.double x0]) (n := 8) (Nat.le_of_ble_eq_true rfl)
  rw [lg_entry_eq]
  generalize (lg_sl ([.double x0]) ++ List.replicate (8 - (lg_sl ([.double x0])).length) Slot.unset).toArray = ls at hl ⊢
  exact b_X5_bitsOfDouble_0 ⟨B0.exec, B0.bytes, hml, B0.returns, atoms_spec (ws := wsX5_bitsOfDouble) B0.pre, findClass_of_methodNamed B0.named, B0.notSynchronized, hC, hA⟩   h Z va_S.rf hl
theorem i_X5_carriedOut_2 : ∀ w ∈ wsX20, w ∈ wsX5_carriedOut := by decide +kernel
theorem i_X5_carriedOut_5 : ∀ w ∈ wsX50, w ∈ wsX5_carriedOut := by decide +kernel
theorem k_X5_carriedOut_w0 : Cond.fieldLink RX5 36 "WarmProbes" "pad" "LWarmProbes$Pad;" ∈ wsX5_carriedOut := by decide +kernel
theorem k_X5_carriedOut_w1 : Cond.initialized RX2 ∈ wsX5_carriedOut := by decide +kernel
theorem k_X5_carriedOut_w2 : Cond.instanceMethod yX2_endOfOrder ∈ wsX5_carriedOut := by decide +kernel
theorem k_X5_carriedOut_w3 : Cond.selects RX2 yX2_endOfOrder yX2_endOfOrder ∈ wsX5_carriedOut := by decide +kernel
theorem k_X5_carriedOut_w4 : Cond.instanceMethod yX2_ordersIn ∈ wsX5_carriedOut := by decide +kernel
theorem k_X5_carriedOut_w5 : Cond.selects RX2 yX2_ordersIn yX2_ordersIn ∈ wsX5_carriedOut := by decide +kernel
set_option maxRecDepth 20000 in
set_option maxHeartbeats 4000000 in
theorem b_X5_carriedOut_48 (B : wx_B p s m args meth c cX5_carriedOut 7 (some .int) wsX5_carriedOut RX5 D ad ca A)    {r : Int32} {σ' : wx_St} {K6 : Int32 → Int32 → Int32 → wx_St → Option (Int32 × wx_St)} (hK6 : ∀ {x1 : Int32} {x2 : Int32} {x3 : Int32} {σ : wx_St}  (h : K6 x1 x2 x3 σ = some (r, σ')) {H : Heap} {locs : List Loc} (Z : wx_Z D ad rd ca A σ H) (hS : va_S A s.heap H locs) {ls : Array Slot} (hl : lv_has ls 7 [(0, .ref (ad 11 99)), (1, .int x1), (2, .int x2), (3, .int x3)]), W p l e ({ frames := 7, cells := 0, slots := 0, locals := 154 } : Room) s m args below meth c H locs 0 0 (MQ below (wx_Q D ad rd ca A (some (.int r)) σ') args s 0 0 A) (F0 m 6 ls []))  :
    ∀ {n : Nat} {x1 : Int32} {x2 : Int32} {x3 : Int32} {x4 : Int32} {x5 : Int32} {x6 : Int32} {σ : wx_St}  (h : f_X5_carriedOut_48 K6 n x1 x2 x3 x4 x5 x6 σ = some (r, σ')) {H : Heap} {locs : List Loc} (Z : wx_Z D ad rd ca A σ H) (hS : va_S A s.heap H locs) {ls : Array Slot} (hl : lv_has ls 7 [(0, .ref (ad 11 99)), (1, .int x1), (2, .int x2), (3, .int x3), (4, .int x4), (5, .int x5), (6, .int x6)]), W p l e ({ frames := 7, cells := 0, slots := 0, locals := 154 } : Room) s m args below meth c H locs 0 0 (MQ below (wx_Q D ad rd ca A (some (.int r)) σ') args s 0 0 A) (F0 m 48 ls []) := by
  obtain ⟨hx, hb, hml, hr, hts, hown, hlk, hC, hA⟩ := id B
  intro n
  induction n with
  | zero => intro x1 x2 x3 x4 x5 x6 σ  h H locs Z hS ls hl; exact wx_no h
  | succ n ih =>
    intro x1 x2 x3 x4 x5 x6 σ  h H locs Z hS ls hl
    rw [f_X5_carriedOut_48] at h
    refine lv_iload hx hb dX5_carriedOut_48 (lv_at hl 6 rfl) ?_
    refine lv_iload hx hb dX5_carriedOut_50 (lv_at hl 5 rfl) ?_
    refine lv_icmp_ge (tgt := 78) hx hb dX5_carriedOut_52 (by decide) (fun c52 => ?_) (fun c52 => ?_)
    · replace h := wx_ift c52 h
      refine lv_iload hx hb dX5_carriedOut_78 (lv_at hl 4 rfl) ?_
      refine lv_iconst (v := 1) hx hb dX5_carriedOut_80 (by decide) ?_
      refine lv_iadd hx hb dX5_carriedOut_81 ?_
      refine lv_istore_n (lv' := [(2, .int (x4 + 1)), (0, .ref (ad 11 99)), (1, .int x1), (3, .int x3), (4, .int x4), (5, .int x5), (6, .int x6)]) hx hb dX5_carriedOut_82 rfl hl (by decide) rfl (fun ls hl => ?_)
      refine lv_iinc (v := x3 + 1) (lv' := [(3, .int (x3 + 1)), (2, .int (x4 + 1)), (0, .ref (ad 11 99)), (1, .int x1), (4, .int x4), (5, .int x5), (6, .int x6)]) hx hb dX5_carriedOut_83 hl (k := 3) rfl rfl (by decide) rfl (fun ls hl => ?_)
      refine lv_goto (tgt := 6) hx hb dX5_carriedOut_86 (by decide) ?_
      exact hK6 h Z hS (lv_sub hl [2, 3, 1, 0] rfl)
    · replace h := wx_iff c52 h
      refine lv_aload_n hx hb dX5_carriedOut_55 rfl (lv_at hl 0 rfl) ?_
      refine lv_iload_n hx hb dX5_carriedOut_56 rfl (lv_at hl 2 rfl) ?_
      refine lv_iload hx hb dX5_carriedOut_57 (lv_at hl 4 rfl) ?_
      refine lv_iload hx hb dX5_carriedOut_59 (lv_at hl 6 rfl) ?_
      obtain ⟨v61, σ61, hc61, h⟩ := wx_b_ok h
      refine wx_call (va_runV (As := [.int x2, .int x4, .int x6]) (rest := []) ⟨hx, hb, hml, hown, hts⟩ (c_X5_answerOf l (D := D) (ad := ad) (rd := rd) (ca := ca) (A := A) (σ := σ) hc61) (cwV 3 hts gX5_carriedOut_X5_answerOf rfl rfl rfl (by decide +kernel) ⟨Nat.le_of_ble_eq_true rfl, Nat.le_of_ble_eq_true rfl⟩) (wx_preV hC Z hS hA rfl (rfl : vwCl[5]? = some (RX5, TX5, 7))) rfl rfl hl.1 rfl (lv_room (Nat.le_of_ble_eq_true rfl)) dX5_carriedOut_61 ⟨Nat.zero_le _, Nat.zero_le _⟩) hS (fun H locs Z hS => ?_)
      refine lv_if_ge (tgt := 69) hx hb dX5_carriedOut_64 (by decide) (fun c64 => ?_) (fun c64 => ?_)
      · replace h := wx_ift c64 h
        refine lv_iinc (v := x1 + 1) (lv' := [(1, .int (x1 + 1)), (0, .ref (ad 11 99)), (2, .int x2), (3, .int x3), (4, .int x4), (5, .int x5), (6, .int x6)]) hx hb dX5_carriedOut_69 hl (k := 1) rfl rfl (by decide) rfl (fun ls hl => ?_)
        refine lv_iinc (v := x6 + 1) (lv' := [(6, .int (x6 + 1)), (1, .int (x1 + 1)), (0, .ref (ad 11 99)), (2, .int x2), (3, .int x3), (4, .int x4), (5, .int x5)]) hx hb dX5_carriedOut_72 hl (k := 6) rfl rfl (by decide) rfl (fun ls hl => ?_)
        refine lv_goto (tgt := 48) hx hb dX5_carriedOut_75 (by decide) ?_
        exact ih h Z hS (lv_sub hl [2, 1, 3, 4, 5, 6, 0] rfl)
      · replace h := wx_iff c64 h
        refine lv_iload_n hx hb dX5_carriedOut_67 rfl (lv_at hl 1 rfl) ?_
        obtain ⟨rfl, rfl⟩ := wx_ret_ok h
        exact W.iret hx hb hr (fun t ht hW => ⟨rfl, by rw [ht]; exact Z, hS.F ht⟩) hS.2.2 dX5_carriedOut_68
set_option maxRecDepth 20000 in
set_option maxHeartbeats 4000000 in
theorem b_X5_carriedOut_89 (B : wx_B p s m args meth c cX5_carriedOut 7 (some .int) wsX5_carriedOut RX5 D ad ca A)    {r : Int32} {σ' : wx_St}  {x1 : Int32} {x2 : Int32} {x3 : Int32} {σ : wx_St}  (h : f_X5_carriedOut_89 x1 x2 x3 σ = some (r, σ')) {H : Heap} {locs : List Loc} (Z : wx_Z D ad rd ca A σ H) (hS : va_S A s.heap H locs) {ls : Array Slot} (hl : lv_has ls 7 [(0, .ref (ad 11 99)), (1, .int x1), (2, .int x2), (3, .int x3)]) : W p l e ({ frames := 7, cells := 0, slots := 0, locals := 154 } : Room) s m args below meth c H locs 0 0 (MQ below (wx_Q D ad rd ca A (some (.int r)) σ') args s 0 0 A) (F0 m 89 ls []) := by
  obtain ⟨hx, hb, hml, hr, hts, hown, hlk, hC, hA⟩ := id B
  unfold f_X5_carriedOut_89 at h
  refine lv_iload_n hx hb dX5_carriedOut_89 rfl (lv_at hl 1 rfl) ?_
  obtain ⟨rfl, rfl⟩ := wx_ret_ok h
  exact W.iret hx hb hr (fun t ht hW => ⟨rfl, by rw [ht]; exact Z, hS.F ht⟩) hS.2.2 dX5_carriedOut_90
set_option maxRecDepth 20000 in
set_option maxHeartbeats 4000000 in
theorem b_X5_carriedOut_6 (B : wx_B p s m args meth c cX5_carriedOut 7 (some .int) wsX5_carriedOut RX5 D ad ca A)    {r : Int32} {σ' : wx_St}   :
    ∀ {n : Nat} {x1 : Int32} {x2 : Int32} {x3 : Int32} {σ : wx_St}  (h : f_X5_carriedOut_6 n x1 x2 x3 σ = some (r, σ')) {H : Heap} {locs : List Loc} (Z : wx_Z D ad rd ca A σ H) (hS : va_S A s.heap H locs) {ls : Array Slot} (hl : lv_has ls 7 [(0, .ref (ad 11 99)), (1, .int x1), (2, .int x2), (3, .int x3)]), W p l e ({ frames := 7, cells := 0, slots := 0, locals := 154 } : Room) s m args below meth c H locs 0 0 (MQ below (wx_Q D ad rd ca A (some (.int r)) σ') args s 0 0 A) (F0 m 6 ls []) := by
  obtain ⟨hx, hb, hml, hr, hts, hown, hlk, hC, hA⟩ := id B
  intro n
  induction n with
  | zero => intro x1 x2 x3 σ  h H locs Z hS ls hl; exact wx_no h
  | succ n ih =>
    intro x1 x2 x3 σ  h H locs Z hS ls hl
    rw [f_X5_carriedOut_6] at h
    refine lv_iload_n hx hb dX5_carriedOut_6 rfl (lv_at hl 3 rfl) ?_
    refine lv_bipush (v := 80) hx hb dX5_carriedOut_7 (by decide) ?_
    refine lv_icmp_ge (tgt := 89) hx hb dX5_carriedOut_9 (by decide) (fun c9 => ?_) (fun c9 => ?_)
    · replace h := wx_ift c9 h
      exact b_X5_carriedOut_89 B h Z hS (lv_sub hl [0, 1, 2, 3] rfl)
    · replace h := wx_iff c9 h
      refine lv_iload_n hx hb dX5_carriedOut_12 rfl (lv_at hl 2 rfl) ?_
      refine lv_aload_n hx hb dX5_carriedOut_13 rfl (lv_at hl 0 rfl) ?_
      refine wx_get (own := RX5) hx hb hts i_X5_carriedOut_5 hown hC.1 Z (o := 11) (ci := 5) rfl (rfl : vwCl[5]? = some (RX5, TX5, 7)) 4 (by decide) (hts _ k_X5_carriedOut_w0) (fun _ h9 => h9) (f := 115) rfl rfl dX5_carriedOut_14 ?_
      refine wx_getN (own := RX5) hx hb hts i_X5_carriedOut_2 hown hC.1 Z (o := 15) (ci := 2) rfl (rfl : vwCl[2]? = some (RX2, TX2, 2)) 1 (by decide) (wx_nst hC 26 rfl rfl) (fun _ h9 => h9) (f := 1) rfl rfl dX5_carriedOut_17 ?_
      refine lv_icmp_ge (tgt := 89) hx hb dX5_carriedOut_20 (by decide) (fun c20 => ?_) (fun c20 => ?_)
      · replace h := wx_ift c20 h
        exact b_X5_carriedOut_89 B h Z hS (lv_sub hl [0, 1, 2, 3] rfl)
      · replace h := wx_iff c20 h
        refine lv_aload_n hx hb dX5_carriedOut_23 rfl (lv_at hl 0 rfl) ?_
        refine wx_get (own := RX5) hx hb hts i_X5_carriedOut_5 hown hC.1 Z (o := 11) (ci := 5) rfl (rfl : vwCl[5]? = some (RX5, TX5, 7)) 4 (by decide) (hts _ k_X5_carriedOut_w0) (fun _ h9 => h9) (f := 115) rfl rfl dX5_carriedOut_24 ?_
        refine lv_iload_n hx hb dX5_carriedOut_27 rfl (lv_at hl 2 rfl) ?_
        obtain ⟨v28, hc28, h⟩ := wx_o_ok h
        refine wx_call (va_runVN (As := [.int x2]) (rest := []) ⟨hx, hb, hml, hown, hts⟩ (c_X2_endOfOrder l (D := D) (ad := ad) (rd := rd) (ca := ca) (A := A) (σ := σ) hc28) ⟨va_cnB 1 hts gX5_carriedOut_X2_endOfOrder_n232 rfl rfl rfl (hC.1.2.1 _ (List.mem_of_getElem? (i := 73) rfl)) (hts _ k_X5_carriedOut_w1) (by decide +kernel) ⟨Nat.le_of_ble_eq_true rfl, Nat.le_of_ble_eq_true rfl⟩, hts _ k_X5_carriedOut_w2, hts _ k_X5_carriedOut_w3⟩ (wx_preV hC Z hS hA rfl (rfl : vwCl[2]? = some (RX2, TX2, 2))) rfl rfl hl.1 rfl (lv_room (Nat.le_of_ble_eq_true rfl)) dX5_carriedOut_28 ⟨Nat.zero_le _, Nat.zero_le _⟩) hS (fun H locs Z hS => ?_)
        refine lv_istore (lv' := [(4, .int v28), (0, .ref (ad 11 99)), (1, .int x1), (2, .int x2), (3, .int x3)]) hx hb dX5_carriedOut_31 hl (by decide) rfl (fun ls hl => ?_)
        refine lv_aload_n hx hb dX5_carriedOut_33 rfl (lv_at hl 1 rfl) ?_
        refine wx_get (own := RX5) hx hb hts i_X5_carriedOut_5 hown hC.1 Z (o := 11) (ci := 5) rfl (rfl : vwCl[5]? = some (RX5, TX5, 7)) 4 (by decide) (hts _ k_X5_carriedOut_w0) (fun _ h9 => h9) (f := 115) rfl rfl dX5_carriedOut_34 ?_
        refine lv_iload_n hx hb dX5_carriedOut_37 rfl (lv_at hl 3 rfl) ?_
        refine lv_iload hx hb dX5_carriedOut_38 (lv_at hl 0 rfl) ?_
        obtain ⟨v40, hc40, h⟩ := wx_o_ok h
        refine wx_call (va_runVN (As := [.int x2, .int v28]) (rest := []) ⟨hx, hb, hml, hown, hts⟩ (c_X2_ordersIn l (D := D) (ad := ad) (rd := rd) (ca := ca) (A := A) (σ := σ) hc40) ⟨va_cnB 2 hts gX5_carriedOut_X2_ordersIn_n235 rfl rfl rfl (hC.1.2.1 _ (List.mem_of_getElem? (i := 74) rfl)) (hts _ k_X5_carriedOut_w1) (by decide +kernel) ⟨Nat.le_of_ble_eq_true rfl, Nat.le_of_ble_eq_true rfl⟩, hts _ k_X5_carriedOut_w4, hts _ k_X5_carriedOut_w5⟩ (wx_preV hC Z hS hA rfl (rfl : vwCl[2]? = some (RX2, TX2, 2))) rfl rfl hl.1 rfl (lv_room (Nat.le_of_ble_eq_true rfl)) dX5_carriedOut_40 ⟨Nat.zero_le _, Nat.zero_le _⟩) hS (fun H locs Z hS => ?_)
        refine lv_istore (lv' := [(5, .int v40), (4, .int v28), (0, .ref (ad 11 99)), (1, .int x1), (2, .int x2), (3, .int x3)]) hx hb dX5_carriedOut_43 hl (by decide) rfl (fun ls hl => ?_)
        refine lv_iconst (v := 0) hx hb dX5_carriedOut_45 (by decide) ?_
        refine lv_istore (lv' := [(6, .int 0), (5, .int v40), (4, .int v28), (0, .ref (ad 11 99)), (1, .int x1), (2, .int x2), (3, .int x3)]) hx hb dX5_carriedOut_46 hl (by decide) rfl (fun ls hl => ?_)
        exact b_X5_carriedOut_48 B (K6 := (f_X5_carriedOut_6 n)) @ih h Z hS (lv_sub hl [3, 4, 5, 6, 2, 1, 0] rfl)
set_option maxRecDepth 20000 in
set_option maxHeartbeats 4000000 in
theorem b_X5_carriedOut_0 (B : wx_B p s m args meth c cX5_carriedOut 7 (some .int) wsX5_carriedOut RX5 D ad ca A)    {r : Int32} {σ' : wx_St}   {σ : wx_St}  (h : f_X5_carriedOut σ = some (r, σ')) {H : Heap} {locs : List Loc} (Z : wx_Z D ad rd ca A σ H) (hS : va_S A s.heap H locs) {ls : Array Slot} (hl : lv_has ls 7 [(0, .ref (ad 11 99))]) : W p l e ({ frames := 7, cells := 0, slots := 0, locals := 154 } : Room) s m args below meth c H locs 0 0 (MQ below (wx_Q D ad rd ca A (some (.int r)) σ') args s 0 0 A) (F0 m 0 ls []) := by
  obtain ⟨hx, hb, hml, hr, hts, hown, hlk, hC, hA⟩ := id B
  unfold f_X5_carriedOut at h
  refine lv_iconst (v := 0) hx hb dX5_carriedOut_0 (by decide) ?_
  refine lv_istore_n (lv' := [(1, .int 0), (0, .ref (ad 11 99))]) hx hb dX5_carriedOut_1 rfl hl (by decide) rfl (fun ls hl => ?_)
  refine lv_iconst (v := 0) hx hb dX5_carriedOut_2 (by decide) ?_
  refine lv_istore_n (lv' := [(2, .int 0), (1, .int 0), (0, .ref (ad 11 99))]) hx hb dX5_carriedOut_3 rfl hl (by decide) rfl (fun ls hl => ?_)
  refine lv_iconst (v := 0) hx hb dX5_carriedOut_4 (by decide) ?_
  refine lv_istore_n (lv' := [(3, .int 0), (2, .int 0), (1, .int 0), (0, .ref (ad 11 99))]) hx hb dX5_carriedOut_5 rfl hl (by decide) rfl (fun ls hl => ?_)
  exact b_X5_carriedOut_6 B h Z hS (lv_sub hl [3, 2, 1, 0] rfl)
set_option maxRecDepth 20000 in
theorem c_X5_carriedOut (l : Launch) {D : va_G} {ad : Nat → Nat → Nat} {rd : Nat → Nat} {ca : Nat → ClassId} {A : Nat → Prop} {σ : wx_St}     {r : Int32} {σ' : wx_St} (h : f_X5_carriedOut σ = some (r, σ')) : wx_M l yX5_carriedOut wsX5_carriedOut 7 154 D ad rd ca A [.ref (ad 11 99)] σ (some (.int r)) σ' := by
  refine Met.ofW (cc := cX5_carriedOut) (maxL := 7) (ret := (some .int)) (by decide +kernel) rfl ?_
  intro p e s m args below meth c s₁ B0 hml hv
  obtain ⟨rfl, hC, Z, hA⟩ := hv
  have hl := lv_entry ([.ref (ad 11 99)]) (n := 7) (Nat.le_of_ble_eq_true rfl)
  rw [lg_entry_eq]
  generalize (lg_sl ([.ref (ad 11 99)]) ++ List.replicate (7 - (lg_sl ([.ref (ad 11 99)])).length) Slot.unset).toArray = ls at hl ⊢
  exact b_X5_carriedOut_0 ⟨B0.exec, B0.bytes, hml, B0.returns, atoms_spec (ws := wsX5_carriedOut) B0.pre, findClass_of_methodNamed B0.named, B0.notSynchronized, hC, hA⟩   h Z va_S.rf hl
theorem i_X5_carryOut_5 : ∀ w ∈ wsX50, w ∈ wsX5_carryOut := by decide +kernel
theorem k_X5_carryOut_w0 : Cond.fieldLink RX5 36 "WarmProbes" "pad" "LWarmProbes$Pad;" ∈ wsX5_carryOut := by decide +kernel
theorem k_X5_carryOut_w1 : Cond.initialized RX2 ∈ wsX5_carryOut := by decide +kernel
theorem k_X5_carryOut_w2 : Cond.instanceMethod yX2_firstFault ∈ wsX5_carryOut := by decide +kernel
theorem k_X5_carryOut_w3 : Cond.selects RX2 yX2_firstFault yX2_firstFault ∈ wsX5_carryOut := by decide +kernel
theorem k_X5_carryOut_w4 : Cond.fieldLink RX5 29 "WarmProbes" "past" "LWarmProbes$Past;" ∈ wsX5_carryOut := by decide +kernel
theorem k_X5_carryOut_w5 : Cond.fieldLink RX5 10 "WarmProbes" "board" "LWarmProbes$Board;" ∈ wsX5_carryOut := by decide +kernel
theorem k_X5_carryOut_w6 : Cond.initialized RX3 ∈ wsX5_carryOut := by decide +kernel
theorem k_X5_carryOut_w7 : Cond.instanceMethod yX3_prepare ∈ wsX5_carryOut := by decide +kernel
theorem k_X5_carryOut_w8 : Cond.selects RX3 yX3_prepare yX3_prepare ∈ wsX5_carryOut := by decide +kernel
theorem k_X5_carryOut_w9 : Cond.instanceMethod yX2_clear ∈ wsX5_carryOut := by decide +kernel
theorem k_X5_carryOut_w10 : Cond.selects RX2 yX2_clear yX2_clear ∈ wsX5_carryOut := by decide +kernel
theorem k_X5_carryOut_w11 : Cond.instanceMethod yX3_kept ∈ wsX5_carryOut := by decide +kernel
theorem k_X5_carryOut_w12 : Cond.selects RX3 yX3_kept yX3_kept ∈ wsX5_carryOut := by decide +kernel
set_option maxRecDepth 20000 in
set_option maxHeartbeats 4000000 in
theorem b_X5_carryOut_0 (B : wx_B p s m args meth c cX5_carryOut 2 (some .int) wsX5_carryOut RX5 D ad ca A)    {r : Int32} {σ' : wx_St}   {σ : wx_St}  (h : f_X5_carryOut σ = some (r, σ')) {H : Heap} {locs : List Loc} (Z : wx_Z D ad rd ca A σ H) (hS : va_S A s.heap H locs) {ls : Array Slot} (hl : lv_has ls 2 [(0, .ref (ad 11 99))]) : W p l e ({ frames := 8, cells := 0, slots := 0, locals := 180 } : Room) s m args below meth c H locs 0 0 (MQ below (wx_Q D ad rd ca A (some (.int r)) σ') args s 0 0 A) (F0 m 0 ls []) := by
  obtain ⟨hx, hb, hml, hr, hts, hown, hlk, hC, hA⟩ := id B
  unfold f_X5_carryOut at h
  refine lv_aload_n hx hb dX5_carryOut_0 rfl (lv_at hl 0 rfl) ?_
  refine wx_get (own := RX5) hx hb hts i_X5_carryOut_5 hown hC.1 Z (o := 11) (ci := 5) rfl (rfl : vwCl[5]? = some (RX5, TX5, 7)) 4 (by decide) (hts _ k_X5_carryOut_w0) (fun _ h9 => h9) (f := 115) rfl rfl dX5_carryOut_1 ?_
  obtain ⟨v4, hc4, h⟩ := wx_o_ok h
  refine wx_call (va_runVN (As := []) (rest := []) ⟨hx, hb, hml, hown, hts⟩ (c_X2_firstFault l (D := D) (ad := ad) (rd := rd) (ca := ca) (A := A) (σ := σ) hc4) ⟨va_cnB 0 hts gX5_carryOut_X2_firstFault_n223 rfl rfl rfl (hC.1.2.1 _ (List.mem_of_getElem? (i := 72) rfl)) (hts _ k_X5_carryOut_w1) (by decide +kernel) ⟨Nat.le_of_ble_eq_true rfl, Nat.le_of_ble_eq_true rfl⟩, hts _ k_X5_carryOut_w2, hts _ k_X5_carryOut_w3⟩ (wx_preV hC Z hS hA rfl (rfl : vwCl[2]? = some (RX2, TX2, 2))) rfl rfl hl.1 rfl (lv_room (Nat.le_of_ble_eq_true rfl)) dX5_carryOut_4 ⟨Nat.zero_le _, Nat.zero_le _⟩) hS (fun H locs Z hS => ?_)
  refine lv_bipush (v := (-6)) hx hb dX5_carryOut_7 (by decide) ?_
  refine lv_icmp_eq (tgt := 15) hx hb dX5_carryOut_9 (by decide) (fun c9 => ?_) (fun c9 => ?_)
  · replace h := wx_ift c9 h
    refine lv_aload_n hx hb dX5_carryOut_15 rfl (lv_at hl 0 rfl) ?_
    refine wx_get (own := RX5) hx hb hts i_X5_carryOut_5 hown hC.1 Z (o := 11) (ci := 5) rfl (rfl : vwCl[5]? = some (RX5, TX5, 7)) 3 (by decide) (hts _ k_X5_carryOut_w4) (fun _ h9 => h9) (f := 114) rfl rfl dX5_carryOut_16 ?_
    refine lv_aload_n hx hb dX5_carryOut_19 rfl (lv_at hl 0 rfl) ?_
    refine wx_get (own := RX5) hx hb hts i_X5_carryOut_5 hown hC.1 Z (o := 11) (ci := 5) rfl (rfl : vwCl[5]? = some (RX5, TX5, 7)) 0 (by decide) (hts _ k_X5_carryOut_w5) (fun _ h9 => h9) (f := 107) rfl rfl dX5_carryOut_20 ?_
    obtain ⟨v23, σ23, hc23, h⟩ := wx_b_ok h
    refine wx_call (va_runVN (As := [.ref (ad 7 99)]) (rest := []) ⟨hx, hb, hml, hown, hts⟩ (c_X3_prepare l (D := D) (ad := ad) (rd := rd) (ca := ca) (A := A) (σ := σ) (b1 := 7) (by decide : 7 < 11) hc23) ⟨va_cnB 1 hts gX5_carryOut_X3_prepare_n48 rfl rfl rfl (hC.1.2.1 _ (List.mem_of_getElem? (i := 27) rfl)) (hts _ k_X5_carryOut_w6) (by decide +kernel) ⟨Nat.le_of_ble_eq_true rfl, Nat.le_of_ble_eq_true rfl⟩, hts _ k_X5_carryOut_w7, hts _ k_X5_carryOut_w8⟩ (wx_preV hC Z hS hA rfl (rfl : vwCl[3]? = some (RX3, TX3, 2))) rfl rfl hl.1 rfl (lv_room (Nat.le_of_ble_eq_true rfl)) dX5_carryOut_23 ⟨Nat.zero_le _, Nat.zero_le _⟩) hS (fun H locs Z hS => ?_)
    refine lv_aload_n hx hb dX5_carryOut_26 rfl (lv_at hl 0 rfl) ?_
    obtain ⟨v27, σ27, hc27, h⟩ := wx_b_ok h
    refine wx_call (va_runV (As := []) (rest := []) ⟨hx, hb, hml, hown, hts⟩ (c_X5_carriedOut l (D := D) (ad := ad) (rd := rd) (ca := ca) (A := A) (σ := σ23) hc27) (cwV 0 hts gX5_carryOut_X5_carriedOut rfl rfl rfl (by decide +kernel) ⟨Nat.le_of_ble_eq_true rfl, Nat.le_of_ble_eq_true rfl⟩) (wx_preV hC Z hS hA rfl (rfl : vwCl[5]? = some (RX5, TX5, 7))) rfl rfl hl.1 rfl (lv_room (Nat.le_of_ble_eq_true rfl)) dX5_carryOut_27 ⟨Nat.zero_le _, Nat.zero_le _⟩) hS (fun H locs Z hS => ?_)
    refine lv_istore_n (lv' := [(1, .int v27), (0, .ref (ad 11 99))]) hx hb dX5_carryOut_30 rfl hl (by decide) rfl (fun ls hl => ?_)
    refine lv_aload_n hx hb dX5_carryOut_31 rfl (lv_at hl 1 rfl) ?_
    refine wx_get (own := RX5) hx hb hts i_X5_carryOut_5 hown hC.1 Z (o := 11) (ci := 5) rfl (rfl : vwCl[5]? = some (RX5, TX5, 7)) 4 (by decide) (hts _ k_X5_carryOut_w0) (fun _ h9 => h9) (f := 115) rfl rfl dX5_carryOut_32 ?_
    obtain ⟨v35, σ35, hc35, h⟩ := wx_b_ok h
    refine wx_call (va_runVN (As := []) (rest := []) ⟨hx, hb, hml, hown, hts⟩ (c_X2_clear l (D := D) (ad := ad) (rd := rd) (ca := ca) (A := A) (σ := σ27) hc35) ⟨va_cnB 0 hts gX5_carryOut_X2_clear_n220 rfl rfl rfl (hC.1.2.1 _ (List.mem_of_getElem? (i := 71) rfl)) (hts _ k_X5_carryOut_w1) (by decide +kernel) ⟨Nat.le_of_ble_eq_true rfl, Nat.le_of_ble_eq_true rfl⟩, hts _ k_X5_carryOut_w9, hts _ k_X5_carryOut_w10⟩ (wx_preV hC Z hS hA rfl (rfl : vwCl[2]? = some (RX2, TX2, 2))) rfl rfl hl.1 rfl (lv_room (Nat.le_of_ble_eq_true rfl)) dX5_carryOut_35 ⟨Nat.zero_le _, Nat.zero_le _⟩) hS (fun H locs Z hS => ?_)
    refine lv_pop hx hb dX5_carryOut_38 rfl ?_
    refine lv_aload_n hx hb dX5_carryOut_39 rfl (lv_at hl 1 rfl) ?_
    refine wx_get (own := RX5) hx hb hts i_X5_carryOut_5 hown hC.1 Z (o := 11) (ci := 5) rfl (rfl : vwCl[5]? = some (RX5, TX5, 7)) 3 (by decide) (hts _ k_X5_carryOut_w4) (fun _ h9 => h9) (f := 114) rfl rfl dX5_carryOut_40 ?_
    refine lv_iload_n hx hb dX5_carryOut_43 rfl (lv_at hl 0 rfl) ?_
    obtain ⟨v44, σ44, hc44, h⟩ := wx_b_ok h
    refine wx_call (va_runVN (As := [.int v27]) (rest := []) ⟨hx, hb, hml, hown, hts⟩ (c_X3_kept l (D := D) (ad := ad) (rd := rd) (ca := ca) (A := A) (σ := σ35) hc44) ⟨va_cnB 1 hts gX5_carryOut_X3_kept_n56 rfl rfl rfl (hC.1.2.1 _ (List.mem_of_getElem? (i := 32) rfl)) (hts _ k_X5_carryOut_w6) (by decide +kernel) ⟨Nat.le_of_ble_eq_true rfl, Nat.le_of_ble_eq_true rfl⟩, hts _ k_X5_carryOut_w11, hts _ k_X5_carryOut_w12⟩ (wx_preV hC Z hS hA rfl (rfl : vwCl[3]? = some (RX3, TX3, 2))) rfl rfl hl.1 rfl (lv_room (Nat.le_of_ble_eq_true rfl)) dX5_carryOut_44 ⟨Nat.zero_le _, Nat.zero_le _⟩) hS (fun H locs Z hS => ?_)
    obtain ⟨rfl, rfl⟩ := wx_ret_ok h
    exact W.iret hx hb hr (fun t ht hW => ⟨rfl, by rw [ht]; exact Z, hS.F ht⟩) hS.2.2 dX5_carryOut_47
  · replace h := wx_iff c9 h
    refine lv_bipush (v := (-3)) hx hb dX5_carryOut_12 (by decide) ?_
    obtain ⟨rfl, rfl⟩ := wx_ret_ok h
    exact W.iret hx hb hr (fun t ht hW => ⟨rfl, by rw [ht]; exact Z, hS.F ht⟩) hS.2.2 dX5_carryOut_14
set_option maxRecDepth 20000 in
theorem c_X5_carryOut (l : Launch) {D : va_G} {ad : Nat → Nat → Nat} {rd : Nat → Nat} {ca : Nat → ClassId} {A : Nat → Prop} {σ : wx_St}     {r : Int32} {σ' : wx_St} (h : f_X5_carryOut σ = some (r, σ')) : wx_M l yX5_carryOut wsX5_carryOut 8 180 D ad rd ca A [.ref (ad 11 99)] σ (some (.int r)) σ' := by
  refine Met.ofW (cc := cX5_carryOut) (maxL := 2) (ret := (some .int)) (by decide +kernel) rfl ?_
  intro p e s m args below meth c s₁ B0 hml hv
  obtain ⟨rfl, hC, Z, hA⟩ := hv
  have hl := lv_entry ([.ref (ad 11 99)]) (n := 2) (Nat.le_of_ble_eq_true rfl)
  rw [lg_entry_eq]
  generalize (lg_sl ([.ref (ad 11 99)]) ++ List.replicate (2 - (lg_sl ([.ref (ad 11 99)])).length) Slot.unset).toArray = ls at hl ⊢
  exact b_X5_carryOut_0 ⟨B0.exec, B0.bytes, hml, B0.returns, atoms_spec (ws := wsX5_carryOut) B0.pre, findClass_of_methodNamed B0.named, B0.notSynchronized, hC, hA⟩   h Z va_S.rf hl
theorem k_X5_columnsOf_w0 : Cond.constantLong RX5 256 (255) ∈ wsX5_columnsOf := by decide +kernel
set_option maxRecDepth 20000 in
set_option maxHeartbeats 4000000 in
theorem b_X5_columnsOf_0 (B : wx_B p s m args meth c cX5_columnsOf 3 (some .int) wsX5_columnsOf RX5 D ad ca A)    {r : Int32} {σ : wx_St}  {x0 : Int64} {x2 : Int32}   (h : f_X5_columnsOf x0 x2 = some r) {H : Heap} {locs : List Loc} (Z : wx_Z D ad rd ca A σ H) (hS : va_S A s.heap H locs) {ls : Array Slot} (hl : lv_has ls 3 [(0, .long x0), (2, .int x2)]) : W p l e ({ frames := 0, cells := 0, slots := 0, locals := 0 } : Room) s m args below meth c H locs 0 0 (MQ below (wx_Q D ad rd ca A (some (.int r)) σ) args s 0 0 A) (F0 m 0 ls []) := by
  obtain ⟨hx, hb, hml, hr, hts, hown, hlk, hC, hA⟩ := id B
  unfold f_X5_columnsOf at h
  refine lv_lload_n hx hb dX5_columnsOf_0 rfl (lv_at hl 0 rfl) ?_
  refine lv_bipush (v := 8) hx hb dX5_columnsOf_1 (by decide) ?_
  refine lv_iload_n hx hb dX5_columnsOf_3 rfl (lv_at hl 1 rfl) ?_
  refine lv_imul hx hb dX5_columnsOf_4 ?_
  refine lv_lushr (v := (x0.toUInt64 >>> ((8 * x2).toInt64.toUInt64 &&& Int64.toUInt64 63)).toInt64) hx hb dX5_columnsOf_5 rfl ?_
  refine lv_ldc2 hx hb hown (hts _ k_X5_columnsOf_w0) dX5_columnsOf_6 ?_
  refine lv_land hx hb dX5_columnsOf_9 ?_
  refine lv_l2i (v := (((x0.toUInt64 >>> ((8 * x2).toInt64.toUInt64 &&& Int64.toUInt64 63)).toInt64) &&& (255 : Int64)).toInt32) hx hb dX5_columnsOf_10 rfl ?_
  obtain rfl := Option.some.inj h
  exact W.iret hx hb hr (fun t ht hW => ⟨rfl, by rw [ht]; exact Z, hS.F ht⟩) hS.2.2 dX5_columnsOf_11
set_option maxRecDepth 20000 in
theorem c_X5_columnsOf (l : Launch) {D : va_G} {ad : Nat → Nat → Nat} {rd : Nat → Nat} {ca : Nat → ClassId} {A : Nat → Prop} {σ : wx_St}    {x0 : Int64} {x2 : Int32} {r : Int32} (h : f_X5_columnsOf x0 x2 = some r) : wx_M l yX5_columnsOf wsX5_columnsOf 0 0 D ad rd ca A [.long x0, .int x2] σ (some (.int r)) σ := by
  refine Met.ofW (cc := cX5_columnsOf) (maxL := 3) (ret := (some .int)) (by decide +kernel) rfl ?_
  intro p e s m args below meth c s₁ B0 hml hv
  obtain ⟨rfl, hC, Z, hA⟩ := hv
  have hl := lv_entry ([.long x0, .int x2]) (n := 3) (Nat.le_of_ble_eq_true rfl)
  rw [lg_entry_eq]
  generalize (lg_sl ([.long x0, .int x2]) ++ List.replicate (3 - (lg_sl ([.long x0, .int x2])).length) Slot.unset).toArray = ls at hl ⊢
  exact b_X5_columnsOf_0 ⟨B0.exec, B0.bytes, hml, B0.returns, atoms_spec (ws := wsX5_columnsOf) B0.pre, findClass_of_methodNamed B0.named, B0.notSynchronized, hC, hA⟩   h Z va_S.rf hl
theorem i_X5_cool_0 : ∀ w ∈ wsX00, w ∈ wsX5_cool := by decide +kernel
theorem i_X5_cool_5 : ∀ w ∈ wsX50, w ∈ wsX5_cool := by decide +kernel
theorem k_X5_cool_w0 : Cond.fieldLink RX5 29 "WarmProbes" "past" "LWarmProbes$Past;" ∈ wsX5_cool := by decide +kernel
theorem k_X5_cool_w1 : Cond.fieldLink RX5 10 "WarmProbes" "board" "LWarmProbes$Board;" ∈ wsX5_cool := by decide +kernel
theorem k_X5_cool_w2 : Cond.initialized RX3 ∈ wsX5_cool := by decide +kernel
theorem k_X5_cool_w3 : Cond.instanceMethod yX3_prepare ∈ wsX5_cool := by decide +kernel
theorem k_X5_cool_w4 : Cond.selects RX3 yX3_prepare yX3_prepare ∈ wsX5_cool := by decide +kernel
theorem k_X5_cool_w5 : Cond.initialized RX0 ∈ wsX5_cool := by decide +kernel
theorem k_X5_cool_w6 : Cond.instanceMethod yX0_beginRun ∈ wsX5_cool := by decide +kernel
theorem k_X5_cool_w7 : Cond.selects RX0 yX0_beginRun yX0_beginRun ∈ wsX5_cool := by decide +kernel
theorem k_X5_cool_w8 : Cond.instanceMethod yX3_kept ∈ wsX5_cool := by decide +kernel
theorem k_X5_cool_w9 : Cond.selects RX3 yX3_kept yX3_kept ∈ wsX5_cool := by decide +kernel
set_option maxRecDepth 20000 in
set_option maxHeartbeats 4000000 in
theorem b_X5_cool_0 (B : wx_B p s m args meth c cX5_cool 2 (some .int) wsX5_cool RX5 D ad ca A)    {r : Int32} {σ' : wx_St}   {σ : wx_St}  (h : f_X5_cool σ = some (r, σ')) {H : Heap} {locs : List Loc} (Z : wx_Z D ad rd ca A σ H) (hS : va_S A s.heap H locs) {ls : Array Slot} (hl : lv_has ls 2 [(0, .ref (ad 11 99))]) : W p l e ({ frames := 3, cells := 0, slots := 0, locals := 68 } : Room) s m args below meth c H locs 0 0 (MQ below (wx_Q D ad rd ca A (some (.int r)) σ') args s 0 0 A) (F0 m 0 ls []) := by
  obtain ⟨hx, hb, hml, hr, hts, hown, hlk, hC, hA⟩ := id B
  unfold f_X5_cool at h
  refine lv_aload_n hx hb dX5_cool_0 rfl (lv_at hl 0 rfl) ?_
  refine wx_get (own := RX5) hx hb hts i_X5_cool_5 hown hC.1 Z (o := 11) (ci := 5) rfl (rfl : vwCl[5]? = some (RX5, TX5, 7)) 3 (by decide) (hts _ k_X5_cool_w0) (fun _ h9 => h9) (f := 114) rfl rfl dX5_cool_1 ?_
  refine lv_aload_n hx hb dX5_cool_4 rfl (lv_at hl 0 rfl) ?_
  refine wx_get (own := RX5) hx hb hts i_X5_cool_5 hown hC.1 Z (o := 11) (ci := 5) rfl (rfl : vwCl[5]? = some (RX5, TX5, 7)) 0 (by decide) (hts _ k_X5_cool_w1) (fun _ h9 => h9) (f := 107) rfl rfl dX5_cool_5 ?_
  obtain ⟨v8, σ8, hc8, h⟩ := wx_b_ok h
  refine wx_call (va_runVN (As := [.ref (ad 7 99)]) (rest := []) ⟨hx, hb, hml, hown, hts⟩ (c_X3_prepare l (D := D) (ad := ad) (rd := rd) (ca := ca) (A := A) (σ := σ) (b1 := 7) (by decide : 7 < 11) hc8) ⟨va_cnB 1 hts gX5_cool_X3_prepare_n48 rfl rfl rfl (hC.1.2.1 _ (List.mem_of_getElem? (i := 27) rfl)) (hts _ k_X5_cool_w2) (by decide +kernel) ⟨Nat.le_of_ble_eq_true rfl, Nat.le_of_ble_eq_true rfl⟩, hts _ k_X5_cool_w3, hts _ k_X5_cool_w4⟩ (wx_preV hC Z hS hA rfl (rfl : vwCl[3]? = some (RX3, TX3, 2))) rfl rfl hl.1 rfl (lv_room (Nat.le_of_ble_eq_true rfl)) dX5_cool_8 ⟨Nat.zero_le _, Nat.zero_le _⟩) hS (fun H locs Z hS => ?_)
  refine lv_aload_n hx hb dX5_cool_11 rfl (lv_at hl 0 rfl) ?_
  refine wx_get (own := RX5) hx hb hts i_X5_cool_5 hown hC.1 Z (o := 11) (ci := 5) rfl (rfl : vwCl[5]? = some (RX5, TX5, 7)) 0 (by decide) (hts _ k_X5_cool_w1) (fun _ h9 => h9) (f := 107) rfl rfl dX5_cool_12 ?_
  refine wx_getN (own := RX5) hx hb hts i_X5_cool_0 hown hC.1 Z (o := 7) (ci := 0) rfl (rfl : vwCl[0]? = some (RX0, TX0, 13)) 6 (by decide) (wx_nst hC 9 rfl rfl) (fun _ h9 => h9) (f := 1) rfl rfl dX5_cool_15 ?_
  refine lv_istore_n (lv' := [(1, .int (σ8.2.2.1 7 6)), (0, .ref (ad 11 99))]) hx hb dX5_cool_18 rfl hl (by decide) rfl (fun ls hl => ?_)
  refine lv_aload_n hx hb dX5_cool_19 rfl (lv_at hl 1 rfl) ?_
  refine wx_get (own := RX5) hx hb hts i_X5_cool_5 hown hC.1 Z (o := 11) (ci := 5) rfl (rfl : vwCl[5]? = some (RX5, TX5, 7)) 0 (by decide) (hts _ k_X5_cool_w1) (fun _ h9 => h9) (f := 107) rfl rfl dX5_cool_20 ?_
  obtain ⟨v23, σ23, hc23, h⟩ := wx_b_ok h
  refine wx_call (va_runVN (As := []) (rest := []) ⟨hx, hb, hml, hown, hts⟩ (c_X0_beginRun l (D := D) (ad := ad) (rd := rd) (ca := ca) (A := A) (σ := σ8) (o := 7) (by decide : 7 < 11) hc23) ⟨va_cnB 0 hts gX5_cool_X0_beginRun_n77 rfl rfl rfl (hC.1.2.1 _ (List.mem_of_getElem? (i := 41) rfl)) (hts _ k_X5_cool_w5) (by decide +kernel) ⟨Nat.le_of_ble_eq_true rfl, Nat.le_of_ble_eq_true rfl⟩, hts _ k_X5_cool_w6, hts _ k_X5_cool_w7⟩ (wx_preV hC Z hS hA rfl (rfl : vwCl[0]? = some (RX0, TX0, 13))) rfl rfl hl.1 rfl (lv_room (Nat.le_of_ble_eq_true rfl)) dX5_cool_23 ⟨Nat.zero_le _, Nat.zero_le _⟩) hS (fun H locs Z hS => ?_)
  refine lv_aload_n hx hb dX5_cool_26 rfl (lv_at hl 1 rfl) ?_
  refine wx_get (own := RX5) hx hb hts i_X5_cool_5 hown hC.1 Z (o := 11) (ci := 5) rfl (rfl : vwCl[5]? = some (RX5, TX5, 7)) 3 (by decide) (hts _ k_X5_cool_w0) (fun _ h9 => h9) (f := 114) rfl rfl dX5_cool_27 ?_
  refine lv_iload_n hx hb dX5_cool_30 rfl (lv_at hl 0 rfl) ?_
  obtain ⟨v31, σ31, hc31, h⟩ := wx_b_ok h
  refine wx_call (va_runVN (As := [.int (σ8.2.2.1 7 6)]) (rest := []) ⟨hx, hb, hml, hown, hts⟩ (c_X3_kept l (D := D) (ad := ad) (rd := rd) (ca := ca) (A := A) (σ := σ23) hc31) ⟨va_cnB 1 hts gX5_cool_X3_kept_n56 rfl rfl rfl (hC.1.2.1 _ (List.mem_of_getElem? (i := 32) rfl)) (hts _ k_X5_cool_w2) (by decide +kernel) ⟨Nat.le_of_ble_eq_true rfl, Nat.le_of_ble_eq_true rfl⟩, hts _ k_X5_cool_w8, hts _ k_X5_cool_w9⟩ (wx_preV hC Z hS hA rfl (rfl : vwCl[3]? = some (RX3, TX3, 2))) rfl rfl hl.1 rfl (lv_room (Nat.le_of_ble_eq_true rfl)) dX5_cool_31 ⟨Nat.zero_le _, Nat.zero_le _⟩) hS (fun H locs Z hS => ?_)
  obtain ⟨rfl, rfl⟩ := wx_ret_ok h
  exact W.iret hx hb hr (fun t ht hW => ⟨rfl, by rw [ht]; exact Z, hS.F ht⟩) hS.2.2 dX5_cool_34
set_option maxRecDepth 20000 in
theorem c_X5_cool (l : Launch) {D : va_G} {ad : Nat → Nat → Nat} {rd : Nat → Nat} {ca : Nat → ClassId} {A : Nat → Prop} {σ : wx_St}     {r : Int32} {σ' : wx_St} (h : f_X5_cool σ = some (r, σ')) : wx_M l yX5_cool wsX5_cool 3 68 D ad rd ca A [.ref (ad 11 99)] σ (some (.int r)) σ' := by
  refine Met.ofW (cc := cX5_cool) (maxL := 2) (ret := (some .int)) (by decide +kernel) rfl ?_
  intro p e s m args below meth c s₁ B0 hml hv
  obtain ⟨rfl, hC, Z, hA⟩ := hv
  have hl := lv_entry ([.ref (ad 11 99)]) (n := 2) (Nat.le_of_ble_eq_true rfl)
  rw [lg_entry_eq]
  generalize (lg_sl ([.ref (ad 11 99)]) ++ List.replicate (2 - (lg_sl ([.ref (ad 11 99)])).length) Slot.unset).toArray = ls at hl ⊢
  exact b_X5_cool_0 ⟨B0.exec, B0.bytes, hml, B0.returns, atoms_spec (ws := wsX5_cool) B0.pre, findClass_of_methodNamed B0.named, B0.notSynchronized, hC, hA⟩   h Z va_S.rf hl
theorem i_X5_count_0 : ∀ w ∈ wsX00, w ∈ wsX5_count := by decide +kernel
theorem i_X5_count_2 : ∀ w ∈ wsX20, w ∈ wsX5_count := by decide +kernel
theorem i_X5_count_3 : ∀ w ∈ wsX30, w ∈ wsX5_count := by decide +kernel
theorem i_X5_count_5 : ∀ w ∈ wsX50, w ∈ wsX5_count := by decide +kernel
theorem k_X5_count_w0 : Cond.fieldLink RX5 10 "WarmProbes" "board" "LWarmProbes$Board;" ∈ wsX5_count := by decide +kernel
theorem k_X5_count_w1 : Cond.initialized RX0 ∈ wsX5_count := by decide +kernel
theorem k_X5_count_w2 : Cond.instanceMethod yX0_heated ∈ wsX5_count := by decide +kernel
theorem k_X5_count_w3 : Cond.selects RX0 yX0_heated yX0_heated ∈ wsX5_count := by decide +kernel
theorem k_X5_count_w4 : Cond.instanceMethod yX0_tracked ∈ wsX5_count := by decide +kernel
theorem k_X5_count_w5 : Cond.selects RX0 yX0_tracked yX0_tracked ∈ wsX5_count := by decide +kernel
theorem k_X5_count_w6 : Cond.instanceMethod yX0_suspects ∈ wsX5_count := by decide +kernel
theorem k_X5_count_w7 : Cond.selects RX0 yX0_suspects yX0_suspects ∈ wsX5_count := by decide +kernel
theorem k_X5_count_w8 : Cond.fieldLink RX5 22 "WarmProbes" "suspicion" "LWarmProbes$Suspicion;" ∈ wsX5_count := by decide +kernel
theorem k_X5_count_w9 : Cond.initialized RX4 ∈ wsX5_count := by decide +kernel
theorem k_X5_count_w10 : Cond.instanceMethod yX4_fitting ∈ wsX5_count := by decide +kernel
theorem k_X5_count_w11 : Cond.selects RX4 yX4_fitting yX4_fitting ∈ wsX5_count := by decide +kernel
theorem k_X5_count_w12 : Cond.instanceMethod yX4_pairs ∈ wsX5_count := by decide +kernel
theorem k_X5_count_w13 : Cond.selects RX4 yX4_pairs yX4_pairs ∈ wsX5_count := by decide +kernel
theorem k_X5_count_w14 : Cond.instanceMethod yX0_warmest ∈ wsX5_count := by decide +kernel
theorem k_X5_count_w15 : Cond.selects RX0 yX0_warmest yX0_warmest ∈ wsX5_count := by decide +kernel
theorem k_X5_count_w16 : Cond.fieldLink RX5 36 "WarmProbes" "pad" "LWarmProbes$Pad;" ∈ wsX5_count := by decide +kernel
theorem k_X5_count_w17 : Cond.fieldLink RX5 29 "WarmProbes" "past" "LWarmProbes$Past;" ∈ wsX5_count := by decide +kernel
set_option maxRecDepth 20000 in
set_option maxHeartbeats 4000000 in
theorem m_X5_count_144  {r : Int32} {σ' : wx_St}  {x1 : Int32} {y0 : Int64} {σ : wx_St} (h : f_X5_count_144 x1 y0 σ = some (r, σ')) : wx_n σ.2.2.2.2 ≤ wx_n σ'.2.2.2.2 := by
  unfold f_X5_count_144 at h
  obtain ⟨v144, hc144, h⟩ := wx_o_ok h
  obtain ⟨rfl, rfl⟩ := wx_ret_ok h
  exact Nat.le_refl _
set_option maxRecDepth 20000 in
set_option maxHeartbeats 4000000 in
theorem b_X5_count_144 (B : wx_B p s m args meth c cX5_count 2 (some .int) wsX5_count RX5 D ad ca A)    {r : Int32} {σ' : wx_St} {mc : Nat}  {x1 : Int32} {y0 : Int64} {σ : wx_St} {k : Nat} (hk : k + wx_n σ'.2.2.2.2 ≤ mc + wx_n σ.2.2.2.2)  (h : f_X5_count_144 x1 y0 σ = some (r, σ')) {rd : Nat → Nat} {H : Heap} {locs : List Loc} (Z : wx_Z D ad rd ca A σ H) (hS : va_S A s.heap H locs) {ls : Array Slot} (hl : lv_has ls 2 [(0, .ref (ad 11 99)), (1, .int x1)]) : W p l e ({ frames := 6, cells := mc, slots := 6464 * mc, locals := 152 } : Room) s m args below meth c H locs k (6464 * k) (MQ below (wx_QA D ad ca A (some (.int r)) σ') args s mc (6464 * mc) A) (F0 m 144 ls [.long y0]) := by
  obtain ⟨hx, hb, hml, hr, hts, hown, hlk, hC, hA⟩ := id B
  have hm := m_X5_count_144 h
  unfold f_X5_count_144 at h
  obtain ⟨v144, hc144, h⟩ := wx_o_ok h
  refine wx_call (va_runS (As := [.long y0]) (rest := []) ⟨hx, hb, hml, hown, hts⟩ (c_J13_bitCount_95d88 l (D := D) (ad := ad) (rd := rd) (ca := ca) (A := A) (σ := σ) hc144) (va_cwS 1 hts gX5_count_J13_bitCount_95d88 rfl rfl rfl (by decide +kernel) ⟨Nat.le_of_ble_eq_true rfl, Nat.le_of_ble_eq_true rfl⟩) (wx_preS hC Z hS hA) rfl rfl hl.1 rfl (lv_room (Nat.le_of_ble_eq_true rfl)) dX5_count_144 ⟨(by show k + 0 ≤ mc; omega), (by show 6464 * k + 0 ≤ 6464 * mc; omega)⟩) hS (fun H locs Z hS => ?_)
  obtain ⟨rfl, rfl⟩ := wx_ret_ok h
  refine W.widen (k := mc) (n := 6464 * mc) (by omega) (by omega) ?_
  exact W.iret hx hb hr (fun t ht hW => ⟨rfl, ⟨_, by rw [ht]; exact Z⟩, hS.F ht⟩) hS.2.2 dX5_count_147
set_option maxRecDepth 20000 in
set_option maxHeartbeats 4000000 in
theorem m_X5_count_159  {r : Int32} {σ' : wx_St}  {x1 : Int32} {y0 : Int32} {σ : wx_St} (h : f_X5_count_159 x1 y0 σ = some (r, σ')) : wx_n σ.2.2.2.2 ≤ wx_n σ'.2.2.2.2 := by
  unfold f_X5_count_159 at h
  obtain ⟨rfl, rfl⟩ := wx_ret_ok h
  exact Nat.le_refl _
set_option maxRecDepth 20000 in
set_option maxHeartbeats 4000000 in
theorem b_X5_count_159 (B : wx_B p s m args meth c cX5_count 2 (some .int) wsX5_count RX5 D ad ca A)    {r : Int32} {σ' : wx_St} {mc : Nat}  {x1 : Int32} {y0 : Int32} {σ : wx_St} {k : Nat} (hk : k + wx_n σ'.2.2.2.2 ≤ mc + wx_n σ.2.2.2.2)  (h : f_X5_count_159 x1 y0 σ = some (r, σ')) {rd : Nat → Nat} {H : Heap} {locs : List Loc} (Z : wx_Z D ad rd ca A σ H) (hS : va_S A s.heap H locs) {ls : Array Slot} (hl : lv_has ls 2 [(0, .ref (ad 11 99)), (1, .int x1)]) : W p l e ({ frames := 6, cells := mc, slots := 6464 * mc, locals := 152 } : Room) s m args below meth c H locs k (6464 * k) (MQ below (wx_QA D ad ca A (some (.int r)) σ') args s mc (6464 * mc) A) (F0 m 159 ls [.int y0]) := by
  obtain ⟨hx, hb, hml, hr, hts, hown, hlk, hC, hA⟩ := id B
  have hm := m_X5_count_159 h
  unfold f_X5_count_159 at h
  obtain ⟨rfl, rfl⟩ := wx_ret_ok h
  refine W.widen (k := mc) (n := 6464 * mc) (by omega) (by omega) ?_
  exact W.iret hx hb hr (fun t ht hW => ⟨rfl, ⟨_, by rw [ht]; exact Z⟩, hS.F ht⟩) hS.2.2 dX5_count_159
set_option maxRecDepth 20000 in
set_option maxHeartbeats 4000000 in
theorem m_X5_count_0  {r : Int32} {σ' : wx_St}  {x1 : Int32} {σ : wx_St} (h : f_X5_count x1 σ = some (r, σ')) : wx_n σ.2.2.2.2 ≤ wx_n σ'.2.2.2.2 := by
  unfold f_X5_count at h
  by_cases c1_0 : x1 = 0
  · replace h := wx_ift c1_0 h
    obtain ⟨rfl, rfl⟩ := wx_ret_ok h
    exact Nat.le_refl _
  · replace h := wx_iff c1_0 h
    by_cases c1_1 : x1 = 1
    · replace h := wx_ift c1_1 h
      obtain ⟨rfl, rfl⟩ := wx_ret_ok h
      exact Nat.le_refl _
    · replace h := wx_iff c1_1 h
      by_cases c1_2 : x1 = 2
      · replace h := wx_ift c1_2 h
        obtain ⟨v96, hc96, h⟩ := wx_o_ok h
        obtain ⟨v99, hc99, h⟩ := wx_o_ok h
        obtain ⟨rfl, rfl⟩ := wx_ret_ok h
        exact Nat.le_refl _
      · replace h := wx_iff c1_2 h
        by_cases c1_3 : x1 = 3
        · replace h := wx_ift c1_3 h
          obtain ⟨rfl, rfl⟩ := wx_ret_ok h
          exact Nat.le_refl _
        · replace h := wx_iff c1_3 h
          by_cases c1_4 : x1 = 4
          · replace h := wx_ift c1_4 h
            obtain ⟨v115, hc115, h⟩ := wx_o_ok h
            obtain ⟨v118, hc118, h⟩ := wx_o_ok h
            obtain ⟨rfl, rfl⟩ := wx_ret_ok h
            exact Nat.le_refl _
          · replace h := wx_iff c1_4 h
            by_cases c1_5 : x1 = 5
            · replace h := wx_ift c1_5 h
              obtain ⟨v126, hc126, h⟩ := wx_o_ok h
              obtain ⟨v129, hc129, h⟩ := wx_o_ok h
              obtain ⟨rfl, rfl⟩ := wx_ret_ok h
              exact Nat.le_refl _
            · replace h := wx_iff c1_5 h
              by_cases c1_6 : x1 = 6
              · replace h := wx_ift c1_6 h
                obtain ⟨v141, σ141, hc141, h⟩ := wx_b_ok h
                refine Nat.le_trans (m_X4_fitting_0 hc141) ?_
                exact m_X5_count_144 h
              · replace h := wx_iff c1_6 h
                by_cases c1_7 : x1 = 7
                · replace h := wx_ift c1_7 h
                  obtain ⟨v156, σ156, hc156, h⟩ := wx_b_ok h
                  refine Nat.le_trans (m_X4_pairs_0 hc156) ?_
                  exact m_X5_count_159 h
                · replace h := wx_iff c1_7 h
                  by_cases c1_8 : x1 = 8
                  · replace h := wx_ift c1_8 h
                    obtain ⟨v164, hc164, h⟩ := wx_o_ok h
                    obtain ⟨rfl, rfl⟩ := wx_ret_ok h
                    exact Nat.le_refl _
                  · replace h := wx_iff c1_8 h
                    by_cases c1_9 : x1 = 9
                    · replace h := wx_ift c1_9 h
                      obtain ⟨v179, ev179, iv179, h⟩ := wx_rI_ok h
                      obtain ⟨rfl, rfl⟩ := wx_ret_ok h
                      exact Nat.le_refl _
                    · replace h := wx_iff c1_9 h
                      by_cases c1_10 : x1 = 10
                      · replace h := wx_ift c1_10 h
                        obtain ⟨v179, ev179, iv179, h⟩ := wx_rI_ok h
                        obtain ⟨rfl, rfl⟩ := wx_ret_ok h
                        exact Nat.le_refl _
                      · replace h := wx_iff c1_10 h
                        by_cases c1_11 : x1 = 11
                        · replace h := wx_ift c1_11 h
                          obtain ⟨v179, ev179, iv179, h⟩ := wx_rI_ok h
                          obtain ⟨rfl, rfl⟩ := wx_ret_ok h
                          exact Nat.le_refl _
                        · replace h := wx_iff c1_11 h
                          by_cases c1_12 : x1 = 12
                          · replace h := wx_ift c1_12 h
                            obtain ⟨v179, ev179, iv179, h⟩ := wx_rI_ok h
                            obtain ⟨rfl, rfl⟩ := wx_ret_ok h
                            exact Nat.le_refl _
                          · replace h := wx_iff c1_12 h
                            by_cases c1_13 : x1 = 13
                            · replace h := wx_ift c1_13 h
                              obtain ⟨rfl, rfl⟩ := wx_ret_ok h
                              exact Nat.le_refl _
                            · replace h := wx_iff c1_13 h
                              by_cases c1_14 : x1 = 14
                              · replace h := wx_ift c1_14 h
                                obtain ⟨rfl, rfl⟩ := wx_ret_ok h
                                exact Nat.le_refl _
                              · replace h := wx_iff c1_14 h
                                obtain ⟨rfl, rfl⟩ := wx_ret_ok h
                                exact Nat.le_refl _
set_option maxRecDepth 20000 in
set_option maxHeartbeats 4000000 in
theorem b_X5_count_0 (B : wx_B p s m args meth c cX5_count 2 (some .int) wsX5_count RX5 D ad ca A)    {r : Int32} {σ' : wx_St} {mc : Nat}  {x1 : Int32} {σ : wx_St} {k : Nat} (hk : k + wx_n σ'.2.2.2.2 ≤ mc + wx_n σ.2.2.2.2)  (h : f_X5_count x1 σ = some (r, σ')) {rd : Nat → Nat} {H : Heap} {locs : List Loc} (Z : wx_Z D ad rd ca A σ H) (hS : va_S A s.heap H locs) {ls : Array Slot} (hl : lv_has ls 2 [(0, .ref (ad 11 99)), (1, .int x1)]) : W p l e ({ frames := 6, cells := mc, slots := 6464 * mc, locals := 152 } : Room) s m args below meth c H locs k (6464 * k) (MQ below (wx_QA D ad ca A (some (.int r)) σ') args s mc (6464 * mc) A) (F0 m 0 ls []) := by
  obtain ⟨hx, hb, hml, hr, hts, hown, hlk, hC, hA⟩ := id B
  have hm := m_X5_count_0 h
  unfold f_X5_count at h
  refine lv_iload_n hx hb dX5_count_0 rfl (lv_at hl 1 rfl) ?_
  by_cases c1_0 : x1 = 0
  · replace h := wx_ift c1_0 h
    refine lv_tableIn (off := 75) (tgt := 76) hx hb dX5_count_1 (by rw [c1_0]; decide) (by rw [c1_0]; decide) (by rw [c1_0]; rfl) (by decide) ?_
    refine lv_aload_n hx hb dX5_count_76 rfl (lv_at hl 0 rfl) ?_
    refine wx_get (own := RX5) hx hb hts i_X5_count_5 hown hC.1 Z (o := 11) (ci := 5) rfl (rfl : vwCl[5]? = some (RX5, TX5, 7)) 0 (by decide) (hts _ k_X5_count_w0) (fun _ h9 => h9) (f := 107) rfl rfl dX5_count_77 ?_
    refine wx_getN (own := RX5) hx hb hts i_X5_count_0 hown hC.1 Z (o := 7) (ci := 0) rfl (rfl : vwCl[0]? = some (RX0, TX0, 13)) 6 (by decide) (wx_nst hC 9 rfl rfl) (fun _ h9 => h9) (f := 1) rfl rfl dX5_count_80 ?_
    obtain ⟨rfl, rfl⟩ := wx_ret_ok h
    refine W.widen (k := mc) (n := 6464 * mc) (by omega) (by omega) ?_
    exact W.iret hx hb hr (fun t ht hW => ⟨rfl, ⟨_, by rw [ht]; exact Z⟩, hS.F ht⟩) hS.2.2 dX5_count_83
  · replace h := wx_iff c1_0 h
    by_cases c1_1 : x1 = 1
    · replace h := wx_ift c1_1 h
      refine lv_tableIn (off := 83) (tgt := 84) hx hb dX5_count_1 (by rw [c1_1]; decide) (by rw [c1_1]; decide) (by rw [c1_1]; rfl) (by decide) ?_
      refine lv_aload_n hx hb dX5_count_84 rfl (lv_at hl 0 rfl) ?_
      refine wx_get (own := RX5) hx hb hts i_X5_count_5 hown hC.1 Z (o := 11) (ci := 5) rfl (rfl : vwCl[5]? = some (RX5, TX5, 7)) 0 (by decide) (hts _ k_X5_count_w0) (fun _ h9 => h9) (f := 107) rfl rfl dX5_count_85 ?_
      refine wx_getN (own := RX5) hx hb hts i_X5_count_0 hown hC.1 Z (o := 7) (ci := 0) rfl (rfl : vwCl[0]? = some (RX0, TX0, 13)) 3 (by decide) (wx_nst hC 6 rfl rfl) (fun _ h9 => h9) (f := 1) rfl rfl dX5_count_88 ?_
      obtain ⟨rfl, rfl⟩ := wx_ret_ok h
      refine W.widen (k := mc) (n := 6464 * mc) (by omega) (by omega) ?_
      exact W.iret hx hb hr (fun t ht hW => ⟨rfl, ⟨_, by rw [ht]; exact Z⟩, hS.F ht⟩) hS.2.2 dX5_count_91
    · replace h := wx_iff c1_1 h
      by_cases c1_2 : x1 = 2
      · replace h := wx_ift c1_2 h
        refine lv_tableIn (off := 91) (tgt := 92) hx hb dX5_count_1 (by rw [c1_2]; decide) (by rw [c1_2]; decide) (by rw [c1_2]; rfl) (by decide) ?_
        refine lv_aload_n hx hb dX5_count_92 rfl (lv_at hl 0 rfl) ?_
        refine wx_get (own := RX5) hx hb hts i_X5_count_5 hown hC.1 Z (o := 11) (ci := 5) rfl (rfl : vwCl[5]? = some (RX5, TX5, 7)) 0 (by decide) (hts _ k_X5_count_w0) (fun _ h9 => h9) (f := 107) rfl rfl dX5_count_93 ?_
        obtain ⟨v96, hc96, h⟩ := wx_o_ok h
        refine wx_call (va_runVN (As := []) (rest := []) ⟨hx, hb, hml, hown, hts⟩ (c_X0_heated l (D := D) (ad := ad) (rd := rd) (ca := ca) (A := A) (σ := σ) (o := 7) (by decide : 7 < 11) hc96) ⟨va_cnB 0 hts gX5_count_X0_heated_n170 rfl rfl rfl (hC.1.2.1 _ (List.mem_of_getElem? (i := 61) rfl)) (hts _ k_X5_count_w1) (by decide +kernel) ⟨Nat.le_of_ble_eq_true rfl, Nat.le_of_ble_eq_true rfl⟩, hts _ k_X5_count_w2, hts _ k_X5_count_w3⟩ (wx_preV hC Z hS hA rfl (rfl : vwCl[0]? = some (RX0, TX0, 13))) rfl rfl hl.1 rfl (lv_room (Nat.le_of_ble_eq_true rfl)) dX5_count_96 ⟨(by show k + 0 ≤ mc; omega), (by show 6464 * k + 0 ≤ 6464 * mc; omega)⟩) hS (fun H locs Z hS => ?_)
        obtain ⟨v99, hc99, h⟩ := wx_o_ok h
        refine wx_call (va_runS (As := [.long v96]) (rest := []) ⟨hx, hb, hml, hown, hts⟩ (c_J13_bitCount_95d88 l (D := D) (ad := ad) (rd := rd) (ca := ca) (A := A) (σ := σ) hc99) (va_cwS 1 hts gX5_count_J13_bitCount_95d88 rfl rfl rfl (by decide +kernel) ⟨Nat.le_of_ble_eq_true rfl, Nat.le_of_ble_eq_true rfl⟩) (wx_preS hC Z hS hA) rfl rfl hl.1 rfl (lv_room (Nat.le_of_ble_eq_true rfl)) dX5_count_99 ⟨(by show k + 0 ≤ mc; omega), (by show 6464 * k + 0 ≤ 6464 * mc; omega)⟩) hS (fun H locs Z hS => ?_)
        obtain ⟨rfl, rfl⟩ := wx_ret_ok h
        refine W.widen (k := mc) (n := 6464 * mc) (by omega) (by omega) ?_
        exact W.iret hx hb hr (fun t ht hW => ⟨rfl, ⟨_, by rw [ht]; exact Z⟩, hS.F ht⟩) hS.2.2 dX5_count_102
      · replace h := wx_iff c1_2 h
        by_cases c1_3 : x1 = 3
        · replace h := wx_ift c1_3 h
          refine lv_tableIn (off := 102) (tgt := 103) hx hb dX5_count_1 (by rw [c1_3]; decide) (by rw [c1_3]; decide) (by rw [c1_3]; rfl) (by decide) ?_
          refine lv_aload_n hx hb dX5_count_103 rfl (lv_at hl 0 rfl) ?_
          refine wx_get (own := RX5) hx hb hts i_X5_count_5 hown hC.1 Z (o := 11) (ci := 5) rfl (rfl : vwCl[5]? = some (RX5, TX5, 7)) 0 (by decide) (hts _ k_X5_count_w0) (fun _ h9 => h9) (f := 107) rfl rfl dX5_count_104 ?_
          refine wx_getN (own := RX5) hx hb hts i_X5_count_0 hown hC.1 Z (o := 7) (ci := 0) rfl (rfl : vwCl[0]? = some (RX0, TX0, 13)) 9 (by decide) (wx_nst hC 13 rfl rfl) (fun _ h9 => h9) (f := 1) rfl rfl dX5_count_107 ?_
          obtain ⟨rfl, rfl⟩ := wx_ret_ok h
          refine W.widen (k := mc) (n := 6464 * mc) (by omega) (by omega) ?_
          exact W.iret hx hb hr (fun t ht hW => ⟨rfl, ⟨_, by rw [ht]; exact Z⟩, hS.F ht⟩) hS.2.2 dX5_count_110
        · replace h := wx_iff c1_3 h
          by_cases c1_4 : x1 = 4
          · replace h := wx_ift c1_4 h
            refine lv_tableIn (off := 110) (tgt := 111) hx hb dX5_count_1 (by rw [c1_4]; decide) (by rw [c1_4]; decide) (by rw [c1_4]; rfl) (by decide) ?_
            refine lv_aload_n hx hb dX5_count_111 rfl (lv_at hl 0 rfl) ?_
            refine wx_get (own := RX5) hx hb hts i_X5_count_5 hown hC.1 Z (o := 11) (ci := 5) rfl (rfl : vwCl[5]? = some (RX5, TX5, 7)) 0 (by decide) (hts _ k_X5_count_w0) (fun _ h9 => h9) (f := 107) rfl rfl dX5_count_112 ?_
            obtain ⟨v115, hc115, h⟩ := wx_o_ok h
            refine wx_call (va_runVN (As := []) (rest := []) ⟨hx, hb, hml, hown, hts⟩ (c_X0_tracked l (D := D) (ad := ad) (rd := rd) (ca := ca) (A := A) (σ := σ) (o := 7) (by decide : 7 < 11) hc115) ⟨va_cnB 0 hts gX5_count_X0_tracked_n118 rfl rfl rfl (hC.1.2.1 _ (List.mem_of_getElem? (i := 55) rfl)) (hts _ k_X5_count_w1) (by decide +kernel) ⟨Nat.le_of_ble_eq_true rfl, Nat.le_of_ble_eq_true rfl⟩, hts _ k_X5_count_w4, hts _ k_X5_count_w5⟩ (wx_preV hC Z hS hA rfl (rfl : vwCl[0]? = some (RX0, TX0, 13))) rfl rfl hl.1 rfl (lv_room (Nat.le_of_ble_eq_true rfl)) dX5_count_115 ⟨(by show k + 0 ≤ mc; omega), (by show 6464 * k + 0 ≤ 6464 * mc; omega)⟩) hS (fun H locs Z hS => ?_)
            obtain ⟨v118, hc118, h⟩ := wx_o_ok h
            refine wx_call (va_runS (As := [.long v115]) (rest := []) ⟨hx, hb, hml, hown, hts⟩ (c_J13_bitCount_95d88 l (D := D) (ad := ad) (rd := rd) (ca := ca) (A := A) (σ := σ) hc118) (va_cwS 1 hts gX5_count_J13_bitCount_95d88 rfl rfl rfl (by decide +kernel) ⟨Nat.le_of_ble_eq_true rfl, Nat.le_of_ble_eq_true rfl⟩) (wx_preS hC Z hS hA) rfl rfl hl.1 rfl (lv_room (Nat.le_of_ble_eq_true rfl)) dX5_count_118 ⟨(by show k + 0 ≤ mc; omega), (by show 6464 * k + 0 ≤ 6464 * mc; omega)⟩) hS (fun H locs Z hS => ?_)
            obtain ⟨rfl, rfl⟩ := wx_ret_ok h
            refine W.widen (k := mc) (n := 6464 * mc) (by omega) (by omega) ?_
            exact W.iret hx hb hr (fun t ht hW => ⟨rfl, ⟨_, by rw [ht]; exact Z⟩, hS.F ht⟩) hS.2.2 dX5_count_121
          · replace h := wx_iff c1_4 h
            by_cases c1_5 : x1 = 5
            · replace h := wx_ift c1_5 h
              refine lv_tableIn (off := 121) (tgt := 122) hx hb dX5_count_1 (by rw [c1_5]; decide) (by rw [c1_5]; decide) (by rw [c1_5]; rfl) (by decide) ?_
              refine lv_aload_n hx hb dX5_count_122 rfl (lv_at hl 0 rfl) ?_
              refine wx_get (own := RX5) hx hb hts i_X5_count_5 hown hC.1 Z (o := 11) (ci := 5) rfl (rfl : vwCl[5]? = some (RX5, TX5, 7)) 0 (by decide) (hts _ k_X5_count_w0) (fun _ h9 => h9) (f := 107) rfl rfl dX5_count_123 ?_
              obtain ⟨v126, hc126, h⟩ := wx_o_ok h
              refine wx_call (va_runVN (As := []) (rest := []) ⟨hx, hb, hml, hown, hts⟩ (c_X0_suspects l (D := D) (ad := ad) (rd := rd) (ca := ca) (A := A) (σ := σ) (o := 7) (by decide : 7 < 11) hc126) ⟨va_cnB 0 hts gX5_count_X0_suspects_n126 rfl rfl rfl (hC.1.2.1 _ (List.mem_of_getElem? (i := 56) rfl)) (hts _ k_X5_count_w1) (by decide +kernel) ⟨Nat.le_of_ble_eq_true rfl, Nat.le_of_ble_eq_true rfl⟩, hts _ k_X5_count_w6, hts _ k_X5_count_w7⟩ (wx_preV hC Z hS hA rfl (rfl : vwCl[0]? = some (RX0, TX0, 13))) rfl rfl hl.1 rfl (lv_room (Nat.le_of_ble_eq_true rfl)) dX5_count_126 ⟨(by show k + 0 ≤ mc; omega), (by show 6464 * k + 0 ≤ 6464 * mc; omega)⟩) hS (fun H locs Z hS => ?_)
              obtain ⟨v129, hc129, h⟩ := wx_o_ok h
              refine wx_call (va_runS (As := [.long v126]) (rest := []) ⟨hx, hb, hml, hown, hts⟩ (c_J13_bitCount_95d88 l (D := D) (ad := ad) (rd := rd) (ca := ca) (A := A) (σ := σ) hc129) (va_cwS 1 hts gX5_count_J13_bitCount_95d88 rfl rfl rfl (by decide +kernel) ⟨Nat.le_of_ble_eq_true rfl, Nat.le_of_ble_eq_true rfl⟩) (wx_preS hC Z hS hA) rfl rfl hl.1 rfl (lv_room (Nat.le_of_ble_eq_true rfl)) dX5_count_129 ⟨(by show k + 0 ≤ mc; omega), (by show 6464 * k + 0 ≤ 6464 * mc; omega)⟩) hS (fun H locs Z hS => ?_)
              obtain ⟨rfl, rfl⟩ := wx_ret_ok h
              refine W.widen (k := mc) (n := 6464 * mc) (by omega) (by omega) ?_
              exact W.iret hx hb hr (fun t ht hW => ⟨rfl, ⟨_, by rw [ht]; exact Z⟩, hS.F ht⟩) hS.2.2 dX5_count_132
            · replace h := wx_iff c1_5 h
              by_cases c1_6 : x1 = 6
              · replace h := wx_ift c1_6 h
                refine lv_tableIn (off := 132) (tgt := 133) hx hb dX5_count_1 (by rw [c1_6]; decide) (by rw [c1_6]; decide) (by rw [c1_6]; rfl) (by decide) ?_
                refine lv_aload_n hx hb dX5_count_133 rfl (lv_at hl 0 rfl) ?_
                refine wx_get (own := RX5) hx hb hts i_X5_count_5 hown hC.1 Z (o := 11) (ci := 5) rfl (rfl : vwCl[5]? = some (RX5, TX5, 7)) 2 (by decide) (hts _ k_X5_count_w8) (fun _ h9 => h9) (f := 112) rfl rfl dX5_count_134 ?_
                refine lv_aload_n hx hb dX5_count_137 rfl (lv_at hl 0 rfl) ?_
                refine wx_get (own := RX5) hx hb hts i_X5_count_5 hown hC.1 Z (o := 11) (ci := 5) rfl (rfl : vwCl[5]? = some (RX5, TX5, 7)) 0 (by decide) (hts _ k_X5_count_w0) (fun _ h9 => h9) (f := 107) rfl rfl dX5_count_138 ?_
                obtain ⟨v141, σ141, hc141, h⟩ := wx_b_ok h
                have m1 := m_X4_fitting_0 hc141
                have m2 := m_X5_count_144 h
                refine wx_callA (va_runVN (As := [.ref (ad 7 99)]) (rest := []) ⟨hx, hb, hml, hown, hts⟩ (c_X4_fitting l (D := D) (ad := ad) (rd := rd) (ca := ca) (A := A) (σ := σ) (b1 := 7) (by decide : 7 < 11) hc141) ⟨va_cnB 1 hts gX5_count_X4_fitting_n129 rfl rfl rfl (hC.1.2.1 _ (List.mem_of_getElem? (i := 57) rfl)) (hts _ k_X5_count_w9) (by decide +kernel) ⟨Nat.le_of_ble_eq_true rfl, Nat.le_of_ble_eq_true rfl⟩, hts _ k_X5_count_w10, hts _ k_X5_count_w11⟩ (wx_preV hC Z hS hA rfl (rfl : vwCl[4]? = some (RX4, TX4, 2))) rfl rfl hl.1 rfl (lv_room (Nat.le_of_ble_eq_true rfl)) dX5_count_141 ⟨(by show k + (wx_n σ141.2.2.2.2 - wx_n σ.2.2.2.2) ≤ mc; omega), (by show 6464 * k + 6464 * (wx_n σ141.2.2.2.2 - wx_n σ.2.2.2.2) ≤ 6464 * mc; omega)⟩) hS (fun rd H locs Z hS => ?_)
                refine W.widen (k := k + (wx_n σ141.2.2.2.2 - wx_n σ.2.2.2.2)) (n := 6464 * (k + (wx_n σ141.2.2.2.2 - wx_n σ.2.2.2.2))) (Nat.le_refl _) (by omega) ?_
                exact b_X5_count_144 B (k := k + (wx_n σ141.2.2.2.2 - wx_n σ.2.2.2.2)) (by omega) h Z hS (lv_sub hl [0, 1] rfl)
              · replace h := wx_iff c1_6 h
                by_cases c1_7 : x1 = 7
                · replace h := wx_ift c1_7 h
                  refine lv_tableIn (off := 147) (tgt := 148) hx hb dX5_count_1 (by rw [c1_7]; decide) (by rw [c1_7]; decide) (by rw [c1_7]; rfl) (by decide) ?_
                  refine lv_aload_n hx hb dX5_count_148 rfl (lv_at hl 0 rfl) ?_
                  refine wx_get (own := RX5) hx hb hts i_X5_count_5 hown hC.1 Z (o := 11) (ci := 5) rfl (rfl : vwCl[5]? = some (RX5, TX5, 7)) 2 (by decide) (hts _ k_X5_count_w8) (fun _ h9 => h9) (f := 112) rfl rfl dX5_count_149 ?_
                  refine lv_aload_n hx hb dX5_count_152 rfl (lv_at hl 0 rfl) ?_
                  refine wx_get (own := RX5) hx hb hts i_X5_count_5 hown hC.1 Z (o := 11) (ci := 5) rfl (rfl : vwCl[5]? = some (RX5, TX5, 7)) 0 (by decide) (hts _ k_X5_count_w0) (fun _ h9 => h9) (f := 107) rfl rfl dX5_count_153 ?_
                  obtain ⟨v156, σ156, hc156, h⟩ := wx_b_ok h
                  have m1 := m_X4_pairs_0 hc156
                  have m2 := m_X5_count_159 h
                  refine wx_callA (va_runVN (As := [.ref (ad 7 99)]) (rest := []) ⟨hx, hb, hml, hown, hts⟩ (c_X4_pairs l (D := D) (ad := ad) (rd := rd) (ca := ca) (A := A) (σ := σ) (b1 := 7) (by decide : 7 < 11) hc156) ⟨va_cnB 1 hts gX5_count_X4_pairs_n179 rfl rfl rfl (hC.1.2.1 _ (List.mem_of_getElem? (i := 62) rfl)) (hts _ k_X5_count_w9) (by decide +kernel) ⟨Nat.le_of_ble_eq_true rfl, Nat.le_of_ble_eq_true rfl⟩, hts _ k_X5_count_w12, hts _ k_X5_count_w13⟩ (wx_preV hC Z hS hA rfl (rfl : vwCl[4]? = some (RX4, TX4, 2))) rfl rfl hl.1 rfl (lv_room (Nat.le_of_ble_eq_true rfl)) dX5_count_156 ⟨(by show k + (wx_n σ156.2.2.2.2 - wx_n σ.2.2.2.2) ≤ mc; omega), (by show 6464 * k + 6464 * (wx_n σ156.2.2.2.2 - wx_n σ.2.2.2.2) ≤ 6464 * mc; omega)⟩) hS (fun rd H locs Z hS => ?_)
                  refine W.widen (k := k + (wx_n σ156.2.2.2.2 - wx_n σ.2.2.2.2)) (n := 6464 * (k + (wx_n σ156.2.2.2.2 - wx_n σ.2.2.2.2))) (Nat.le_refl _) (by omega) ?_
                  exact b_X5_count_159 B (k := k + (wx_n σ156.2.2.2.2 - wx_n σ.2.2.2.2)) (by omega) h Z hS (lv_sub hl [0, 1] rfl)
                · replace h := wx_iff c1_7 h
                  by_cases c1_8 : x1 = 8
                  · replace h := wx_ift c1_8 h
                    refine lv_tableIn (off := 159) (tgt := 160) hx hb dX5_count_1 (by rw [c1_8]; decide) (by rw [c1_8]; decide) (by rw [c1_8]; rfl) (by decide) ?_
                    refine lv_aload_n hx hb dX5_count_160 rfl (lv_at hl 0 rfl) ?_
                    refine wx_get (own := RX5) hx hb hts i_X5_count_5 hown hC.1 Z (o := 11) (ci := 5) rfl (rfl : vwCl[5]? = some (RX5, TX5, 7)) 0 (by decide) (hts _ k_X5_count_w0) (fun _ h9 => h9) (f := 107) rfl rfl dX5_count_161 ?_
                    obtain ⟨v164, hc164, h⟩ := wx_o_ok h
                    refine wx_call (va_runVN (As := []) (rest := []) ⟨hx, hb, hml, hown, hts⟩ (c_X0_warmest l (D := D) (ad := ad) (rd := rd) (ca := ca) (A := A) (σ := σ) (o := 7) (by decide : 7 < 11) hc164) ⟨va_cnB 0 hts gX5_count_X0_warmest_n183 rfl rfl rfl (hC.1.2.1 _ (List.mem_of_getElem? (i := 65) rfl)) (hts _ k_X5_count_w1) (by decide +kernel) ⟨Nat.le_of_ble_eq_true rfl, Nat.le_of_ble_eq_true rfl⟩, hts _ k_X5_count_w14, hts _ k_X5_count_w15⟩ (wx_preV hC Z hS hA rfl (rfl : vwCl[0]? = some (RX0, TX0, 13))) rfl rfl hl.1 rfl (lv_room (Nat.le_of_ble_eq_true rfl)) dX5_count_164 ⟨(by show k + 0 ≤ mc; omega), (by show 6464 * k + 0 ≤ 6464 * mc; omega)⟩) hS (fun H locs Z hS => ?_)
                    obtain ⟨rfl, rfl⟩ := wx_ret_ok h
                    refine W.widen (k := mc) (n := 6464 * mc) (by omega) (by omega) ?_
                    exact W.iret hx hb hr (fun t ht hW => ⟨rfl, ⟨_, by rw [ht]; exact Z⟩, hS.F ht⟩) hS.2.2 dX5_count_167
                  · replace h := wx_iff c1_8 h
                    by_cases c1_9 : x1 = 9
                    · replace h := wx_ift c1_9 h
                      refine lv_tableIn (off := 167) (tgt := 168) hx hb dX5_count_1 (by rw [c1_9]; decide) (by rw [c1_9]; decide) (by rw [c1_9]; rfl) (by decide) ?_
                      refine lv_aload_n hx hb dX5_count_168 rfl (lv_at hl 0 rfl) ?_
                      refine wx_get (own := RX5) hx hb hts i_X5_count_5 hown hC.1 Z (o := 11) (ci := 5) rfl (rfl : vwCl[5]? = some (RX5, TX5, 7)) 0 (by decide) (hts _ k_X5_count_w0) (fun _ h9 => h9) (f := 107) rfl rfl dX5_count_169 ?_
                      refine wx_getN (own := RX5) hx hb hts i_X5_count_0 hown hC.1 Z (o := 7) (ci := 0) rfl (rfl : vwCl[0]? = some (RX0, TX0, 13)) 0 (by decide) (wx_nst hC 3 rfl rfl) (fun _ h9 => h9) (f := 0) rfl rfl dX5_count_172 ?_
                      refine lv_iload_n hx hb dX5_count_175 rfl (lv_at hl 1 rfl) ?_
                      refine lv_bipush (v := 9) hx hb dX5_count_176 (by decide) ?_
                      refine lv_isub hx hb dX5_count_178 ?_
                      obtain ⟨v179, ev179, iv179, h⟩ := wx_rI_ok h
                      refine wx_iald hx hb hC.1 Z (o := 7) (k := 0) (n := 4) rfl rfl iv179 dX5_count_179 ev179 ?_
                      obtain ⟨rfl, rfl⟩ := wx_ret_ok h
                      refine W.widen (k := mc) (n := 6464 * mc) (by omega) (by omega) ?_
                      exact W.iret hx hb hr (fun t ht hW => ⟨rfl, ⟨_, by rw [ht]; exact Z⟩, hS.F ht⟩) hS.2.2 dX5_count_180
                    · replace h := wx_iff c1_9 h
                      by_cases c1_10 : x1 = 10
                      · replace h := wx_ift c1_10 h
                        refine lv_tableIn (off := 167) (tgt := 168) hx hb dX5_count_1 (by rw [c1_10]; decide) (by rw [c1_10]; decide) (by rw [c1_10]; rfl) (by decide) ?_
                        refine lv_aload_n hx hb dX5_count_168 rfl (lv_at hl 0 rfl) ?_
                        refine wx_get (own := RX5) hx hb hts i_X5_count_5 hown hC.1 Z (o := 11) (ci := 5) rfl (rfl : vwCl[5]? = some (RX5, TX5, 7)) 0 (by decide) (hts _ k_X5_count_w0) (fun _ h9 => h9) (f := 107) rfl rfl dX5_count_169 ?_
                        refine wx_getN (own := RX5) hx hb hts i_X5_count_0 hown hC.1 Z (o := 7) (ci := 0) rfl (rfl : vwCl[0]? = some (RX0, TX0, 13)) 0 (by decide) (wx_nst hC 3 rfl rfl) (fun _ h9 => h9) (f := 0) rfl rfl dX5_count_172 ?_
                        refine lv_iload_n hx hb dX5_count_175 rfl (lv_at hl 1 rfl) ?_
                        refine lv_bipush (v := 9) hx hb dX5_count_176 (by decide) ?_
                        refine lv_isub hx hb dX5_count_178 ?_
                        obtain ⟨v179, ev179, iv179, h⟩ := wx_rI_ok h
                        refine wx_iald hx hb hC.1 Z (o := 7) (k := 0) (n := 4) rfl rfl iv179 dX5_count_179 ev179 ?_
                        obtain ⟨rfl, rfl⟩ := wx_ret_ok h
                        refine W.widen (k := mc) (n := 6464 * mc) (by omega) (by omega) ?_
                        exact W.iret hx hb hr (fun t ht hW => ⟨rfl, ⟨_, by rw [ht]; exact Z⟩, hS.F ht⟩) hS.2.2 dX5_count_180
                      · replace h := wx_iff c1_10 h
                        by_cases c1_11 : x1 = 11
                        · replace h := wx_ift c1_11 h
                          refine lv_tableIn (off := 167) (tgt := 168) hx hb dX5_count_1 (by rw [c1_11]; decide) (by rw [c1_11]; decide) (by rw [c1_11]; rfl) (by decide) ?_
                          refine lv_aload_n hx hb dX5_count_168 rfl (lv_at hl 0 rfl) ?_
                          refine wx_get (own := RX5) hx hb hts i_X5_count_5 hown hC.1 Z (o := 11) (ci := 5) rfl (rfl : vwCl[5]? = some (RX5, TX5, 7)) 0 (by decide) (hts _ k_X5_count_w0) (fun _ h9 => h9) (f := 107) rfl rfl dX5_count_169 ?_
                          refine wx_getN (own := RX5) hx hb hts i_X5_count_0 hown hC.1 Z (o := 7) (ci := 0) rfl (rfl : vwCl[0]? = some (RX0, TX0, 13)) 0 (by decide) (wx_nst hC 3 rfl rfl) (fun _ h9 => h9) (f := 0) rfl rfl dX5_count_172 ?_
                          refine lv_iload_n hx hb dX5_count_175 rfl (lv_at hl 1 rfl) ?_
                          refine lv_bipush (v := 9) hx hb dX5_count_176 (by decide) ?_
                          refine lv_isub hx hb dX5_count_178 ?_
                          obtain ⟨v179, ev179, iv179, h⟩ := wx_rI_ok h
                          refine wx_iald hx hb hC.1 Z (o := 7) (k := 0) (n := 4) rfl rfl iv179 dX5_count_179 ev179 ?_
                          obtain ⟨rfl, rfl⟩ := wx_ret_ok h
                          refine W.widen (k := mc) (n := 6464 * mc) (by omega) (by omega) ?_
                          exact W.iret hx hb hr (fun t ht hW => ⟨rfl, ⟨_, by rw [ht]; exact Z⟩, hS.F ht⟩) hS.2.2 dX5_count_180
                        · replace h := wx_iff c1_11 h
                          by_cases c1_12 : x1 = 12
                          · replace h := wx_ift c1_12 h
                            refine lv_tableIn (off := 167) (tgt := 168) hx hb dX5_count_1 (by rw [c1_12]; decide) (by rw [c1_12]; decide) (by rw [c1_12]; rfl) (by decide) ?_
                            refine lv_aload_n hx hb dX5_count_168 rfl (lv_at hl 0 rfl) ?_
                            refine wx_get (own := RX5) hx hb hts i_X5_count_5 hown hC.1 Z (o := 11) (ci := 5) rfl (rfl : vwCl[5]? = some (RX5, TX5, 7)) 0 (by decide) (hts _ k_X5_count_w0) (fun _ h9 => h9) (f := 107) rfl rfl dX5_count_169 ?_
                            refine wx_getN (own := RX5) hx hb hts i_X5_count_0 hown hC.1 Z (o := 7) (ci := 0) rfl (rfl : vwCl[0]? = some (RX0, TX0, 13)) 0 (by decide) (wx_nst hC 3 rfl rfl) (fun _ h9 => h9) (f := 0) rfl rfl dX5_count_172 ?_
                            refine lv_iload_n hx hb dX5_count_175 rfl (lv_at hl 1 rfl) ?_
                            refine lv_bipush (v := 9) hx hb dX5_count_176 (by decide) ?_
                            refine lv_isub hx hb dX5_count_178 ?_
                            obtain ⟨v179, ev179, iv179, h⟩ := wx_rI_ok h
                            refine wx_iald hx hb hC.1 Z (o := 7) (k := 0) (n := 4) rfl rfl iv179 dX5_count_179 ev179 ?_
                            obtain ⟨rfl, rfl⟩ := wx_ret_ok h
                            refine W.widen (k := mc) (n := 6464 * mc) (by omega) (by omega) ?_
                            exact W.iret hx hb hr (fun t ht hW => ⟨rfl, ⟨_, by rw [ht]; exact Z⟩, hS.F ht⟩) hS.2.2 dX5_count_180
                          · replace h := wx_iff c1_12 h
                            by_cases c1_13 : x1 = 13
                            · replace h := wx_ift c1_13 h
                              refine lv_tableIn (off := 180) (tgt := 181) hx hb dX5_count_1 (by rw [c1_13]; decide) (by rw [c1_13]; decide) (by rw [c1_13]; rfl) (by decide) ?_
                              refine lv_aload_n hx hb dX5_count_181 rfl (lv_at hl 0 rfl) ?_
                              refine wx_get (own := RX5) hx hb hts i_X5_count_5 hown hC.1 Z (o := 11) (ci := 5) rfl (rfl : vwCl[5]? = some (RX5, TX5, 7)) 4 (by decide) (hts _ k_X5_count_w16) (fun _ h9 => h9) (f := 115) rfl rfl dX5_count_182 ?_
                              refine wx_getN (own := RX5) hx hb hts i_X5_count_2 hown hC.1 Z (o := 15) (ci := 2) rfl (rfl : vwCl[2]? = some (RX2, TX2, 2)) 1 (by decide) (wx_nst hC 26 rfl rfl) (fun _ h9 => h9) (f := 1) rfl rfl dX5_count_185 ?_
                              obtain ⟨rfl, rfl⟩ := wx_ret_ok h
                              refine W.widen (k := mc) (n := 6464 * mc) (by omega) (by omega) ?_
                              exact W.iret hx hb hr (fun t ht hW => ⟨rfl, ⟨_, by rw [ht]; exact Z⟩, hS.F ht⟩) hS.2.2 dX5_count_188
                            · replace h := wx_iff c1_13 h
                              by_cases c1_14 : x1 = 14
                              · replace h := wx_ift c1_14 h
                                refine lv_tableIn (off := 188) (tgt := 189) hx hb dX5_count_1 (by rw [c1_14]; decide) (by rw [c1_14]; decide) (by rw [c1_14]; rfl) (by decide) ?_
                                refine lv_aload_n hx hb dX5_count_189 rfl (lv_at hl 0 rfl) ?_
                                refine wx_get (own := RX5) hx hb hts i_X5_count_5 hown hC.1 Z (o := 11) (ci := 5) rfl (rfl : vwCl[5]? = some (RX5, TX5, 7)) 3 (by decide) (hts _ k_X5_count_w17) (fun _ h9 => h9) (f := 114) rfl rfl dX5_count_190 ?_
                                refine wx_getN (own := RX5) hx hb hts i_X5_count_3 hown hC.1 Z (o := 14) (ci := 3) rfl (rfl : vwCl[3]? = some (RX3, TX3, 2)) 1 (by decide) (wx_nst hC 24 rfl rfl) (fun _ h9 => h9) (f := 1) rfl rfl dX5_count_193 ?_
                                obtain ⟨rfl, rfl⟩ := wx_ret_ok h
                                refine W.widen (k := mc) (n := 6464 * mc) (by omega) (by omega) ?_
                                exact W.iret hx hb hr (fun t ht hW => ⟨rfl, ⟨_, by rw [ht]; exact Z⟩, hS.F ht⟩) hS.2.2 dX5_count_196
                              · replace h := wx_iff c1_14 h
                                have n1_0 := wx_ni c1_0
                                have n1_1 := wx_ni c1_1
                                have n1_2 := wx_ni c1_2
                                have n1_3 := wx_ni c1_3
                                have n1_4 := wx_ni c1_4
                                have n1_5 := wx_ni c1_5
                                have n1_6 := wx_ni c1_6
                                have n1_7 := wx_ni c1_7
                                have n1_8 := wx_ni c1_8
                                have n1_9 := wx_ni c1_9
                                have n1_10 := wx_ni c1_10
                                have n1_11 := wx_ni c1_11
                                have n1_12 := wx_ni c1_12
                                have n1_13 := wx_ni c1_13
                                have n1_14 := wx_ni c1_14
                                rw [show (0 : Int32).toInt = 0 from by decide] at n1_0
                                rw [show (1 : Int32).toInt = 1 from by decide] at n1_1
                                rw [show (2 : Int32).toInt = 2 from by decide] at n1_2
                                rw [show (3 : Int32).toInt = 3 from by decide] at n1_3
                                rw [show (4 : Int32).toInt = 4 from by decide] at n1_4
                                rw [show (5 : Int32).toInt = 5 from by decide] at n1_5
                                rw [show (6 : Int32).toInt = 6 from by decide] at n1_6
                                rw [show (7 : Int32).toInt = 7 from by decide] at n1_7
                                rw [show (8 : Int32).toInt = 8 from by decide] at n1_8
                                rw [show (9 : Int32).toInt = 9 from by decide] at n1_9
                                rw [show (10 : Int32).toInt = 10 from by decide] at n1_10
                                rw [show (11 : Int32).toInt = 11 from by decide] at n1_11
                                rw [show (12 : Int32).toInt = 12 from by decide] at n1_12
                                rw [show (13 : Int32).toInt = 13 from by decide] at n1_13
                                rw [show (14 : Int32).toInt = 14 from by decide] at n1_14
                                refine lv_tableOut (tgt := 197) hx hb dX5_count_1 (by omega) (by decide) ?_
                                refine lv_bipush (v := (-2)) hx hb dX5_count_197 (by decide) ?_
                                obtain ⟨rfl, rfl⟩ := wx_ret_ok h
                                refine W.widen (k := mc) (n := 6464 * mc) (by omega) (by omega) ?_
                                exact W.iret hx hb hr (fun t ht hW => ⟨rfl, ⟨_, by rw [ht]; exact Z⟩, hS.F ht⟩) hS.2.2 dX5_count_199
set_option maxRecDepth 20000 in
theorem c_X5_count (l : Launch) {D : va_G} {ad : Nat → Nat → Nat} {rd : Nat → Nat} {ca : Nat → ClassId} {A : Nat → Prop} {σ : wx_St}    {x1 : Int32} {r : Int32} {σ' : wx_St} (h : f_X5_count x1 σ = some (r, σ')) : wx_MA l yX5_count wsX5_count 6 152 D ad rd ca A [.ref (ad 11 99), .int x1] σ (some (.int r)) σ' := by
  refine Met.ofW (cc := cX5_count) (maxL := 2) (ret := (some .int)) (by decide +kernel) rfl ?_
  intro p e s m args below meth c s₁ B0 hml hv
  obtain ⟨rfl, hC, Z, hA⟩ := hv
  have hl := lv_entry ([.ref (ad 11 99), .int x1]) (n := 2) (Nat.le_of_ble_eq_true rfl)
  rw [lg_entry_eq]
  generalize (lg_sl ([.ref (ad 11 99), .int x1]) ++ List.replicate (2 - (lg_sl ([.ref (ad 11 99), .int x1])).length) Slot.unset).toArray = ls at hl ⊢
  exact b_X5_count_0 ⟨B0.exec, B0.bytes, hml, B0.returns, atoms_spec (ws := wsX5_count) B0.pre, findClass_of_methodNamed B0.named, B0.notSynchronized, hC, hA⟩  (k := 0) (by have hm := m_X5_count_0 h; omega) h Z va_S.rf hl
theorem i_X5_fault_5 : ∀ w ∈ wsX50, w ∈ wsX5_fault := by decide +kernel
theorem k_X5_fault_w0 : Cond.fieldLink RX5 36 "WarmProbes" "pad" "LWarmProbes$Pad;" ∈ wsX5_fault := by decide +kernel
theorem k_X5_fault_w1 : Cond.initialized RX2 ∈ wsX5_fault := by decide +kernel
theorem k_X5_fault_w2 : Cond.instanceMethod yX2_firstFault ∈ wsX5_fault := by decide +kernel
theorem k_X5_fault_w3 : Cond.selects RX2 yX2_firstFault yX2_firstFault ∈ wsX5_fault := by decide +kernel
set_option maxRecDepth 20000 in
set_option maxHeartbeats 4000000 in
theorem b_X5_fault_0 (B : wx_B p s m args meth c cX5_fault 1 (some .int) wsX5_fault RX5 D ad ca A)    {r : Int32} {σ : wx_St}     (h : f_X5_fault σ = some r) {H : Heap} {locs : List Loc} (Z : wx_Z D ad rd ca A σ H) (hS : va_S A s.heap H locs) {ls : Array Slot} (hl : lv_has ls 1 [(0, .ref (ad 11 99))]) : W p l e ({ frames := 8, cells := 0, slots := 0, locals := 177 } : Room) s m args below meth c H locs 0 0 (MQ below (wx_Q D ad rd ca A (some (.int r)) σ) args s 0 0 A) (F0 m 0 ls []) := by
  obtain ⟨hx, hb, hml, hr, hts, hown, hlk, hC, hA⟩ := id B
  unfold f_X5_fault at h
  refine lv_aload_n hx hb dX5_fault_0 rfl (lv_at hl 0 rfl) ?_
  refine wx_get (own := RX5) hx hb hts i_X5_fault_5 hown hC.1 Z (o := 11) (ci := 5) rfl (rfl : vwCl[5]? = some (RX5, TX5, 7)) 4 (by decide) (hts _ k_X5_fault_w0) (fun _ h9 => h9) (f := 115) rfl rfl dX5_fault_1 ?_
  obtain ⟨v4, hc4, h⟩ := wx_o_ok h
  refine wx_call (va_runVN (As := []) (rest := []) ⟨hx, hb, hml, hown, hts⟩ (c_X2_firstFault l (D := D) (ad := ad) (rd := rd) (ca := ca) (A := A) (σ := σ) hc4) ⟨va_cnB 0 hts gX5_fault_X2_firstFault_n223 rfl rfl rfl (hC.1.2.1 _ (List.mem_of_getElem? (i := 72) rfl)) (hts _ k_X5_fault_w1) (by decide +kernel) ⟨Nat.le_of_ble_eq_true rfl, Nat.le_of_ble_eq_true rfl⟩, hts _ k_X5_fault_w2, hts _ k_X5_fault_w3⟩ (wx_preV hC Z hS hA rfl (rfl : vwCl[2]? = some (RX2, TX2, 2))) rfl rfl hl.1 rfl (lv_room (Nat.le_of_ble_eq_true rfl)) dX5_fault_4 ⟨Nat.zero_le _, Nat.zero_le _⟩) hS (fun H locs Z hS => ?_)
  obtain rfl := Option.some.inj h
  exact W.iret hx hb hr (fun t ht hW => ⟨rfl, by rw [ht]; exact Z, hS.F ht⟩) hS.2.2 dX5_fault_7
set_option maxRecDepth 20000 in
theorem c_X5_fault (l : Launch) {D : va_G} {ad : Nat → Nat → Nat} {rd : Nat → Nat} {ca : Nat → ClassId} {A : Nat → Prop} {σ : wx_St}     {r : Int32} (h : f_X5_fault σ = some r) : wx_M l yX5_fault wsX5_fault 8 177 D ad rd ca A [.ref (ad 11 99)] σ (some (.int r)) σ := by
  refine Met.ofW (cc := cX5_fault) (maxL := 1) (ret := (some .int)) (by decide +kernel) rfl ?_
  intro p e s m args below meth c s₁ B0 hml hv
  obtain ⟨rfl, hC, Z, hA⟩ := hv
  have hl := lv_entry ([.ref (ad 11 99)]) (n := 1) (Nat.le_of_ble_eq_true rfl)
  rw [lg_entry_eq]
  generalize (lg_sl ([.ref (ad 11 99)]) ++ List.replicate (1 - (lg_sl ([.ref (ad 11 99)])).length) Slot.unset).toArray = ls at hl ⊢
  exact b_X5_fault_0 ⟨B0.exec, B0.bytes, hml, B0.returns, atoms_spec (ws := wsX5_fault) B0.pre, findClass_of_methodNamed B0.named, B0.notSynchronized, hC, hA⟩   h Z va_S.rf hl
theorem i_X5_feed_5 : ∀ w ∈ wsX50, w ∈ wsX5_feed := by decide +kernel
theorem k_X5_feed_w0 : Cond.fieldLink RX5 29 "WarmProbes" "past" "LWarmProbes$Past;" ∈ wsX5_feed := by decide +kernel
theorem k_X5_feed_w1 : Cond.fieldLink RX5 10 "WarmProbes" "board" "LWarmProbes$Board;" ∈ wsX5_feed := by decide +kernel
theorem k_X5_feed_w2 : Cond.initialized RX3 ∈ wsX5_feed := by decide +kernel
theorem k_X5_feed_w3 : Cond.instanceMethod yX3_prepare ∈ wsX5_feed := by decide +kernel
theorem k_X5_feed_w4 : Cond.selects RX3 yX3_prepare yX3_prepare ∈ wsX5_feed := by decide +kernel
theorem k_X5_feed_w5 : Cond.initialized RX0 ∈ wsX5_feed := by decide +kernel
theorem k_X5_feed_w6 : Cond.instanceMethod yX0_turnPair ∈ wsX5_feed := by decide +kernel
theorem k_X5_feed_w7 : Cond.selects RX0 yX0_turnPair yX0_turnPair ∈ wsX5_feed := by decide +kernel
theorem k_X5_feed_w8 : Cond.instanceMethod yX3_kept ∈ wsX5_feed := by decide +kernel
theorem k_X5_feed_w9 : Cond.selects RX3 yX3_kept yX3_kept ∈ wsX5_feed := by decide +kernel
set_option maxRecDepth 20000 in
set_option maxHeartbeats 4000000 in
theorem b_X5_feed_0 (B : wx_B p s m args meth c cX5_feed 3 (some .int) wsX5_feed RX5 D ad ca A)    {r : Int32} {σ' : wx_St}  {x1 : Int32} {x2 : Int32} {σ : wx_St}  (h : f_X5_feed x1 x2 σ = some (r, σ')) {H : Heap} {locs : List Loc} (Z : wx_Z D ad rd ca A σ H) (hS : va_S A s.heap H locs) {ls : Array Slot} (hl : lv_has ls 3 [(0, .ref (ad 11 99)), (1, .int x1), (2, .int x2)]) : W p l e ({ frames := 3, cells := 0, slots := 0, locals := 68 } : Room) s m args below meth c H locs 0 0 (MQ below (wx_Q D ad rd ca A (some (.int r)) σ') args s 0 0 A) (F0 m 0 ls []) := by
  obtain ⟨hx, hb, hml, hr, hts, hown, hlk, hC, hA⟩ := id B
  unfold f_X5_feed at h
  refine lv_aload_n hx hb dX5_feed_0 rfl (lv_at hl 0 rfl) ?_
  refine wx_get (own := RX5) hx hb hts i_X5_feed_5 hown hC.1 Z (o := 11) (ci := 5) rfl (rfl : vwCl[5]? = some (RX5, TX5, 7)) 3 (by decide) (hts _ k_X5_feed_w0) (fun _ h9 => h9) (f := 114) rfl rfl dX5_feed_1 ?_
  refine lv_aload_n hx hb dX5_feed_4 rfl (lv_at hl 0 rfl) ?_
  refine wx_get (own := RX5) hx hb hts i_X5_feed_5 hown hC.1 Z (o := 11) (ci := 5) rfl (rfl : vwCl[5]? = some (RX5, TX5, 7)) 0 (by decide) (hts _ k_X5_feed_w1) (fun _ h9 => h9) (f := 107) rfl rfl dX5_feed_5 ?_
  obtain ⟨v8, σ8, hc8, h⟩ := wx_b_ok h
  refine wx_call (va_runVN (As := [.ref (ad 7 99)]) (rest := []) ⟨hx, hb, hml, hown, hts⟩ (c_X3_prepare l (D := D) (ad := ad) (rd := rd) (ca := ca) (A := A) (σ := σ) (b1 := 7) (by decide : 7 < 11) hc8) ⟨va_cnB 1 hts gX5_feed_X3_prepare_n48 rfl rfl rfl (hC.1.2.1 _ (List.mem_of_getElem? (i := 27) rfl)) (hts _ k_X5_feed_w2) (by decide +kernel) ⟨Nat.le_of_ble_eq_true rfl, Nat.le_of_ble_eq_true rfl⟩, hts _ k_X5_feed_w3, hts _ k_X5_feed_w4⟩ (wx_preV hC Z hS hA rfl (rfl : vwCl[3]? = some (RX3, TX3, 2))) rfl rfl hl.1 rfl (lv_room (Nat.le_of_ble_eq_true rfl)) dX5_feed_8 ⟨Nat.zero_le _, Nat.zero_le _⟩) hS (fun H locs Z hS => ?_)
  refine lv_aload_n hx hb dX5_feed_11 rfl (lv_at hl 0 rfl) ?_
  refine wx_get (own := RX5) hx hb hts i_X5_feed_5 hown hC.1 Z (o := 11) (ci := 5) rfl (rfl : vwCl[5]? = some (RX5, TX5, 7)) 3 (by decide) (hts _ k_X5_feed_w0) (fun _ h9 => h9) (f := 114) rfl rfl dX5_feed_12 ?_
  refine lv_aload_n hx hb dX5_feed_15 rfl (lv_at hl 0 rfl) ?_
  refine wx_get (own := RX5) hx hb hts i_X5_feed_5 hown hC.1 Z (o := 11) (ci := 5) rfl (rfl : vwCl[5]? = some (RX5, TX5, 7)) 0 (by decide) (hts _ k_X5_feed_w1) (fun _ h9 => h9) (f := 107) rfl rfl dX5_feed_16 ?_
  refine lv_iload_n hx hb dX5_feed_19 rfl (lv_at hl 1 rfl) ?_
  refine lv_iload_n hx hb dX5_feed_20 rfl (lv_at hl 2 rfl) ?_
  obtain ⟨v21, σ21, hc21, h⟩ := wx_b_ok h
  refine wx_call (va_runVN (As := [.int x1, .int x2]) (rest := [.ref (ad 14 99)]) ⟨hx, hb, hml, hown, hts⟩ (c_X0_turnPair l (D := D) (ad := ad) (rd := rd) (ca := ca) (A := A) (σ := σ8) (o := 7) (by decide : 7 < 11) hc21) ⟨va_cnB 2 hts gX5_feed_X0_turnPair_n70 rfl rfl rfl (hC.1.2.1 _ (List.mem_of_getElem? (i := 40) rfl)) (hts _ k_X5_feed_w5) (by decide +kernel) ⟨Nat.le_of_ble_eq_true rfl, Nat.le_of_ble_eq_true rfl⟩, hts _ k_X5_feed_w6, hts _ k_X5_feed_w7⟩ (wx_preV hC Z hS hA rfl (rfl : vwCl[0]? = some (RX0, TX0, 13))) rfl rfl hl.1 rfl (lv_room (Nat.le_of_ble_eq_true rfl)) dX5_feed_21 ⟨Nat.zero_le _, Nat.zero_le _⟩) hS (fun H locs Z hS => ?_)
  obtain ⟨v24, σ24, hc24, h⟩ := wx_b_ok h
  refine wx_call (va_runVN (As := [.int v21]) (rest := []) ⟨hx, hb, hml, hown, hts⟩ (c_X3_kept l (D := D) (ad := ad) (rd := rd) (ca := ca) (A := A) (σ := σ21) hc24) ⟨va_cnB 1 hts gX5_feed_X3_kept_n56 rfl rfl rfl (hC.1.2.1 _ (List.mem_of_getElem? (i := 32) rfl)) (hts _ k_X5_feed_w2) (by decide +kernel) ⟨Nat.le_of_ble_eq_true rfl, Nat.le_of_ble_eq_true rfl⟩, hts _ k_X5_feed_w8, hts _ k_X5_feed_w9⟩ (wx_preV hC Z hS hA rfl (rfl : vwCl[3]? = some (RX3, TX3, 2))) rfl rfl hl.1 rfl (lv_room (Nat.le_of_ble_eq_true rfl)) dX5_feed_24 ⟨Nat.zero_le _, Nat.zero_le _⟩) hS (fun H locs Z hS => ?_)
  obtain ⟨rfl, rfl⟩ := wx_ret_ok h
  exact W.iret hx hb hr (fun t ht hW => ⟨rfl, by rw [ht]; exact Z, hS.F ht⟩) hS.2.2 dX5_feed_27
set_option maxRecDepth 20000 in
theorem c_X5_feed (l : Launch) {D : va_G} {ad : Nat → Nat → Nat} {rd : Nat → Nat} {ca : Nat → ClassId} {A : Nat → Prop} {σ : wx_St}    {x1 : Int32} {x2 : Int32} {r : Int32} {σ' : wx_St} (h : f_X5_feed x1 x2 σ = some (r, σ')) : wx_M l yX5_feed wsX5_feed 3 68 D ad rd ca A [.ref (ad 11 99), .int x1, .int x2] σ (some (.int r)) σ' := by
  refine Met.ofW (cc := cX5_feed) (maxL := 3) (ret := (some .int)) (by decide +kernel) rfl ?_
  intro p e s m args below meth c s₁ B0 hml hv
  obtain ⟨rfl, hC, Z, hA⟩ := hv
  have hl := lv_entry ([.ref (ad 11 99), .int x1, .int x2]) (n := 3) (Nat.le_of_ble_eq_true rfl)
  rw [lg_entry_eq]
  generalize (lg_sl ([.ref (ad 11 99), .int x1, .int x2]) ++ List.replicate (3 - (lg_sl ([.ref (ad 11 99), .int x1, .int x2])).length) Slot.unset).toArray = ls at hl ⊢
  exact b_X5_feed_0 ⟨B0.exec, B0.bytes, hml, B0.returns, atoms_spec (ws := wsX5_feed) B0.pre, findClass_of_methodNamed B0.named, B0.notSynchronized, hC, hA⟩   h Z va_S.rf hl
theorem i_X5_mean_0 : ∀ w ∈ wsX00, w ∈ wsX5_mean := by decide +kernel
theorem i_X5_mean_5 : ∀ w ∈ wsX50, w ∈ wsX5_mean := by decide +kernel
theorem k_X5_mean_w0 : Cond.constantDouble RX5 196 (4634204016564240384) ∈ wsX5_mean := by decide +kernel
theorem k_X5_mean_w1 : Cond.fieldLink RX5 10 "WarmProbes" "board" "LWarmProbes$Board;" ∈ wsX5_mean := by decide +kernel
set_option maxRecDepth 20000 in
set_option maxHeartbeats 4000000 in
theorem b_X5_mean_4 (B : wx_B p s m args meth c cX5_mean 4 (some .long) wsX5_mean RX5 D ad ca A)    {r : Int64} {σ : wx_St}   :
    ∀ {n : Nat} {x1 : UInt64} {x3 : Int32}   (h : f_X5_mean_4 n x1 x3 σ = some r) {H : Heap} {locs : List Loc} (Z : wx_Z D ad rd ca A σ H) (hS : va_S A s.heap H locs) {ls : Array Slot} (hl : lv_has ls 4 [(0, .ref (ad 11 99)), (1, .double x1), (3, .int x3)]), W p l e ({ frames := 1, cells := 0, slots := 0, locals := 27 } : Room) s m args below meth c H locs 0 0 (MQ below (wx_Q D ad rd ca A (some (.long r)) σ) args s 0 0 A) (F0 m 4 ls []) := by
  obtain ⟨hx, hb, hml, hr, hts, hown, hlk, hC, hA⟩ := id B
  intro n
  induction n with
  | zero => intro x1 x3   h H locs Z hS ls hl; exact wx_no h
  | succ n ih =>
    intro x1 x3   h H locs Z hS ls hl
    rw [f_X5_mean_4] at h
    refine lv_iload_n hx hb dX5_mean_4 rfl (lv_at hl 2 rfl) ?_
    refine lv_bipush (v := 64) hx hb dX5_mean_5 (by decide) ?_
    refine lv_icmp_ge (tgt := 29) hx hb dX5_mean_7 (by decide) (fun c7 => ?_) (fun c7 => ?_)
    · replace h := wx_ift c7 h
      refine lv_dload_n hx hb dX5_mean_29 rfl (lv_at hl 1 rfl) ?_
      refine lv_ldc2d hx hb hown (hts _ k_X5_mean_w0) dX5_mean_30 ?_
      obtain ⟨v33, ev33, nv33, h⟩ := wx_d_ok h
      refine wx_ddiv hx hb dX5_mean_33 ev33 nv33 ?_
      obtain ⟨v34, hc34, h⟩ := wx_o_ok h
      refine wx_call (va_runS (As := [.double v33]) (rest := []) ⟨hx, hb, hml, hown, hts⟩ (c_X5_bitsOfDouble l (D := D) (ad := ad) (rd := rd) (ca := ca) (A := A) (σ := σ) hc34) (va_cwS 1 hts gX5_mean_X5_bitsOfDouble rfl rfl rfl (by decide +kernel) ⟨Nat.le_of_ble_eq_true rfl, Nat.le_of_ble_eq_true rfl⟩) (wx_preS hC Z hS hA) rfl rfl hl.1 rfl (lv_room (Nat.le_of_ble_eq_true rfl)) dX5_mean_34 ⟨Nat.zero_le _, Nat.zero_le _⟩) hS (fun H locs Z hS => ?_)
      obtain rfl := Option.some.inj h
      exact W.lret hx hb hr (fun t ht hW => ⟨rfl, by rw [ht]; exact Z, hS.F ht⟩) hS.2.2 dX5_mean_37
    · replace h := wx_iff c7 h
      refine lv_dload_n hx hb dX5_mean_10 rfl (lv_at hl 1 rfl) ?_
      refine lv_aload_n hx hb dX5_mean_11 rfl (lv_at hl 0 rfl) ?_
      refine wx_get (own := RX5) hx hb hts i_X5_mean_5 hown hC.1 Z (o := 11) (ci := 5) rfl (rfl : vwCl[5]? = some (RX5, TX5, 7)) 0 (by decide) (hts _ k_X5_mean_w1) (fun _ h9 => h9) (f := 107) rfl rfl dX5_mean_12 ?_
      refine wx_getN (own := RX5) hx hb hts i_X5_mean_0 hown hC.1 Z (o := 7) (ci := 0) rfl (rfl : vwCl[0]? = some (RX0, TX0, 13)) 7 (by decide) (wx_nst hC 11 rfl rfl) (fun _ h9 => h9) (f := 0) rfl rfl dX5_mean_15 ?_
      refine lv_iload_n hx hb dX5_mean_18 rfl (lv_at hl 2 rfl) ?_
      obtain ⟨v19, ev19, iv19, h⟩ := wx_rF_ok h
      refine wx_fald hx hb hC.1 Z (o := 7) (k := 7) (n := 64) rfl rfl iv19 dX5_mean_19 ev19 ?_
      obtain ⟨v20, ev20, nv20, h⟩ := wx_d_ok h
      refine wx_f2d hx hb dX5_mean_20 ev20 nv20 ?_
      obtain ⟨v21, ev21, nv21, h⟩ := wx_d_ok h
      refine wx_dadd hx hb dX5_mean_21 ev21 nv21 ?_
      refine lv_dstore_n (lv' := [(1, .double v21), (0, .ref (ad 11 99)), (3, .int x3)]) hx hb dX5_mean_22 rfl hl (by decide) rfl (fun ls hl => ?_)
      refine lv_iinc (v := x3 + 1) (lv' := [(3, .int (x3 + 1)), (1, .double v21), (0, .ref (ad 11 99))]) hx hb dX5_mean_23 hl (k := 2) rfl rfl (by decide) rfl (fun ls hl => ?_)
      refine lv_goto (tgt := 4) hx hb dX5_mean_26 (by decide) ?_
      exact ih h Z hS (lv_sub hl [2, 1, 0] rfl)
set_option maxRecDepth 20000 in
set_option maxHeartbeats 4000000 in
theorem b_X5_mean_0 (B : wx_B p s m args meth c cX5_mean 4 (some .long) wsX5_mean RX5 D ad ca A)    {r : Int64} {σ : wx_St}     (h : f_X5_mean σ = some r) {H : Heap} {locs : List Loc} (Z : wx_Z D ad rd ca A σ H) (hS : va_S A s.heap H locs) {ls : Array Slot} (hl : lv_has ls 4 [(0, .ref (ad 11 99))]) : W p l e ({ frames := 1, cells := 0, slots := 0, locals := 27 } : Room) s m args below meth c H locs 0 0 (MQ below (wx_Q D ad rd ca A (some (.long r)) σ) args s 0 0 A) (F0 m 0 ls []) := by
  obtain ⟨hx, hb, hml, hr, hts, hown, hlk, hC, hA⟩ := id B
  unfold f_X5_mean at h
  refine lv_dconst0 hx hb dX5_mean_0 ?_
  refine lv_dstore_n (lv' := [(1, .double FP.dconst0), (0, .ref (ad 11 99))]) hx hb dX5_mean_1 rfl hl (by decide) rfl (fun ls hl => ?_)
  refine lv_iconst (v := 0) hx hb dX5_mean_2 (by decide) ?_
  refine lv_istore_n (lv' := [(3, .int 0), (1, .double FP.dconst0), (0, .ref (ad 11 99))]) hx hb dX5_mean_3 rfl hl (by decide) rfl (fun ls hl => ?_)
  exact b_X5_mean_4 B h Z hS (lv_sub hl [2, 1, 0] rfl)
set_option maxRecDepth 20000 in
theorem c_X5_mean (l : Launch) {D : va_G} {ad : Nat → Nat → Nat} {rd : Nat → Nat} {ca : Nat → ClassId} {A : Nat → Prop} {σ : wx_St}     {r : Int64} (h : f_X5_mean σ = some r) : wx_M l yX5_mean wsX5_mean 1 27 D ad rd ca A [.ref (ad 11 99)] σ (some (.long r)) σ := by
  refine Met.ofW (cc := cX5_mean) (maxL := 4) (ret := (some .long)) (by decide +kernel) rfl ?_
  intro p e s m args below meth c s₁ B0 hml hv
  obtain ⟨rfl, hC, Z, hA⟩ := hv
  have hl := lv_entry ([.ref (ad 11 99)]) (n := 4) (Nat.le_of_ble_eq_true rfl)
  rw [lg_entry_eq]
  generalize (lg_sl ([.ref (ad 11 99)]) ++ List.replicate (4 - (lg_sl ([.ref (ad 11 99)])).length) Slot.unset).toArray = ls at hl ⊢
  exact b_X5_mean_0 ⟨B0.exec, B0.bytes, hml, B0.returns, atoms_spec (ws := wsX5_mean) B0.pre, findClass_of_methodNamed B0.named, B0.notSynchronized, hC, hA⟩   h Z va_S.rf hl
theorem i_X5_mend_5 : ∀ w ∈ wsX50, w ∈ wsX5_mend := by decide +kernel
theorem k_X5_mend_w0 : Cond.fieldLink RX5 29 "WarmProbes" "past" "LWarmProbes$Past;" ∈ wsX5_mend := by decide +kernel
theorem k_X5_mend_w1 : Cond.fieldLink RX5 10 "WarmProbes" "board" "LWarmProbes$Board;" ∈ wsX5_mend := by decide +kernel
theorem k_X5_mend_w2 : Cond.initialized RX3 ∈ wsX5_mend := by decide +kernel
theorem k_X5_mend_w3 : Cond.instanceMethod yX3_prepare ∈ wsX5_mend := by decide +kernel
theorem k_X5_mend_w4 : Cond.selects RX3 yX3_prepare yX3_prepare ∈ wsX5_mend := by decide +kernel
theorem k_X5_mend_w5 : Cond.initialized RX0 ∈ wsX5_mend := by decide +kernel
theorem k_X5_mend_w6 : Cond.instanceMethod yX0_part ∈ wsX5_mend := by decide +kernel
theorem k_X5_mend_w7 : Cond.selects RX0 yX0_part yX0_part ∈ wsX5_mend := by decide +kernel
theorem k_X5_mend_w8 : Cond.instanceMethod yX3_kept ∈ wsX5_mend := by decide +kernel
theorem k_X5_mend_w9 : Cond.selects RX3 yX3_kept yX3_kept ∈ wsX5_mend := by decide +kernel
set_option maxRecDepth 20000 in
set_option maxHeartbeats 4000000 in
theorem b_X5_mend_0 (B : wx_B p s m args meth c cX5_mend 2 (some .int) wsX5_mend RX5 D ad ca A)    {r : Int32} {σ' : wx_St}  {x1 : Int32} {σ : wx_St}  (h : f_X5_mend x1 σ = some (r, σ')) {H : Heap} {locs : List Loc} (Z : wx_Z D ad rd ca A σ H) (hS : va_S A s.heap H locs) {ls : Array Slot} (hl : lv_has ls 2 [(0, .ref (ad 11 99)), (1, .int x1)]) : W p l e ({ frames := 3, cells := 0, slots := 0, locals := 68 } : Room) s m args below meth c H locs 0 0 (MQ below (wx_Q D ad rd ca A (some (.int r)) σ') args s 0 0 A) (F0 m 0 ls []) := by
  obtain ⟨hx, hb, hml, hr, hts, hown, hlk, hC, hA⟩ := id B
  unfold f_X5_mend at h
  refine lv_aload_n hx hb dX5_mend_0 rfl (lv_at hl 0 rfl) ?_
  refine wx_get (own := RX5) hx hb hts i_X5_mend_5 hown hC.1 Z (o := 11) (ci := 5) rfl (rfl : vwCl[5]? = some (RX5, TX5, 7)) 3 (by decide) (hts _ k_X5_mend_w0) (fun _ h9 => h9) (f := 114) rfl rfl dX5_mend_1 ?_
  refine lv_aload_n hx hb dX5_mend_4 rfl (lv_at hl 0 rfl) ?_
  refine wx_get (own := RX5) hx hb hts i_X5_mend_5 hown hC.1 Z (o := 11) (ci := 5) rfl (rfl : vwCl[5]? = some (RX5, TX5, 7)) 0 (by decide) (hts _ k_X5_mend_w1) (fun _ h9 => h9) (f := 107) rfl rfl dX5_mend_5 ?_
  obtain ⟨v8, σ8, hc8, h⟩ := wx_b_ok h
  refine wx_call (va_runVN (As := [.ref (ad 7 99)]) (rest := []) ⟨hx, hb, hml, hown, hts⟩ (c_X3_prepare l (D := D) (ad := ad) (rd := rd) (ca := ca) (A := A) (σ := σ) (b1 := 7) (by decide : 7 < 11) hc8) ⟨va_cnB 1 hts gX5_mend_X3_prepare_n48 rfl rfl rfl (hC.1.2.1 _ (List.mem_of_getElem? (i := 27) rfl)) (hts _ k_X5_mend_w2) (by decide +kernel) ⟨Nat.le_of_ble_eq_true rfl, Nat.le_of_ble_eq_true rfl⟩, hts _ k_X5_mend_w3, hts _ k_X5_mend_w4⟩ (wx_preV hC Z hS hA rfl (rfl : vwCl[3]? = some (RX3, TX3, 2))) rfl rfl hl.1 rfl (lv_room (Nat.le_of_ble_eq_true rfl)) dX5_mend_8 ⟨Nat.zero_le _, Nat.zero_le _⟩) hS (fun H locs Z hS => ?_)
  refine lv_aload_n hx hb dX5_mend_11 rfl (lv_at hl 0 rfl) ?_
  refine wx_get (own := RX5) hx hb hts i_X5_mend_5 hown hC.1 Z (o := 11) (ci := 5) rfl (rfl : vwCl[5]? = some (RX5, TX5, 7)) 3 (by decide) (hts _ k_X5_mend_w0) (fun _ h9 => h9) (f := 114) rfl rfl dX5_mend_12 ?_
  refine lv_aload_n hx hb dX5_mend_15 rfl (lv_at hl 0 rfl) ?_
  refine wx_get (own := RX5) hx hb hts i_X5_mend_5 hown hC.1 Z (o := 11) (ci := 5) rfl (rfl : vwCl[5]? = some (RX5, TX5, 7)) 0 (by decide) (hts _ k_X5_mend_w1) (fun _ h9 => h9) (f := 107) rfl rfl dX5_mend_16 ?_
  refine lv_iload_n hx hb dX5_mend_19 rfl (lv_at hl 1 rfl) ?_
  obtain ⟨v20, σ20, hc20, h⟩ := wx_b_ok h
  refine wx_call (va_runVN (As := [.int x1]) (rest := [.ref (ad 14 99)]) ⟨hx, hb, hml, hown, hts⟩ (c_X0_part l (D := D) (ad := ad) (rd := rd) (ca := ca) (A := A) (σ := σ8) (o := 7) (by decide : 7 < 11) hc20) ⟨va_cnB 1 hts gX5_mend_X0_part_n67 rfl rfl rfl (hC.1.2.1 _ (List.mem_of_getElem? (i := 39) rfl)) (hts _ k_X5_mend_w5) (by decide +kernel) ⟨Nat.le_of_ble_eq_true rfl, Nat.le_of_ble_eq_true rfl⟩, hts _ k_X5_mend_w6, hts _ k_X5_mend_w7⟩ (wx_preV hC Z hS hA rfl (rfl : vwCl[0]? = some (RX0, TX0, 13))) rfl rfl hl.1 rfl (lv_room (Nat.le_of_ble_eq_true rfl)) dX5_mend_20 ⟨Nat.zero_le _, Nat.zero_le _⟩) hS (fun H locs Z hS => ?_)
  obtain ⟨v23, σ23, hc23, h⟩ := wx_b_ok h
  refine wx_call (va_runVN (As := [.int v20]) (rest := []) ⟨hx, hb, hml, hown, hts⟩ (c_X3_kept l (D := D) (ad := ad) (rd := rd) (ca := ca) (A := A) (σ := σ20) hc23) ⟨va_cnB 1 hts gX5_mend_X3_kept_n56 rfl rfl rfl (hC.1.2.1 _ (List.mem_of_getElem? (i := 32) rfl)) (hts _ k_X5_mend_w2) (by decide +kernel) ⟨Nat.le_of_ble_eq_true rfl, Nat.le_of_ble_eq_true rfl⟩, hts _ k_X5_mend_w8, hts _ k_X5_mend_w9⟩ (wx_preV hC Z hS hA rfl (rfl : vwCl[3]? = some (RX3, TX3, 2))) rfl rfl hl.1 rfl (lv_room (Nat.le_of_ble_eq_true rfl)) dX5_mend_23 ⟨Nat.zero_le _, Nat.zero_le _⟩) hS (fun H locs Z hS => ?_)
  obtain ⟨rfl, rfl⟩ := wx_ret_ok h
  exact W.iret hx hb hr (fun t ht hW => ⟨rfl, by rw [ht]; exact Z, hS.F ht⟩) hS.2.2 dX5_mend_26
set_option maxRecDepth 20000 in
theorem c_X5_mend (l : Launch) {D : va_G} {ad : Nat → Nat → Nat} {rd : Nat → Nat} {ca : Nat → ClassId} {A : Nat → Prop} {σ : wx_St}    {x1 : Int32} {r : Int32} {σ' : wx_St} (h : f_X5_mend x1 σ = some (r, σ')) : wx_M l yX5_mend wsX5_mend 3 68 D ad rd ca A [.ref (ad 11 99), .int x1] σ (some (.int r)) σ' := by
  refine Met.ofW (cc := cX5_mend) (maxL := 2) (ret := (some .int)) (by decide +kernel) rfl ?_
  intro p e s m args below meth c s₁ B0 hml hv
  obtain ⟨rfl, hC, Z, hA⟩ := hv
  have hl := lv_entry ([.ref (ad 11 99), .int x1]) (n := 2) (Nat.le_of_ble_eq_true rfl)
  rw [lg_entry_eq]
  generalize (lg_sl ([.ref (ad 11 99), .int x1]) ++ List.replicate (2 - (lg_sl ([.ref (ad 11 99), .int x1])).length) Slot.unset).toArray = ls at hl ⊢
  exact b_X5_mend_0 ⟨B0.exec, B0.bytes, hml, B0.returns, atoms_spec (ws := wsX5_mend) B0.pre, findClass_of_methodNamed B0.named, B0.notSynchronized, hC, hA⟩   h Z va_S.rf hl
theorem i_X5_ofNet_0 : ∀ w ∈ wsX00, w ∈ wsX5_ofNet := by decide +kernel
theorem i_X5_ofNet_5 : ∀ w ∈ wsX50, w ∈ wsX5_ofNet := by decide +kernel
theorem k_X5_ofNet_w0 : Cond.fieldLink RX5 10 "WarmProbes" "board" "LWarmProbes$Board;" ∈ wsX5_ofNet := by decide +kernel
theorem k_X5_ofNet_w1 : Cond.initialized RX0 ∈ wsX5_ofNet := by decide +kernel
theorem k_X5_ofNet_w2 : Cond.instanceMethod yX0_placesOf ∈ wsX5_ofNet := by decide +kernel
theorem k_X5_ofNet_w3 : Cond.selects RX0 yX0_placesOf yX0_placesOf ∈ wsX5_ofNet := by decide +kernel
theorem k_X5_ofNet_w4 : Cond.instanceMethod yX0_warmthOf ∈ wsX5_ofNet := by decide +kernel
theorem k_X5_ofNet_w5 : Cond.selects RX0 yX0_warmthOf yX0_warmthOf ∈ wsX5_ofNet := by decide +kernel
set_option maxRecDepth 20000 in
set_option maxHeartbeats 4000000 in
theorem b_X5_ofNet_0 (B : wx_B p s m args meth c cX5_ofNet 3 (some .int) wsX5_ofNet RX5 D ad ca A)    {r : Int32} {σ : wx_St}  {x1 : Int32} {x2 : Int32}   (h : f_X5_ofNet x1 x2 σ = some r) {H : Heap} {locs : List Loc} (Z : wx_Z D ad rd ca A σ H) (hS : va_S A s.heap H locs) {ls : Array Slot} (hl : lv_has ls 3 [(0, .ref (ad 11 99)), (1, .int x1), (2, .int x2)]) : W p l e ({ frames := 1, cells := 0, slots := 0, locals := 23 } : Room) s m args below meth c H locs 0 0 (MQ below (wx_Q D ad rd ca A (some (.int r)) σ) args s 0 0 A) (F0 m 0 ls []) := by
  obtain ⟨hx, hb, hml, hr, hts, hown, hlk, hC, hA⟩ := id B
  unfold f_X5_ofNet at h
  refine lv_iload_n hx hb dX5_ofNet_0 rfl (lv_at hl 1 rfl) ?_
  obtain ⟨v1, hc1, h⟩ := wx_o_ok h
  refine wx_call (va_runS (As := [.int x1]) (rest := []) ⟨hx, hb, hml, hown, hts⟩ (c_X5_isNet l (D := D) (ad := ad) (rd := rd) (ca := ca) (A := A) (σ := σ) hc1) (va_cwS 1 hts gX5_ofNet_X5_isNet rfl rfl rfl (by decide +kernel) ⟨Nat.le_of_ble_eq_true rfl, Nat.le_of_ble_eq_true rfl⟩) (wx_preS hC Z hS hA) rfl rfl hl.1 rfl (lv_room (Nat.le_of_ble_eq_true rfl)) dX5_ofNet_1 ⟨Nat.zero_le _, Nat.zero_le _⟩) hS (fun H locs Z hS => ?_)
  refine lv_if_ne (tgt := 9) hx hb dX5_ofNet_4 (by decide) (fun c4 => ?_) (fun c4 => ?_)
  · replace h := wx_iff c4 h
    refine lv_iload_n hx hb dX5_ofNet_9 rfl (lv_at hl 2 rfl) ?_
    by_cases c10_0 : x2 = 0
    · replace h := wx_ift c10_0 h
      refine lv_tableIn (off := 26) (tgt := 36) hx hb dX5_ofNet_10 (by rw [c10_0]; decide) (by rw [c10_0]; decide) (by rw [c10_0]; rfl) (by decide) ?_
      refine lv_aload_n hx hb dX5_ofNet_36 rfl (lv_at hl 0 rfl) ?_
      refine wx_get (own := RX5) hx hb hts i_X5_ofNet_5 hown hC.1 Z (o := 11) (ci := 5) rfl (rfl : vwCl[5]? = some (RX5, TX5, 7)) 0 (by decide) (hts _ k_X5_ofNet_w0) (fun _ h9 => h9) (f := 107) rfl rfl dX5_ofNet_37 ?_
      refine lv_iload_n hx hb dX5_ofNet_40 rfl (lv_at hl 1 rfl) ?_
      obtain ⟨v41, hc41, h⟩ := wx_o_ok h
      refine wx_call (va_runVN (As := [.int x1]) (rest := []) ⟨hx, hb, hml, hown, hts⟩ (c_X0_placesOf l (D := D) (ad := ad) (rd := rd) (ca := ca) (A := A) (σ := σ) (o := 7) (by decide : 7 < 11) hc41) ⟨va_cnB 1 hts gX5_ofNet_X0_placesOf_n160 rfl rfl rfl (hC.1.2.1 _ (List.mem_of_getElem? (i := 59) rfl)) (hts _ k_X5_ofNet_w1) (by decide +kernel) ⟨Nat.le_of_ble_eq_true rfl, Nat.le_of_ble_eq_true rfl⟩, hts _ k_X5_ofNet_w2, hts _ k_X5_ofNet_w3⟩ (wx_preV hC Z hS hA rfl (rfl : vwCl[0]? = some (RX0, TX0, 13))) rfl rfl hl.1 rfl (lv_room (Nat.le_of_ble_eq_true rfl)) dX5_ofNet_41 ⟨Nat.zero_le _, Nat.zero_le _⟩) hS (fun H locs Z hS => ?_)
      obtain rfl := Option.some.inj h
      exact W.iret hx hb hr (fun t ht hW => ⟨rfl, by rw [ht]; exact Z, hS.F ht⟩) hS.2.2 dX5_ofNet_44
    · replace h := wx_iff c10_0 h
      by_cases c10_1 : x2 = 1
      · replace h := wx_ift c10_1 h
        refine lv_tableIn (off := 35) (tgt := 45) hx hb dX5_ofNet_10 (by rw [c10_1]; decide) (by rw [c10_1]; decide) (by rw [c10_1]; rfl) (by decide) ?_
        refine lv_aload_n hx hb dX5_ofNet_45 rfl (lv_at hl 0 rfl) ?_
        refine wx_get (own := RX5) hx hb hts i_X5_ofNet_5 hown hC.1 Z (o := 11) (ci := 5) rfl (rfl : vwCl[5]? = some (RX5, TX5, 7)) 0 (by decide) (hts _ k_X5_ofNet_w0) (fun _ h9 => h9) (f := 107) rfl rfl dX5_ofNet_46 ?_
        refine wx_getN (own := RX5) hx hb hts i_X5_ofNet_0 hown hC.1 Z (o := 7) (ci := 0) rfl (rfl : vwCl[0]? = some (RX0, TX0, 13)) 2 (by decide) (wx_nst hC 5 rfl rfl) (fun _ h9 => h9) (f := 0) rfl rfl dX5_ofNet_49 ?_
        refine lv_iload_n hx hb dX5_ofNet_52 rfl (lv_at hl 1 rfl) ?_
        obtain ⟨v53, ev53, iv53, h⟩ := wx_rI_ok h
        refine wx_iald hx hb hC.1 Z (o := 7) (k := 2) (n := 8) rfl rfl iv53 dX5_ofNet_53 ev53 ?_
        obtain rfl := Option.some.inj h
        exact W.iret hx hb hr (fun t ht hW => ⟨rfl, by rw [ht]; exact Z, hS.F ht⟩) hS.2.2 dX5_ofNet_54
      · replace h := wx_iff c10_1 h
        by_cases c10_2 : x2 = 2
        · replace h := wx_ift c10_2 h
          refine lv_tableIn (off := 45) (tgt := 55) hx hb dX5_ofNet_10 (by rw [c10_2]; decide) (by rw [c10_2]; decide) (by rw [c10_2]; rfl) (by decide) ?_
          refine lv_aload_n hx hb dX5_ofNet_55 rfl (lv_at hl 0 rfl) ?_
          refine wx_get (own := RX5) hx hb hts i_X5_ofNet_5 hown hC.1 Z (o := 11) (ci := 5) rfl (rfl : vwCl[5]? = some (RX5, TX5, 7)) 0 (by decide) (hts _ k_X5_ofNet_w0) (fun _ h9 => h9) (f := 107) rfl rfl dX5_ofNet_56 ?_
          refine lv_iload_n hx hb dX5_ofNet_59 rfl (lv_at hl 1 rfl) ?_
          obtain ⟨v60, hc60, h⟩ := wx_o_ok h
          refine wx_call (va_runVN (As := [.int x1]) (rest := []) ⟨hx, hb, hml, hown, hts⟩ (c_X0_warmthOf l (D := D) (ad := ad) (rd := rd) (ca := ca) (A := A) (σ := σ) (o := 7) (by decide : 7 < 11) hc60) ⟨va_cnB 1 hts gX5_ofNet_X0_warmthOf_n166 rfl rfl rfl (hC.1.2.1 _ (List.mem_of_getElem? (i := 60) rfl)) (hts _ k_X5_ofNet_w1) (by decide +kernel) ⟨Nat.le_of_ble_eq_true rfl, Nat.le_of_ble_eq_true rfl⟩, hts _ k_X5_ofNet_w4, hts _ k_X5_ofNet_w5⟩ (wx_preV hC Z hS hA rfl (rfl : vwCl[0]? = some (RX0, TX0, 13))) rfl rfl hl.1 rfl (lv_room (Nat.le_of_ble_eq_true rfl)) dX5_ofNet_60 ⟨Nat.zero_le _, Nat.zero_le _⟩) hS (fun H locs Z hS => ?_)
          obtain ⟨v63, hc63, h⟩ := wx_o_ok h
          refine wx_call (va_runS (As := [.float v60]) (rest := []) ⟨hx, hb, hml, hown, hts⟩ (c_X5_bitsOfFloat l (D := D) (ad := ad) (rd := rd) (ca := ca) (A := A) (σ := σ) hc63) (va_cwS 1 hts gX5_ofNet_X5_bitsOfFloat rfl rfl rfl (by decide +kernel) ⟨Nat.le_of_ble_eq_true rfl, Nat.le_of_ble_eq_true rfl⟩) (wx_preS hC Z hS hA) rfl rfl hl.1 rfl (lv_room (Nat.le_of_ble_eq_true rfl)) dX5_ofNet_63 ⟨Nat.zero_le _, Nat.zero_le _⟩) hS (fun H locs Z hS => ?_)
          obtain rfl := Option.some.inj h
          exact W.iret hx hb hr (fun t ht hW => ⟨rfl, by rw [ht]; exact Z, hS.F ht⟩) hS.2.2 dX5_ofNet_66
        · replace h := wx_iff c10_2 h
          have n10_0 := wx_ni c10_0
          have n10_1 := wx_ni c10_1
          have n10_2 := wx_ni c10_2
          rw [show (0 : Int32).toInt = 0 from by decide] at n10_0
          rw [show (1 : Int32).toInt = 1 from by decide] at n10_1
          rw [show (2 : Int32).toInt = 2 from by decide] at n10_2
          refine lv_tableOut (tgt := 67) hx hb dX5_ofNet_10 (by omega) (by decide) ?_
          refine lv_bipush (v := (-2)) hx hb dX5_ofNet_67 (by decide) ?_
          obtain rfl := Option.some.inj h
          exact W.iret hx hb hr (fun t ht hW => ⟨rfl, by rw [ht]; exact Z, hS.F ht⟩) hS.2.2 dX5_ofNet_69
  · replace h := wx_ift c4 h
    refine lv_iconst (v := (-1)) hx hb dX5_ofNet_7 (by decide) ?_
    obtain rfl := Option.some.inj h
    exact W.iret hx hb hr (fun t ht hW => ⟨rfl, by rw [ht]; exact Z, hS.F ht⟩) hS.2.2 dX5_ofNet_8
set_option maxRecDepth 20000 in
theorem c_X5_ofNet (l : Launch) {D : va_G} {ad : Nat → Nat → Nat} {rd : Nat → Nat} {ca : Nat → ClassId} {A : Nat → Prop} {σ : wx_St}    {x1 : Int32} {x2 : Int32} {r : Int32} (h : f_X5_ofNet x1 x2 σ = some r) : wx_M l yX5_ofNet wsX5_ofNet 1 23 D ad rd ca A [.ref (ad 11 99), .int x1, .int x2] σ (some (.int r)) σ := by
  refine Met.ofW (cc := cX5_ofNet) (maxL := 3) (ret := (some .int)) (by decide +kernel) rfl ?_
  intro p e s m args below meth c s₁ B0 hml hv
  obtain ⟨rfl, hC, Z, hA⟩ := hv
  have hl := lv_entry ([.ref (ad 11 99), .int x1, .int x2]) (n := 3) (Nat.le_of_ble_eq_true rfl)
  rw [lg_entry_eq]
  generalize (lg_sl ([.ref (ad 11 99), .int x1, .int x2]) ++ List.replicate (3 - (lg_sl ([.ref (ad 11 99), .int x1, .int x2])).length) Slot.unset).toArray = ls at hl ⊢
  exact b_X5_ofNet_0 ⟨B0.exec, B0.bytes, hml, B0.returns, atoms_spec (ws := wsX5_ofNet) B0.pre, findClass_of_methodNamed B0.named, B0.notSynchronized, hC, hA⟩   h Z va_S.rf hl
theorem i_X5_ofTouch_0 : ∀ w ∈ wsX00, w ∈ wsX5_ofTouch := by decide +kernel
theorem i_X5_ofTouch_5 : ∀ w ∈ wsX50, w ∈ wsX5_ofTouch := by decide +kernel
theorem k_X5_ofTouch_w0 : Cond.fieldLink RX5 10 "WarmProbes" "board" "LWarmProbes$Board;" ∈ wsX5_ofTouch := by decide +kernel
theorem k_X5_ofTouch_w1 : Cond.initialized RX0 ∈ wsX5_ofTouch := by decide +kernel
theorem k_X5_ofTouch_w2 : Cond.instanceMethod yX0_isLive ∈ wsX5_ofTouch := by decide +kernel
theorem k_X5_ofTouch_w3 : Cond.selects RX0 yX0_isLive yX0_isLive ∈ wsX5_ofTouch := by decide +kernel
set_option maxRecDepth 20000 in
set_option maxHeartbeats 4000000 in
theorem b_X5_ofTouch_15 (B : wx_B p s m args meth c cX5_ofTouch 3 (some .int) wsX5_ofTouch RX5 D ad ca A)    {r : Int32} {σ : wx_St}  {x1 : Int32} {x2 : Int32}   (h : f_X5_ofTouch_15 x1 x2 σ = some r) {H : Heap} {locs : List Loc} (Z : wx_Z D ad rd ca A σ H) (hS : va_S A s.heap H locs) {ls : Array Slot} (hl : lv_has ls 3 [(0, .ref (ad 11 99)), (1, .int x1), (2, .int x2)]) : W p l e ({ frames := 2, cells := 0, slots := 0, locals := 43 } : Room) s m args below meth c H locs 0 0 (MQ below (wx_Q D ad rd ca A (some (.int r)) σ) args s 0 0 A) (F0 m 15 ls []) := by
  obtain ⟨hx, hb, hml, hr, hts, hown, hlk, hC, hA⟩ := id B
  unfold f_X5_ofTouch_15 at h
  refine lv_iconst (v := (-1)) hx hb dX5_ofTouch_15 (by decide) ?_
  obtain rfl := Option.some.inj h
  exact W.iret hx hb hr (fun t ht hW => ⟨rfl, by rw [ht]; exact Z, hS.F ht⟩) hS.2.2 dX5_ofTouch_16
set_option maxRecDepth 20000 in
set_option maxHeartbeats 4000000 in
theorem b_X5_ofTouch_102 (B : wx_B p s m args meth c cX5_ofTouch 3 (some .int) wsX5_ofTouch RX5 D ad ca A)    {r : Int32} {σ : wx_St}  {x1 : Int32} {x2 : Int32} {y0 : Int32}   (h : f_X5_ofTouch_102 x1 x2 y0 σ = some r) {H : Heap} {locs : List Loc} (Z : wx_Z D ad rd ca A σ H) (hS : va_S A s.heap H locs) {ls : Array Slot} (hl : lv_has ls 3 [(0, .ref (ad 11 99)), (1, .int x1), (2, .int x2)]) : W p l e ({ frames := 2, cells := 0, slots := 0, locals := 43 } : Room) s m args below meth c H locs 0 0 (MQ below (wx_Q D ad rd ca A (some (.int r)) σ) args s 0 0 A) (F0 m 102 ls [.int y0]) := by
  obtain ⟨hx, hb, hml, hr, hts, hown, hlk, hC, hA⟩ := id B
  unfold f_X5_ofTouch_102 at h
  obtain rfl := Option.some.inj h
  exact W.iret hx hb hr (fun t ht hW => ⟨rfl, by rw [ht]; exact Z, hS.F ht⟩) hS.2.2 dX5_ofTouch_102
set_option maxRecDepth 20000 in
set_option maxHeartbeats 4000000 in
theorem b_X5_ofTouch_0 (B : wx_B p s m args meth c cX5_ofTouch 3 (some .int) wsX5_ofTouch RX5 D ad ca A)    {r : Int32} {σ : wx_St}  {x1 : Int32} {x2 : Int32}   (h : f_X5_ofTouch x1 x2 σ = some r) {H : Heap} {locs : List Loc} (Z : wx_Z D ad rd ca A σ H) (hS : va_S A s.heap H locs) {ls : Array Slot} (hl : lv_has ls 3 [(0, .ref (ad 11 99)), (1, .int x1), (2, .int x2)]) : W p l e ({ frames := 2, cells := 0, slots := 0, locals := 43 } : Room) s m args below meth c H locs 0 0 (MQ below (wx_Q D ad rd ca A (some (.int r)) σ) args s 0 0 A) (F0 m 0 ls []) := by
  obtain ⟨hx, hb, hml, hr, hts, hown, hlk, hC, hA⟩ := id B
  unfold f_X5_ofTouch at h
  refine lv_iload_n hx hb dX5_ofTouch_0 rfl (lv_at hl 1 rfl) ?_
  refine lv_if_lt (tgt := 15) hx hb dX5_ofTouch_1 (by decide) (fun c1 => ?_) (fun c1 => ?_)
  · replace h := wx_ift c1 h
    exact b_X5_ofTouch_15 B h Z hS (lv_sub hl [0, 1, 2] rfl)
  · replace h := wx_iff c1 h
    refine lv_iload_n hx hb dX5_ofTouch_4 rfl (lv_at hl 1 rfl) ?_
    refine lv_aload_n hx hb dX5_ofTouch_5 rfl (lv_at hl 0 rfl) ?_
    refine wx_get (own := RX5) hx hb hts i_X5_ofTouch_5 hown hC.1 Z (o := 11) (ci := 5) rfl (rfl : vwCl[5]? = some (RX5, TX5, 7)) 0 (by decide) (hts _ k_X5_ofTouch_w0) (fun _ h9 => h9) (f := 107) rfl rfl dX5_ofTouch_6 ?_
    refine wx_getN (own := RX5) hx hb hts i_X5_ofTouch_0 hown hC.1 Z (o := 7) (ci := 0) rfl (rfl : vwCl[0]? = some (RX0, TX0, 13)) 3 (by decide) (wx_nst hC 6 rfl rfl) (fun _ h9 => h9) (f := 1) rfl rfl dX5_ofTouch_9 ?_
    refine lv_icmp_lt (tgt := 17) hx hb dX5_ofTouch_12 (by decide) (fun c12 => ?_) (fun c12 => ?_)
    · replace h := wx_ift c12 h
      refine lv_iload_n hx hb dX5_ofTouch_17 rfl (lv_at hl 2 rfl) ?_
      by_cases c18_0 : x2 = 0
      · replace h := wx_ift c18_0 h
        refine lv_tableIn (off := 30) (tgt := 48) hx hb dX5_ofTouch_18 (by rw [c18_0]; decide) (by rw [c18_0]; decide) (by rw [c18_0]; rfl) (by decide) ?_
        refine lv_aload_n hx hb dX5_ofTouch_48 rfl (lv_at hl 0 rfl) ?_
        refine wx_get (own := RX5) hx hb hts i_X5_ofTouch_5 hown hC.1 Z (o := 11) (ci := 5) rfl (rfl : vwCl[5]? = some (RX5, TX5, 7)) 0 (by decide) (hts _ k_X5_ofTouch_w0) (fun _ h9 => h9) (f := 107) rfl rfl dX5_ofTouch_49 ?_
        refine wx_getN (own := RX5) hx hb hts i_X5_ofTouch_0 hown hC.1 Z (o := 7) (ci := 0) rfl (rfl : vwCl[0]? = some (RX0, TX0, 13)) 4 (by decide) (wx_nst hC 7 rfl rfl) (fun _ h9 => h9) (f := 0) rfl rfl dX5_ofTouch_52 ?_
        refine lv_iload_n hx hb dX5_ofTouch_55 rfl (lv_at hl 1 rfl) ?_
        obtain ⟨v56, ev56, iv56, h⟩ := wx_rI_ok h
        refine wx_iald hx hb hC.1 Z (o := 7) (k := 4) (n := 3) rfl rfl iv56 dX5_ofTouch_56 ev56 ?_
        obtain rfl := Option.some.inj h
        exact W.iret hx hb hr (fun t ht hW => ⟨rfl, by rw [ht]; exact Z, hS.F ht⟩) hS.2.2 dX5_ofTouch_57
      · replace h := wx_iff c18_0 h
        by_cases c18_1 : x2 = 1
        · replace h := wx_ift c18_1 h
          refine lv_tableIn (off := 40) (tgt := 58) hx hb dX5_ofTouch_18 (by rw [c18_1]; decide) (by rw [c18_1]; decide) (by rw [c18_1]; rfl) (by decide) ?_
          refine lv_aload_n hx hb dX5_ofTouch_58 rfl (lv_at hl 0 rfl) ?_
          refine wx_get (own := RX5) hx hb hts i_X5_ofTouch_5 hown hC.1 Z (o := 11) (ci := 5) rfl (rfl : vwCl[5]? = some (RX5, TX5, 7)) 0 (by decide) (hts _ k_X5_ofTouch_w0) (fun _ h9 => h9) (f := 107) rfl rfl dX5_ofTouch_59 ?_
          refine wx_getN (own := RX5) hx hb hts i_X5_ofTouch_0 hown hC.1 Z (o := 7) (ci := 0) rfl (rfl : vwCl[0]? = some (RX0, TX0, 13)) 1 (by decide) (wx_nst hC 4 rfl rfl) (fun _ h9 => h9) (f := 0) rfl rfl dX5_ofTouch_62 ?_
          refine lv_aload_n hx hb dX5_ofTouch_65 rfl (lv_at hl 0 rfl) ?_
          refine wx_get (own := RX5) hx hb hts i_X5_ofTouch_5 hown hC.1 Z (o := 11) (ci := 5) rfl (rfl : vwCl[5]? = some (RX5, TX5, 7)) 0 (by decide) (hts _ k_X5_ofTouch_w0) (fun _ h9 => h9) (f := 107) rfl rfl dX5_ofTouch_66 ?_
          refine wx_getN (own := RX5) hx hb hts i_X5_ofTouch_0 hown hC.1 Z (o := 7) (ci := 0) rfl (rfl : vwCl[0]? = some (RX0, TX0, 13)) 4 (by decide) (wx_nst hC 7 rfl rfl) (fun _ h9 => h9) (f := 0) rfl rfl dX5_ofTouch_69 ?_
          refine lv_iload_n hx hb dX5_ofTouch_72 rfl (lv_at hl 1 rfl) ?_
          obtain ⟨v73, ev73, iv73, h⟩ := wx_rI_ok h
          refine wx_iald hx hb hC.1 Z (o := 7) (k := 4) (n := 3) rfl rfl iv73 dX5_ofTouch_73 ev73 ?_
          obtain ⟨v74, ev74, iv74, h⟩ := wx_rI_ok h
          refine wx_iald hx hb hC.1 Z (o := 7) (k := 1) (n := 64) rfl rfl iv74 dX5_ofTouch_74 ev74 ?_
          obtain rfl := Option.some.inj h
          exact W.iret hx hb hr (fun t ht hW => ⟨rfl, by rw [ht]; exact Z, hS.F ht⟩) hS.2.2 dX5_ofTouch_75
        · replace h := wx_iff c18_1 h
          by_cases c18_2 : x2 = 2
          · replace h := wx_ift c18_2 h
            refine lv_tableIn (off := 58) (tgt := 76) hx hb dX5_ofTouch_18 (by rw [c18_2]; decide) (by rw [c18_2]; decide) (by rw [c18_2]; rfl) (by decide) ?_
            refine lv_aload_n hx hb dX5_ofTouch_76 rfl (lv_at hl 0 rfl) ?_
            refine wx_get (own := RX5) hx hb hts i_X5_ofTouch_5 hown hC.1 Z (o := 11) (ci := 5) rfl (rfl : vwCl[5]? = some (RX5, TX5, 7)) 0 (by decide) (hts _ k_X5_ofTouch_w0) (fun _ h9 => h9) (f := 107) rfl rfl dX5_ofTouch_77 ?_
            refine wx_getN (own := RX5) hx hb hts i_X5_ofTouch_0 hown hC.1 Z (o := 7) (ci := 0) rfl (rfl : vwCl[0]? = some (RX0, TX0, 13)) 5 (by decide) (wx_nst hC 8 rfl rfl) (fun _ h9 => h9) (f := 0) rfl rfl dX5_ofTouch_80 ?_
            refine lv_iload_n hx hb dX5_ofTouch_83 rfl (lv_at hl 1 rfl) ?_
            obtain ⟨v84, ev84, iv84, h⟩ := wx_rI_ok h
            refine wx_iald hx hb hC.1 Z (o := 7) (k := 5) (n := 3) rfl rfl iv84 dX5_ofTouch_84 ev84 ?_
            obtain rfl := Option.some.inj h
            exact W.iret hx hb hr (fun t ht hW => ⟨rfl, by rw [ht]; exact Z, hS.F ht⟩) hS.2.2 dX5_ofTouch_85
          · replace h := wx_iff c18_2 h
            by_cases c18_3 : x2 = 3
            · replace h := wx_ift c18_3 h
              refine lv_tableIn (off := 68) (tgt := 86) hx hb dX5_ofTouch_18 (by rw [c18_3]; decide) (by rw [c18_3]; decide) (by rw [c18_3]; rfl) (by decide) ?_
              refine lv_aload_n hx hb dX5_ofTouch_86 rfl (lv_at hl 0 rfl) ?_
              refine wx_get (own := RX5) hx hb hts i_X5_ofTouch_5 hown hC.1 Z (o := 11) (ci := 5) rfl (rfl : vwCl[5]? = some (RX5, TX5, 7)) 0 (by decide) (hts _ k_X5_ofTouch_w0) (fun _ h9 => h9) (f := 107) rfl rfl dX5_ofTouch_87 ?_
              refine lv_iload_n hx hb dX5_ofTouch_90 rfl (lv_at hl 1 rfl) ?_
              obtain ⟨v91, hc91, h⟩ := wx_o_ok h
              refine wx_call (va_runVN (As := [.int x1]) (rest := []) ⟨hx, hb, hml, hown, hts⟩ (c_X0_isLive l (D := D) (ad := ad) (rd := rd) (ca := ca) (A := A) (σ := σ) (o := 7) (by decide : 7 < 11) hc91) ⟨va_cnB 1 hts gX5_ofTouch_X0_isLive_n142 rfl rfl rfl (hC.1.2.1 _ (List.mem_of_getElem? (i := 58) rfl)) (hts _ k_X5_ofTouch_w1) (by decide +kernel) ⟨Nat.le_of_ble_eq_true rfl, Nat.le_of_ble_eq_true rfl⟩, hts _ k_X5_ofTouch_w2, hts _ k_X5_ofTouch_w3⟩ (wx_preV hC Z hS hA rfl (rfl : vwCl[0]? = some (RX0, TX0, 13))) rfl rfl hl.1 rfl (lv_room (Nat.le_of_ble_eq_true rfl)) dX5_ofTouch_91 ⟨Nat.zero_le _, Nat.zero_le _⟩) hS (fun H locs Z hS => ?_)
              refine lv_if_eq (tgt := 101) hx hb dX5_ofTouch_94 (by decide) (fun c94 => ?_) (fun c94 => ?_)
              · replace h := wx_ift c94 h
                refine lv_iconst (v := 0) hx hb dX5_ofTouch_101 (by decide) ?_
                exact b_X5_ofTouch_102 B h Z hS (lv_sub hl [0, 1, 2] rfl)
              · replace h := wx_iff c94 h
                refine lv_iconst (v := 1) hx hb dX5_ofTouch_97 (by decide) ?_
                refine lv_goto (tgt := 102) hx hb dX5_ofTouch_98 (by decide) ?_
                exact b_X5_ofTouch_102 B h Z hS (lv_sub hl [0, 1, 2] rfl)
            · replace h := wx_iff c18_3 h
              have n18_0 := wx_ni c18_0
              have n18_1 := wx_ni c18_1
              have n18_2 := wx_ni c18_2
              have n18_3 := wx_ni c18_3
              rw [show (0 : Int32).toInt = 0 from by decide] at n18_0
              rw [show (1 : Int32).toInt = 1 from by decide] at n18_1
              rw [show (2 : Int32).toInt = 2 from by decide] at n18_2
              rw [show (3 : Int32).toInt = 3 from by decide] at n18_3
              refine lv_tableOut (tgt := 103) hx hb dX5_ofTouch_18 (by omega) (by decide) ?_
              refine lv_bipush (v := (-2)) hx hb dX5_ofTouch_103 (by decide) ?_
              obtain rfl := Option.some.inj h
              exact W.iret hx hb hr (fun t ht hW => ⟨rfl, by rw [ht]; exact Z, hS.F ht⟩) hS.2.2 dX5_ofTouch_105
    · replace h := wx_iff c12 h
      exact b_X5_ofTouch_15 B h Z hS (lv_sub hl [0, 1, 2] rfl)
set_option maxRecDepth 20000 in
theorem c_X5_ofTouch (l : Launch) {D : va_G} {ad : Nat → Nat → Nat} {rd : Nat → Nat} {ca : Nat → ClassId} {A : Nat → Prop} {σ : wx_St}    {x1 : Int32} {x2 : Int32} {r : Int32} (h : f_X5_ofTouch x1 x2 σ = some r) : wx_M l yX5_ofTouch wsX5_ofTouch 2 43 D ad rd ca A [.ref (ad 11 99), .int x1, .int x2] σ (some (.int r)) σ := by
  refine Met.ofW (cc := cX5_ofTouch) (maxL := 3) (ret := (some .int)) (by decide +kernel) rfl ?_
  intro p e s m args below meth c s₁ B0 hml hv
  obtain ⟨rfl, hC, Z, hA⟩ := hv
  have hl := lv_entry ([.ref (ad 11 99), .int x1, .int x2]) (n := 3) (Nat.le_of_ble_eq_true rfl)
  rw [lg_entry_eq]
  generalize (lg_sl ([.ref (ad 11 99), .int x1, .int x2]) ++ List.replicate (3 - (lg_sl ([.ref (ad 11 99), .int x1, .int x2])).length) Slot.unset).toArray = ls at hl ⊢
  exact b_X5_ofTouch_0 ⟨B0.exec, B0.bytes, hml, B0.returns, atoms_spec (ws := wsX5_ofTouch) B0.pre, findClass_of_methodNamed B0.named, B0.notSynchronized, hC, hA⟩   h Z va_S.rf hl
theorem i_X5_probe_5 : ∀ w ∈ wsX50, w ∈ wsX5_probe := by decide +kernel
theorem k_X5_probe_w0 : Cond.fieldLink RX5 29 "WarmProbes" "past" "LWarmProbes$Past;" ∈ wsX5_probe := by decide +kernel
theorem k_X5_probe_w1 : Cond.fieldLink RX5 10 "WarmProbes" "board" "LWarmProbes$Board;" ∈ wsX5_probe := by decide +kernel
theorem k_X5_probe_w2 : Cond.initialized RX3 ∈ wsX5_probe := by decide +kernel
theorem k_X5_probe_w3 : Cond.instanceMethod yX3_prepare ∈ wsX5_probe := by decide +kernel
theorem k_X5_probe_w4 : Cond.selects RX3 yX3_prepare yX3_prepare ∈ wsX5_probe := by decide +kernel
theorem k_X5_probe_w5 : Cond.initialized RX0 ∈ wsX5_probe := by decide +kernel
theorem k_X5_probe_w6 : Cond.instanceMethod yX0_measure ∈ wsX5_probe := by decide +kernel
theorem k_X5_probe_w7 : Cond.selects RX0 yX0_measure yX0_measure ∈ wsX5_probe := by decide +kernel
theorem k_X5_probe_w8 : Cond.instanceMethod yX3_kept ∈ wsX5_probe := by decide +kernel
theorem k_X5_probe_w9 : Cond.selects RX3 yX3_kept yX3_kept ∈ wsX5_probe := by decide +kernel
set_option maxRecDepth 20000 in
set_option maxHeartbeats 4000000 in
theorem b_X5_probe_0 (B : wx_B p s m args meth c cX5_probe 3 (some .int) wsX5_probe RX5 D ad ca A)    {r : Int32} {σ' : wx_St}  {x1 : Int32} {x2 : Int32} {σ : wx_St}  (h : f_X5_probe x1 x2 σ = some (r, σ')) {H : Heap} {locs : List Loc} (Z : wx_Z D ad rd ca A σ H) (hS : va_S A s.heap H locs) {ls : Array Slot} (hl : lv_has ls 3 [(0, .ref (ad 11 99)), (1, .int x1), (2, .int x2)]) : W p l e ({ frames := 3, cells := 0, slots := 0, locals := 68 } : Room) s m args below meth c H locs 0 0 (MQ below (wx_Q D ad rd ca A (some (.int r)) σ') args s 0 0 A) (F0 m 0 ls []) := by
  obtain ⟨hx, hb, hml, hr, hts, hown, hlk, hC, hA⟩ := id B
  unfold f_X5_probe at h
  refine lv_aload_n hx hb dX5_probe_0 rfl (lv_at hl 0 rfl) ?_
  refine wx_get (own := RX5) hx hb hts i_X5_probe_5 hown hC.1 Z (o := 11) (ci := 5) rfl (rfl : vwCl[5]? = some (RX5, TX5, 7)) 3 (by decide) (hts _ k_X5_probe_w0) (fun _ h9 => h9) (f := 114) rfl rfl dX5_probe_1 ?_
  refine lv_aload_n hx hb dX5_probe_4 rfl (lv_at hl 0 rfl) ?_
  refine wx_get (own := RX5) hx hb hts i_X5_probe_5 hown hC.1 Z (o := 11) (ci := 5) rfl (rfl : vwCl[5]? = some (RX5, TX5, 7)) 0 (by decide) (hts _ k_X5_probe_w1) (fun _ h9 => h9) (f := 107) rfl rfl dX5_probe_5 ?_
  obtain ⟨v8, σ8, hc8, h⟩ := wx_b_ok h
  refine wx_call (va_runVN (As := [.ref (ad 7 99)]) (rest := []) ⟨hx, hb, hml, hown, hts⟩ (c_X3_prepare l (D := D) (ad := ad) (rd := rd) (ca := ca) (A := A) (σ := σ) (b1 := 7) (by decide : 7 < 11) hc8) ⟨va_cnB 1 hts gX5_probe_X3_prepare_n48 rfl rfl rfl (hC.1.2.1 _ (List.mem_of_getElem? (i := 27) rfl)) (hts _ k_X5_probe_w2) (by decide +kernel) ⟨Nat.le_of_ble_eq_true rfl, Nat.le_of_ble_eq_true rfl⟩, hts _ k_X5_probe_w3, hts _ k_X5_probe_w4⟩ (wx_preV hC Z hS hA rfl (rfl : vwCl[3]? = some (RX3, TX3, 2))) rfl rfl hl.1 rfl (lv_room (Nat.le_of_ble_eq_true rfl)) dX5_probe_8 ⟨Nat.zero_le _, Nat.zero_le _⟩) hS (fun H locs Z hS => ?_)
  refine lv_aload_n hx hb dX5_probe_11 rfl (lv_at hl 0 rfl) ?_
  refine wx_get (own := RX5) hx hb hts i_X5_probe_5 hown hC.1 Z (o := 11) (ci := 5) rfl (rfl : vwCl[5]? = some (RX5, TX5, 7)) 3 (by decide) (hts _ k_X5_probe_w0) (fun _ h9 => h9) (f := 114) rfl rfl dX5_probe_12 ?_
  refine lv_aload_n hx hb dX5_probe_15 rfl (lv_at hl 0 rfl) ?_
  refine wx_get (own := RX5) hx hb hts i_X5_probe_5 hown hC.1 Z (o := 11) (ci := 5) rfl (rfl : vwCl[5]? = some (RX5, TX5, 7)) 0 (by decide) (hts _ k_X5_probe_w1) (fun _ h9 => h9) (f := 107) rfl rfl dX5_probe_16 ?_
  refine lv_iload_n hx hb dX5_probe_19 rfl (lv_at hl 1 rfl) ?_
  refine lv_iload_n hx hb dX5_probe_20 rfl (lv_at hl 2 rfl) ?_
  obtain ⟨v21, σ21, hc21, h⟩ := wx_b_ok h
  refine wx_call (va_runVN (As := [.int x1, .int x2]) (rest := [.ref (ad 14 99)]) ⟨hx, hb, hml, hown, hts⟩ (c_X0_measure l (D := D) (ad := ad) (rd := rd) (ca := ca) (A := A) (σ := σ8) (o := 7) (by decide : 7 < 11) hc21) ⟨va_cnB 2 hts gX5_probe_X0_measure_n83 rfl rfl rfl (hC.1.2.1 _ (List.mem_of_getElem? (i := 44) rfl)) (hts _ k_X5_probe_w5) (by decide +kernel) ⟨Nat.le_of_ble_eq_true rfl, Nat.le_of_ble_eq_true rfl⟩, hts _ k_X5_probe_w6, hts _ k_X5_probe_w7⟩ (wx_preV hC Z hS hA rfl (rfl : vwCl[0]? = some (RX0, TX0, 13))) rfl rfl hl.1 rfl (lv_room (Nat.le_of_ble_eq_true rfl)) dX5_probe_21 ⟨Nat.zero_le _, Nat.zero_le _⟩) hS (fun H locs Z hS => ?_)
  obtain ⟨v24, σ24, hc24, h⟩ := wx_b_ok h
  refine wx_call (va_runVN (As := [.int v21]) (rest := []) ⟨hx, hb, hml, hown, hts⟩ (c_X3_kept l (D := D) (ad := ad) (rd := rd) (ca := ca) (A := A) (σ := σ21) hc24) ⟨va_cnB 1 hts gX5_probe_X3_kept_n56 rfl rfl rfl (hC.1.2.1 _ (List.mem_of_getElem? (i := 32) rfl)) (hts _ k_X5_probe_w2) (by decide +kernel) ⟨Nat.le_of_ble_eq_true rfl, Nat.le_of_ble_eq_true rfl⟩, hts _ k_X5_probe_w8, hts _ k_X5_probe_w9⟩ (wx_preV hC Z hS hA rfl (rfl : vwCl[3]? = some (RX3, TX3, 2))) rfl rfl hl.1 rfl (lv_room (Nat.le_of_ble_eq_true rfl)) dX5_probe_24 ⟨Nat.zero_le _, Nat.zero_le _⟩) hS (fun H locs Z hS => ?_)
  obtain ⟨rfl, rfl⟩ := wx_ret_ok h
  exact W.iret hx hb hr (fun t ht hW => ⟨rfl, by rw [ht]; exact Z, hS.F ht⟩) hS.2.2 dX5_probe_27
set_option maxRecDepth 20000 in
theorem c_X5_probe (l : Launch) {D : va_G} {ad : Nat → Nat → Nat} {rd : Nat → Nat} {ca : Nat → ClassId} {A : Nat → Prop} {σ : wx_St}    {x1 : Int32} {x2 : Int32} {r : Int32} {σ' : wx_St} (h : f_X5_probe x1 x2 σ = some (r, σ')) : wx_M l yX5_probe wsX5_probe 3 68 D ad rd ca A [.ref (ad 11 99), .int x1, .int x2] σ (some (.int r)) σ' := by
  refine Met.ofW (cc := cX5_probe) (maxL := 3) (ret := (some .int)) (by decide +kernel) rfl ?_
  intro p e s m args below meth c s₁ B0 hml hv
  obtain ⟨rfl, hC, Z, hA⟩ := hv
  have hl := lv_entry ([.ref (ad 11 99), .int x1, .int x2]) (n := 3) (Nat.le_of_ble_eq_true rfl)
  rw [lg_entry_eq]
  generalize (lg_sl ([.ref (ad 11 99), .int x1, .int x2]) ++ List.replicate (3 - (lg_sl ([.ref (ad 11 99), .int x1, .int x2])).length) Slot.unset).toArray = ls at hl ⊢
  exact b_X5_probe_0 ⟨B0.exec, B0.bytes, hml, B0.returns, atoms_spec (ws := wsX5_probe) B0.pre, findClass_of_methodNamed B0.named, B0.notSynchronized, hC, hA⟩   h Z va_S.rf hl
theorem i_X5_put_5 : ∀ w ∈ wsX50, w ∈ wsX5_put := by decide +kernel
theorem k_X5_put_w0 : Cond.fieldLink RX5 36 "WarmProbes" "pad" "LWarmProbes$Pad;" ∈ wsX5_put := by decide +kernel
theorem k_X5_put_w1 : Cond.initialized RX2 ∈ wsX5_put := by decide +kernel
theorem k_X5_put_w2 : Cond.instanceMethod yX2_append ∈ wsX5_put := by decide +kernel
theorem k_X5_put_w3 : Cond.selects RX2 yX2_append yX2_append ∈ wsX5_put := by decide +kernel
set_option maxRecDepth 20000 in
set_option maxHeartbeats 4000000 in
theorem b_X5_put_0 (B : wx_B p s m args meth c cX5_put 3 (some .int) wsX5_put RX5 D ad ca A)    {r : Int32} {σ' : wx_St}  {x1 : Int64} {σ : wx_St}  (h : f_X5_put x1 σ = some (r, σ')) {H : Heap} {locs : List Loc} (Z : wx_Z D ad rd ca A σ H) (hS : va_S A s.heap H locs) {ls : Array Slot} (hl : lv_has ls 3 [(0, .ref (ad 11 99)), (1, .long x1)]) : W p l e ({ frames := 1, cells := 0, slots := 0, locals := 26 } : Room) s m args below meth c H locs 0 0 (MQ below (wx_Q D ad rd ca A (some (.int r)) σ') args s 0 0 A) (F0 m 0 ls []) := by
  obtain ⟨hx, hb, hml, hr, hts, hown, hlk, hC, hA⟩ := id B
  unfold f_X5_put at h
  refine lv_aload_n hx hb dX5_put_0 rfl (lv_at hl 0 rfl) ?_
  refine wx_get (own := RX5) hx hb hts i_X5_put_5 hown hC.1 Z (o := 11) (ci := 5) rfl (rfl : vwCl[5]? = some (RX5, TX5, 7)) 4 (by decide) (hts _ k_X5_put_w0) (fun _ h9 => h9) (f := 115) rfl rfl dX5_put_1 ?_
  refine lv_lload_n hx hb dX5_put_4 rfl (lv_at hl 1 rfl) ?_
  obtain ⟨v5, σ5, hc5, h⟩ := wx_b_ok h
  refine wx_call (va_runVN (As := [.long x1]) (rest := []) ⟨hx, hb, hml, hown, hts⟩ (c_X2_append l (D := D) (ad := ad) (rd := rd) (ca := ca) (A := A) (σ := σ) hc5) ⟨va_cnB 1 hts gX5_put_X2_append_n217 rfl rfl rfl (hC.1.2.1 _ (List.mem_of_getElem? (i := 70) rfl)) (hts _ k_X5_put_w1) (by decide +kernel) ⟨Nat.le_of_ble_eq_true rfl, Nat.le_of_ble_eq_true rfl⟩, hts _ k_X5_put_w2, hts _ k_X5_put_w3⟩ (wx_preV hC Z hS hA rfl (rfl : vwCl[2]? = some (RX2, TX2, 2))) rfl rfl hl.1 rfl (lv_room (Nat.le_of_ble_eq_true rfl)) dX5_put_5 ⟨Nat.zero_le _, Nat.zero_le _⟩) hS (fun H locs Z hS => ?_)
  obtain ⟨rfl, rfl⟩ := wx_ret_ok h
  exact W.iret hx hb hr (fun t ht hW => ⟨rfl, by rw [ht]; exact Z, hS.F ht⟩) hS.2.2 dX5_put_8
set_option maxRecDepth 20000 in
theorem c_X5_put (l : Launch) {D : va_G} {ad : Nat → Nat → Nat} {rd : Nat → Nat} {ca : Nat → ClassId} {A : Nat → Prop} {σ : wx_St}    {x1 : Int64} {r : Int32} {σ' : wx_St} (h : f_X5_put x1 σ = some (r, σ')) : wx_M l yX5_put wsX5_put 1 26 D ad rd ca A [.ref (ad 11 99), .long x1] σ (some (.int r)) σ' := by
  refine Met.ofW (cc := cX5_put) (maxL := 3) (ret := (some .int)) (by decide +kernel) rfl ?_
  intro p e s m args below meth c s₁ B0 hml hv
  obtain ⟨rfl, hC, Z, hA⟩ := hv
  have hl := lv_entry ([.ref (ad 11 99), .long x1]) (n := 3) (Nat.le_of_ble_eq_true rfl)
  rw [lg_entry_eq]
  generalize (lg_sl ([.ref (ad 11 99), .long x1]) ++ List.replicate (3 - (lg_sl ([.ref (ad 11 99), .long x1])).length) Slot.unset).toArray = ls at hl ⊢
  exact b_X5_put_0 ⟨B0.exec, B0.bytes, hml, B0.returns, atoms_spec (ws := wsX5_put) B0.pre, findClass_of_methodNamed B0.named, B0.notSynchronized, hC, hA⟩   h Z va_S.rf hl
theorem i_X5_reading_0 : ∀ w ∈ wsX00, w ∈ wsX5_reading := by decide +kernel
theorem i_X5_reading_5 : ∀ w ∈ wsX50, w ∈ wsX5_reading := by decide +kernel
theorem k_X5_reading_w0 : Cond.fieldLink RX5 10 "WarmProbes" "board" "LWarmProbes$Board;" ∈ wsX5_reading := by decide +kernel
set_option maxRecDepth 20000 in
set_option maxHeartbeats 4000000 in
theorem b_X5_reading_15 (B : wx_B p s m args meth c cX5_reading 3 (some .int) wsX5_reading RX5 D ad ca A)    {r : Int32} {σ : wx_St}  {x1 : Int32} {x2 : Int32}   (h : f_X5_reading_15 x1 x2 σ = some r) {H : Heap} {locs : List Loc} (Z : wx_Z D ad rd ca A σ H) (hS : va_S A s.heap H locs) {ls : Array Slot} (hl : lv_has ls 3 [(0, .ref (ad 11 99)), (1, .int x1), (2, .int x2)]) : W p l e ({ frames := 0, cells := 0, slots := 0, locals := 0 } : Room) s m args below meth c H locs 0 0 (MQ below (wx_Q D ad rd ca A (some (.int r)) σ) args s 0 0 A) (F0 m 15 ls []) := by
  obtain ⟨hx, hb, hml, hr, hts, hown, hlk, hC, hA⟩ := id B
  unfold f_X5_reading_15 at h
  refine lv_iconst (v := (-1)) hx hb dX5_reading_15 (by decide) ?_
  obtain rfl := Option.some.inj h
  exact W.iret hx hb hr (fun t ht hW => ⟨rfl, by rw [ht]; exact Z, hS.F ht⟩) hS.2.2 dX5_reading_16
set_option maxRecDepth 20000 in
set_option maxHeartbeats 4000000 in
theorem b_X5_reading_0 (B : wx_B p s m args meth c cX5_reading 3 (some .int) wsX5_reading RX5 D ad ca A)    {r : Int32} {σ : wx_St}  {x1 : Int32} {x2 : Int32}   (h : f_X5_reading x1 x2 σ = some r) {H : Heap} {locs : List Loc} (Z : wx_Z D ad rd ca A σ H) (hS : va_S A s.heap H locs) {ls : Array Slot} (hl : lv_has ls 3 [(0, .ref (ad 11 99)), (1, .int x1), (2, .int x2)]) : W p l e ({ frames := 0, cells := 0, slots := 0, locals := 0 } : Room) s m args below meth c H locs 0 0 (MQ below (wx_Q D ad rd ca A (some (.int r)) σ) args s 0 0 A) (F0 m 0 ls []) := by
  obtain ⟨hx, hb, hml, hr, hts, hown, hlk, hC, hA⟩ := id B
  unfold f_X5_reading at h
  refine lv_iload_n hx hb dX5_reading_0 rfl (lv_at hl 1 rfl) ?_
  refine lv_if_lt (tgt := 15) hx hb dX5_reading_1 (by decide) (fun c1 => ?_) (fun c1 => ?_)
  · replace h := wx_ift c1 h
    exact b_X5_reading_15 B h Z hS (lv_sub hl [0, 1, 2] rfl)
  · replace h := wx_iff c1 h
    refine lv_iload_n hx hb dX5_reading_4 rfl (lv_at hl 1 rfl) ?_
    refine lv_aload_n hx hb dX5_reading_5 rfl (lv_at hl 0 rfl) ?_
    refine wx_get (own := RX5) hx hb hts i_X5_reading_5 hown hC.1 Z (o := 11) (ci := 5) rfl (rfl : vwCl[5]? = some (RX5, TX5, 7)) 0 (by decide) (hts _ k_X5_reading_w0) (fun _ h9 => h9) (f := 107) rfl rfl dX5_reading_6 ?_
    refine wx_getN (own := RX5) hx hb hts i_X5_reading_0 hown hC.1 Z (o := 7) (ci := 0) rfl (rfl : vwCl[0]? = some (RX0, TX0, 13)) 9 (by decide) (wx_nst hC 13 rfl rfl) (fun _ h9 => h9) (f := 1) rfl rfl dX5_reading_9 ?_
    refine lv_icmp_lt (tgt := 17) hx hb dX5_reading_12 (by decide) (fun c12 => ?_) (fun c12 => ?_)
    · replace h := wx_ift c12 h
      refine lv_iload_n hx hb dX5_reading_17 rfl (lv_at hl 2 rfl) ?_
      by_cases c18_0 : x2 = 0
      · replace h := wx_ift c18_0 h
        refine lv_tableIn (off := 26) (tgt := 44) hx hb dX5_reading_18 (by rw [c18_0]; decide) (by rw [c18_0]; decide) (by rw [c18_0]; rfl) (by decide) ?_
        refine lv_aload_n hx hb dX5_reading_44 rfl (lv_at hl 0 rfl) ?_
        refine wx_get (own := RX5) hx hb hts i_X5_reading_5 hown hC.1 Z (o := 11) (ci := 5) rfl (rfl : vwCl[5]? = some (RX5, TX5, 7)) 0 (by decide) (hts _ k_X5_reading_w0) (fun _ h9 => h9) (f := 107) rfl rfl dX5_reading_45 ?_
        refine wx_getN (own := RX5) hx hb hts i_X5_reading_0 hown hC.1 Z (o := 7) (ci := 0) rfl (rfl : vwCl[0]? = some (RX0, TX0, 13)) 10 (by decide) (wx_nst hC 15 rfl rfl) (fun _ h9 => h9) (f := 0) rfl rfl dX5_reading_48 ?_
        refine lv_iload_n hx hb dX5_reading_51 rfl (lv_at hl 1 rfl) ?_
        obtain ⟨v52, ev52, iv52, h⟩ := wx_rI_ok h
        refine wx_iald hx hb hC.1 Z (o := 7) (k := 10) (n := 8) rfl rfl iv52 dX5_reading_52 ev52 ?_
        obtain rfl := Option.some.inj h
        exact W.iret hx hb hr (fun t ht hW => ⟨rfl, by rw [ht]; exact Z, hS.F ht⟩) hS.2.2 dX5_reading_53
      · replace h := wx_iff c18_0 h
        by_cases c18_1 : x2 = 1
        · replace h := wx_ift c18_1 h
          refine lv_tableIn (off := 36) (tgt := 54) hx hb dX5_reading_18 (by rw [c18_1]; decide) (by rw [c18_1]; decide) (by rw [c18_1]; rfl) (by decide) ?_
          refine lv_aload_n hx hb dX5_reading_54 rfl (lv_at hl 0 rfl) ?_
          refine wx_get (own := RX5) hx hb hts i_X5_reading_5 hown hC.1 Z (o := 11) (ci := 5) rfl (rfl : vwCl[5]? = some (RX5, TX5, 7)) 0 (by decide) (hts _ k_X5_reading_w0) (fun _ h9 => h9) (f := 107) rfl rfl dX5_reading_55 ?_
          refine wx_getN (own := RX5) hx hb hts i_X5_reading_0 hown hC.1 Z (o := 7) (ci := 0) rfl (rfl : vwCl[0]? = some (RX0, TX0, 13)) 11 (by decide) (wx_nst hC 17 rfl rfl) (fun _ h9 => h9) (f := 0) rfl rfl dX5_reading_58 ?_
          refine lv_iload_n hx hb dX5_reading_61 rfl (lv_at hl 1 rfl) ?_
          obtain ⟨v62, ev62, iv62, h⟩ := wx_rI_ok h
          refine wx_iald hx hb hC.1 Z (o := 7) (k := 11) (n := 8) rfl rfl iv62 dX5_reading_62 ev62 ?_
          obtain rfl := Option.some.inj h
          exact W.iret hx hb hr (fun t ht hW => ⟨rfl, by rw [ht]; exact Z, hS.F ht⟩) hS.2.2 dX5_reading_63
        · replace h := wx_iff c18_1 h
          by_cases c18_2 : x2 = 2
          · replace h := wx_ift c18_2 h
            refine lv_tableIn (off := 46) (tgt := 64) hx hb dX5_reading_18 (by rw [c18_2]; decide) (by rw [c18_2]; decide) (by rw [c18_2]; rfl) (by decide) ?_
            refine lv_aload_n hx hb dX5_reading_64 rfl (lv_at hl 0 rfl) ?_
            refine wx_get (own := RX5) hx hb hts i_X5_reading_5 hown hC.1 Z (o := 11) (ci := 5) rfl (rfl : vwCl[5]? = some (RX5, TX5, 7)) 0 (by decide) (hts _ k_X5_reading_w0) (fun _ h9 => h9) (f := 107) rfl rfl dX5_reading_65 ?_
            refine wx_getN (own := RX5) hx hb hts i_X5_reading_0 hown hC.1 Z (o := 7) (ci := 0) rfl (rfl : vwCl[0]? = some (RX0, TX0, 13)) 12 (by decide) (wx_nst hC 19 rfl rfl) (fun _ h9 => h9) (f := 0) rfl rfl dX5_reading_68 ?_
            refine lv_iload_n hx hb dX5_reading_71 rfl (lv_at hl 1 rfl) ?_
            obtain ⟨v72, ev72, iv72, h⟩ := wx_rI_ok h
            refine wx_iald hx hb hC.1 Z (o := 7) (k := 12) (n := 8) rfl rfl iv72 dX5_reading_72 ev72 ?_
            obtain rfl := Option.some.inj h
            exact W.iret hx hb hr (fun t ht hW => ⟨rfl, by rw [ht]; exact Z, hS.F ht⟩) hS.2.2 dX5_reading_73
          · replace h := wx_iff c18_2 h
            have n18_0 := wx_ni c18_0
            have n18_1 := wx_ni c18_1
            have n18_2 := wx_ni c18_2
            rw [show (0 : Int32).toInt = 0 from by decide] at n18_0
            rw [show (1 : Int32).toInt = 1 from by decide] at n18_1
            rw [show (2 : Int32).toInt = 2 from by decide] at n18_2
            refine lv_tableOut (tgt := 74) hx hb dX5_reading_18 (by omega) (by decide) ?_
            refine lv_bipush (v := (-2)) hx hb dX5_reading_74 (by decide) ?_
            obtain rfl := Option.some.inj h
            exact W.iret hx hb hr (fun t ht hW => ⟨rfl, by rw [ht]; exact Z, hS.F ht⟩) hS.2.2 dX5_reading_76
    · replace h := wx_iff c12 h
      exact b_X5_reading_15 B h Z hS (lv_sub hl [0, 1, 2] rfl)
set_option maxRecDepth 20000 in
theorem c_X5_reading (l : Launch) {D : va_G} {ad : Nat → Nat → Nat} {rd : Nat → Nat} {ca : Nat → ClassId} {A : Nat → Prop} {σ : wx_St}    {x1 : Int32} {x2 : Int32} {r : Int32} (h : f_X5_reading x1 x2 σ = some r) : wx_M l yX5_reading wsX5_reading 0 0 D ad rd ca A [.ref (ad 11 99), .int x1, .int x2] σ (some (.int r)) σ := by
  refine Met.ofW (cc := cX5_reading) (maxL := 3) (ret := (some .int)) (by decide +kernel) rfl ?_
  intro p e s m args below meth c s₁ B0 hml hv
  obtain ⟨rfl, hC, Z, hA⟩ := hv
  have hl := lv_entry ([.ref (ad 11 99), .int x1, .int x2]) (n := 3) (Nat.le_of_ble_eq_true rfl)
  rw [lg_entry_eq]
  generalize (lg_sl ([.ref (ad 11 99), .int x1, .int x2]) ++ List.replicate (3 - (lg_sl ([.ref (ad 11 99), .int x1, .int x2])).length) Slot.unset).toArray = ls at hl ⊢
  exact b_X5_reading_0 ⟨B0.exec, B0.bytes, hml, B0.returns, atoms_spec (ws := wsX5_reading) B0.pre, findClass_of_methodNamed B0.named, B0.notSynchronized, hC, hA⟩   h Z va_S.rf hl
theorem i_X5_readsIn_0 : ∀ w ∈ wsX00, w ∈ wsX5_readsIn := by decide +kernel
theorem i_X5_readsIn_5 : ∀ w ∈ wsX50, w ∈ wsX5_readsIn := by decide +kernel
theorem k_X5_readsIn_w0 : Cond.fieldLink RX5 16 "WarmProbes" "ahead" "LWarmProbes$Board;" ∈ wsX5_readsIn := by decide +kernel
theorem k_X5_readsIn_w1 : Cond.fieldLink RX5 10 "WarmProbes" "board" "LWarmProbes$Board;" ∈ wsX5_readsIn := by decide +kernel
theorem k_X5_readsIn_w2 : Cond.initialized RX0 ∈ wsX5_readsIn := by decide +kernel
theorem k_X5_readsIn_w3 : Cond.instanceMethod yX0_takeOver ∈ wsX5_readsIn := by decide +kernel
theorem k_X5_readsIn_w4 : Cond.selects RX0 yX0_takeOver yX0_takeOver ∈ wsX5_readsIn := by decide +kernel
theorem k_X5_readsIn_w5 : Cond.instanceMethod yX0_heated ∈ wsX5_readsIn := by decide +kernel
theorem k_X5_readsIn_w6 : Cond.selects RX0 yX0_heated yX0_heated ∈ wsX5_readsIn := by decide +kernel
theorem k_X5_readsIn_w7 : Cond.instanceMethod yX0_passOne ∈ wsX5_readsIn := by decide +kernel
theorem k_X5_readsIn_w8 : Cond.selects RX0 yX0_passOne yX0_passOne ∈ wsX5_readsIn := by decide +kernel
set_option maxRecDepth 20000 in
set_option maxHeartbeats 4000000 in
theorem b_X5_readsIn_26 (B : wx_B p s m args meth c cX5_readsIn 8 (some .int) wsX5_readsIn RX5 D ad ca A)    {r : Int32} {σ' : wx_St}  {x1 : Int32} {x2 : Int32} {x3 : Int32} {x4 : Int32} {σ : wx_St}  (h : f_X5_readsIn_26 x1 x2 x3 x4 σ = some (r, σ')) {H : Heap} {locs : List Loc} (Z : wx_Z D ad rd ca A σ H) (hS : va_S A s.heap H locs) {ls : Array Slot} (hl : lv_has ls 8 [(0, .ref (ad 11 99)), (1, .int x1), (2, .int x2), (3, .int x3), (4, .int x4)]) : W p l e ({ frames := 3, cells := 0, slots := 0, locals := 78 } : Room) s m args below meth c H locs 0 0 (MQ below (wx_Q D ad rd ca A (some (.int r)) σ') args s 0 0 A) (F0 m 26 ls []) := by
  obtain ⟨hx, hb, hml, hr, hts, hown, hlk, hC, hA⟩ := id B
  unfold f_X5_readsIn_26 at h
  refine lv_bipush (v := (-2)) hx hb dX5_readsIn_26 (by decide) ?_
  obtain ⟨rfl, rfl⟩ := wx_ret_ok h
  exact W.iret hx hb hr (fun t ht hW => ⟨rfl, by rw [ht]; exact Z, hS.F ht⟩) hS.2.2 dX5_readsIn_28
set_option maxRecDepth 20000 in
set_option maxHeartbeats 4000000 in
theorem b_X5_readsIn_52 (B : wx_B p s m args meth c cX5_readsIn 8 (some .int) wsX5_readsIn RX5 D ad ca A)    {r : Int32} {σ' : wx_St}   :
    ∀ {n : Nat} {x1 : Int32} {x2 : Int32} {x3 : Int32} {x4 : Int32} {x5 : Int64} {x7 : Int32} {σ : wx_St}  (h : f_X5_readsIn_52 n x1 x2 x3 x4 x5 x7 σ = some (r, σ')) {H : Heap} {locs : List Loc} (Z : wx_Z D ad rd ca A σ H) (hS : va_S A s.heap H locs) {ls : Array Slot} (hl : lv_has ls 8 [(0, .ref (ad 11 99)), (1, .int x1), (2, .int x2), (3, .int x3), (4, .int x4), (5, .long x5), (7, .int x7)]), W p l e ({ frames := 3, cells := 0, slots := 0, locals := 78 } : Room) s m args below meth c H locs 0 0 (MQ below (wx_Q D ad rd ca A (some (.int r)) σ') args s 0 0 A) (F0 m 52 ls []) := by
  obtain ⟨hx, hb, hml, hr, hts, hown, hlk, hC, hA⟩ := id B
  intro n
  induction n with
  | zero => intro x1 x2 x3 x4 x5 x7 σ  h H locs Z hS ls hl; exact wx_no h
  | succ n ih =>
    intro x1 x2 x3 x4 x5 x7 σ  h H locs Z hS ls hl
    rw [f_X5_readsIn_52] at h
    refine lv_iload hx hb dX5_readsIn_52 (lv_at hl 6 rfl) ?_
    refine lv_sipush (v := 200) hx hb dX5_readsIn_54 (by decide) ?_
    refine lv_icmp_gt (tgt := 95) hx hb dX5_readsIn_57 (by decide) (fun c57 => ?_) (fun c57 => ?_)
    · replace h := wx_ift c57 h
      refine lv_bipush (v := (-6)) hx hb dX5_readsIn_95 (by decide) ?_
      obtain ⟨rfl, rfl⟩ := wx_ret_ok h
      exact W.iret hx hb hr (fun t ht hW => ⟨rfl, by rw [ht]; exact Z, hS.F ht⟩) hS.2.2 dX5_readsIn_97
    · replace h := wx_iff c57 h
      refine lv_aload_n hx hb dX5_readsIn_60 rfl (lv_at hl 0 rfl) ?_
      refine wx_get (own := RX5) hx hb hts i_X5_readsIn_5 hown hC.1 Z (o := 11) (ci := 5) rfl (rfl : vwCl[5]? = some (RX5, TX5, 7)) 1 (by decide) (hts _ k_X5_readsIn_w0) (fun _ h9 => h9) (f := 108) rfl rfl dX5_readsIn_61 ?_
      refine wx_getN (own := RX5) hx hb hts i_X5_readsIn_0 hown hC.1 Z (o := 8) (ci := 0) rfl (rfl : vwCl[0]? = some (RX0, TX0, 13)) 7 (by decide) (wx_nst hC 11 rfl rfl) (fun _ h9 => h9) (f := 0) rfl rfl dX5_readsIn_64 ?_
      refine lv_iload hx hb dX5_readsIn_67 (lv_at hl 4 rfl) ?_
      obtain ⟨v69, ev69, iv69, h⟩ := wx_rF_ok h
      refine wx_fald hx hb hC.1 Z (o := 8) (k := 7) (n := 64) rfl rfl iv69 dX5_readsIn_69 ev69 ?_
      obtain ⟨v70, hc70, h⟩ := wx_o_ok h
      refine wx_call (va_runS (As := [.float v69]) (rest := []) ⟨hx, hb, hml, hown, hts⟩ (c_X5_readOf l (D := D) (ad := ad) (rd := rd) (ca := ca) (A := A) (σ := σ) hc70) (va_cwS 1 hts gX5_readsIn_X5_readOf rfl rfl rfl (by decide +kernel) ⟨Nat.le_of_ble_eq_true rfl, Nat.le_of_ble_eq_true rfl⟩) (wx_preS hC Z hS hA) rfl rfl hl.1 rfl (lv_room (Nat.le_of_ble_eq_true rfl)) dX5_readsIn_70 ⟨Nat.zero_le _, Nat.zero_le _⟩) hS (fun H locs Z hS => ?_)
      refine lv_iload_n hx hb dX5_readsIn_73 rfl (lv_at hl 3 rfl) ?_
      refine lv_icmp_lt (tgt := 80) hx hb dX5_readsIn_74 (by decide) (fun c74 => ?_) (fun c74 => ?_)
      · replace h := wx_ift c74 h
        refine lv_aload_n hx hb dX5_readsIn_80 rfl (lv_at hl 0 rfl) ?_
        refine wx_get (own := RX5) hx hb hts i_X5_readsIn_5 hown hC.1 Z (o := 11) (ci := 5) rfl (rfl : vwCl[5]? = some (RX5, TX5, 7)) 1 (by decide) (hts _ k_X5_readsIn_w0) (fun _ h9 => h9) (f := 108) rfl rfl dX5_readsIn_81 ?_
        refine lv_lload hx hb dX5_readsIn_84 (lv_at hl 5 rfl) ?_
        obtain ⟨v86, σ86, hc86, h⟩ := wx_b_ok h
        refine wx_call (va_runVN (As := [.long x5]) (rest := []) ⟨hx, hb, hml, hown, hts⟩ (c_X0_passOne l (D := D) (ad := ad) (rd := rd) (ca := ca) (A := A) (σ := σ) (o := 8) (by decide : 8 < 11) hc86) ⟨va_cnB 1 hts gX5_readsIn_X0_passOne_n209 rfl rfl rfl (hC.1.2.1 _ (List.mem_of_getElem? (i := 68) rfl)) (hts _ k_X5_readsIn_w2) (by decide +kernel) ⟨Nat.le_of_ble_eq_true rfl, Nat.le_of_ble_eq_true rfl⟩, hts _ k_X5_readsIn_w7, hts _ k_X5_readsIn_w8⟩ (wx_preV hC Z hS hA rfl (rfl : vwCl[0]? = some (RX0, TX0, 13))) rfl rfl hl.1 rfl (lv_room (Nat.le_of_ble_eq_true rfl)) dX5_readsIn_86 ⟨Nat.zero_le _, Nat.zero_le _⟩) hS (fun H locs Z hS => ?_)
        refine lv_iinc (v := x7 + 1) (lv' := [(7, .int (x7 + 1)), (0, .ref (ad 11 99)), (1, .int x1), (2, .int x2), (3, .int x3), (4, .int x4), (5, .long x5)]) hx hb dX5_readsIn_89 hl (k := 6) rfl rfl (by decide) rfl (fun ls hl => ?_)
        refine lv_goto (tgt := 52) hx hb dX5_readsIn_92 (by decide) ?_
        exact ih h Z hS (lv_sub hl [1, 2, 3, 4, 5, 6, 0] rfl)
      · replace h := wx_iff c74 h
        refine lv_iload hx hb dX5_readsIn_77 (lv_at hl 6 rfl) ?_
        obtain ⟨rfl, rfl⟩ := wx_ret_ok h
        exact W.iret hx hb hr (fun t ht hW => ⟨rfl, by rw [ht]; exact Z, hS.F ht⟩) hS.2.2 dX5_readsIn_79
set_option maxRecDepth 20000 in
set_option maxHeartbeats 4000000 in
theorem b_X5_readsIn_0 (B : wx_B p s m args meth c cX5_readsIn 8 (some .int) wsX5_readsIn RX5 D ad ca A)    {r : Int32} {σ' : wx_St}  {x1 : Int32} {x2 : Int32} {x3 : Int32} {σ : wx_St}  (h : f_X5_readsIn x1 x2 x3 σ = some (r, σ')) {H : Heap} {locs : List Loc} (Z : wx_Z D ad rd ca A σ H) (hS : va_S A s.heap H locs) {ls : Array Slot} (hl : lv_has ls 8 [(0, .ref (ad 11 99)), (1, .int x1), (2, .int x2), (3, .int x3)]) : W p l e ({ frames := 3, cells := 0, slots := 0, locals := 78 } : Room) s m args below meth c H locs 0 0 (MQ below (wx_Q D ad rd ca A (some (.int r)) σ') args s 0 0 A) (F0 m 0 ls []) := by
  obtain ⟨hx, hb, hml, hr, hts, hown, hlk, hC, hA⟩ := id B
  unfold f_X5_readsIn at h
  refine lv_iload_n hx hb dX5_readsIn_0 rfl (lv_at hl 1 rfl) ?_
  refine lv_iload_n hx hb dX5_readsIn_1 rfl (lv_at hl 2 rfl) ?_
  obtain ⟨v2, hc2, h⟩ := wx_o_ok h
  refine wx_call (va_runS (As := [.int x1, .int x2]) (rest := []) ⟨hx, hb, hml, hown, hts⟩ (c_X5_placeOf l (D := D) (ad := ad) (rd := rd) (ca := ca) (A := A) (σ := σ) hc2) (va_cwS 2 hts gX5_readsIn_X5_placeOf rfl rfl rfl (by decide +kernel) ⟨Nat.le_of_ble_eq_true rfl, Nat.le_of_ble_eq_true rfl⟩) (wx_preS hC Z hS hA) rfl rfl hl.1 rfl (lv_room (Nat.le_of_ble_eq_true rfl)) dX5_readsIn_2 ⟨Nat.zero_le _, Nat.zero_le _⟩) hS (fun H locs Z hS => ?_)
  refine lv_istore (lv' := [(4, .int v2), (0, .ref (ad 11 99)), (1, .int x1), (2, .int x2), (3, .int x3)]) hx hb dX5_readsIn_5 hl (by decide) rfl (fun ls hl => ?_)
  refine lv_iload hx hb dX5_readsIn_7 (lv_at hl 0 rfl) ?_
  refine lv_if_ge (tgt := 14) hx hb dX5_readsIn_9 (by decide) (fun c9 => ?_) (fun c9 => ?_)
  · replace h := wx_ift c9 h
    refine lv_iload_n hx hb dX5_readsIn_14 rfl (lv_at hl 4 rfl) ?_
    refine lv_iconst (v := 1) hx hb dX5_readsIn_15 (by decide) ?_
    refine lv_icmp_lt (tgt := 26) hx hb dX5_readsIn_16 (by decide) (fun c16 => ?_) (fun c16 => ?_)
    · replace h := wx_ift c16 h
      exact b_X5_readsIn_26 B h Z hS (lv_sub hl [1, 2, 3, 4, 0] rfl)
    · replace h := wx_iff c16 h
      refine lv_iload_n hx hb dX5_readsIn_19 rfl (lv_at hl 4 rfl) ?_
      refine lv_sipush (v := 9999) hx hb dX5_readsIn_20 (by decide) ?_
      refine lv_icmp_le (tgt := 29) hx hb dX5_readsIn_23 (by decide) (fun c23 => ?_) (fun c23 => ?_)
      · replace h := wx_ift c23 h
        refine lv_aload_n hx hb dX5_readsIn_29 rfl (lv_at hl 1 rfl) ?_
        refine wx_get (own := RX5) hx hb hts i_X5_readsIn_5 hown hC.1 Z (o := 11) (ci := 5) rfl (rfl : vwCl[5]? = some (RX5, TX5, 7)) 1 (by decide) (hts _ k_X5_readsIn_w0) (fun _ h9 => h9) (f := 108) rfl rfl dX5_readsIn_30 ?_
        refine lv_aload_n hx hb dX5_readsIn_33 rfl (lv_at hl 1 rfl) ?_
        refine wx_get (own := RX5) hx hb hts i_X5_readsIn_5 hown hC.1 Z (o := 11) (ci := 5) rfl (rfl : vwCl[5]? = some (RX5, TX5, 7)) 0 (by decide) (hts _ k_X5_readsIn_w1) (fun _ h9 => h9) (f := 107) rfl rfl dX5_readsIn_34 ?_
        obtain ⟨v37, σ37, hc37, h⟩ := wx_b_ok h
        refine wx_call (va_runVN (As := [.ref (ad 7 99)]) (rest := []) ⟨hx, hb, hml, hown, hts⟩ (c_X0_takeOver l (D := D) (ad := ad) (rd := rd) (ca := ca) (A := A) (σ := σ) (o := 8) (b1 := 7) (by decide : 8 < 11) (by decide : 7 < 11) hc37) ⟨va_cnB 1 hts gX5_readsIn_X0_takeOver_n206 rfl rfl rfl (hC.1.2.1 _ (List.mem_of_getElem? (i := 67) rfl)) (hts _ k_X5_readsIn_w2) (by decide +kernel) ⟨Nat.le_of_ble_eq_true rfl, Nat.le_of_ble_eq_true rfl⟩, hts _ k_X5_readsIn_w3, hts _ k_X5_readsIn_w4⟩ (wx_preV hC Z hS hA rfl (rfl : vwCl[0]? = some (RX0, TX0, 13))) rfl rfl hl.1 rfl (lv_room (Nat.le_of_ble_eq_true rfl)) dX5_readsIn_37 ⟨Nat.zero_le _, Nat.zero_le _⟩) hS (fun H locs Z hS => ?_)
        refine lv_aload_n hx hb dX5_readsIn_40 rfl (lv_at hl 1 rfl) ?_
        refine wx_get (own := RX5) hx hb hts i_X5_readsIn_5 hown hC.1 Z (o := 11) (ci := 5) rfl (rfl : vwCl[5]? = some (RX5, TX5, 7)) 1 (by decide) (hts _ k_X5_readsIn_w0) (fun _ h9 => h9) (f := 108) rfl rfl dX5_readsIn_41 ?_
        obtain ⟨v44, hc44, h⟩ := wx_o_ok h
        refine wx_call (va_runVN (As := []) (rest := []) ⟨hx, hb, hml, hown, hts⟩ (c_X0_heated l (D := D) (ad := ad) (rd := rd) (ca := ca) (A := A) (σ := σ37) (o := 8) (by decide : 8 < 11) hc44) ⟨va_cnB 0 hts gX5_readsIn_X0_heated_n170 rfl rfl rfl (hC.1.2.1 _ (List.mem_of_getElem? (i := 61) rfl)) (hts _ k_X5_readsIn_w2) (by decide +kernel) ⟨Nat.le_of_ble_eq_true rfl, Nat.le_of_ble_eq_true rfl⟩, hts _ k_X5_readsIn_w5, hts _ k_X5_readsIn_w6⟩ (wx_preV hC Z hS hA rfl (rfl : vwCl[0]? = some (RX0, TX0, 13))) rfl rfl hl.1 rfl (lv_room (Nat.le_of_ble_eq_true rfl)) dX5_readsIn_44 ⟨Nat.zero_le _, Nat.zero_le _⟩) hS (fun H locs Z hS => ?_)
        refine lv_lstore (lv' := [(5, .long v44), (4, .int v2), (0, .ref (ad 11 99)), (1, .int x1), (2, .int x2), (3, .int x3)]) hx hb dX5_readsIn_47 hl (by decide) rfl (fun ls hl => ?_)
        refine lv_iconst (v := 0) hx hb dX5_readsIn_49 (by decide) ?_
        refine lv_istore (lv' := [(7, .int 0), (5, .long v44), (4, .int v2), (0, .ref (ad 11 99)), (1, .int x1), (2, .int x2), (3, .int x3)]) hx hb dX5_readsIn_50 hl (by decide) rfl (fun ls hl => ?_)
        exact b_X5_readsIn_52 B h Z hS (lv_sub hl [3, 4, 5, 6, 2, 1, 0] rfl)
      · replace h := wx_iff c23 h
        exact b_X5_readsIn_26 B h Z hS (lv_sub hl [1, 2, 3, 4, 0] rfl)
  · replace h := wx_iff c9 h
    refine lv_iconst (v := (-1)) hx hb dX5_readsIn_12 (by decide) ?_
    obtain ⟨rfl, rfl⟩ := wx_ret_ok h
    exact W.iret hx hb hr (fun t ht hW => ⟨rfl, by rw [ht]; exact Z, hS.F ht⟩) hS.2.2 dX5_readsIn_13
set_option maxRecDepth 20000 in
theorem c_X5_readsIn (l : Launch) {D : va_G} {ad : Nat → Nat → Nat} {rd : Nat → Nat} {ca : Nat → ClassId} {A : Nat → Prop} {σ : wx_St}    {x1 : Int32} {x2 : Int32} {x3 : Int32} {r : Int32} {σ' : wx_St} (h : f_X5_readsIn x1 x2 x3 σ = some (r, σ')) : wx_M l yX5_readsIn wsX5_readsIn 3 78 D ad rd ca A [.ref (ad 11 99), .int x1, .int x2, .int x3] σ (some (.int r)) σ' := by
  refine Met.ofW (cc := cX5_readsIn) (maxL := 8) (ret := (some .int)) (by decide +kernel) rfl ?_
  intro p e s m args below meth c s₁ B0 hml hv
  obtain ⟨rfl, hC, Z, hA⟩ := hv
  have hl := lv_entry ([.ref (ad 11 99), .int x1, .int x2, .int x3]) (n := 8) (Nat.le_of_ble_eq_true rfl)
  rw [lg_entry_eq]
  generalize (lg_sl ([.ref (ad 11 99), .int x1, .int x2, .int x3]) ++ List.replicate (8 - (lg_sl ([.ref (ad 11 99), .int x1, .int x2, .int x3])).length) Slot.unset).toArray = ls at hl ⊢
  exact b_X5_readsIn_0 ⟨B0.exec, B0.bytes, hml, B0.returns, atoms_spec (ws := wsX5_readsIn) B0.pre, findClass_of_methodNamed B0.named, B0.notSynchronized, hC, hA⟩   h Z va_S.rf hl
theorem i_X5_restore_0 : ∀ w ∈ wsX00, w ∈ wsX5_restore := by decide +kernel
theorem i_X5_restore_5 : ∀ w ∈ wsX50, w ∈ wsX5_restore := by decide +kernel
theorem k_X5_restore_w0 : Cond.fieldLink RX5 44 "WarmProbes" "isSaved" "[Z" ∈ wsX5_restore := by decide +kernel
theorem k_X5_restore_w1 : Cond.fieldLink RX5 29 "WarmProbes" "past" "LWarmProbes$Past;" ∈ wsX5_restore := by decide +kernel
theorem k_X5_restore_w2 : Cond.fieldLink RX5 10 "WarmProbes" "board" "LWarmProbes$Board;" ∈ wsX5_restore := by decide +kernel
theorem k_X5_restore_w3 : Cond.initialized RX3 ∈ wsX5_restore := by decide +kernel
theorem k_X5_restore_w4 : Cond.instanceMethod yX3_prepare ∈ wsX5_restore := by decide +kernel
theorem k_X5_restore_w5 : Cond.selects RX3 yX3_prepare yX3_prepare ∈ wsX5_restore := by decide +kernel
theorem k_X5_restore_w6 : Cond.fieldLink RX5 40 "WarmProbes" "slots" "[LWarmProbes$Board;" ∈ wsX5_restore := by decide +kernel
theorem k_X5_restore_w7 : Cond.initialized RX0 ∈ wsX5_restore := by decide +kernel
theorem k_X5_restore_w8 : Cond.instanceMethod yX0_takeOver ∈ wsX5_restore := by decide +kernel
theorem k_X5_restore_w9 : Cond.selects RX0 yX0_takeOver yX0_takeOver ∈ wsX5_restore := by decide +kernel
theorem k_X5_restore_w10 : Cond.instanceMethod yX3_kept ∈ wsX5_restore := by decide +kernel
theorem k_X5_restore_w11 : Cond.selects RX3 yX3_kept yX3_kept ∈ wsX5_restore := by decide +kernel
set_option maxRecDepth 20000 in
set_option maxHeartbeats 4000000 in
theorem b_X5_restore_9 (B : wx_B p s m args meth c cX5_restore 2 (some .int) wsX5_restore RX5 D ad ca A)    {r : Int32} {σ' : wx_St}  {x1 : Int32} {σ : wx_St}  (h : f_X5_restore_9 x1 σ = some (r, σ')) {H : Heap} {locs : List Loc} (Z : wx_Z D ad rd ca A σ H) (hS : va_S A s.heap H locs) {ls : Array Slot} (hl : lv_has ls 2 [(0, .ref (ad 11 99)), (1, .int x1)]) : W p l e ({ frames := 3, cells := 0, slots := 0, locals := 68 } : Room) s m args below meth c H locs 0 0 (MQ below (wx_Q D ad rd ca A (some (.int r)) σ') args s 0 0 A) (F0 m 9 ls []) := by
  obtain ⟨hx, hb, hml, hr, hts, hown, hlk, hC, hA⟩ := id B
  unfold f_X5_restore_9 at h
  refine lv_bipush (v := (-2)) hx hb dX5_restore_9 (by decide) ?_
  obtain ⟨rfl, rfl⟩ := wx_ret_ok h
  exact W.iret hx hb hr (fun t ht hW => ⟨rfl, by rw [ht]; exact Z, hS.F ht⟩) hS.2.2 dX5_restore_11
set_option maxRecDepth 20000 in
set_option maxHeartbeats 4000000 in
theorem b_X5_restore_0 (B : wx_B p s m args meth c cX5_restore 2 (some .int) wsX5_restore RX5 D ad ca A)    {r : Int32} {σ' : wx_St}  {x1 : Int32} {σ : wx_St}  (h : f_X5_restore x1 σ = some (r, σ')) {H : Heap} {locs : List Loc} (Z : wx_Z D ad rd ca A σ H) (hS : va_S A s.heap H locs) {ls : Array Slot} (hl : lv_has ls 2 [(0, .ref (ad 11 99)), (1, .int x1)]) : W p l e ({ frames := 3, cells := 0, slots := 0, locals := 68 } : Room) s m args below meth c H locs 0 0 (MQ below (wx_Q D ad rd ca A (some (.int r)) σ') args s 0 0 A) (F0 m 0 ls []) := by
  obtain ⟨hx, hb, hml, hr, hts, hown, hlk, hC, hA⟩ := id B
  unfold f_X5_restore at h
  refine lv_iload_n hx hb dX5_restore_0 rfl (lv_at hl 1 rfl) ?_
  refine lv_if_lt (tgt := 9) hx hb dX5_restore_1 (by decide) (fun c1 => ?_) (fun c1 => ?_)
  · replace h := wx_ift c1 h
    exact b_X5_restore_9 B h Z hS (lv_sub hl [0, 1] rfl)
  · replace h := wx_iff c1 h
    refine lv_iload_n hx hb dX5_restore_4 rfl (lv_at hl 1 rfl) ?_
    refine lv_iconst (v := 2) hx hb dX5_restore_5 (by decide) ?_
    refine lv_icmp_lt (tgt := 12) hx hb dX5_restore_6 (by decide) (fun c6 => ?_) (fun c6 => ?_)
    · replace h := wx_ift c6 h
      refine lv_aload_n hx hb dX5_restore_12 rfl (lv_at hl 0 rfl) ?_
      refine wx_get (own := RX5) hx hb hts i_X5_restore_5 hown hC.1 Z (o := 11) (ci := 5) rfl (rfl : vwCl[5]? = some (RX5, TX5, 7)) 6 (by decide) (hts _ k_X5_restore_w0) (fun _ h9 => h9) (f := 0) rfl rfl dX5_restore_13 ?_
      refine lv_iload_n hx hb dX5_restore_16 rfl (lv_at hl 1 rfl) ?_
      obtain ⟨v17, ev17, iv17, h⟩ := wx_rI_ok h
      refine wx_zald hx hb hC.1 Z (o := 11) (k := 6) (n := 2) rfl rfl iv17 dX5_restore_17 ev17 ?_
      refine lv_if_ne (tgt := 24) hx hb dX5_restore_18 (by decide) (fun c18 => ?_) (fun c18 => ?_)
      · replace h := wx_iff c18 h
        refine lv_aload_n hx hb dX5_restore_24 rfl (lv_at hl 0 rfl) ?_
        refine wx_get (own := RX5) hx hb hts i_X5_restore_5 hown hC.1 Z (o := 11) (ci := 5) rfl (rfl : vwCl[5]? = some (RX5, TX5, 7)) 3 (by decide) (hts _ k_X5_restore_w1) (fun _ h9 => h9) (f := 114) rfl rfl dX5_restore_25 ?_
        refine lv_aload_n hx hb dX5_restore_28 rfl (lv_at hl 0 rfl) ?_
        refine wx_get (own := RX5) hx hb hts i_X5_restore_5 hown hC.1 Z (o := 11) (ci := 5) rfl (rfl : vwCl[5]? = some (RX5, TX5, 7)) 0 (by decide) (hts _ k_X5_restore_w2) (fun _ h9 => h9) (f := 107) rfl rfl dX5_restore_29 ?_
        obtain ⟨v32, σ32, hc32, h⟩ := wx_b_ok h
        refine wx_call (va_runVN (As := [.ref (ad 7 99)]) (rest := []) ⟨hx, hb, hml, hown, hts⟩ (c_X3_prepare l (D := D) (ad := ad) (rd := rd) (ca := ca) (A := A) (σ := σ) (b1 := 7) (by decide : 7 < 11) hc32) ⟨va_cnB 1 hts gX5_restore_X3_prepare_n48 rfl rfl rfl (hC.1.2.1 _ (List.mem_of_getElem? (i := 27) rfl)) (hts _ k_X5_restore_w3) (by decide +kernel) ⟨Nat.le_of_ble_eq_true rfl, Nat.le_of_ble_eq_true rfl⟩, hts _ k_X5_restore_w4, hts _ k_X5_restore_w5⟩ (wx_preV hC Z hS hA rfl (rfl : vwCl[3]? = some (RX3, TX3, 2))) rfl rfl hl.1 rfl (lv_room (Nat.le_of_ble_eq_true rfl)) dX5_restore_32 ⟨Nat.zero_le _, Nat.zero_le _⟩) hS (fun H locs Z hS => ?_)
        refine lv_aload_n hx hb dX5_restore_35 rfl (lv_at hl 0 rfl) ?_
        refine wx_get (own := RX5) hx hb hts i_X5_restore_5 hown hC.1 Z (o := 11) (ci := 5) rfl (rfl : vwCl[5]? = some (RX5, TX5, 7)) 0 (by decide) (hts _ k_X5_restore_w2) (fun _ h9 => h9) (f := 107) rfl rfl dX5_restore_36 ?_
        refine lv_aload_n hx hb dX5_restore_39 rfl (lv_at hl 0 rfl) ?_
        refine wx_get (own := RX5) hx hb hts i_X5_restore_5 hown hC.1 Z (o := 11) (ci := 5) rfl (rfl : vwCl[5]? = some (RX5, TX5, 7)) 5 (by decide) (hts _ k_X5_restore_w6) (fun _ h9 => h9) (f := 0) rfl rfl dX5_restore_40 ?_
        refine lv_iload_n hx hb dX5_restore_43 rfl (lv_at hl 1 rfl) ?_
        obtain ⟨z44, ez44, hz44, iz44, h⟩ := wx_rR_ok h
        refine wx_bald hx hb hC.1 Z (o := 11) (k := 5) (n := 2) rfl rfl iz44 dX5_restore_44 ez44 ?_
        obtain ⟨v45, σ45, hc45, h⟩ := wx_b_ok h
        refine wx_call (va_runVN (As := [.ref (ad z44 99)]) (rest := []) ⟨hx, hb, hml, hown, hts⟩ (c_X0_takeOver l (D := D) (ad := ad) (rd := rd) (ca := ca) (A := A) (σ := σ32) (o := 7) (b1 := z44) (by decide : 7 < 11) hz44 hc45) ⟨va_cnB 1 hts gX5_restore_X0_takeOver_n206 rfl rfl rfl (hC.1.2.1 _ (List.mem_of_getElem? (i := 67) rfl)) (hts _ k_X5_restore_w7) (by decide +kernel) ⟨Nat.le_of_ble_eq_true rfl, Nat.le_of_ble_eq_true rfl⟩, hts _ k_X5_restore_w8, hts _ k_X5_restore_w9⟩ (wx_preV hC Z hS hA rfl (rfl : vwCl[0]? = some (RX0, TX0, 13))) rfl rfl hl.1 rfl (lv_room (Nat.le_of_ble_eq_true rfl)) dX5_restore_45 ⟨Nat.zero_le _, Nat.zero_le _⟩) hS (fun H locs Z hS => ?_)
        refine lv_aload_n hx hb dX5_restore_48 rfl (lv_at hl 0 rfl) ?_
        refine wx_get (own := RX5) hx hb hts i_X5_restore_5 hown hC.1 Z (o := 11) (ci := 5) rfl (rfl : vwCl[5]? = some (RX5, TX5, 7)) 3 (by decide) (hts _ k_X5_restore_w1) (fun _ h9 => h9) (f := 114) rfl rfl dX5_restore_49 ?_
        refine lv_aload_n hx hb dX5_restore_52 rfl (lv_at hl 0 rfl) ?_
        refine wx_get (own := RX5) hx hb hts i_X5_restore_5 hown hC.1 Z (o := 11) (ci := 5) rfl (rfl : vwCl[5]? = some (RX5, TX5, 7)) 0 (by decide) (hts _ k_X5_restore_w2) (fun _ h9 => h9) (f := 107) rfl rfl dX5_restore_53 ?_
        refine wx_getN (own := RX5) hx hb hts i_X5_restore_0 hown hC.1 Z (o := 7) (ci := 0) rfl (rfl : vwCl[0]? = some (RX0, TX0, 13)) 3 (by decide) (wx_nst hC 6 rfl rfl) (fun _ h9 => h9) (f := 1) rfl rfl dX5_restore_56 ?_
        obtain ⟨v59, σ59, hc59, h⟩ := wx_b_ok h
        refine wx_call (va_runVN (As := [.int (σ45.2.2.1 7 3)]) (rest := []) ⟨hx, hb, hml, hown, hts⟩ (c_X3_kept l (D := D) (ad := ad) (rd := rd) (ca := ca) (A := A) (σ := σ45) hc59) ⟨va_cnB 1 hts gX5_restore_X3_kept_n56 rfl rfl rfl (hC.1.2.1 _ (List.mem_of_getElem? (i := 32) rfl)) (hts _ k_X5_restore_w3) (by decide +kernel) ⟨Nat.le_of_ble_eq_true rfl, Nat.le_of_ble_eq_true rfl⟩, hts _ k_X5_restore_w10, hts _ k_X5_restore_w11⟩ (wx_preV hC Z hS hA rfl (rfl : vwCl[3]? = some (RX3, TX3, 2))) rfl rfl hl.1 rfl (lv_room (Nat.le_of_ble_eq_true rfl)) dX5_restore_59 ⟨Nat.zero_le _, Nat.zero_le _⟩) hS (fun H locs Z hS => ?_)
        obtain ⟨rfl, rfl⟩ := wx_ret_ok h
        exact W.iret hx hb hr (fun t ht hW => ⟨rfl, by rw [ht]; exact Z, hS.F ht⟩) hS.2.2 dX5_restore_62
      · replace h := wx_ift c18 h
        refine lv_bipush (v := (-5)) hx hb dX5_restore_21 (by decide) ?_
        obtain ⟨rfl, rfl⟩ := wx_ret_ok h
        exact W.iret hx hb hr (fun t ht hW => ⟨rfl, by rw [ht]; exact Z, hS.F ht⟩) hS.2.2 dX5_restore_23
    · replace h := wx_iff c6 h
      exact b_X5_restore_9 B h Z hS (lv_sub hl [0, 1] rfl)
set_option maxRecDepth 20000 in
theorem c_X5_restore (l : Launch) {D : va_G} {ad : Nat → Nat → Nat} {rd : Nat → Nat} {ca : Nat → ClassId} {A : Nat → Prop} {σ : wx_St}    {x1 : Int32} {r : Int32} {σ' : wx_St} (h : f_X5_restore x1 σ = some (r, σ')) : wx_M l yX5_restore wsX5_restore 3 68 D ad rd ca A [.ref (ad 11 99), .int x1] σ (some (.int r)) σ' := by
  refine Met.ofW (cc := cX5_restore) (maxL := 2) (ret := (some .int)) (by decide +kernel) rfl ?_
  intro p e s m args below meth c s₁ B0 hml hv
  obtain ⟨rfl, hC, Z, hA⟩ := hv
  have hl := lv_entry ([.ref (ad 11 99), .int x1]) (n := 2) (Nat.le_of_ble_eq_true rfl)
  rw [lg_entry_eq]
  generalize (lg_sl ([.ref (ad 11 99), .int x1]) ++ List.replicate (2 - (lg_sl ([.ref (ad 11 99), .int x1])).length) Slot.unset).toArray = ls at hl ⊢
  exact b_X5_restore_0 ⟨B0.exec, B0.bytes, hml, B0.returns, atoms_spec (ws := wsX5_restore) B0.pre, findClass_of_methodNamed B0.named, B0.notSynchronized, hC, hA⟩   h Z va_S.rf hl
theorem i_X5_row_5 : ∀ w ∈ wsX50, w ∈ wsX5_row := by decide +kernel
theorem k_X5_row_w0 : Cond.fieldLink RX5 10 "WarmProbes" "board" "LWarmProbes$Board;" ∈ wsX5_row := by decide +kernel
theorem k_X5_row_w1 : Cond.initialized RX0 ∈ wsX5_row := by decide +kernel
theorem k_X5_row_w2 : Cond.instanceMethod yX0_tracked ∈ wsX5_row := by decide +kernel
theorem k_X5_row_w3 : Cond.selects RX0 yX0_tracked yX0_tracked ∈ wsX5_row := by decide +kernel
theorem k_X5_row_w4 : Cond.instanceMethod yX0_suspects ∈ wsX5_row := by decide +kernel
theorem k_X5_row_w5 : Cond.selects RX0 yX0_suspects yX0_suspects ∈ wsX5_row := by decide +kernel
theorem k_X5_row_w6 : Cond.fieldLink RX5 22 "WarmProbes" "suspicion" "LWarmProbes$Suspicion;" ∈ wsX5_row := by decide +kernel
theorem k_X5_row_w7 : Cond.initialized RX4 ∈ wsX5_row := by decide +kernel
theorem k_X5_row_w8 : Cond.instanceMethod yX4_fitting ∈ wsX5_row := by decide +kernel
theorem k_X5_row_w9 : Cond.selects RX4 yX4_fitting yX4_fitting ∈ wsX5_row := by decide +kernel
set_option maxRecDepth 20000 in
set_option maxHeartbeats 4000000 in
theorem m_X5_row_10  {r : Int32} {σ' : wx_St}  {x1 : Int32} {x2 : Int32} {σ : wx_St} (h : f_X5_row_10 x1 x2 σ = some (r, σ')) : wx_n σ.2.2.2.2 ≤ wx_n σ'.2.2.2.2 := by
  unfold f_X5_row_10 at h
  obtain ⟨rfl, rfl⟩ := wx_ret_ok h
  exact Nat.le_refl _
set_option maxRecDepth 20000 in
set_option maxHeartbeats 4000000 in
theorem b_X5_row_10 (B : wx_B p s m args meth c cX5_row 3 (some .int) wsX5_row RX5 D ad ca A)    {r : Int32} {σ' : wx_St} {mc : Nat}  {x1 : Int32} {x2 : Int32} {σ : wx_St} {k : Nat} (hk : k + wx_n σ'.2.2.2.2 ≤ mc + wx_n σ.2.2.2.2)  (h : f_X5_row_10 x1 x2 σ = some (r, σ')) {rd : Nat → Nat} {H : Heap} {locs : List Loc} (Z : wx_Z D ad rd ca A σ H) (hS : va_S A s.heap H locs) {ls : Array Slot} (hl : lv_has ls 3 [(0, .ref (ad 11 99)), (1, .int x1), (2, .int x2)]) : W p l e ({ frames := 6, cells := mc, slots := 6464 * mc, locals := 152 } : Room) s m args below meth c H locs k (6464 * k) (MQ below (wx_QA D ad ca A (some (.int r)) σ') args s mc (6464 * mc) A) (F0 m 10 ls []) := by
  obtain ⟨hx, hb, hml, hr, hts, hown, hlk, hC, hA⟩ := id B
  have hm := m_X5_row_10 h
  unfold f_X5_row_10 at h
  refine lv_iconst (v := (-1)) hx hb dX5_row_10 (by decide) ?_
  obtain ⟨rfl, rfl⟩ := wx_ret_ok h
  refine W.widen (k := mc) (n := 6464 * mc) (by omega) (by omega) ?_
  exact W.iret hx hb hr (fun t ht hW => ⟨rfl, ⟨_, by rw [ht]; exact Z⟩, hS.F ht⟩) hS.2.2 dX5_row_11
set_option maxRecDepth 20000 in
set_option maxHeartbeats 4000000 in
theorem m_X5_row_75  {r : Int32} {σ' : wx_St}  {x1 : Int32} {x2 : Int32} {y0 : Int64} {σ : wx_St} (h : f_X5_row_75 x1 x2 y0 σ = some (r, σ')) : wx_n σ.2.2.2.2 ≤ wx_n σ'.2.2.2.2 := by
  unfold f_X5_row_75 at h
  obtain ⟨v76, hc76, h⟩ := wx_o_ok h
  obtain ⟨rfl, rfl⟩ := wx_ret_ok h
  exact Nat.le_refl _
set_option maxRecDepth 20000 in
set_option maxHeartbeats 4000000 in
theorem b_X5_row_75 (B : wx_B p s m args meth c cX5_row 3 (some .int) wsX5_row RX5 D ad ca A)    {r : Int32} {σ' : wx_St} {mc : Nat}  {x1 : Int32} {x2 : Int32} {y0 : Int64} {σ : wx_St} {k : Nat} (hk : k + wx_n σ'.2.2.2.2 ≤ mc + wx_n σ.2.2.2.2)  (h : f_X5_row_75 x1 x2 y0 σ = some (r, σ')) {rd : Nat → Nat} {H : Heap} {locs : List Loc} (Z : wx_Z D ad rd ca A σ H) (hS : va_S A s.heap H locs) {ls : Array Slot} (hl : lv_has ls 3 [(0, .ref (ad 11 99)), (1, .int x1), (2, .int x2)]) : W p l e ({ frames := 6, cells := mc, slots := 6464 * mc, locals := 152 } : Room) s m args below meth c H locs k (6464 * k) (MQ below (wx_QA D ad ca A (some (.int r)) σ') args s mc (6464 * mc) A) (F0 m 75 ls [.long y0]) := by
  obtain ⟨hx, hb, hml, hr, hts, hown, hlk, hC, hA⟩ := id B
  have hm := m_X5_row_75 h
  unfold f_X5_row_75 at h
  refine lv_iload_n hx hb dX5_row_75 rfl (lv_at hl 1 rfl) ?_
  obtain ⟨v76, hc76, h⟩ := wx_o_ok h
  refine wx_call (va_runS (As := [.long y0, .int x1]) (rest := []) ⟨hx, hb, hml, hown, hts⟩ (c_X5_columnsOf l (D := D) (ad := ad) (rd := rd) (ca := ca) (A := A) (σ := σ) hc76) (va_cwS 2 hts gX5_row_X5_columnsOf rfl rfl rfl (by decide +kernel) ⟨Nat.le_of_ble_eq_true rfl, Nat.le_of_ble_eq_true rfl⟩) (wx_preS hC Z hS hA) rfl rfl hl.1 rfl (lv_room (Nat.le_of_ble_eq_true rfl)) dX5_row_76 ⟨(by show k + 0 ≤ mc; omega), (by show 6464 * k + 0 ≤ 6464 * mc; omega)⟩) hS (fun H locs Z hS => ?_)
  obtain ⟨rfl, rfl⟩ := wx_ret_ok h
  refine W.widen (k := mc) (n := 6464 * mc) (by omega) (by omega) ?_
  exact W.iret hx hb hr (fun t ht hW => ⟨rfl, ⟨_, by rw [ht]; exact Z⟩, hS.F ht⟩) hS.2.2 dX5_row_79
set_option maxRecDepth 20000 in
set_option maxHeartbeats 4000000 in
theorem m_X5_row_0  {r : Int32} {σ' : wx_St}  {x1 : Int32} {x2 : Int32} {σ : wx_St} (h : f_X5_row x1 x2 σ = some (r, σ')) : wx_n σ.2.2.2.2 ≤ wx_n σ'.2.2.2.2 := by
  unfold f_X5_row at h
  by_cases c1 : x1 < 0
  · replace h := wx_ift c1 h
    exact m_X5_row_10 h
  · replace h := wx_iff c1 h
    by_cases c7 : x1 < 8
    · replace h := wx_ift c7 h
      by_cases c13_0 : x2 = 0
      · replace h := wx_ift c13_0 h
        obtain ⟨v44, hc44, h⟩ := wx_o_ok h
        obtain ⟨v48, hc48, h⟩ := wx_o_ok h
        obtain ⟨rfl, rfl⟩ := wx_ret_ok h
        exact Nat.le_refl _
      · replace h := wx_iff c13_0 h
        by_cases c13_1 : x2 = 1
        · replace h := wx_ift c13_1 h
          obtain ⟨v56, hc56, h⟩ := wx_o_ok h
          obtain ⟨v60, hc60, h⟩ := wx_o_ok h
          obtain ⟨rfl, rfl⟩ := wx_ret_ok h
          exact Nat.le_refl _
        · replace h := wx_iff c13_1 h
          by_cases c13_2 : x2 = 2
          · replace h := wx_ift c13_2 h
            obtain ⟨v72, σ72, hc72, h⟩ := wx_b_ok h
            refine Nat.le_trans (m_X4_fitting_0 hc72) ?_
            exact m_X5_row_75 h
          · replace h := wx_iff c13_2 h
            obtain ⟨rfl, rfl⟩ := wx_ret_ok h
            exact Nat.le_refl _
    · replace h := wx_iff c7 h
      exact m_X5_row_10 h
set_option maxRecDepth 20000 in
set_option maxHeartbeats 4000000 in
theorem b_X5_row_0 (B : wx_B p s m args meth c cX5_row 3 (some .int) wsX5_row RX5 D ad ca A)    {r : Int32} {σ' : wx_St} {mc : Nat}  {x1 : Int32} {x2 : Int32} {σ : wx_St} {k : Nat} (hk : k + wx_n σ'.2.2.2.2 ≤ mc + wx_n σ.2.2.2.2)  (h : f_X5_row x1 x2 σ = some (r, σ')) {rd : Nat → Nat} {H : Heap} {locs : List Loc} (Z : wx_Z D ad rd ca A σ H) (hS : va_S A s.heap H locs) {ls : Array Slot} (hl : lv_has ls 3 [(0, .ref (ad 11 99)), (1, .int x1), (2, .int x2)]) : W p l e ({ frames := 6, cells := mc, slots := 6464 * mc, locals := 152 } : Room) s m args below meth c H locs k (6464 * k) (MQ below (wx_QA D ad ca A (some (.int r)) σ') args s mc (6464 * mc) A) (F0 m 0 ls []) := by
  obtain ⟨hx, hb, hml, hr, hts, hown, hlk, hC, hA⟩ := id B
  have hm := m_X5_row_0 h
  unfold f_X5_row at h
  refine lv_iload_n hx hb dX5_row_0 rfl (lv_at hl 1 rfl) ?_
  refine lv_if_lt (tgt := 10) hx hb dX5_row_1 (by decide) (fun c1 => ?_) (fun c1 => ?_)
  · replace h := wx_ift c1 h
    exact b_X5_row_10 B (k := k) hk h Z hS (lv_sub hl [0, 1, 2] rfl)
  · replace h := wx_iff c1 h
    refine lv_iload_n hx hb dX5_row_4 rfl (lv_at hl 1 rfl) ?_
    refine lv_bipush (v := 8) hx hb dX5_row_5 (by decide) ?_
    refine lv_icmp_lt (tgt := 12) hx hb dX5_row_7 (by decide) (fun c7 => ?_) (fun c7 => ?_)
    · replace h := wx_ift c7 h
      refine lv_iload_n hx hb dX5_row_12 rfl (lv_at hl 2 rfl) ?_
      by_cases c13_0 : x2 = 0
      · replace h := wx_ift c13_0 h
        refine lv_tableIn (off := 27) (tgt := 40) hx hb dX5_row_13 (by rw [c13_0]; decide) (by rw [c13_0]; decide) (by rw [c13_0]; rfl) (by decide) ?_
        refine lv_aload_n hx hb dX5_row_40 rfl (lv_at hl 0 rfl) ?_
        refine wx_get (own := RX5) hx hb hts i_X5_row_5 hown hC.1 Z (o := 11) (ci := 5) rfl (rfl : vwCl[5]? = some (RX5, TX5, 7)) 0 (by decide) (hts _ k_X5_row_w0) (fun _ h9 => h9) (f := 107) rfl rfl dX5_row_41 ?_
        obtain ⟨v44, hc44, h⟩ := wx_o_ok h
        refine wx_call (va_runVN (As := []) (rest := []) ⟨hx, hb, hml, hown, hts⟩ (c_X0_tracked l (D := D) (ad := ad) (rd := rd) (ca := ca) (A := A) (σ := σ) (o := 7) (by decide : 7 < 11) hc44) ⟨va_cnB 0 hts gX5_row_X0_tracked_n118 rfl rfl rfl (hC.1.2.1 _ (List.mem_of_getElem? (i := 55) rfl)) (hts _ k_X5_row_w1) (by decide +kernel) ⟨Nat.le_of_ble_eq_true rfl, Nat.le_of_ble_eq_true rfl⟩, hts _ k_X5_row_w2, hts _ k_X5_row_w3⟩ (wx_preV hC Z hS hA rfl (rfl : vwCl[0]? = some (RX0, TX0, 13))) rfl rfl hl.1 rfl (lv_room (Nat.le_of_ble_eq_true rfl)) dX5_row_44 ⟨(by show k + 0 ≤ mc; omega), (by show 6464 * k + 0 ≤ 6464 * mc; omega)⟩) hS (fun H locs Z hS => ?_)
        refine lv_iload_n hx hb dX5_row_47 rfl (lv_at hl 1 rfl) ?_
        obtain ⟨v48, hc48, h⟩ := wx_o_ok h
        refine wx_call (va_runS (As := [.long v44, .int x1]) (rest := []) ⟨hx, hb, hml, hown, hts⟩ (c_X5_columnsOf l (D := D) (ad := ad) (rd := rd) (ca := ca) (A := A) (σ := σ) hc48) (va_cwS 2 hts gX5_row_X5_columnsOf rfl rfl rfl (by decide +kernel) ⟨Nat.le_of_ble_eq_true rfl, Nat.le_of_ble_eq_true rfl⟩) (wx_preS hC Z hS hA) rfl rfl hl.1 rfl (lv_room (Nat.le_of_ble_eq_true rfl)) dX5_row_48 ⟨(by show k + 0 ≤ mc; omega), (by show 6464 * k + 0 ≤ 6464 * mc; omega)⟩) hS (fun H locs Z hS => ?_)
        obtain ⟨rfl, rfl⟩ := wx_ret_ok h
        refine W.widen (k := mc) (n := 6464 * mc) (by omega) (by omega) ?_
        exact W.iret hx hb hr (fun t ht hW => ⟨rfl, ⟨_, by rw [ht]; exact Z⟩, hS.F ht⟩) hS.2.2 dX5_row_51
      · replace h := wx_iff c13_0 h
        by_cases c13_1 : x2 = 1
        · replace h := wx_ift c13_1 h
          refine lv_tableIn (off := 39) (tgt := 52) hx hb dX5_row_13 (by rw [c13_1]; decide) (by rw [c13_1]; decide) (by rw [c13_1]; rfl) (by decide) ?_
          refine lv_aload_n hx hb dX5_row_52 rfl (lv_at hl 0 rfl) ?_
          refine wx_get (own := RX5) hx hb hts i_X5_row_5 hown hC.1 Z (o := 11) (ci := 5) rfl (rfl : vwCl[5]? = some (RX5, TX5, 7)) 0 (by decide) (hts _ k_X5_row_w0) (fun _ h9 => h9) (f := 107) rfl rfl dX5_row_53 ?_
          obtain ⟨v56, hc56, h⟩ := wx_o_ok h
          refine wx_call (va_runVN (As := []) (rest := []) ⟨hx, hb, hml, hown, hts⟩ (c_X0_suspects l (D := D) (ad := ad) (rd := rd) (ca := ca) (A := A) (σ := σ) (o := 7) (by decide : 7 < 11) hc56) ⟨va_cnB 0 hts gX5_row_X0_suspects_n126 rfl rfl rfl (hC.1.2.1 _ (List.mem_of_getElem? (i := 56) rfl)) (hts _ k_X5_row_w1) (by decide +kernel) ⟨Nat.le_of_ble_eq_true rfl, Nat.le_of_ble_eq_true rfl⟩, hts _ k_X5_row_w4, hts _ k_X5_row_w5⟩ (wx_preV hC Z hS hA rfl (rfl : vwCl[0]? = some (RX0, TX0, 13))) rfl rfl hl.1 rfl (lv_room (Nat.le_of_ble_eq_true rfl)) dX5_row_56 ⟨(by show k + 0 ≤ mc; omega), (by show 6464 * k + 0 ≤ 6464 * mc; omega)⟩) hS (fun H locs Z hS => ?_)
          refine lv_iload_n hx hb dX5_row_59 rfl (lv_at hl 1 rfl) ?_
          obtain ⟨v60, hc60, h⟩ := wx_o_ok h
          refine wx_call (va_runS (As := [.long v56, .int x1]) (rest := []) ⟨hx, hb, hml, hown, hts⟩ (c_X5_columnsOf l (D := D) (ad := ad) (rd := rd) (ca := ca) (A := A) (σ := σ) hc60) (va_cwS 2 hts gX5_row_X5_columnsOf rfl rfl rfl (by decide +kernel) ⟨Nat.le_of_ble_eq_true rfl, Nat.le_of_ble_eq_true rfl⟩) (wx_preS hC Z hS hA) rfl rfl hl.1 rfl (lv_room (Nat.le_of_ble_eq_true rfl)) dX5_row_60 ⟨(by show k + 0 ≤ mc; omega), (by show 6464 * k + 0 ≤ 6464 * mc; omega)⟩) hS (fun H locs Z hS => ?_)
          obtain ⟨rfl, rfl⟩ := wx_ret_ok h
          refine W.widen (k := mc) (n := 6464 * mc) (by omega) (by omega) ?_
          exact W.iret hx hb hr (fun t ht hW => ⟨rfl, ⟨_, by rw [ht]; exact Z⟩, hS.F ht⟩) hS.2.2 dX5_row_63
        · replace h := wx_iff c13_1 h
          by_cases c13_2 : x2 = 2
          · replace h := wx_ift c13_2 h
            refine lv_tableIn (off := 51) (tgt := 64) hx hb dX5_row_13 (by rw [c13_2]; decide) (by rw [c13_2]; decide) (by rw [c13_2]; rfl) (by decide) ?_
            refine lv_aload_n hx hb dX5_row_64 rfl (lv_at hl 0 rfl) ?_
            refine wx_get (own := RX5) hx hb hts i_X5_row_5 hown hC.1 Z (o := 11) (ci := 5) rfl (rfl : vwCl[5]? = some (RX5, TX5, 7)) 2 (by decide) (hts _ k_X5_row_w6) (fun _ h9 => h9) (f := 112) rfl rfl dX5_row_65 ?_
            refine lv_aload_n hx hb dX5_row_68 rfl (lv_at hl 0 rfl) ?_
            refine wx_get (own := RX5) hx hb hts i_X5_row_5 hown hC.1 Z (o := 11) (ci := 5) rfl (rfl : vwCl[5]? = some (RX5, TX5, 7)) 0 (by decide) (hts _ k_X5_row_w0) (fun _ h9 => h9) (f := 107) rfl rfl dX5_row_69 ?_
            obtain ⟨v72, σ72, hc72, h⟩ := wx_b_ok h
            have m1 := m_X4_fitting_0 hc72
            have m2 := m_X5_row_75 h
            refine wx_callA (va_runVN (As := [.ref (ad 7 99)]) (rest := []) ⟨hx, hb, hml, hown, hts⟩ (c_X4_fitting l (D := D) (ad := ad) (rd := rd) (ca := ca) (A := A) (σ := σ) (b1 := 7) (by decide : 7 < 11) hc72) ⟨va_cnB 1 hts gX5_row_X4_fitting_n129 rfl rfl rfl (hC.1.2.1 _ (List.mem_of_getElem? (i := 57) rfl)) (hts _ k_X5_row_w7) (by decide +kernel) ⟨Nat.le_of_ble_eq_true rfl, Nat.le_of_ble_eq_true rfl⟩, hts _ k_X5_row_w8, hts _ k_X5_row_w9⟩ (wx_preV hC Z hS hA rfl (rfl : vwCl[4]? = some (RX4, TX4, 2))) rfl rfl hl.1 rfl (lv_room (Nat.le_of_ble_eq_true rfl)) dX5_row_72 ⟨(by show k + (wx_n σ72.2.2.2.2 - wx_n σ.2.2.2.2) ≤ mc; omega), (by show 6464 * k + 6464 * (wx_n σ72.2.2.2.2 - wx_n σ.2.2.2.2) ≤ 6464 * mc; omega)⟩) hS (fun rd H locs Z hS => ?_)
            refine W.widen (k := k + (wx_n σ72.2.2.2.2 - wx_n σ.2.2.2.2)) (n := 6464 * (k + (wx_n σ72.2.2.2.2 - wx_n σ.2.2.2.2))) (Nat.le_refl _) (by omega) ?_
            exact b_X5_row_75 B (k := k + (wx_n σ72.2.2.2.2 - wx_n σ.2.2.2.2)) (by omega) h Z hS (lv_sub hl [0, 1, 2] rfl)
          · replace h := wx_iff c13_2 h
            have n13_0 := wx_ni c13_0
            have n13_1 := wx_ni c13_1
            have n13_2 := wx_ni c13_2
            rw [show (0 : Int32).toInt = 0 from by decide] at n13_0
            rw [show (1 : Int32).toInt = 1 from by decide] at n13_1
            rw [show (2 : Int32).toInt = 2 from by decide] at n13_2
            refine lv_tableOut (tgt := 80) hx hb dX5_row_13 (by omega) (by decide) ?_
            refine lv_bipush (v := (-2)) hx hb dX5_row_80 (by decide) ?_
            obtain ⟨rfl, rfl⟩ := wx_ret_ok h
            refine W.widen (k := mc) (n := 6464 * mc) (by omega) (by omega) ?_
            exact W.iret hx hb hr (fun t ht hW => ⟨rfl, ⟨_, by rw [ht]; exact Z⟩, hS.F ht⟩) hS.2.2 dX5_row_82
    · replace h := wx_iff c7 h
      exact b_X5_row_10 B (k := k) hk h Z hS (lv_sub hl [0, 1, 2] rfl)
set_option maxRecDepth 20000 in
theorem c_X5_row (l : Launch) {D : va_G} {ad : Nat → Nat → Nat} {rd : Nat → Nat} {ca : Nat → ClassId} {A : Nat → Prop} {σ : wx_St}    {x1 : Int32} {x2 : Int32} {r : Int32} {σ' : wx_St} (h : f_X5_row x1 x2 σ = some (r, σ')) : wx_MA l yX5_row wsX5_row 6 152 D ad rd ca A [.ref (ad 11 99), .int x1, .int x2] σ (some (.int r)) σ' := by
  refine Met.ofW (cc := cX5_row) (maxL := 3) (ret := (some .int)) (by decide +kernel) rfl ?_
  intro p e s m args below meth c s₁ B0 hml hv
  obtain ⟨rfl, hC, Z, hA⟩ := hv
  have hl := lv_entry ([.ref (ad 11 99), .int x1, .int x2]) (n := 3) (Nat.le_of_ble_eq_true rfl)
  rw [lg_entry_eq]
  generalize (lg_sl ([.ref (ad 11 99), .int x1, .int x2]) ++ List.replicate (3 - (lg_sl ([.ref (ad 11 99), .int x1, .int x2])).length) Slot.unset).toArray = ls at hl ⊢
  exact b_X5_row_0 ⟨B0.exec, B0.bytes, hml, B0.returns, atoms_spec (ws := wsX5_row) B0.pre, findClass_of_methodNamed B0.named, B0.notSynchronized, hC, hA⟩  (k := 0) (by have hm := m_X5_row_0 h; omega) h Z va_S.rf hl
theorem i_X5_save_0 : ∀ w ∈ wsX00, w ∈ wsX5_save := by decide +kernel
theorem i_X5_save_5 : ∀ w ∈ wsX50, w ∈ wsX5_save := by decide +kernel
theorem k_X5_save_w0 : Cond.fieldLink RX5 40 "WarmProbes" "slots" "[LWarmProbes$Board;" ∈ wsX5_save := by decide +kernel
theorem k_X5_save_w1 : Cond.fieldLink RX5 10 "WarmProbes" "board" "LWarmProbes$Board;" ∈ wsX5_save := by decide +kernel
theorem k_X5_save_w2 : Cond.initialized RX0 ∈ wsX5_save := by decide +kernel
theorem k_X5_save_w3 : Cond.instanceMethod yX0_takeOver ∈ wsX5_save := by decide +kernel
theorem k_X5_save_w4 : Cond.selects RX0 yX0_takeOver yX0_takeOver ∈ wsX5_save := by decide +kernel
theorem k_X5_save_w5 : Cond.fieldLink RX5 44 "WarmProbes" "isSaved" "[Z" ∈ wsX5_save := by decide +kernel
set_option maxRecDepth 20000 in
set_option maxHeartbeats 4000000 in
theorem b_X5_save_9 (B : wx_B p s m args meth c cX5_save 2 (some .int) wsX5_save RX5 D ad ca A)    {r : Int32} {σ' : wx_St}  {x1 : Int32} {σ : wx_St}  (h : f_X5_save_9 x1 σ = some (r, σ')) {H : Heap} {locs : List Loc} (Z : wx_Z D ad rd ca A σ H) (hS : va_S A s.heap H locs) {ls : Array Slot} (hl : lv_has ls 2 [(0, .ref (ad 11 99)), (1, .int x1)]) : W p l e ({ frames := 2, cells := 0, slots := 0, locals := 47 } : Room) s m args below meth c H locs 0 0 (MQ below (wx_Q D ad rd ca A (some (.int r)) σ') args s 0 0 A) (F0 m 9 ls []) := by
  obtain ⟨hx, hb, hml, hr, hts, hown, hlk, hC, hA⟩ := id B
  unfold f_X5_save_9 at h
  refine lv_bipush (v := (-2)) hx hb dX5_save_9 (by decide) ?_
  obtain ⟨rfl, rfl⟩ := wx_ret_ok h
  exact W.iret hx hb hr (fun t ht hW => ⟨rfl, by rw [ht]; exact Z, hS.F ht⟩) hS.2.2 dX5_save_11
set_option maxRecDepth 20000 in
set_option maxHeartbeats 4000000 in
theorem b_X5_save_0 (B : wx_B p s m args meth c cX5_save 2 (some .int) wsX5_save RX5 D ad ca A)    {r : Int32} {σ' : wx_St}  {x1 : Int32} {σ : wx_St}  (h : f_X5_save x1 σ = some (r, σ')) {H : Heap} {locs : List Loc} (Z : wx_Z D ad rd ca A σ H) (hS : va_S A s.heap H locs) {ls : Array Slot} (hl : lv_has ls 2 [(0, .ref (ad 11 99)), (1, .int x1)]) : W p l e ({ frames := 2, cells := 0, slots := 0, locals := 47 } : Room) s m args below meth c H locs 0 0 (MQ below (wx_Q D ad rd ca A (some (.int r)) σ') args s 0 0 A) (F0 m 0 ls []) := by
  obtain ⟨hx, hb, hml, hr, hts, hown, hlk, hC, hA⟩ := id B
  unfold f_X5_save at h
  refine lv_iload_n hx hb dX5_save_0 rfl (lv_at hl 1 rfl) ?_
  refine lv_if_lt (tgt := 9) hx hb dX5_save_1 (by decide) (fun c1 => ?_) (fun c1 => ?_)
  · replace h := wx_ift c1 h
    exact b_X5_save_9 B h Z hS (lv_sub hl [0, 1] rfl)
  · replace h := wx_iff c1 h
    refine lv_iload_n hx hb dX5_save_4 rfl (lv_at hl 1 rfl) ?_
    refine lv_iconst (v := 2) hx hb dX5_save_5 (by decide) ?_
    refine lv_icmp_lt (tgt := 12) hx hb dX5_save_6 (by decide) (fun c6 => ?_) (fun c6 => ?_)
    · replace h := wx_ift c6 h
      refine lv_aload_n hx hb dX5_save_12 rfl (lv_at hl 0 rfl) ?_
      refine wx_get (own := RX5) hx hb hts i_X5_save_5 hown hC.1 Z (o := 11) (ci := 5) rfl (rfl : vwCl[5]? = some (RX5, TX5, 7)) 5 (by decide) (hts _ k_X5_save_w0) (fun _ h9 => h9) (f := 0) rfl rfl dX5_save_13 ?_
      refine lv_iload_n hx hb dX5_save_16 rfl (lv_at hl 1 rfl) ?_
      obtain ⟨z17, ez17, hz17, iz17, h⟩ := wx_rR_ok h
      refine wx_bald hx hb hC.1 Z (o := 11) (k := 5) (n := 2) rfl rfl iz17 dX5_save_17 ez17 ?_
      refine lv_aload_n hx hb dX5_save_18 rfl (lv_at hl 0 rfl) ?_
      refine wx_get (own := RX5) hx hb hts i_X5_save_5 hown hC.1 Z (o := 11) (ci := 5) rfl (rfl : vwCl[5]? = some (RX5, TX5, 7)) 0 (by decide) (hts _ k_X5_save_w1) (fun _ h9 => h9) (f := 107) rfl rfl dX5_save_19 ?_
      obtain ⟨v22, σ22, hc22, h⟩ := wx_b_ok h
      refine wx_call (va_runVN (As := [.ref (ad 7 99)]) (rest := []) ⟨hx, hb, hml, hown, hts⟩ (c_X0_takeOver l (D := D) (ad := ad) (rd := rd) (ca := ca) (A := A) (σ := σ) (o := z17) (b1 := 7) hz17 (by decide : 7 < 11) hc22) ⟨va_cnB 1 hts gX5_save_X0_takeOver_n206 rfl rfl rfl (hC.1.2.1 _ (List.mem_of_getElem? (i := 67) rfl)) (hts _ k_X5_save_w2) (by decide +kernel) ⟨Nat.le_of_ble_eq_true rfl, Nat.le_of_ble_eq_true rfl⟩, hts _ k_X5_save_w3, hts _ k_X5_save_w4⟩ (wx_preV hC Z hS hA (wx_sbo hz17 99) (rfl : vwCl[0]? = some (RX0, TX0, 13))) rfl rfl hl.1 rfl (lv_room (Nat.le_of_ble_eq_true rfl)) dX5_save_22 ⟨Nat.zero_le _, Nat.zero_le _⟩) hS (fun H locs Z hS => ?_)
      refine lv_aload_n hx hb dX5_save_25 rfl (lv_at hl 0 rfl) ?_
      refine wx_get (own := RX5) hx hb hts i_X5_save_5 hown hC.1 Z (o := 11) (ci := 5) rfl (rfl : vwCl[5]? = some (RX5, TX5, 7)) 6 (by decide) (hts _ k_X5_save_w5) (fun _ h9 => h9) (f := 0) rfl rfl dX5_save_26 ?_
      refine lv_iload_n hx hb dX5_save_29 rfl (lv_at hl 1 rfl) ?_
      refine lv_iconst (v := 1) hx hb dX5_save_30 (by decide) ?_
      obtain ⟨σ31, e31, i31, h⟩ := wx_w_ok h
      refine wx_zast hx hb hC.1 Z hS (o := 11) (k := 6) (n := 2) rfl rfl i31 dX5_save_31 e31 (fun H locs Z hS => ?_)
      refine lv_aload_n hx hb dX5_save_32 rfl (lv_at hl 0 rfl) ?_
      refine wx_get (own := RX5) hx hb hts i_X5_save_5 hown hC.1 Z (o := 11) (ci := 5) rfl (rfl : vwCl[5]? = some (RX5, TX5, 7)) 0 (by decide) (hts _ k_X5_save_w1) (fun _ h9 => h9) (f := 107) rfl rfl dX5_save_33 ?_
      refine wx_getN (own := RX5) hx hb hts i_X5_save_0 hown hC.1 Z (o := 7) (ci := 0) rfl (rfl : vwCl[0]? = some (RX0, TX0, 13)) 3 (by decide) (wx_nst hC 6 rfl rfl) (fun _ h9 => h9) (f := 1) rfl rfl dX5_save_36 ?_
      obtain ⟨rfl, rfl⟩ := wx_ret_ok h
      exact W.iret hx hb hr (fun t ht hW => ⟨rfl, by rw [ht]; exact Z, hS.F ht⟩) hS.2.2 dX5_save_39
    · replace h := wx_iff c6 h
      exact b_X5_save_9 B h Z hS (lv_sub hl [0, 1] rfl)
set_option maxRecDepth 20000 in
theorem c_X5_save (l : Launch) {D : va_G} {ad : Nat → Nat → Nat} {rd : Nat → Nat} {ca : Nat → ClassId} {A : Nat → Prop} {σ : wx_St}    {x1 : Int32} {r : Int32} {σ' : wx_St} (h : f_X5_save x1 σ = some (r, σ')) : wx_M l yX5_save wsX5_save 2 47 D ad rd ca A [.ref (ad 11 99), .int x1] σ (some (.int r)) σ' := by
  refine Met.ofW (cc := cX5_save) (maxL := 2) (ret := (some .int)) (by decide +kernel) rfl ?_
  intro p e s m args below meth c s₁ B0 hml hv
  obtain ⟨rfl, hC, Z, hA⟩ := hv
  have hl := lv_entry ([.ref (ad 11 99), .int x1]) (n := 2) (Nat.le_of_ble_eq_true rfl)
  rw [lg_entry_eq]
  generalize (lg_sl ([.ref (ad 11 99), .int x1]) ++ List.replicate (2 - (lg_sl ([.ref (ad 11 99), .int x1])).length) Slot.unset).toArray = ls at hl ⊢
  exact b_X5_save_0 ⟨B0.exec, B0.bytes, hml, B0.returns, atoms_spec (ws := wsX5_save) B0.pre, findClass_of_methodNamed B0.named, B0.notSynchronized, hC, hA⟩   h Z va_S.rf hl
theorem i_X5_set_5 : ∀ w ∈ wsX50, w ∈ wsX5_set := by decide +kernel
theorem k_X5_set_w0 : Cond.fieldLink RX5 29 "WarmProbes" "past" "LWarmProbes$Past;" ∈ wsX5_set := by decide +kernel
theorem k_X5_set_w1 : Cond.fieldLink RX5 10 "WarmProbes" "board" "LWarmProbes$Board;" ∈ wsX5_set := by decide +kernel
theorem k_X5_set_w2 : Cond.initialized RX3 ∈ wsX5_set := by decide +kernel
theorem k_X5_set_w3 : Cond.instanceMethod yX3_prepare ∈ wsX5_set := by decide +kernel
theorem k_X5_set_w4 : Cond.selects RX3 yX3_prepare yX3_prepare ∈ wsX5_set := by decide +kernel
theorem k_X5_set_w5 : Cond.initialized RX0 ∈ wsX5_set := by decide +kernel
theorem k_X5_set_w6 : Cond.instanceMethod yX0_change ∈ wsX5_set := by decide +kernel
theorem k_X5_set_w7 : Cond.selects RX0 yX0_change yX0_change ∈ wsX5_set := by decide +kernel
theorem k_X5_set_w8 : Cond.instanceMethod yX3_kept ∈ wsX5_set := by decide +kernel
theorem k_X5_set_w9 : Cond.selects RX3 yX3_kept yX3_kept ∈ wsX5_set := by decide +kernel
set_option maxRecDepth 20000 in
set_option maxHeartbeats 4000000 in
theorem b_X5_set_0 (B : wx_B p s m args meth c cX5_set 3 (some .int) wsX5_set RX5 D ad ca A)    {r : Int32} {σ' : wx_St}  {x1 : Int32} {x2 : Int32} {σ : wx_St}  (h : f_X5_set x1 x2 σ = some (r, σ')) {H : Heap} {locs : List Loc} (Z : wx_Z D ad rd ca A σ H) (hS : va_S A s.heap H locs) {ls : Array Slot} (hl : lv_has ls 3 [(0, .ref (ad 11 99)), (1, .int x1), (2, .int x2)]) : W p l e ({ frames := 3, cells := 0, slots := 0, locals := 68 } : Room) s m args below meth c H locs 0 0 (MQ below (wx_Q D ad rd ca A (some (.int r)) σ') args s 0 0 A) (F0 m 0 ls []) := by
  obtain ⟨hx, hb, hml, hr, hts, hown, hlk, hC, hA⟩ := id B
  unfold f_X5_set at h
  refine lv_aload_n hx hb dX5_set_0 rfl (lv_at hl 0 rfl) ?_
  refine wx_get (own := RX5) hx hb hts i_X5_set_5 hown hC.1 Z (o := 11) (ci := 5) rfl (rfl : vwCl[5]? = some (RX5, TX5, 7)) 3 (by decide) (hts _ k_X5_set_w0) (fun _ h9 => h9) (f := 114) rfl rfl dX5_set_1 ?_
  refine lv_aload_n hx hb dX5_set_4 rfl (lv_at hl 0 rfl) ?_
  refine wx_get (own := RX5) hx hb hts i_X5_set_5 hown hC.1 Z (o := 11) (ci := 5) rfl (rfl : vwCl[5]? = some (RX5, TX5, 7)) 0 (by decide) (hts _ k_X5_set_w1) (fun _ h9 => h9) (f := 107) rfl rfl dX5_set_5 ?_
  obtain ⟨v8, σ8, hc8, h⟩ := wx_b_ok h
  refine wx_call (va_runVN (As := [.ref (ad 7 99)]) (rest := []) ⟨hx, hb, hml, hown, hts⟩ (c_X3_prepare l (D := D) (ad := ad) (rd := rd) (ca := ca) (A := A) (σ := σ) (b1 := 7) (by decide : 7 < 11) hc8) ⟨va_cnB 1 hts gX5_set_X3_prepare_n48 rfl rfl rfl (hC.1.2.1 _ (List.mem_of_getElem? (i := 27) rfl)) (hts _ k_X5_set_w2) (by decide +kernel) ⟨Nat.le_of_ble_eq_true rfl, Nat.le_of_ble_eq_true rfl⟩, hts _ k_X5_set_w3, hts _ k_X5_set_w4⟩ (wx_preV hC Z hS hA rfl (rfl : vwCl[3]? = some (RX3, TX3, 2))) rfl rfl hl.1 rfl (lv_room (Nat.le_of_ble_eq_true rfl)) dX5_set_8 ⟨Nat.zero_le _, Nat.zero_le _⟩) hS (fun H locs Z hS => ?_)
  refine lv_aload_n hx hb dX5_set_11 rfl (lv_at hl 0 rfl) ?_
  refine wx_get (own := RX5) hx hb hts i_X5_set_5 hown hC.1 Z (o := 11) (ci := 5) rfl (rfl : vwCl[5]? = some (RX5, TX5, 7)) 3 (by decide) (hts _ k_X5_set_w0) (fun _ h9 => h9) (f := 114) rfl rfl dX5_set_12 ?_
  refine lv_aload_n hx hb dX5_set_15 rfl (lv_at hl 0 rfl) ?_
  refine wx_get (own := RX5) hx hb hts i_X5_set_5 hown hC.1 Z (o := 11) (ci := 5) rfl (rfl : vwCl[5]? = some (RX5, TX5, 7)) 0 (by decide) (hts _ k_X5_set_w1) (fun _ h9 => h9) (f := 107) rfl rfl dX5_set_16 ?_
  refine lv_iload_n hx hb dX5_set_19 rfl (lv_at hl 1 rfl) ?_
  refine lv_iload_n hx hb dX5_set_20 rfl (lv_at hl 2 rfl) ?_
  obtain ⟨v21, σ21, hc21, h⟩ := wx_b_ok h
  refine wx_call (va_runVN (As := [.int x1, .int x2]) (rest := [.ref (ad 14 99)]) ⟨hx, hb, hml, hown, hts⟩ (c_X0_change l (D := D) (ad := ad) (rd := rd) (ca := ca) (A := A) (σ := σ8) (o := 7) (by decide : 7 < 11) hc21) ⟨va_cnB 2 hts gX5_set_X0_change_n52 rfl rfl rfl (hC.1.2.1 _ (List.mem_of_getElem? (i := 29) rfl)) (hts _ k_X5_set_w5) (by decide +kernel) ⟨Nat.le_of_ble_eq_true rfl, Nat.le_of_ble_eq_true rfl⟩, hts _ k_X5_set_w6, hts _ k_X5_set_w7⟩ (wx_preV hC Z hS hA rfl (rfl : vwCl[0]? = some (RX0, TX0, 13))) rfl rfl hl.1 rfl (lv_room (Nat.le_of_ble_eq_true rfl)) dX5_set_21 ⟨Nat.zero_le _, Nat.zero_le _⟩) hS (fun H locs Z hS => ?_)
  obtain ⟨v24, σ24, hc24, h⟩ := wx_b_ok h
  refine wx_call (va_runVN (As := [.int v21]) (rest := []) ⟨hx, hb, hml, hown, hts⟩ (c_X3_kept l (D := D) (ad := ad) (rd := rd) (ca := ca) (A := A) (σ := σ21) hc24) ⟨va_cnB 1 hts gX5_set_X3_kept_n56 rfl rfl rfl (hC.1.2.1 _ (List.mem_of_getElem? (i := 32) rfl)) (hts _ k_X5_set_w2) (by decide +kernel) ⟨Nat.le_of_ble_eq_true rfl, Nat.le_of_ble_eq_true rfl⟩, hts _ k_X5_set_w8, hts _ k_X5_set_w9⟩ (wx_preV hC Z hS hA rfl (rfl : vwCl[3]? = some (RX3, TX3, 2))) rfl rfl hl.1 rfl (lv_room (Nat.le_of_ble_eq_true rfl)) dX5_set_24 ⟨Nat.zero_le _, Nat.zero_le _⟩) hS (fun H locs Z hS => ?_)
  obtain ⟨rfl, rfl⟩ := wx_ret_ok h
  exact W.iret hx hb hr (fun t ht hW => ⟨rfl, by rw [ht]; exact Z, hS.F ht⟩) hS.2.2 dX5_set_27
set_option maxRecDepth 20000 in
theorem c_X5_set (l : Launch) {D : va_G} {ad : Nat → Nat → Nat} {rd : Nat → Nat} {ca : Nat → ClassId} {A : Nat → Prop} {σ : wx_St}    {x1 : Int32} {x2 : Int32} {r : Int32} {σ' : wx_St} (h : f_X5_set x1 x2 σ = some (r, σ')) : wx_M l yX5_set wsX5_set 3 68 D ad rd ca A [.ref (ad 11 99), .int x1, .int x2] σ (some (.int r)) σ' := by
  refine Met.ofW (cc := cX5_set) (maxL := 3) (ret := (some .int)) (by decide +kernel) rfl ?_
  intro p e s m args below meth c s₁ B0 hml hv
  obtain ⟨rfl, hC, Z, hA⟩ := hv
  have hl := lv_entry ([.ref (ad 11 99), .int x1, .int x2]) (n := 3) (Nat.le_of_ble_eq_true rfl)
  rw [lg_entry_eq]
  generalize (lg_sl ([.ref (ad 11 99), .int x1, .int x2]) ++ List.replicate (3 - (lg_sl ([.ref (ad 11 99), .int x1, .int x2])).length) Slot.unset).toArray = ls at hl ⊢
  exact b_X5_set_0 ⟨B0.exec, B0.bytes, hml, B0.returns, atoms_spec (ws := wsX5_set) B0.pre, findClass_of_methodNamed B0.named, B0.notSynchronized, hC, hA⟩   h Z va_S.rf hl
theorem i_X5_touch_5 : ∀ w ∈ wsX50, w ∈ wsX5_touch := by decide +kernel
theorem k_X5_touch_w0 : Cond.fieldLink RX5 29 "WarmProbes" "past" "LWarmProbes$Past;" ∈ wsX5_touch := by decide +kernel
theorem k_X5_touch_w1 : Cond.fieldLink RX5 10 "WarmProbes" "board" "LWarmProbes$Board;" ∈ wsX5_touch := by decide +kernel
theorem k_X5_touch_w2 : Cond.initialized RX3 ∈ wsX5_touch := by decide +kernel
theorem k_X5_touch_w3 : Cond.instanceMethod yX3_prepare ∈ wsX5_touch := by decide +kernel
theorem k_X5_touch_w4 : Cond.selects RX3 yX3_prepare yX3_prepare ∈ wsX5_touch := by decide +kernel
theorem k_X5_touch_w5 : Cond.initialized RX0 ∈ wsX5_touch := by decide +kernel
theorem k_X5_touch_w6 : Cond.instanceMethod yX0_join ∈ wsX5_touch := by decide +kernel
theorem k_X5_touch_w7 : Cond.selects RX0 yX0_join yX0_join ∈ wsX5_touch := by decide +kernel
theorem k_X5_touch_w8 : Cond.instanceMethod yX3_kept ∈ wsX5_touch := by decide +kernel
theorem k_X5_touch_w9 : Cond.selects RX3 yX3_kept yX3_kept ∈ wsX5_touch := by decide +kernel
set_option maxRecDepth 20000 in
set_option maxHeartbeats 4000000 in
theorem b_X5_touch_0 (B : wx_B p s m args meth c cX5_touch 4 (some .int) wsX5_touch RX5 D ad ca A)    {r : Int32} {σ' : wx_St}  {x1 : Int32} {x2 : Int32} {x3 : Int32} {σ : wx_St}  (h : f_X5_touch x1 x2 x3 σ = some (r, σ')) {H : Heap} {locs : List Loc} (Z : wx_Z D ad rd ca A σ H) (hS : va_S A s.heap H locs) {ls : Array Slot} (hl : lv_has ls 4 [(0, .ref (ad 11 99)), (1, .int x1), (2, .int x2), (3, .int x3)]) : W p l e ({ frames := 3, cells := 0, slots := 0, locals := 69 } : Room) s m args below meth c H locs 0 0 (MQ below (wx_Q D ad rd ca A (some (.int r)) σ') args s 0 0 A) (F0 m 0 ls []) := by
  obtain ⟨hx, hb, hml, hr, hts, hown, hlk, hC, hA⟩ := id B
  unfold f_X5_touch at h
  refine lv_aload_n hx hb dX5_touch_0 rfl (lv_at hl 0 rfl) ?_
  refine wx_get (own := RX5) hx hb hts i_X5_touch_5 hown hC.1 Z (o := 11) (ci := 5) rfl (rfl : vwCl[5]? = some (RX5, TX5, 7)) 3 (by decide) (hts _ k_X5_touch_w0) (fun _ h9 => h9) (f := 114) rfl rfl dX5_touch_1 ?_
  refine lv_aload_n hx hb dX5_touch_4 rfl (lv_at hl 0 rfl) ?_
  refine wx_get (own := RX5) hx hb hts i_X5_touch_5 hown hC.1 Z (o := 11) (ci := 5) rfl (rfl : vwCl[5]? = some (RX5, TX5, 7)) 0 (by decide) (hts _ k_X5_touch_w1) (fun _ h9 => h9) (f := 107) rfl rfl dX5_touch_5 ?_
  obtain ⟨v8, σ8, hc8, h⟩ := wx_b_ok h
  refine wx_call (va_runVN (As := [.ref (ad 7 99)]) (rest := []) ⟨hx, hb, hml, hown, hts⟩ (c_X3_prepare l (D := D) (ad := ad) (rd := rd) (ca := ca) (A := A) (σ := σ) (b1 := 7) (by decide : 7 < 11) hc8) ⟨va_cnB 1 hts gX5_touch_X3_prepare_n48 rfl rfl rfl (hC.1.2.1 _ (List.mem_of_getElem? (i := 27) rfl)) (hts _ k_X5_touch_w2) (by decide +kernel) ⟨Nat.le_of_ble_eq_true rfl, Nat.le_of_ble_eq_true rfl⟩, hts _ k_X5_touch_w3, hts _ k_X5_touch_w4⟩ (wx_preV hC Z hS hA rfl (rfl : vwCl[3]? = some (RX3, TX3, 2))) rfl rfl hl.1 rfl (lv_room (Nat.le_of_ble_eq_true rfl)) dX5_touch_8 ⟨Nat.zero_le _, Nat.zero_le _⟩) hS (fun H locs Z hS => ?_)
  refine lv_aload_n hx hb dX5_touch_11 rfl (lv_at hl 0 rfl) ?_
  refine wx_get (own := RX5) hx hb hts i_X5_touch_5 hown hC.1 Z (o := 11) (ci := 5) rfl (rfl : vwCl[5]? = some (RX5, TX5, 7)) 3 (by decide) (hts _ k_X5_touch_w0) (fun _ h9 => h9) (f := 114) rfl rfl dX5_touch_12 ?_
  refine lv_aload_n hx hb dX5_touch_15 rfl (lv_at hl 0 rfl) ?_
  refine wx_get (own := RX5) hx hb hts i_X5_touch_5 hown hC.1 Z (o := 11) (ci := 5) rfl (rfl : vwCl[5]? = some (RX5, TX5, 7)) 0 (by decide) (hts _ k_X5_touch_w1) (fun _ h9 => h9) (f := 107) rfl rfl dX5_touch_16 ?_
  refine lv_iload_n hx hb dX5_touch_19 rfl (lv_at hl 1 rfl) ?_
  refine lv_iload_n hx hb dX5_touch_20 rfl (lv_at hl 2 rfl) ?_
  refine lv_iload_n hx hb dX5_touch_21 rfl (lv_at hl 3 rfl) ?_
  obtain ⟨v22, σ22, hc22, h⟩ := wx_b_ok h
  refine wx_call (va_runVN (As := [.int x1, .int x2, .int x3]) (rest := [.ref (ad 14 99)]) ⟨hx, hb, hml, hown, hts⟩ (c_X0_join l (D := D) (ad := ad) (rd := rd) (ca := ca) (A := A) (σ := σ8) (o := 7) (by decide : 7 < 11) hc22) ⟨va_cnB 3 hts gX5_touch_X0_join_n64 rfl rfl rfl (hC.1.2.1 _ (List.mem_of_getElem? (i := 37) rfl)) (hts _ k_X5_touch_w5) (by decide +kernel) ⟨Nat.le_of_ble_eq_true rfl, Nat.le_of_ble_eq_true rfl⟩, hts _ k_X5_touch_w6, hts _ k_X5_touch_w7⟩ (wx_preV hC Z hS hA rfl (rfl : vwCl[0]? = some (RX0, TX0, 13))) rfl rfl hl.1 rfl (lv_room (Nat.le_of_ble_eq_true rfl)) dX5_touch_22 ⟨Nat.zero_le _, Nat.zero_le _⟩) hS (fun H locs Z hS => ?_)
  obtain ⟨v25, σ25, hc25, h⟩ := wx_b_ok h
  refine wx_call (va_runVN (As := [.int v22]) (rest := []) ⟨hx, hb, hml, hown, hts⟩ (c_X3_kept l (D := D) (ad := ad) (rd := rd) (ca := ca) (A := A) (σ := σ22) hc25) ⟨va_cnB 1 hts gX5_touch_X3_kept_n56 rfl rfl rfl (hC.1.2.1 _ (List.mem_of_getElem? (i := 32) rfl)) (hts _ k_X5_touch_w2) (by decide +kernel) ⟨Nat.le_of_ble_eq_true rfl, Nat.le_of_ble_eq_true rfl⟩, hts _ k_X5_touch_w8, hts _ k_X5_touch_w9⟩ (wx_preV hC Z hS hA rfl (rfl : vwCl[3]? = some (RX3, TX3, 2))) rfl rfl hl.1 rfl (lv_room (Nat.le_of_ble_eq_true rfl)) dX5_touch_25 ⟨Nat.zero_le _, Nat.zero_le _⟩) hS (fun H locs Z hS => ?_)
  obtain ⟨rfl, rfl⟩ := wx_ret_ok h
  exact W.iret hx hb hr (fun t ht hW => ⟨rfl, by rw [ht]; exact Z, hS.F ht⟩) hS.2.2 dX5_touch_28
set_option maxRecDepth 20000 in
theorem c_X5_touch (l : Launch) {D : va_G} {ad : Nat → Nat → Nat} {rd : Nat → Nat} {ca : Nat → ClassId} {A : Nat → Prop} {σ : wx_St}    {x1 : Int32} {x2 : Int32} {x3 : Int32} {r : Int32} {σ' : wx_St} (h : f_X5_touch x1 x2 x3 σ = some (r, σ')) : wx_M l yX5_touch wsX5_touch 3 69 D ad rd ca A [.ref (ad 11 99), .int x1, .int x2, .int x3] σ (some (.int r)) σ' := by
  refine Met.ofW (cc := cX5_touch) (maxL := 4) (ret := (some .int)) (by decide +kernel) rfl ?_
  intro p e s m args below meth c s₁ B0 hml hv
  obtain ⟨rfl, hC, Z, hA⟩ := hv
  have hl := lv_entry ([.ref (ad 11 99), .int x1, .int x2, .int x3]) (n := 4) (Nat.le_of_ble_eq_true rfl)
  rw [lg_entry_eq]
  generalize (lg_sl ([.ref (ad 11 99), .int x1, .int x2, .int x3]) ++ List.replicate (4 - (lg_sl ([.ref (ad 11 99), .int x1, .int x2, .int x3])).length) Slot.unset).toArray = ls at hl ⊢
  exact b_X5_touch_0 ⟨B0.exec, B0.bytes, hml, B0.returns, atoms_spec (ws := wsX5_touch) B0.pre, findClass_of_methodNamed B0.named, B0.notSynchronized, hC, hA⟩   h Z va_S.rf hl
theorem i_X5_track_5 : ∀ w ∈ wsX50, w ∈ wsX5_track := by decide +kernel
theorem k_X5_track_w0 : Cond.fieldLink RX5 29 "WarmProbes" "past" "LWarmProbes$Past;" ∈ wsX5_track := by decide +kernel
theorem k_X5_track_w1 : Cond.fieldLink RX5 10 "WarmProbes" "board" "LWarmProbes$Board;" ∈ wsX5_track := by decide +kernel
theorem k_X5_track_w2 : Cond.initialized RX3 ∈ wsX5_track := by decide +kernel
theorem k_X5_track_w3 : Cond.instanceMethod yX3_prepare ∈ wsX5_track := by decide +kernel
theorem k_X5_track_w4 : Cond.selects RX3 yX3_prepare yX3_prepare ∈ wsX5_track := by decide +kernel
theorem k_X5_track_w5 : Cond.initialized RX0 ∈ wsX5_track := by decide +kernel
theorem k_X5_track_w6 : Cond.instanceMethod yX0_lay ∈ wsX5_track := by decide +kernel
theorem k_X5_track_w7 : Cond.selects RX0 yX0_lay yX0_lay ∈ wsX5_track := by decide +kernel
theorem k_X5_track_w8 : Cond.instanceMethod yX3_kept ∈ wsX5_track := by decide +kernel
theorem k_X5_track_w9 : Cond.selects RX3 yX3_kept yX3_kept ∈ wsX5_track := by decide +kernel
set_option maxRecDepth 20000 in
set_option maxHeartbeats 4000000 in
theorem b_X5_track_0 (B : wx_B p s m args meth c cX5_track 4 (some .int) wsX5_track RX5 D ad ca A)    {r : Int32} {σ' : wx_St}  {x1 : Int32} {x2 : Int32} {x3 : Int32} {σ : wx_St}  (h : f_X5_track x1 x2 x3 σ = some (r, σ')) {H : Heap} {locs : List Loc} (Z : wx_Z D ad rd ca A σ H) (hS : va_S A s.heap H locs) {ls : Array Slot} (hl : lv_has ls 4 [(0, .ref (ad 11 99)), (1, .int x1), (2, .int x2), (3, .int x3)]) : W p l e ({ frames := 4, cells := 0, slots := 0, locals := 90 } : Room) s m args below meth c H locs 0 0 (MQ below (wx_Q D ad rd ca A (some (.int r)) σ') args s 0 0 A) (F0 m 0 ls []) := by
  obtain ⟨hx, hb, hml, hr, hts, hown, hlk, hC, hA⟩ := id B
  unfold f_X5_track at h
  refine lv_aload_n hx hb dX5_track_0 rfl (lv_at hl 0 rfl) ?_
  refine wx_get (own := RX5) hx hb hts i_X5_track_5 hown hC.1 Z (o := 11) (ci := 5) rfl (rfl : vwCl[5]? = some (RX5, TX5, 7)) 3 (by decide) (hts _ k_X5_track_w0) (fun _ h9 => h9) (f := 114) rfl rfl dX5_track_1 ?_
  refine lv_aload_n hx hb dX5_track_4 rfl (lv_at hl 0 rfl) ?_
  refine wx_get (own := RX5) hx hb hts i_X5_track_5 hown hC.1 Z (o := 11) (ci := 5) rfl (rfl : vwCl[5]? = some (RX5, TX5, 7)) 0 (by decide) (hts _ k_X5_track_w1) (fun _ h9 => h9) (f := 107) rfl rfl dX5_track_5 ?_
  obtain ⟨v8, σ8, hc8, h⟩ := wx_b_ok h
  refine wx_call (va_runVN (As := [.ref (ad 7 99)]) (rest := []) ⟨hx, hb, hml, hown, hts⟩ (c_X3_prepare l (D := D) (ad := ad) (rd := rd) (ca := ca) (A := A) (σ := σ) (b1 := 7) (by decide : 7 < 11) hc8) ⟨va_cnB 1 hts gX5_track_X3_prepare_n48 rfl rfl rfl (hC.1.2.1 _ (List.mem_of_getElem? (i := 27) rfl)) (hts _ k_X5_track_w2) (by decide +kernel) ⟨Nat.le_of_ble_eq_true rfl, Nat.le_of_ble_eq_true rfl⟩, hts _ k_X5_track_w3, hts _ k_X5_track_w4⟩ (wx_preV hC Z hS hA rfl (rfl : vwCl[3]? = some (RX3, TX3, 2))) rfl rfl hl.1 rfl (lv_room (Nat.le_of_ble_eq_true rfl)) dX5_track_8 ⟨Nat.zero_le _, Nat.zero_le _⟩) hS (fun H locs Z hS => ?_)
  refine lv_aload_n hx hb dX5_track_11 rfl (lv_at hl 0 rfl) ?_
  refine wx_get (own := RX5) hx hb hts i_X5_track_5 hown hC.1 Z (o := 11) (ci := 5) rfl (rfl : vwCl[5]? = some (RX5, TX5, 7)) 3 (by decide) (hts _ k_X5_track_w0) (fun _ h9 => h9) (f := 114) rfl rfl dX5_track_12 ?_
  refine lv_aload_n hx hb dX5_track_15 rfl (lv_at hl 0 rfl) ?_
  refine wx_get (own := RX5) hx hb hts i_X5_track_5 hown hC.1 Z (o := 11) (ci := 5) rfl (rfl : vwCl[5]? = some (RX5, TX5, 7)) 0 (by decide) (hts _ k_X5_track_w1) (fun _ h9 => h9) (f := 107) rfl rfl dX5_track_16 ?_
  refine lv_iload_n hx hb dX5_track_19 rfl (lv_at hl 1 rfl) ?_
  refine lv_iload_n hx hb dX5_track_20 rfl (lv_at hl 2 rfl) ?_
  refine lv_iload_n hx hb dX5_track_21 rfl (lv_at hl 3 rfl) ?_
  obtain ⟨v22, σ22, hc22, h⟩ := wx_b_ok h
  refine wx_call (va_runVN (As := [.int x1, .int x2, .int x3]) (rest := [.ref (ad 14 99)]) ⟨hx, hb, hml, hown, hts⟩ (c_X0_lay l (D := D) (ad := ad) (rd := rd) (ca := ca) (A := A) (σ := σ8) (o := 7) (by decide : 7 < 11) hc22) ⟨va_cnB 3 hts gX5_track_X0_lay_n60 rfl rfl rfl (hC.1.2.1 _ (List.mem_of_getElem? (i := 33) rfl)) (hts _ k_X5_track_w5) (by decide +kernel) ⟨Nat.le_of_ble_eq_true rfl, Nat.le_of_ble_eq_true rfl⟩, hts _ k_X5_track_w6, hts _ k_X5_track_w7⟩ (wx_preV hC Z hS hA rfl (rfl : vwCl[0]? = some (RX0, TX0, 13))) rfl rfl hl.1 rfl (lv_room (Nat.le_of_ble_eq_true rfl)) dX5_track_22 ⟨Nat.zero_le _, Nat.zero_le _⟩) hS (fun H locs Z hS => ?_)
  obtain ⟨v25, σ25, hc25, h⟩ := wx_b_ok h
  refine wx_call (va_runVN (As := [.int v22]) (rest := []) ⟨hx, hb, hml, hown, hts⟩ (c_X3_kept l (D := D) (ad := ad) (rd := rd) (ca := ca) (A := A) (σ := σ22) hc25) ⟨va_cnB 1 hts gX5_track_X3_kept_n56 rfl rfl rfl (hC.1.2.1 _ (List.mem_of_getElem? (i := 32) rfl)) (hts _ k_X5_track_w2) (by decide +kernel) ⟨Nat.le_of_ble_eq_true rfl, Nat.le_of_ble_eq_true rfl⟩, hts _ k_X5_track_w8, hts _ k_X5_track_w9⟩ (wx_preV hC Z hS hA rfl (rfl : vwCl[3]? = some (RX3, TX3, 2))) rfl rfl hl.1 rfl (lv_room (Nat.le_of_ble_eq_true rfl)) dX5_track_25 ⟨Nat.zero_le _, Nat.zero_le _⟩) hS (fun H locs Z hS => ?_)
  obtain ⟨rfl, rfl⟩ := wx_ret_ok h
  exact W.iret hx hb hr (fun t ht hW => ⟨rfl, by rw [ht]; exact Z, hS.F ht⟩) hS.2.2 dX5_track_28
set_option maxRecDepth 20000 in
theorem c_X5_track (l : Launch) {D : va_G} {ad : Nat → Nat → Nat} {rd : Nat → Nat} {ca : Nat → ClassId} {A : Nat → Prop} {σ : wx_St}    {x1 : Int32} {x2 : Int32} {x3 : Int32} {r : Int32} {σ' : wx_St} (h : f_X5_track x1 x2 x3 σ = some (r, σ')) : wx_M l yX5_track wsX5_track 4 90 D ad rd ca A [.ref (ad 11 99), .int x1, .int x2, .int x3] σ (some (.int r)) σ' := by
  refine Met.ofW (cc := cX5_track) (maxL := 4) (ret := (some .int)) (by decide +kernel) rfl ?_
  intro p e s m args below meth c s₁ B0 hml hv
  obtain ⟨rfl, hC, Z, hA⟩ := hv
  have hl := lv_entry ([.ref (ad 11 99), .int x1, .int x2, .int x3]) (n := 4) (Nat.le_of_ble_eq_true rfl)
  rw [lg_entry_eq]
  generalize (lg_sl ([.ref (ad 11 99), .int x1, .int x2, .int x3]) ++ List.replicate (4 - (lg_sl ([.ref (ad 11 99), .int x1, .int x2, .int x3])).length) Slot.unset).toArray = ls at hl ⊢
  exact b_X5_track_0 ⟨B0.exec, B0.bytes, hml, B0.returns, atoms_spec (ws := wsX5_track) B0.pre, findClass_of_methodNamed B0.named, B0.notSynchronized, hC, hA⟩   h Z va_S.rf hl
theorem i_X5_undo_5 : ∀ w ∈ wsX50, w ∈ wsX5_undo := by decide +kernel
theorem k_X5_undo_w0 : Cond.fieldLink RX5 29 "WarmProbes" "past" "LWarmProbes$Past;" ∈ wsX5_undo := by decide +kernel
theorem k_X5_undo_w1 : Cond.fieldLink RX5 10 "WarmProbes" "board" "LWarmProbes$Board;" ∈ wsX5_undo := by decide +kernel
theorem k_X5_undo_w2 : Cond.initialized RX3 ∈ wsX5_undo := by decide +kernel
theorem k_X5_undo_w3 : Cond.instanceMethod yX3_goBack ∈ wsX5_undo := by decide +kernel
theorem k_X5_undo_w4 : Cond.selects RX3 yX3_goBack yX3_goBack ∈ wsX5_undo := by decide +kernel
set_option maxRecDepth 20000 in
set_option maxHeartbeats 4000000 in
theorem b_X5_undo_0 (B : wx_B p s m args meth c cX5_undo 1 (some .int) wsX5_undo RX5 D ad ca A)    {r : Int32} {σ' : wx_St}   {σ : wx_St}  (h : f_X5_undo σ = some (r, σ')) {H : Heap} {locs : List Loc} (Z : wx_Z D ad rd ca A σ H) (hS : va_S A s.heap H locs) {ls : Array Slot} (hl : lv_has ls 1 [(0, .ref (ad 11 99))]) : W p l e ({ frames := 3, cells := 0, slots := 0, locals := 68 } : Room) s m args below meth c H locs 0 0 (MQ below (wx_Q D ad rd ca A (some (.int r)) σ') args s 0 0 A) (F0 m 0 ls []) := by
  obtain ⟨hx, hb, hml, hr, hts, hown, hlk, hC, hA⟩ := id B
  unfold f_X5_undo at h
  refine lv_aload_n hx hb dX5_undo_0 rfl (lv_at hl 0 rfl) ?_
  refine wx_get (own := RX5) hx hb hts i_X5_undo_5 hown hC.1 Z (o := 11) (ci := 5) rfl (rfl : vwCl[5]? = some (RX5, TX5, 7)) 3 (by decide) (hts _ k_X5_undo_w0) (fun _ h9 => h9) (f := 114) rfl rfl dX5_undo_1 ?_
  refine lv_aload_n hx hb dX5_undo_4 rfl (lv_at hl 0 rfl) ?_
  refine wx_get (own := RX5) hx hb hts i_X5_undo_5 hown hC.1 Z (o := 11) (ci := 5) rfl (rfl : vwCl[5]? = some (RX5, TX5, 7)) 0 (by decide) (hts _ k_X5_undo_w1) (fun _ h9 => h9) (f := 107) rfl rfl dX5_undo_5 ?_
  obtain ⟨v8, σ8, hc8, h⟩ := wx_b_ok h
  refine wx_call (va_runVN (As := [.ref (ad 7 99)]) (rest := []) ⟨hx, hb, hml, hown, hts⟩ (c_X3_goBack l (D := D) (ad := ad) (rd := rd) (ca := ca) (A := A) (σ := σ) (b1 := 7) (by decide : 7 < 11) hc8) ⟨va_cnB 1 hts gX5_undo_X3_goBack_n229 rfl rfl rfl (hC.1.2.1 _ (List.mem_of_getElem? (i := 79) rfl)) (hts _ k_X5_undo_w2) (by decide +kernel) ⟨Nat.le_of_ble_eq_true rfl, Nat.le_of_ble_eq_true rfl⟩, hts _ k_X5_undo_w3, hts _ k_X5_undo_w4⟩ (wx_preV hC Z hS hA rfl (rfl : vwCl[3]? = some (RX3, TX3, 2))) rfl rfl hl.1 rfl (lv_room (Nat.le_of_ble_eq_true rfl)) dX5_undo_8 ⟨Nat.zero_le _, Nat.zero_le _⟩) hS (fun H locs Z hS => ?_)
  obtain ⟨rfl, rfl⟩ := wx_ret_ok h
  exact W.iret hx hb hr (fun t ht hW => ⟨rfl, by rw [ht]; exact Z, hS.F ht⟩) hS.2.2 dX5_undo_11
set_option maxRecDepth 20000 in
theorem c_X5_undo (l : Launch) {D : va_G} {ad : Nat → Nat → Nat} {rd : Nat → Nat} {ca : Nat → ClassId} {A : Nat → Prop} {σ : wx_St}     {r : Int32} {σ' : wx_St} (h : f_X5_undo σ = some (r, σ')) : wx_M l yX5_undo wsX5_undo 3 68 D ad rd ca A [.ref (ad 11 99)] σ (some (.int r)) σ' := by
  refine Met.ofW (cc := cX5_undo) (maxL := 1) (ret := (some .int)) (by decide +kernel) rfl ?_
  intro p e s m args below meth c s₁ B0 hml hv
  obtain ⟨rfl, hC, Z, hA⟩ := hv
  have hl := lv_entry ([.ref (ad 11 99)]) (n := 1) (Nat.le_of_ble_eq_true rfl)
  rw [lg_entry_eq]
  generalize (lg_sl ([.ref (ad 11 99)]) ++ List.replicate (1 - (lg_sl ([.ref (ad 11 99)])).length) Slot.unset).toArray = ls at hl ⊢
  exact b_X5_undo_0 ⟨B0.exec, B0.bytes, hml, B0.returns, atoms_spec (ws := wsX5_undo) B0.pre, findClass_of_methodNamed B0.named, B0.notSynchronized, hC, hA⟩   h Z va_S.rf hl
theorem i_X5_warm_5 : ∀ w ∈ wsX50, w ∈ wsX5_warm := by decide +kernel
theorem k_X5_warm_w0 : Cond.fieldLink RX5 29 "WarmProbes" "past" "LWarmProbes$Past;" ∈ wsX5_warm := by decide +kernel
theorem k_X5_warm_w1 : Cond.fieldLink RX5 10 "WarmProbes" "board" "LWarmProbes$Board;" ∈ wsX5_warm := by decide +kernel
theorem k_X5_warm_w2 : Cond.initialized RX3 ∈ wsX5_warm := by decide +kernel
theorem k_X5_warm_w3 : Cond.instanceMethod yX3_prepare ∈ wsX5_warm := by decide +kernel
theorem k_X5_warm_w4 : Cond.selects RX3 yX3_prepare yX3_prepare ∈ wsX5_warm := by decide +kernel
theorem k_X5_warm_w5 : Cond.initialized RX0 ∈ wsX5_warm := by decide +kernel
theorem k_X5_warm_w6 : Cond.instanceMethod yX0_letPass ∈ wsX5_warm := by decide +kernel
theorem k_X5_warm_w7 : Cond.selects RX0 yX0_letPass yX0_letPass ∈ wsX5_warm := by decide +kernel
theorem k_X5_warm_w8 : Cond.instanceMethod yX3_kept ∈ wsX5_warm := by decide +kernel
theorem k_X5_warm_w9 : Cond.selects RX3 yX3_kept yX3_kept ∈ wsX5_warm := by decide +kernel
set_option maxRecDepth 20000 in
set_option maxHeartbeats 4000000 in
theorem b_X5_warm_0 (B : wx_B p s m args meth c cX5_warm 2 (some .int) wsX5_warm RX5 D ad ca A)    {r : Int32} {σ' : wx_St}  {x1 : Int32} {σ : wx_St}  (h : f_X5_warm x1 σ = some (r, σ')) {H : Heap} {locs : List Loc} (Z : wx_Z D ad rd ca A σ H) (hS : va_S A s.heap H locs) {ls : Array Slot} (hl : lv_has ls 2 [(0, .ref (ad 11 99)), (1, .int x1)]) : W p l e ({ frames := 4, cells := 0, slots := 0, locals := 102 } : Room) s m args below meth c H locs 0 0 (MQ below (wx_Q D ad rd ca A (some (.int r)) σ') args s 0 0 A) (F0 m 0 ls []) := by
  obtain ⟨hx, hb, hml, hr, hts, hown, hlk, hC, hA⟩ := id B
  unfold f_X5_warm at h
  refine lv_aload_n hx hb dX5_warm_0 rfl (lv_at hl 0 rfl) ?_
  refine wx_get (own := RX5) hx hb hts i_X5_warm_5 hown hC.1 Z (o := 11) (ci := 5) rfl (rfl : vwCl[5]? = some (RX5, TX5, 7)) 3 (by decide) (hts _ k_X5_warm_w0) (fun _ h9 => h9) (f := 114) rfl rfl dX5_warm_1 ?_
  refine lv_aload_n hx hb dX5_warm_4 rfl (lv_at hl 0 rfl) ?_
  refine wx_get (own := RX5) hx hb hts i_X5_warm_5 hown hC.1 Z (o := 11) (ci := 5) rfl (rfl : vwCl[5]? = some (RX5, TX5, 7)) 0 (by decide) (hts _ k_X5_warm_w1) (fun _ h9 => h9) (f := 107) rfl rfl dX5_warm_5 ?_
  obtain ⟨v8, σ8, hc8, h⟩ := wx_b_ok h
  refine wx_call (va_runVN (As := [.ref (ad 7 99)]) (rest := []) ⟨hx, hb, hml, hown, hts⟩ (c_X3_prepare l (D := D) (ad := ad) (rd := rd) (ca := ca) (A := A) (σ := σ) (b1 := 7) (by decide : 7 < 11) hc8) ⟨va_cnB 1 hts gX5_warm_X3_prepare_n48 rfl rfl rfl (hC.1.2.1 _ (List.mem_of_getElem? (i := 27) rfl)) (hts _ k_X5_warm_w2) (by decide +kernel) ⟨Nat.le_of_ble_eq_true rfl, Nat.le_of_ble_eq_true rfl⟩, hts _ k_X5_warm_w3, hts _ k_X5_warm_w4⟩ (wx_preV hC Z hS hA rfl (rfl : vwCl[3]? = some (RX3, TX3, 2))) rfl rfl hl.1 rfl (lv_room (Nat.le_of_ble_eq_true rfl)) dX5_warm_8 ⟨Nat.zero_le _, Nat.zero_le _⟩) hS (fun H locs Z hS => ?_)
  refine lv_aload_n hx hb dX5_warm_11 rfl (lv_at hl 0 rfl) ?_
  refine wx_get (own := RX5) hx hb hts i_X5_warm_5 hown hC.1 Z (o := 11) (ci := 5) rfl (rfl : vwCl[5]? = some (RX5, TX5, 7)) 3 (by decide) (hts _ k_X5_warm_w0) (fun _ h9 => h9) (f := 114) rfl rfl dX5_warm_12 ?_
  refine lv_aload_n hx hb dX5_warm_15 rfl (lv_at hl 0 rfl) ?_
  refine wx_get (own := RX5) hx hb hts i_X5_warm_5 hown hC.1 Z (o := 11) (ci := 5) rfl (rfl : vwCl[5]? = some (RX5, TX5, 7)) 0 (by decide) (hts _ k_X5_warm_w1) (fun _ h9 => h9) (f := 107) rfl rfl dX5_warm_16 ?_
  refine lv_iload_n hx hb dX5_warm_19 rfl (lv_at hl 1 rfl) ?_
  obtain ⟨v20, σ20, hc20, h⟩ := wx_b_ok h
  refine wx_call (va_runVN (As := [.int x1]) (rest := [.ref (ad 14 99)]) ⟨hx, hb, hml, hown, hts⟩ (c_X0_letPass l (D := D) (ad := ad) (rd := rd) (ca := ca) (A := A) (σ := σ8) (o := 7) (by decide : 7 < 11) hc20) ⟨va_cnB 1 hts gX5_warm_X0_letPass_n80 rfl rfl rfl (hC.1.2.1 _ (List.mem_of_getElem? (i := 42) rfl)) (hts _ k_X5_warm_w5) (by decide +kernel) ⟨Nat.le_of_ble_eq_true rfl, Nat.le_of_ble_eq_true rfl⟩, hts _ k_X5_warm_w6, hts _ k_X5_warm_w7⟩ (wx_preV hC Z hS hA rfl (rfl : vwCl[0]? = some (RX0, TX0, 13))) rfl rfl hl.1 rfl (lv_room (Nat.le_of_ble_eq_true rfl)) dX5_warm_20 ⟨Nat.zero_le _, Nat.zero_le _⟩) hS (fun H locs Z hS => ?_)
  obtain ⟨v23, σ23, hc23, h⟩ := wx_b_ok h
  refine wx_call (va_runVN (As := [.int v20]) (rest := []) ⟨hx, hb, hml, hown, hts⟩ (c_X3_kept l (D := D) (ad := ad) (rd := rd) (ca := ca) (A := A) (σ := σ20) hc23) ⟨va_cnB 1 hts gX5_warm_X3_kept_n56 rfl rfl rfl (hC.1.2.1 _ (List.mem_of_getElem? (i := 32) rfl)) (hts _ k_X5_warm_w2) (by decide +kernel) ⟨Nat.le_of_ble_eq_true rfl, Nat.le_of_ble_eq_true rfl⟩, hts _ k_X5_warm_w8, hts _ k_X5_warm_w9⟩ (wx_preV hC Z hS hA rfl (rfl : vwCl[3]? = some (RX3, TX3, 2))) rfl rfl hl.1 rfl (lv_room (Nat.le_of_ble_eq_true rfl)) dX5_warm_23 ⟨Nat.zero_le _, Nat.zero_le _⟩) hS (fun H locs Z hS => ?_)
  obtain ⟨rfl, rfl⟩ := wx_ret_ok h
  exact W.iret hx hb hr (fun t ht hW => ⟨rfl, by rw [ht]; exact Z, hS.F ht⟩) hS.2.2 dX5_warm_26
set_option maxRecDepth 20000 in
theorem c_X5_warm (l : Launch) {D : va_G} {ad : Nat → Nat → Nat} {rd : Nat → Nat} {ca : Nat → ClassId} {A : Nat → Prop} {σ : wx_St}    {x1 : Int32} {r : Int32} {σ' : wx_St} (h : f_X5_warm x1 σ = some (r, σ')) : wx_M l yX5_warm wsX5_warm 4 102 D ad rd ca A [.ref (ad 11 99), .int x1] σ (some (.int r)) σ' := by
  refine Met.ofW (cc := cX5_warm) (maxL := 2) (ret := (some .int)) (by decide +kernel) rfl ?_
  intro p e s m args below meth c s₁ B0 hml hv
  obtain ⟨rfl, hC, Z, hA⟩ := hv
  have hl := lv_entry ([.ref (ad 11 99), .int x1]) (n := 2) (Nat.le_of_ble_eq_true rfl)
  rw [lg_entry_eq]
  generalize (lg_sl ([.ref (ad 11 99), .int x1]) ++ List.replicate (2 - (lg_sl ([.ref (ad 11 99), .int x1])).length) Slot.unset).toArray = ls at hl ⊢
  exact b_X5_warm_0 ⟨B0.exec, B0.bytes, hml, B0.returns, atoms_spec (ws := wsX5_warm) B0.pre, findClass_of_methodNamed B0.named, B0.notSynchronized, hC, hA⟩   h Z va_S.rf hl
theorem i_X5_wipe_5 : ∀ w ∈ wsX50, w ∈ wsX5_wipe := by decide +kernel
theorem k_X5_wipe_w0 : Cond.fieldLink RX5 36 "WarmProbes" "pad" "LWarmProbes$Pad;" ∈ wsX5_wipe := by decide +kernel
theorem k_X5_wipe_w1 : Cond.initialized RX2 ∈ wsX5_wipe := by decide +kernel
theorem k_X5_wipe_w2 : Cond.instanceMethod yX2_clear ∈ wsX5_wipe := by decide +kernel
theorem k_X5_wipe_w3 : Cond.selects RX2 yX2_clear yX2_clear ∈ wsX5_wipe := by decide +kernel
set_option maxRecDepth 20000 in
set_option maxHeartbeats 4000000 in
theorem b_X5_wipe_0 (B : wx_B p s m args meth c cX5_wipe 1 (some .int) wsX5_wipe RX5 D ad ca A)    {r : Int32} {σ' : wx_St}   {σ : wx_St}  (h : f_X5_wipe σ = some (r, σ')) {H : Heap} {locs : List Loc} (Z : wx_Z D ad rd ca A σ H) (hS : va_S A s.heap H locs) {ls : Array Slot} (hl : lv_has ls 1 [(0, .ref (ad 11 99))]) : W p l e ({ frames := 1, cells := 0, slots := 0, locals := 21 } : Room) s m args below meth c H locs 0 0 (MQ below (wx_Q D ad rd ca A (some (.int r)) σ') args s 0 0 A) (F0 m 0 ls []) := by
  obtain ⟨hx, hb, hml, hr, hts, hown, hlk, hC, hA⟩ := id B
  unfold f_X5_wipe at h
  refine lv_aload_n hx hb dX5_wipe_0 rfl (lv_at hl 0 rfl) ?_
  refine wx_get (own := RX5) hx hb hts i_X5_wipe_5 hown hC.1 Z (o := 11) (ci := 5) rfl (rfl : vwCl[5]? = some (RX5, TX5, 7)) 4 (by decide) (hts _ k_X5_wipe_w0) (fun _ h9 => h9) (f := 115) rfl rfl dX5_wipe_1 ?_
  obtain ⟨v4, σ4, hc4, h⟩ := wx_b_ok h
  refine wx_call (va_runVN (As := []) (rest := []) ⟨hx, hb, hml, hown, hts⟩ (c_X2_clear l (D := D) (ad := ad) (rd := rd) (ca := ca) (A := A) (σ := σ) hc4) ⟨va_cnB 0 hts gX5_wipe_X2_clear_n220 rfl rfl rfl (hC.1.2.1 _ (List.mem_of_getElem? (i := 71) rfl)) (hts _ k_X5_wipe_w1) (by decide +kernel) ⟨Nat.le_of_ble_eq_true rfl, Nat.le_of_ble_eq_true rfl⟩, hts _ k_X5_wipe_w2, hts _ k_X5_wipe_w3⟩ (wx_preV hC Z hS hA rfl (rfl : vwCl[2]? = some (RX2, TX2, 2))) rfl rfl hl.1 rfl (lv_room (Nat.le_of_ble_eq_true rfl)) dX5_wipe_4 ⟨Nat.zero_le _, Nat.zero_le _⟩) hS (fun H locs Z hS => ?_)
  obtain ⟨rfl, rfl⟩ := wx_ret_ok h
  exact W.iret hx hb hr (fun t ht hW => ⟨rfl, by rw [ht]; exact Z, hS.F ht⟩) hS.2.2 dX5_wipe_7
set_option maxRecDepth 20000 in
theorem c_X5_wipe (l : Launch) {D : va_G} {ad : Nat → Nat → Nat} {rd : Nat → Nat} {ca : Nat → ClassId} {A : Nat → Prop} {σ : wx_St}     {r : Int32} {σ' : wx_St} (h : f_X5_wipe σ = some (r, σ')) : wx_M l yX5_wipe wsX5_wipe 1 21 D ad rd ca A [.ref (ad 11 99)] σ (some (.int r)) σ' := by
  refine Met.ofW (cc := cX5_wipe) (maxL := 1) (ret := (some .int)) (by decide +kernel) rfl ?_
  intro p e s m args below meth c s₁ B0 hml hv
  obtain ⟨rfl, hC, Z, hA⟩ := hv
  have hl := lv_entry ([.ref (ad 11 99)]) (n := 1) (Nat.le_of_ble_eq_true rfl)
  rw [lg_entry_eq]
  generalize (lg_sl ([.ref (ad 11 99)]) ++ List.replicate (1 - (lg_sl ([.ref (ad 11 99)])).length) Slot.unset).toArray = ls at hl ⊢
  exact b_X5_wipe_0 ⟨B0.exec, B0.bytes, hml, B0.returns, atoms_spec (ws := wsX5_wipe) B0.pre, findClass_of_methodNamed B0.named, B0.notSynchronized, hC, hA⟩   h Z va_S.rf hl
theorem i_X5_wouldRead_5 : ∀ w ∈ wsX50, w ∈ wsX5_wouldRead := by decide +kernel
theorem k_X5_wouldRead_w0 : Cond.fieldLink RX5 10 "WarmProbes" "board" "LWarmProbes$Board;" ∈ wsX5_wouldRead := by decide +kernel
theorem k_X5_wouldRead_w1 : Cond.initialized RX0 ∈ wsX5_wouldRead := by decide +kernel
theorem k_X5_wouldRead_w2 : Cond.instanceMethod yX0_isSuspect ∈ wsX5_wouldRead := by decide +kernel
theorem k_X5_wouldRead_w3 : Cond.selects RX0 yX0_isSuspect yX0_isSuspect ∈ wsX5_wouldRead := by decide +kernel
theorem k_X5_wouldRead_w4 : Cond.fieldLink RX5 22 "WarmProbes" "suspicion" "LWarmProbes$Suspicion;" ∈ wsX5_wouldRead := by decide +kernel
theorem k_X5_wouldRead_w5 : Cond.initialized RX4 ∈ wsX5_wouldRead := by decide +kernel
theorem k_X5_wouldRead_w6 : Cond.instanceMethod yX4_readBy ∈ wsX5_wouldRead := by decide +kernel
theorem k_X5_wouldRead_w7 : Cond.selects RX4 yX4_readBy yX4_readBy ∈ wsX5_wouldRead := by decide +kernel
set_option maxRecDepth 20000 in
set_option maxHeartbeats 4000000 in
theorem m_X5_wouldRead_37  {r : Int32} {σ' : wx_St}  {x1 : Int32} {x2 : Int32} {x3 : Int32} {x4 : Int32} {x5 : Int32} {x6 : Int32} {σ : wx_St} (h : f_X5_wouldRead_37 x1 x2 x3 x4 x5 x6 σ = some (r, σ')) : wx_n σ.2.2.2.2 ≤ wx_n σ'.2.2.2.2 := by
  unfold f_X5_wouldRead_37 at h
  obtain ⟨rfl, rfl⟩ := wx_ret_ok h
  exact Nat.le_refl _
set_option maxRecDepth 20000 in
set_option maxHeartbeats 4000000 in
theorem b_X5_wouldRead_37 (B : wx_B p s m args meth c cX5_wouldRead 7 (some .int) wsX5_wouldRead RX5 D ad ca A)    {r : Int32} {σ' : wx_St} {mc : Nat}  {x1 : Int32} {x2 : Int32} {x3 : Int32} {x4 : Int32} {x5 : Int32} {x6 : Int32} {σ : wx_St} {k : Nat} (hk : k + wx_n σ'.2.2.2.2 ≤ mc + wx_n σ.2.2.2.2)  (h : f_X5_wouldRead_37 x1 x2 x3 x4 x5 x6 σ = some (r, σ')) {rd : Nat → Nat} {H : Heap} {locs : List Loc} (Z : wx_Z D ad rd ca A σ H) (hS : va_S A s.heap H locs) {ls : Array Slot} (hl : lv_has ls 7 [(0, .ref (ad 11 99)), (1, .int x1), (2, .int x2), (3, .int x3), (4, .int x4), (5, .int x5), (6, .int x6)]) : W p l e ({ frames := 4, cells := mc, slots := 6464 * mc, locals := 104 } : Room) s m args below meth c H locs k (6464 * k) (MQ below (wx_QA D ad ca A (some (.int r)) σ') args s mc (6464 * mc) A) (F0 m 37 ls []) := by
  obtain ⟨hx, hb, hml, hr, hts, hown, hlk, hC, hA⟩ := id B
  have hm := m_X5_wouldRead_37 h
  unfold f_X5_wouldRead_37 at h
  refine lv_iconst (v := (-1)) hx hb dX5_wouldRead_37 (by decide) ?_
  obtain ⟨rfl, rfl⟩ := wx_ret_ok h
  refine W.widen (k := mc) (n := 6464 * mc) (by omega) (by omega) ?_
  exact W.iret hx hb hr (fun t ht hW => ⟨rfl, ⟨_, by rw [ht]; exact Z⟩, hS.F ht⟩) hS.2.2 dX5_wouldRead_38
set_option maxRecDepth 20000 in
set_option maxHeartbeats 4000000 in
theorem m_X5_wouldRead_54  {r : Int32} {σ' : wx_St}  {x1 : Int32} {x2 : Int32} {x3 : Int32} {x4 : Int32} {x5 : Int32} {x6 : Int32} {y0 : Int32} {σ : wx_St} (h : f_X5_wouldRead_54 x1 x2 x3 x4 x5 x6 y0 σ = some (r, σ')) : wx_n σ.2.2.2.2 ≤ wx_n σ'.2.2.2.2 := by
  unfold f_X5_wouldRead_54 at h
  obtain ⟨rfl, rfl⟩ := wx_ret_ok h
  exact Nat.le_refl _
set_option maxRecDepth 20000 in
set_option maxHeartbeats 4000000 in
theorem b_X5_wouldRead_54 (B : wx_B p s m args meth c cX5_wouldRead 7 (some .int) wsX5_wouldRead RX5 D ad ca A)    {r : Int32} {σ' : wx_St} {mc : Nat}  {x1 : Int32} {x2 : Int32} {x3 : Int32} {x4 : Int32} {x5 : Int32} {x6 : Int32} {y0 : Int32} {σ : wx_St} {k : Nat} (hk : k + wx_n σ'.2.2.2.2 ≤ mc + wx_n σ.2.2.2.2)  (h : f_X5_wouldRead_54 x1 x2 x3 x4 x5 x6 y0 σ = some (r, σ')) {rd : Nat → Nat} {H : Heap} {locs : List Loc} (Z : wx_Z D ad rd ca A σ H) (hS : va_S A s.heap H locs) {ls : Array Slot} (hl : lv_has ls 7 [(0, .ref (ad 11 99)), (1, .int x1), (2, .int x2), (3, .int x3), (4, .int x4), (5, .int x5), (6, .int x6)]) : W p l e ({ frames := 4, cells := mc, slots := 6464 * mc, locals := 104 } : Room) s m args below meth c H locs k (6464 * k) (MQ below (wx_QA D ad ca A (some (.int r)) σ') args s mc (6464 * mc) A) (F0 m 54 ls [.int y0]) := by
  obtain ⟨hx, hb, hml, hr, hts, hown, hlk, hC, hA⟩ := id B
  have hm := m_X5_wouldRead_54 h
  unfold f_X5_wouldRead_54 at h
  obtain ⟨rfl, rfl⟩ := wx_ret_ok h
  refine W.widen (k := mc) (n := 6464 * mc) (by omega) (by omega) ?_
  exact W.iret hx hb hr (fun t ht hW => ⟨rfl, ⟨_, by rw [ht]; exact Z⟩, hS.F ht⟩) hS.2.2 dX5_wouldRead_54
set_option maxRecDepth 20000 in
set_option maxHeartbeats 4000000 in
theorem m_X5_wouldRead_0  {r : Int32} {σ' : wx_St}  {x1 : Int32} {x2 : Int32} {x3 : Int32} {x4 : Int32} {σ : wx_St} (h : f_X5_wouldRead x1 x2 x3 x4 σ = some (r, σ')) : wx_n σ.2.2.2.2 ≤ wx_n σ'.2.2.2.2 := by
  unfold f_X5_wouldRead at h
  obtain ⟨v2, hc2, h⟩ := wx_o_ok h
  obtain ⟨v10, hc10, h⟩ := wx_o_ok h
  by_cases c17 : v2 < 0
  · replace h := wx_ift c17 h
    exact m_X5_wouldRead_37 h
  · replace h := wx_iff c17 h
    by_cases c22 : v10 < 0
    · replace h := wx_ift c22 h
      exact m_X5_wouldRead_37 h
    · replace h := wx_iff c22 h
      obtain ⟨v31, hc31, h⟩ := wx_o_ok h
      by_cases c34 : v31 = 0
      · replace h := wx_ift c34 h
        exact m_X5_wouldRead_37 h
      · replace h := wx_iff c34 h
        obtain ⟨v51, σ51, hc51, h⟩ := wx_b_ok h
        refine Nat.le_trans (m_X4_readBy_0 hc51) ?_
        exact m_X5_wouldRead_54 h
set_option maxRecDepth 20000 in
set_option maxHeartbeats 4000000 in
theorem b_X5_wouldRead_0 (B : wx_B p s m args meth c cX5_wouldRead 7 (some .int) wsX5_wouldRead RX5 D ad ca A)    {r : Int32} {σ' : wx_St} {mc : Nat}  {x1 : Int32} {x2 : Int32} {x3 : Int32} {x4 : Int32} {σ : wx_St} {k : Nat} (hk : k + wx_n σ'.2.2.2.2 ≤ mc + wx_n σ.2.2.2.2)  (h : f_X5_wouldRead x1 x2 x3 x4 σ = some (r, σ')) {rd : Nat → Nat} {H : Heap} {locs : List Loc} (Z : wx_Z D ad rd ca A σ H) (hS : va_S A s.heap H locs) {ls : Array Slot} (hl : lv_has ls 7 [(0, .ref (ad 11 99)), (1, .int x1), (2, .int x2), (3, .int x3), (4, .int x4)]) : W p l e ({ frames := 4, cells := mc, slots := 6464 * mc, locals := 104 } : Room) s m args below meth c H locs k (6464 * k) (MQ below (wx_QA D ad ca A (some (.int r)) σ') args s mc (6464 * mc) A) (F0 m 0 ls []) := by
  obtain ⟨hx, hb, hml, hr, hts, hown, hlk, hC, hA⟩ := id B
  have hm := m_X5_wouldRead_0 h
  unfold f_X5_wouldRead at h
  refine lv_iload_n hx hb dX5_wouldRead_0 rfl (lv_at hl 1 rfl) ?_
  refine lv_iload_n hx hb dX5_wouldRead_1 rfl (lv_at hl 2 rfl) ?_
  obtain ⟨v2, hc2, h⟩ := wx_o_ok h
  refine wx_call (va_runS (As := [.int x1, .int x2]) (rest := []) ⟨hx, hb, hml, hown, hts⟩ (c_X5_placeOf l (D := D) (ad := ad) (rd := rd) (ca := ca) (A := A) (σ := σ) hc2) (va_cwS 2 hts gX5_wouldRead_X5_placeOf rfl rfl rfl (by decide +kernel) ⟨Nat.le_of_ble_eq_true rfl, Nat.le_of_ble_eq_true rfl⟩) (wx_preS hC Z hS hA) rfl rfl hl.1 rfl (lv_room (Nat.le_of_ble_eq_true rfl)) dX5_wouldRead_2 ⟨(by show k + 0 ≤ mc; omega), (by show 6464 * k + 0 ≤ 6464 * mc; omega)⟩) hS (fun H locs Z hS => ?_)
  refine lv_istore (lv' := [(5, .int v2), (0, .ref (ad 11 99)), (1, .int x1), (2, .int x2), (3, .int x3), (4, .int x4)]) hx hb dX5_wouldRead_5 hl (by decide) rfl (fun ls hl => ?_)
  refine lv_iload_n hx hb dX5_wouldRead_7 rfl (lv_at hl 4 rfl) ?_
  refine lv_iload hx hb dX5_wouldRead_8 (lv_at hl 5 rfl) ?_
  obtain ⟨v10, hc10, h⟩ := wx_o_ok h
  refine wx_call (va_runS (As := [.int x3, .int x4]) (rest := []) ⟨hx, hb, hml, hown, hts⟩ (c_X5_placeOf l (D := D) (ad := ad) (rd := rd) (ca := ca) (A := A) (σ := σ) hc10) (va_cwS 2 hts gX5_wouldRead_X5_placeOf rfl rfl rfl (by decide +kernel) ⟨Nat.le_of_ble_eq_true rfl, Nat.le_of_ble_eq_true rfl⟩) (wx_preS hC Z hS hA) rfl rfl hl.1 rfl (lv_room (Nat.le_of_ble_eq_true rfl)) dX5_wouldRead_10 ⟨(by show k + 0 ≤ mc; omega), (by show 6464 * k + 0 ≤ 6464 * mc; omega)⟩) hS (fun H locs Z hS => ?_)
  refine lv_istore (lv' := [(6, .int v10), (5, .int v2), (0, .ref (ad 11 99)), (1, .int x1), (2, .int x2), (3, .int x3), (4, .int x4)]) hx hb dX5_wouldRead_13 hl (by decide) rfl (fun ls hl => ?_)
  refine lv_iload hx hb dX5_wouldRead_15 (lv_at hl 1 rfl) ?_
  refine lv_if_lt (tgt := 37) hx hb dX5_wouldRead_17 (by decide) (fun c17 => ?_) (fun c17 => ?_)
  · replace h := wx_ift c17 h
    exact b_X5_wouldRead_37 B (k := k) hk h Z hS (lv_sub hl [2, 3, 4, 5, 6, 1, 0] rfl)
  · replace h := wx_iff c17 h
    refine lv_iload hx hb dX5_wouldRead_20 (lv_at hl 0 rfl) ?_
    refine lv_if_lt (tgt := 37) hx hb dX5_wouldRead_22 (by decide) (fun c22 => ?_) (fun c22 => ?_)
    · replace h := wx_ift c22 h
      exact b_X5_wouldRead_37 B (k := k) hk h Z hS (lv_sub hl [2, 3, 4, 5, 6, 1, 0] rfl)
    · replace h := wx_iff c22 h
      refine lv_aload_n hx hb dX5_wouldRead_25 rfl (lv_at hl 2 rfl) ?_
      refine wx_get (own := RX5) hx hb hts i_X5_wouldRead_5 hown hC.1 Z (o := 11) (ci := 5) rfl (rfl : vwCl[5]? = some (RX5, TX5, 7)) 0 (by decide) (hts _ k_X5_wouldRead_w0) (fun _ h9 => h9) (f := 107) rfl rfl dX5_wouldRead_26 ?_
      refine lv_iload hx hb dX5_wouldRead_29 (lv_at hl 0 rfl) ?_
      obtain ⟨v31, hc31, h⟩ := wx_o_ok h
      refine wx_call (va_runVN (As := [.int v10]) (rest := []) ⟨hx, hb, hml, hown, hts⟩ (c_X0_isSuspect l (D := D) (ad := ad) (rd := rd) (ca := ca) (A := A) (σ := σ) (o := 7) (by decide : 7 < 11) hc31) ⟨va_cnB 1 hts gX5_wouldRead_X0_isSuspect_n104 rfl rfl rfl (hC.1.2.1 _ (List.mem_of_getElem? (i := 46) rfl)) (hts _ k_X5_wouldRead_w1) (by decide +kernel) ⟨Nat.le_of_ble_eq_true rfl, Nat.le_of_ble_eq_true rfl⟩, hts _ k_X5_wouldRead_w2, hts _ k_X5_wouldRead_w3⟩ (wx_preV hC Z hS hA rfl (rfl : vwCl[0]? = some (RX0, TX0, 13))) rfl rfl hl.1 rfl (lv_room (Nat.le_of_ble_eq_true rfl)) dX5_wouldRead_31 ⟨(by show k + 0 ≤ mc; omega), (by show 6464 * k + 0 ≤ 6464 * mc; omega)⟩) hS (fun H locs Z hS => ?_)
      refine lv_if_ne (tgt := 39) hx hb dX5_wouldRead_34 (by decide) (fun c34 => ?_) (fun c34 => ?_)
      · replace h := wx_iff c34 h
        refine lv_aload_n hx hb dX5_wouldRead_39 rfl (lv_at hl 2 rfl) ?_
        refine wx_get (own := RX5) hx hb hts i_X5_wouldRead_5 hown hC.1 Z (o := 11) (ci := 5) rfl (rfl : vwCl[5]? = some (RX5, TX5, 7)) 2 (by decide) (hts _ k_X5_wouldRead_w4) (fun _ h9 => h9) (f := 112) rfl rfl dX5_wouldRead_40 ?_
        refine lv_aload_n hx hb dX5_wouldRead_43 rfl (lv_at hl 2 rfl) ?_
        refine wx_get (own := RX5) hx hb hts i_X5_wouldRead_5 hown hC.1 Z (o := 11) (ci := 5) rfl (rfl : vwCl[5]? = some (RX5, TX5, 7)) 0 (by decide) (hts _ k_X5_wouldRead_w0) (fun _ h9 => h9) (f := 107) rfl rfl dX5_wouldRead_44 ?_
        refine lv_iload hx hb dX5_wouldRead_47 (lv_at hl 0 rfl) ?_
        refine lv_iload hx hb dX5_wouldRead_49 (lv_at hl 1 rfl) ?_
        obtain ⟨v51, σ51, hc51, h⟩ := wx_b_ok h
        have m1 := m_X4_readBy_0 hc51
        have m2 := m_X5_wouldRead_54 h
        refine wx_callA (va_runVN (As := [.ref (ad 7 99), .int v10, .int v2]) (rest := []) ⟨hx, hb, hml, hown, hts⟩ (c_X4_readBy l (D := D) (ad := ad) (rd := rd) (ca := ca) (A := A) (σ := σ) (b1 := 7) (by decide : 7 < 11) hc51) ⟨va_cnB 3 hts gX5_wouldRead_X4_readBy_n213 rfl rfl rfl (hC.1.2.1 _ (List.mem_of_getElem? (i := 69) rfl)) (hts _ k_X5_wouldRead_w5) (by decide +kernel) ⟨Nat.le_of_ble_eq_true rfl, Nat.le_of_ble_eq_true rfl⟩, hts _ k_X5_wouldRead_w6, hts _ k_X5_wouldRead_w7⟩ (wx_preV hC Z hS hA rfl (rfl : vwCl[4]? = some (RX4, TX4, 2))) rfl rfl hl.1 rfl (lv_room (Nat.le_of_ble_eq_true rfl)) dX5_wouldRead_51 ⟨(by show k + (wx_n σ51.2.2.2.2 - wx_n σ.2.2.2.2) ≤ mc; omega), (by show 6464 * k + 6464 * (wx_n σ51.2.2.2.2 - wx_n σ.2.2.2.2) ≤ 6464 * mc; omega)⟩) hS (fun rd H locs Z hS => ?_)
        refine W.widen (k := k + (wx_n σ51.2.2.2.2 - wx_n σ.2.2.2.2)) (n := 6464 * (k + (wx_n σ51.2.2.2.2 - wx_n σ.2.2.2.2))) (Nat.le_refl _) (by omega) ?_
        exact b_X5_wouldRead_54 B (k := k + (wx_n σ51.2.2.2.2 - wx_n σ.2.2.2.2)) (by omega) h Z hS (lv_sub hl [2, 3, 4, 5, 6, 1, 0] rfl)
      · replace h := wx_ift c34 h
        exact b_X5_wouldRead_37 B (k := k) hk h Z hS (lv_sub hl [2, 3, 4, 5, 6, 1, 0] rfl)
set_option maxRecDepth 20000 in
theorem c_X5_wouldRead (l : Launch) {D : va_G} {ad : Nat → Nat → Nat} {rd : Nat → Nat} {ca : Nat → ClassId} {A : Nat → Prop} {σ : wx_St}    {x1 : Int32} {x2 : Int32} {x3 : Int32} {x4 : Int32} {r : Int32} {σ' : wx_St} (h : f_X5_wouldRead x1 x2 x3 x4 σ = some (r, σ')) : wx_MA l yX5_wouldRead wsX5_wouldRead 4 104 D ad rd ca A [.ref (ad 11 99), .int x1, .int x2, .int x3, .int x4] σ (some (.int r)) σ' := by
  refine Met.ofW (cc := cX5_wouldRead) (maxL := 7) (ret := (some .int)) (by decide +kernel) rfl ?_
  intro p e s m args below meth c s₁ B0 hml hv
  obtain ⟨rfl, hC, Z, hA⟩ := hv
  have hl := lv_entry ([.ref (ad 11 99), .int x1, .int x2, .int x3, .int x4]) (n := 7) (Nat.le_of_ble_eq_true rfl)
  rw [lg_entry_eq]
  generalize (lg_sl ([.ref (ad 11 99), .int x1, .int x2, .int x3, .int x4]) ++ List.replicate (7 - (lg_sl ([.ref (ad 11 99), .int x1, .int x2, .int x3, .int x4])).length) Slot.unset).toArray = ls at hl ⊢
  exact b_X5_wouldRead_0 ⟨B0.exec, B0.bytes, hml, B0.returns, atoms_spec (ws := wsX5_wouldRead) B0.pre, findClass_of_methodNamed B0.named, B0.notSynchronized, hC, hA⟩  (k := 0) (by have hm := m_X5_wouldRead_0 h; omega) h Z va_S.rf hl
