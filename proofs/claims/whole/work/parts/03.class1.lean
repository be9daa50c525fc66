def f_J0_isLatin1_aae02_18 (i : Nat)  (y0 : Int32) : Option Int32 :=
  wx_z y0 (some y0)
def f_J0_isLatin1_aae02_17 (i : Nat)   : Option Int32 :=
  f_J0_isLatin1_aae02_18 i 0
def f_J0_isLatin1_aae02 (i : Nat)   : Option Int32 :=
  if (1 : Int32) = 0 then
    f_J0_isLatin1_aae02_17 i
   else
    if (0 : Int32) = 0 then
      f_J0_isLatin1_aae02_18 i 1
     else
      f_J0_isLatin1_aae02_17 i
def f_J3_checkIndex_8e157_9   (x0 : Int32) (x1 : Int32) : Option Int32 :=
  none
def f_J3_checkIndex_8e157   (x0 : Int32) (x1 : Int32) : Option Int32 :=
  if x0 < 0 then
    f_J3_checkIndex_8e157_9 x0 x1
   else
    if x0 < x1 then
      some x0
     else
      f_J3_checkIndex_8e157_9 x0 x1
def f_J0_checkIndex_df160   (x0 : Int32) (x1 : Int32) : Option Unit :=
  wx_o (f_J3_checkIndex_8e157 x0 x1) (fun v5 => some ())
def f_J1_charAt_3b067 (i : Nat)  (x1 : Int32) : Option Int32 :=
  wx_o (f_J0_checkIndex_df160 x1 (Int32.ofNat (wx_len.getD i 0))) (fun v3 => wx_rT (wx_byt.getD i []) (wx_len.getD i 0) x1 (fun v8 => wx_zt .char (((v8 &&& 255).toUInt32 % 65536).toInt32) (some (((v8 &&& 255).toUInt32 % 65536).toInt32))))
def f_J0_charAt_5068e (i : Nat)  (x1 : Int32) : Option Int32 :=
  wx_o (f_J0_isLatin1_aae02 i) (fun v1 => if v1 = 0 then
    none
   else
    wx_o (f_J1_charAt_3b067 i x1) (fun v12 => wx_zt .char v12 (some v12)))
def f_J0_coder_7d493_14 (i : Nat)  (y0 : Int32) : Option Int32 :=
  wx_zt .byte y0 (some y0)
def f_J0_coder_7d493 (i : Nat)   : Option Int32 :=
  if (1 : Int32) = 0 then
    f_J0_coder_7d493_14 i 1
   else
    f_J0_coder_7d493_14 i (0 : Int32)
def f_J0_length_8abf5 (i : Nat)   : Option Int32 :=
  wx_o (f_J0_coder_7d493 i) (fun v6 => some ((Int32.ofNat (wx_len.getD i 0)) >>> (v6 &&& 31)))
def f_J13_bitCount_95d88   (x0 : Int64) : Option Int32 :=
  some ((((((((((x0 - (((x0.toUInt64 >>> ((1 : Int32).toInt64.toUInt64 &&& Int64.toUInt64 63)).toInt64) &&& (6148914691236517205 : Int64))) &&& (3689348814741910323 : Int64)) + ((((x0 - (((x0.toUInt64 >>> ((1 : Int32).toInt64.toUInt64 &&& Int64.toUInt64 63)).toInt64) &&& (6148914691236517205 : Int64))).toUInt64 >>> ((2 : Int32).toInt64.toUInt64 &&& Int64.toUInt64 63)).toInt64) &&& (3689348814741910323 : Int64))) + (((((x0 - (((x0.toUInt64 >>> ((1 : Int32).toInt64.toUInt64 &&& Int64.toUInt64 63)).toInt64) &&& (6148914691236517205 : Int64))) &&& (3689348814741910323 : Int64)) + ((((x0 - (((x0.toUInt64 >>> ((1 : Int32).toInt64.toUInt64 &&& Int64.toUInt64 63)).toInt64) &&& (6148914691236517205 : Int64))).toUInt64 >>> ((2 : Int32).toInt64.toUInt64 &&& Int64.toUInt64 63)).toInt64) &&& (3689348814741910323 : Int64))).toUInt64 >>> ((4 : Int32).toInt64.toUInt64 &&& Int64.toUInt64 63)).toInt64)) &&& (1085102592571150095 : Int64)) + (((((((x0 - (((x0.toUInt64 >>> ((1 : Int32).toInt64.toUInt64 &&& Int64.toUInt64 63)).toInt64) &&& (6148914691236517205 : Int64))) &&& (3689348814741910323 : Int64)) + ((((x0 - (((x0.toUInt64 >>> ((1 : Int32).toInt64.toUInt64 &&& Int64.toUInt64 63)).toInt64) &&& (6148914691236517205 : Int64))).toUInt64 >>> ((2 : Int32).toInt64.toUInt64 &&& Int64.toUInt64 63)).toInt64) &&& (3689348814741910323 : Int64))) + (((((x0 - (((x0.toUInt64 >>> ((1 : Int32).toInt64.toUInt64 &&& Int64.toUInt64 63)).toInt64) &&& (6148914691236517205 : Int64))) &&& (3689348814741910323 : Int64)) + ((((x0 - (((x0.toUInt64 >>> ((1 : Int32).toInt64.toUInt64 &&& Int64.toUInt64 63)).toInt64) &&& (6148914691236517205 : Int64))).toUInt64 >>> ((2 : Int32).toInt64.toUInt64 &&& Int64.toUInt64 63)).toInt64) &&& (3689348814741910323 : Int64))).toUInt64 >>> ((4 : Int32).toInt64.toUInt64 &&& Int64.toUInt64 63)).toInt64)) &&& (1085102592571150095 : Int64)).toUInt64 >>> ((8 : Int32).toInt64.toUInt64 &&& Int64.toUInt64 63)).toInt64)) + ((((((((x0 - (((x0.toUInt64 >>> ((1 : Int32).toInt64.toUInt64 &&& Int64.toUInt64 63)).toInt64) &&& (6148914691236517205 : Int64))) &&& (3689348814741910323 : Int64)) + ((((x0 - (((x0.toUInt64 >>> ((1 : Int32).toInt64.toUInt64 &&& Int64.toUInt64 63)).toInt64) &&& (6148914691236517205 : Int64))).toUInt64 >>> ((2 : Int32).toInt64.toUInt64 &&& Int64.toUInt64 63)).toInt64) &&& (3689348814741910323 : Int64))) + (((((x0 - (((x0.toUInt64 >>> ((1 : Int32).toInt64.toUInt64 &&& Int64.toUInt64 63)).toInt64) &&& (6148914691236517205 : Int64))) &&& (3689348814741910323 : Int64)) + ((((x0 - (((x0.toUInt64 >>> ((1 : Int32).toInt64.toUInt64 &&& Int64.toUInt64 63)).toInt64) &&& (6148914691236517205 : Int64))).toUInt64 >>> ((2 : Int32).toInt64.toUInt64 &&& Int64.toUInt64 63)).toInt64) &&& (3689348814741910323 : Int64))).toUInt64 >>> ((4 : Int32).toInt64.toUInt64 &&& Int64.toUInt64 63)).toInt64)) &&& (1085102592571150095 : Int64)) + (((((((x0 - (((x0.toUInt64 >>> ((1 : Int32).toInt64.toUInt64 &&& Int64.toUInt64 63)).toInt64) &&& (6148914691236517205 : Int64))) &&& (3689348814741910323 : Int64)) + ((((x0 - (((x0.toUInt64 >>> ((1 : Int32).toInt64.toUInt64 &&& Int64.toUInt64 63)).toInt64) &&& (6148914691236517205 : Int64))).toUInt64 >>> ((2 : Int32).toInt64.toUInt64 &&& Int64.toUInt64 63)).toInt64) &&& (3689348814741910323 : Int64))) + (((((x0 - (((x0.toUInt64 >>> ((1 : Int32).toInt64.toUInt64 &&& Int64.toUInt64 63)).toInt64) &&& (6148914691236517205 : Int64))) &&& (3689348814741910323 : Int64)) + ((((x0 - (((x0.toUInt64 >>> ((1 : Int32).toInt64.toUInt64 &&& Int64.toUInt64 63)).toInt64) &&& (6148914691236517205 : Int64))).toUInt64 >>> ((2 : Int32).toInt64.toUInt64 &&& Int64.toUInt64 63)).toInt64) &&& (3689348814741910323 : Int64))).toUInt64 >>> ((4 : Int32).toInt64.toUInt64 &&& Int64.toUInt64 63)).toInt64)) &&& (1085102592571150095 : Int64)).toUInt64 >>> ((8 : Int32).toInt64.toUInt64 &&& Int64.toUInt64 63)).toInt64)).toUInt64 >>> ((16 : Int32).toInt64.toUInt64 &&& Int64.toUInt64 63)).toInt64)) + (((((((((x0 - (((x0.toUInt64 >>> ((1 : Int32).toInt64.toUInt64 &&& Int64.toUInt64 63)).toInt64) &&& (6148914691236517205 : Int64))) &&& (3689348814741910323 : Int64)) + ((((x0 - (((x0.toUInt64 >>> ((1 : Int32).toInt64.toUInt64 &&& Int64.toUInt64 63)).toInt64) &&& (6148914691236517205 : Int64))).toUInt64 >>> ((2 : Int32).toInt64.toUInt64 &&& Int64.toUInt64 63)).toInt64) &&& (3689348814741910323 : Int64))) + (((((x0 - (((x0.toUInt64 >>> ((1 : Int32).toInt64.toUInt64 &&& Int64.toUInt64 63)).toInt64) &&& (6148914691236517205 : Int64))) &&& (3689348814741910323 : Int64)) + ((((x0 - (((x0.toUInt64 >>> ((1 : Int32).toInt64.toUInt64 &&& Int64.toUInt64 63)).toInt64) &&& (6148914691236517205 : Int64))).toUInt64 >>> ((2 : Int32).toInt64.toUInt64 &&& Int64.toUInt64 63)).toInt64) &&& (3689348814741910323 : Int64))).toUInt64 >>> ((4 : Int32).toInt64.toUInt64 &&& Int64.toUInt64 63)).toInt64)) &&& (1085102592571150095 : Int64)) + (((((((x0 - (((x0.toUInt64 >>> ((1 : Int32).toInt64.toUInt64 &&& Int64.toUInt64 63)).toInt64) &&& (6148914691236517205 : Int64))) &&& (3689348814741910323 : Int64)) + ((((x0 - (((x0.toUInt64 >>> ((1 : Int32).toInt64.toUInt64 &&& Int64.toUInt64 63)).toInt64) &&& (6148914691236517205 : Int64))).toUInt64 >>> ((2 : Int32).toInt64.toUInt64 &&& Int64.toUInt64 63)).toInt64) &&& (3689348814741910323 : Int64))) + (((((x0 - (((x0.toUInt64 >>> ((1 : Int32).toInt64.toUInt64 &&& Int64.toUInt64 63)).toInt64) &&& (6148914691236517205 : Int64))) &&& (3689348814741910323 : Int64)) + ((((x0 - (((x0.toUInt64 >>> ((1 : Int32).toInt64.toUInt64 &&& Int64.toUInt64 63)).toInt64) &&& (6148914691236517205 : Int64))).toUInt64 >>> ((2 : Int32).toInt64.toUInt64 &&& Int64.toUInt64 63)).toInt64) &&& (3689348814741910323 : Int64))).toUInt64 >>> ((4 : Int32).toInt64.toUInt64 &&& Int64.toUInt64 63)).toInt64)) &&& (1085102592571150095 : Int64)).toUInt64 >>> ((8 : Int32).toInt64.toUInt64 &&& Int64.toUInt64 63)).toInt64)) + ((((((((x0 - (((x0.toUInt64 >>> ((1 : Int32).toInt64.toUInt64 &&& Int64.toUInt64 63)).toInt64) &&& (6148914691236517205 : Int64))) &&& (3689348814741910323 : Int64)) + ((((x0 - (((x0.toUInt64 >>> ((1 : Int32).toInt64.toUInt64 &&& Int64.toUInt64 63)).toInt64) &&& (6148914691236517205 : Int64))).toUInt64 >>> ((2 : Int32).toInt64.toUInt64 &&& Int64.toUInt64 63)).toInt64) &&& (3689348814741910323 : Int64))) + (((((x0 - (((x0.toUInt64 >>> ((1 : Int32).toInt64.toUInt64 &&& Int64.toUInt64 63)).toInt64) &&& (6148914691236517205 : Int64))) &&& (3689348814741910323 : Int64)) + ((((x0 - (((x0.toUInt64 >>> ((1 : Int32).toInt64.toUInt64 &&& Int64.toUInt64 63)).toInt64) &&& (6148914691236517205 : Int64))).toUInt64 >>> ((2 : Int32).toInt64.toUInt64 &&& Int64.toUInt64 63)).toInt64) &&& (3689348814741910323 : Int64))).toUInt64 >>> ((4 : Int32).toInt64.toUInt64 &&& Int64.toUInt64 63)).toInt64)) &&& (1085102592571150095 : Int64)) + (((((((x0 - (((x0.toUInt64 >>> ((1 : Int32).toInt64.toUInt64 &&& Int64.toUInt64 63)).toInt64) &&& (6148914691236517205 : Int64))) &&& (3689348814741910323 : Int64)) + ((((x0 - (((x0.toUInt64 >>> ((1 : Int32).toInt64.toUInt64 &&& Int64.toUInt64 63)).toInt64) &&& (6148914691236517205 : Int64))).toUInt64 >>> ((2 : Int32).toInt64.toUInt64 &&& Int64.toUInt64 63)).toInt64) &&& (3689348814741910323 : Int64))) + (((((x0 - (((x0.toUInt64 >>> ((1 : Int32).toInt64.toUInt64 &&& Int64.toUInt64 63)).toInt64) &&& (6148914691236517205 : Int64))) &&& (3689348814741910323 : Int64)) + ((((x0 - (((x0.toUInt64 >>> ((1 : Int32).toInt64.toUInt64 &&& Int64.toUInt64 63)).toInt64) &&& (6148914691236517205 : Int64))).toUInt64 >>> ((2 : Int32).toInt64.toUInt64 &&& Int64.toUInt64 63)).toInt64) &&& (3689348814741910323 : Int64))).toUInt64 >>> ((4 : Int32).toInt64.toUInt64 &&& Int64.toUInt64 63)).toInt64)) &&& (1085102592571150095 : Int64)).toUInt64 >>> ((8 : Int32).toInt64.toUInt64 &&& Int64.toUInt64 63)).toInt64)).toUInt64 >>> ((16 : Int32).toInt64.toUInt64 &&& Int64.toUInt64 63)).toInt64)).toUInt64 >>> ((32 : Int32).toInt64.toUInt64 &&& Int64.toUInt64 63)).toInt64)).toInt32) &&& 127)
def f_Jxe99ae_isNaN_b9ae7_11   (x0 : UInt64) (y0 : Int32) : Option Int32 :=
  wx_z y0 (some y0)
def f_Jxe99ae_isNaN_b9ae7   (x0 : UInt64) : Option Int32 :=
  if (Op.cmpValue (FP.dcmp x0 x0) .l) = 0 then
    f_Jxe99ae_isNaN_b9ae7_11 x0 0
   else
    f_Jxe99ae_isNaN_b9ae7_11 x0 1
def f_Jxe99ae_doubleToLongBits_ccdee   (x0 : UInt64) : Option Int64 :=
  wx_o (f_Jxe99ae_isNaN_b9ae7 x0) (fun v1 => if v1 = 0 then
    some (x0.toInt64)
   else
    some (9221120237041090560 : Int64))
def f_Jxf58ca_isNaN_12338_11   (x0 : UInt32) (y0 : Int32) : Option Int32 :=
  wx_z y0 (some y0)
def f_Jxf58ca_isNaN_12338   (x0 : UInt32) : Option Int32 :=
  if (Op.cmpValue (FP.fcmp x0 x0) .l) = 0 then
    f_Jxf58ca_isNaN_12338_11 x0 0
   else
    f_Jxf58ca_isNaN_12338_11 x0 1
def f_Jxf58ca_floatToIntBits_5c35a   (x0 : UInt32) : Option Int32 :=
  wx_o (f_Jxf58ca_isNaN_12338 x0) (fun v1 => if v1 = 0 then
    some (x0.toInt32)
   else
    some (2143289344 : Int32))
def f_X0_beginRun_12 (o : Nat)  : Nat → Int32 → wx_St → Option (Unit × wx_St)
  | 0, _, _ => none
  | n + 1, x1, σ =>
  if 64 ≤ x1 then
    some ((), σ)
   else
    wx_w (wx_sF σ o 7 (Int32.toNatClampNeg x1) FP.fconst0) 64 x1 (fun σ24 => (f_X0_beginRun_12 o n) (x1 + 1) σ24)
def f_X0_beginRun (o : Nat)   (σ : wx_St) : Option (Unit × wx_St) :=
  wx_l (wx_sS σ o 6 0) (fun σ2 => wx_l (wx_sS σ2 o 9 0) (fun σ7 => f_X0_beginRun_12 o 2000 0 σ7))
def f_X0_change_9 (o : Nat)  (x1 : Int32) (x2 : Int32) (σ : wx_St) : Option (Int32 × wx_St) :=
  some ((-2), σ)
def f_X0_change_30 (o : Nat)  (x1 : Int32) (x2 : Int32) (σ : wx_St) : Option (Int32 × wx_St) :=
  some ((-2), σ)
def f_X0_change_56 (o : Nat)  (x1 : Int32) (x2 : Int32) (x3 : Int32) (σ : wx_St) : Option (Int32 × wx_St) :=
  some (x3, σ)
def f_X0_change (o : Nat)  (x1 : Int32) (x2 : Int32) (σ : wx_St) : Option (Int32 × wx_St) :=
  if x1 < 0 then
    f_X0_change_9 o x1 x2 σ
   else
    if x1 < 4 then
      wx_rT wx_v1 4 x1 (fun v17 => if x2 < v17 then
        f_X0_change_30 o x1 x2 σ
       else
        wx_rT wx_v2 4 x1 (fun v26 => if x2 ≤ v26 then
          wx_rI σ o 0 4 x1 (fun v38 => wx_w (wx_sI σ o 0 (Int32.toNatClampNeg x1) x2) 4 x1 (fun σ46 => if x1 = 3 then
            f_X0_change_56 o x1 x2 v38 σ46
           else
            wx_b (f_X0_beginRun o σ46) (fun v53 σ53 => f_X0_change_56 o x1 x2 v38 σ53)))
         else
          f_X0_change_30 o x1 x2 σ))
     else
      f_X0_change_9 o x1 x2 σ
def f_X5_neighbourOf_43   (x0 : Int32) (x1 : Int32) (y0 : Int32) : Option Int32 :=
  some y0
def f_X5_neighbourOf_59   (x0 : Int32) (x1 : Int32) (y0 : Int32) : Option Int32 :=
  some y0
def f_X5_neighbourOf_75   (x0 : Int32) (x1 : Int32) (y0 : Int32) : Option Int32 :=
  some y0
def f_X5_neighbourOf_93   (x0 : Int32) (x1 : Int32) (y0 : Int32) : Option Int32 :=
  some y0
def f_X5_neighbourOf   (x0 : Int32) (x1 : Int32) : Option Int32 :=
  if x1 = 0 then
    if x0 < 8 then
      f_X5_neighbourOf_43 x0 x1 (-6)
     else
      f_X5_neighbourOf_43 x0 x1 (x0 - 8)
   else
    if x1 = 1 then
      if 56 ≤ x0 then
        f_X5_neighbourOf_59 x0 x1 (-6)
       else
        f_X5_neighbourOf_59 x0 x1 (x0 + 8)
     else
      if x1 = 2 then
        if (x0 - x0 / 8 * 8) ≤ 0 then
          f_X5_neighbourOf_75 x0 x1 (-6)
         else
          f_X5_neighbourOf_75 x0 x1 (x0 - 1)
       else
        if 7 ≤ (x0 - x0 / 8 * 8) then
          f_X5_neighbourOf_93 x0 x1 (-6)
         else
          f_X5_neighbourOf_93 x0 x1 (x0 + 1)
def f_X0_hasNeighbourOf_32 (o : Nat) (K2 : Int32 → Int32 → Int32 → wx_St → Option Int32) (x1 : Int32) (x2 : Int32) (x3 : Int32) (x4 : Int32) (σ : wx_St) : Option Int32 :=
  K2 x1 x2 (x3 + 1) σ
def f_X0_hasNeighbourOf_2 (o : Nat)  : Nat → Int32 → Int32 → Int32 → wx_St → Option Int32
  | 0, _, _, _, _ => none
  | n + 1, x1, x2, x3, σ =>
  if 4 ≤ x3 then
    some 0
   else
    wx_o (f_X5_neighbourOf x1 x3) (fun v9 => if v9 < 0 then
      f_X0_hasNeighbourOf_32 o (f_X0_hasNeighbourOf_2 o n) x1 x2 x3 v9 σ
     else
      wx_rI σ o 1 64 v9 (fun v25 => if v25 = x2 then
        some 1
       else
        f_X0_hasNeighbourOf_32 o (f_X0_hasNeighbourOf_2 o n) x1 x2 x3 v9 σ))
def f_X0_hasNeighbourOf (o : Nat)  (x1 : Int32) (x2 : Int32) (σ : wx_St) : Option Int32 :=
  f_X0_hasNeighbourOf_2 o 2000 x1 x2 0 σ
def f_X0_isFed_18 (o : Nat)  (x1 : Int32) (x2 : Int32) (y0 : Int32) (σ : wx_St) : Option Int32 :=
  wx_z y0 (some y0)
def f_X0_isFed (o : Nat)  (x1 : Int32) (x2 : Int32) (σ : wx_St) : Option Int32 :=
  wx_rI σ o 2 8 x1 (fun v5 => if (((v5.toUInt32 >>> (x2.toUInt32 &&& Int32.toUInt32 31)).toInt32) &&& 1) = 0 then
    f_X0_isFed_18 o x1 x2 0 σ
   else
    f_X0_isFed_18 o x1 x2 1 σ)
def f_X0_isLive (o : Nat)  (x1 : Int32) (σ : wx_St) : Option Int32 :=
  wx_rI σ o 4 3 x1 (fun v10 => wx_rI σ o 1 64 v10 (fun v11 => wx_rI σ o 5 3 x1 (fun v17 => wx_o (f_X0_isFed o v11 v17 σ) (fun v18 => wx_z v18 (some v18)))))
def f_X0_heated_31 (o : Nat) (K4 : Int64 → Int32 → wx_St → Option Int64) (x1 : Int64) (x3 : Int32) (σ : wx_St) : Option Int64 :=
  K4 x1 (x3 + 1) σ
def f_X0_heated_4 (o : Nat)  : Nat → Int64 → Int32 → wx_St → Option Int64
  | 0, _, _, _ => none
  | n + 1, x1, x3, σ =>
  if (σ.2.2.1 o 3) ≤ x3 then
    some x1
   else
    wx_o (f_X0_isLive o x3 σ) (fun v14 => if v14 = 0 then
      f_X0_heated_31 o (f_X0_heated_4 o n) x1 x3 σ
     else
      wx_rI σ o 4 3 x3 (fun v27 => f_X0_heated_31 o (f_X0_heated_4 o n) (x1 ||| ((1 : Int64) <<< (v27.toInt64 &&& 63))) x3 σ))
def f_X0_heated (o : Nat)   (σ : wx_St) : Option Int64 :=
  f_X0_heated_4 o 2000 (0 : Int64) 0 σ
def f_X5_areNeighbours_2   : Nat → Int32 → Int32 → Int32 → Option Int32
  | 0, _, _, _ => none
  | n + 1, x0, x1, x2 =>
  if 4 ≤ x2 then
    some 0
   else
    wx_o (f_X5_neighbourOf x0 x2) (fun v9 => if v9 = x1 then
      some 1
     else
      (f_X5_areNeighbours_2 n) x0 x1 (x2 + 1))
def f_X5_areNeighbours   (x0 : Int32) (x1 : Int32) : Option Int32 :=
  f_X5_areNeighbours_2 2000 x0 x1 0
def f_X0_isNeededByTouch_52 (o : Nat) (K2 : Int32 → Int32 → wx_St → Option Int32) (x1 : Int32) (x2 : Int32) (σ : wx_St) : Option Int32 :=
  K2 x1 (x2 + 1) σ
def f_X0_isNeededByTouch_2 (o : Nat)  : Nat → Int32 → Int32 → wx_St → Option Int32
  | 0, _, _, _ => none
  | n + 1, x1, x2, σ =>
  if (σ.2.2.1 o 3) ≤ x2 then
    some 0
   else
    wx_rI σ o 4 3 x2 (fun v15 => if v15 = x1 then
      some 1
     else
      wx_rI σ o 4 3 x2 (fun v27 => wx_o (f_X5_areNeighbours v27 x1) (fun v29 => if v29 = 0 then
        f_X0_isNeededByTouch_52 o (f_X0_isNeededByTouch_2 o n) x1 x2 σ
       else
        wx_rI σ o 5 3 x2 (fun v40 => wx_rI σ o 1 64 x1 (fun v46 => if v40 = v46 then
          some 1
         else
          f_X0_isNeededByTouch_52 o (f_X0_isNeededByTouch_2 o n) x1 x2 σ)))))
def f_X0_isNeededByTouch (o : Nat)  (x1 : Int32) (σ : wx_St) : Option Int32 :=
  f_X0_isNeededByTouch_2 o 2000 x1 0 σ
def f_X0_isSuspect_38 (o : Nat) (K2 : Int32 → Int32 → wx_St → Option Int32) (x1 : Int32) (x2 : Int32) (x3 : Int32) (σ : wx_St) : Option Int32 :=
  K2 x1 (x2 + 1) σ
def f_X0_isSuspect_2 (o : Nat)  : Nat → Int32 → Int32 → wx_St → Option Int32
  | 0, _, _, _ => none
  | n + 1, x1, x2, σ =>
  if 4 ≤ x2 then
    some 0
   else
    wx_o (f_X5_neighbourOf x1 x2) (fun v9 => if v9 < 0 then
      f_X0_isSuspect_38 o (f_X0_isSuspect_2 o n) x1 x2 v9 σ
     else
      wx_rI σ o 1 64 x1 (fun v23 => wx_rI σ o 1 64 v9 (fun v29 => wx_o (f_X0_isFed o v23 v29 σ) (fun v30 => if v30 = 0 then
        f_X0_isSuspect_38 o (f_X0_isSuspect_2 o n) x1 x2 v9 σ
       else
        some 1))))
def f_X0_isSuspect (o : Nat)  (x1 : Int32) (σ : wx_St) : Option Int32 :=
  f_X0_isSuspect_2 o 2000 x1 0 σ
def f_X0_touchAt_2 (o : Nat)  : Nat → Int32 → Int32 → wx_St → Option Int32
  | 0, _, _, _ => none
  | n + 1, x1, x2, σ =>
  if (σ.2.2.1 o 3) ≤ x2 then
    some (-6)
   else
    wx_rI σ o 4 3 x2 (fun v15 => if v15 = x1 then
      some x2
     else
      (f_X0_touchAt_2 o n) x1 (x2 + 1) σ)
def f_X0_touchAt (o : Nat)  (x1 : Int32) (σ : wx_St) : Option Int32 :=
  f_X0_touchAt_2 o 2000 x1 0 σ
def f_X5_isNet_16   (x0 : Int32) (y0 : Int32) : Option Int32 :=
  wx_z y0 (some y0)
def f_X5_isNet_15   (x0 : Int32) : Option Int32 :=
  f_X5_isNet_16 x0 0
def f_X5_isNet   (x0 : Int32) : Option Int32 :=
  if x0 < 1 then
    f_X5_isNet_15 x0
   else
    if 7 < x0 then
      f_X5_isNet_15 x0
     else
      f_X5_isNet_16 x0 1
def f_X5_placeOf_30   (x0 : Int32) (x1 : Int32) (y0 : Int32) : Option Int32 :=
  some y0
def f_X5_placeOf_20   (x0 : Int32) (x1 : Int32) : Option Int32 :=
  f_X5_placeOf_30 x0 x1 (-1)
def f_X5_placeOf   (x0 : Int32) (x1 : Int32) : Option Int32 :=
  if x0 < 0 then
    f_X5_placeOf_20 x0 x1
   else
    if 8 ≤ x0 then
      f_X5_placeOf_20 x0 x1
     else
      if x1 < 0 then
        f_X5_placeOf_20 x0 x1
       else
        if x1 < 8 then
          f_X5_placeOf_30 x0 x1 ((8 * x0) + x1)
         else
          f_X5_placeOf_20 x0 x1
def f_X0_join_66 (o : Nat)  (x1 : Int32) (x2 : Int32) (x3 : Int32) (x4 : Int32) (σ : wx_St) : Option (Int32 × wx_St) :=
  some ((-5), σ)
def f_X0_join (o : Nat)  (x1 : Int32) (x2 : Int32) (x3 : Int32) (σ : wx_St) : Option (Int32 × wx_St) :=
  wx_o (f_X5_placeOf x1 x2) (fun v2 => if 0 ≤ v2 then
    wx_o (f_X5_isNet x3) (fun v15 => if v15 = 0 then
      some ((-2), σ)
     else
      wx_rI σ o 1 64 v2 (fun v30 => if v30 = 0 then
        f_X0_join_66 o x1 x2 x3 v2 σ
       else
        wx_rI σ o 1 64 v2 (fun v40 => if v40 = x3 then
          f_X0_join_66 o x1 x2 x3 v2 σ
         else
          wx_o (f_X0_touchAt o v2 σ) (fun v48 => if v48 = (-6) then
            wx_o (f_X0_hasNeighbourOf o v2 x3 σ) (fun v60 => if v60 = 0 then
              f_X0_join_66 o x1 x2 x3 v2 σ
             else
              if (σ.2.2.1 o 3) < 3 then
                wx_w (wx_sI σ o 4 (Int32.toNatClampNeg (σ.2.2.1 o 3)) v2) 3 (σ.2.2.1 o 3) (fun σ90 => wx_w (wx_sI σ90 o 5 (Int32.toNatClampNeg (σ90.2.2.1 o 3)) x3) 3 (σ90.2.2.1 o 3) (fun σ100 => wx_l (wx_sS σ100 o 3 ((σ100.2.2.1 o 3) + 1)) (fun σ108 => wx_b (f_X0_beginRun o σ108) (fun v112 σ112 => some (((σ112.2.2.1 o 3) - 1), σ112)))))
               else
                some ((-4), σ))
           else
            f_X0_join_66 o x1 x2 x3 v2 σ))))
   else
    some ((-1), σ))
def f_X0_lay_28 (o : Nat)  (x1 : Int32) (x2 : Int32) (x3 : Int32) (x4 : Int32) (σ : wx_St) : Option (Int32 × wx_St) :=
  wx_o (f_X0_isNeededByTouch o x4 σ) (fun v31 => if v31 = 0 then
    wx_rI σ o 1 64 x4 (fun v46 => wx_w (wx_sI σ o 1 (Int32.toNatClampNeg x4) x3) 64 x4 (fun σ56 => wx_b (f_X0_beginRun o σ56) (fun v58 σ58 => some (v46, σ58))))
   else
    some ((-5), σ))
def f_X0_lay (o : Nat)  (x1 : Int32) (x2 : Int32) (x3 : Int32) (σ : wx_St) : Option (Int32 × wx_St) :=
  wx_o (f_X5_placeOf x1 x2) (fun v2 => if 0 ≤ v2 then
    if x3 = 0 then
      f_X0_lay_28 o x1 x2 x3 v2 σ
     else
      wx_o (f_X5_isNet x3) (fun v19 => if v19 = 0 then
        some ((-2), σ)
       else
        f_X0_lay_28 o x1 x2 x3 v2 σ)
   else
    some ((-1), σ))
def f_X5_isIn_15   (x0 : Int64) (x2 : Int32) (y0 : Int32) : Option Int32 :=
  wx_z y0 (some y0)
def f_X5_isIn   (x0 : Int64) (x2 : Int32) : Option Int32 :=
  if (lg_cmp (((x0.toUInt64 >>> (x2.toInt64.toUInt64 &&& Int64.toUInt64 63)).toInt64) &&& (1 : Int64)) (0 : Int64)) = 0 then
    f_X5_isIn_15 x0 x2 0
   else
    f_X5_isIn_15 x0 x2 1
def f_X5_step_206 (o0 : Nat) (k0 : Nat) (n0 : Nat) (o2 : Nat) (k2 : Nat) (n2 : Nat) (o6 : Nat) (k6 : Nat) (K27 : Int32 → Int32 → Int64 → UInt32 → UInt32 → UInt32 → Int32 → wx_St → Option (Unit × wx_St)) (x1 : Int32) (x3 : Int32) (x4 : Int64) (x7 : UInt32) (x8 : UInt32) (x9 : UInt32) (x10 : Int32) (x11 : Int32) (x12 : UInt32) (x13 : UInt32) (x14 : UInt32) (y1 : Int32) (y2 : UInt32) (σ : wx_St) : Option (Unit × wx_St) :=
  wx_w (wx_sF σ o2 k2 (Int32.toNatClampNeg y1) y2) n2 y1 (fun σ206 => K27 x1 x3 x4 x7 x8 x9 (x10 + 1) σ206)
def f_X5_step_167 (o0 : Nat) (k0 : Nat) (n0 : Nat) (o2 : Nat) (k2 : Nat) (n2 : Nat) (o6 : Nat) (k6 : Nat) (K27 : Int32 → Int32 → Int64 → UInt32 → UInt32 → UInt32 → Int32 → wx_St → Option (Unit × wx_St)) (x1 : Int32) (x3 : Int32) (x4 : Int64) (x7 : UInt32) (x8 : UInt32) (x9 : UInt32) (x10 : Int32) (x11 : Int32) (x12 : UInt32) (x13 : UInt32) (σ : wx_St) : Option (Unit × wx_St) :=
  wx_f (FP.fadd x12 x13) (fun v171 => wx_f (FP.fmul v171 x8) (fun v174 => wx_f (FP.fdiv v174 (1120403456 : UInt32)) (fun v178 => wx_o (f_X5_isIn x4 x10) (fun v190 => if v190 = 0 then
    f_X5_step_206 o0 k0 n0 o2 k2 n2 o6 k6 K27 x1 x3 x4 x7 x8 x9 x10 x11 x12 x13 v178 (x3 + x10) v178 σ
   else
    wx_f (FP.fadd v178 x9) (fun v200 => f_X5_step_206 o0 k0 n0 o2 k2 n2 o6 k6 K27 x1 x3 x4 x7 x8 x9 x10 x11 x12 x13 v178 (x3 + x10) v200 σ)))))
def f_X5_step_136 (o0 : Nat) (k0 : Nat) (n0 : Nat) (o2 : Nat) (k2 : Nat) (n2 : Nat) (o6 : Nat) (k6 : Nat) (K27 : Int32 → Int32 → Int64 → UInt32 → UInt32 → UInt32 → Int32 → wx_St → Option (Unit × wx_St)) (x1 : Int32) (x3 : Int32) (x4 : Int64) (x7 : UInt32) (x8 : UInt32) (x9 : UInt32) (x10 : Int32) (x11 : Int32) (x12 : UInt32) (x13 : UInt32) (σ : wx_St) : Option (Unit × wx_St) :=
  if 7 ≤ (x10 - x10 / 8 * 8) then
    f_X5_step_167 o0 k0 n0 o2 k2 n2 o6 k6 K27 x1 x3 x4 x7 x8 x9 x10 x11 x12 x13 σ
   else
    wx_rF σ o0 k0 n0 (x11 + 1) (fun v153 => wx_f (FP.fsub v153 x12) (fun v156 => wx_f (FP.fmul v156 x7) (fun v159 => wx_f (FP.fdiv v159 (1120403456 : UInt32)) (fun v163 => wx_f (FP.fadd x13 v163) (fun v164 => f_X5_step_167 o0 k0 n0 o2 k2 n2 o6 k6 K27 x1 x3 x4 x7 x8 x9 x10 x11 x12 v164 σ)))))
def f_X5_step_107 (o0 : Nat) (k0 : Nat) (n0 : Nat) (o2 : Nat) (k2 : Nat) (n2 : Nat) (o6 : Nat) (k6 : Nat) (K27 : Int32 → Int32 → Int64 → UInt32 → UInt32 → UInt32 → Int32 → wx_St → Option (Unit × wx_St)) (x1 : Int32) (x3 : Int32) (x4 : Int64) (x7 : UInt32) (x8 : UInt32) (x9 : UInt32) (x10 : Int32) (x11 : Int32) (x12 : UInt32) (x13 : UInt32) (σ : wx_St) : Option (Unit × wx_St) :=
  if (x10 - x10 / 8 * 8) ≤ 0 then
    f_X5_step_136 o0 k0 n0 o2 k2 n2 o6 k6 K27 x1 x3 x4 x7 x8 x9 x10 x11 x12 x13 σ
   else
    wx_rF σ o0 k0 n0 (x11 - 1) (fun v122 => wx_f (FP.fsub v122 x12) (fun v125 => wx_f (FP.fmul v125 x7) (fun v128 => wx_f (FP.fdiv v128 (1120403456 : UInt32)) (fun v132 => wx_f (FP.fadd x13 v132) (fun v133 => f_X5_step_136 o0 k0 n0 o2 k2 n2 o6 k6 K27 x1 x3 x4 x7 x8 x9 x10 x11 x12 v133 σ)))))
def f_X5_step_78 (o0 : Nat) (k0 : Nat) (n0 : Nat) (o2 : Nat) (k2 : Nat) (n2 : Nat) (o6 : Nat) (k6 : Nat) (K27 : Int32 → Int32 → Int64 → UInt32 → UInt32 → UInt32 → Int32 → wx_St → Option (Unit × wx_St)) (x1 : Int32) (x3 : Int32) (x4 : Int64) (x7 : UInt32) (x8 : UInt32) (x9 : UInt32) (x10 : Int32) (x11 : Int32) (x12 : UInt32) (x13 : UInt32) (σ : wx_St) : Option (Unit × wx_St) :=
  if 56 ≤ x10 then
    f_X5_step_107 o0 k0 n0 o2 k2 n2 o6 k6 K27 x1 x3 x4 x7 x8 x9 x10 x11 x12 x13 σ
   else
    wx_rF σ o0 k0 n0 (x11 + 8) (fun v93 => wx_f (FP.fsub v93 x12) (fun v96 => wx_f (FP.fmul v96 x7) (fun v99 => wx_f (FP.fdiv v99 (1120403456 : UInt32)) (fun v103 => wx_f (FP.fadd x13 v103) (fun v104 => f_X5_step_107 o0 k0 n0 o2 k2 n2 o6 k6 K27 x1 x3 x4 x7 x8 x9 x10 x11 x12 v104 σ)))))
def f_X5_step_27 (o0 : Nat) (k0 : Nat) (n0 : Nat) (o2 : Nat) (k2 : Nat) (n2 : Nat) (o6 : Nat) (k6 : Nat)  : Nat → Int32 → Int32 → Int64 → UInt32 → UInt32 → UInt32 → Int32 → wx_St → Option (Unit × wx_St)
  | 0, _, _, _, _, _, _, _, _ => none
  | n + 1, x1, x3, x4, x7, x8, x9, x10, σ =>
  if 64 ≤ x10 then
    some ((), σ)
   else
    wx_rF σ o0 k0 n0 (x1 + x10) (fun v43 => if x10 < 8 then
      f_X5_step_78 o0 k0 n0 o2 k2 n2 o6 k6 (f_X5_step_27 o0 k0 n0 o2 k2 n2 o6 k6 n) x1 x3 x4 x7 x8 x9 x10 (x1 + x10) v43 FP.fconst0 σ
     else
      wx_rF σ o0 k0 n0 ((x1 + x10) - 8) (fun v64 => wx_f (FP.fsub v64 v43) (fun v67 => wx_f (FP.fmul v67 x7) (fun v70 => wx_f (FP.fdiv v70 (1120403456 : UInt32)) (fun v74 => wx_f (FP.fadd FP.fconst0 v74) (fun v75 => f_X5_step_78 o0 k0 n0 o2 k2 n2 o6 k6 (f_X5_step_27 o0 k0 n0 o2 k2 n2 o6 k6 n) x1 x3 x4 x7 x8 x9 x10 (x1 + x10) v43 v75 σ))))))
def f_X5_step (o0 : Nat) (k0 : Nat) (n0 : Nat) (o2 : Nat) (k2 : Nat) (n2 : Nat) (o6 : Nat) (k6 : Nat)  (x1 : Int32) (x3 : Int32) (x4 : Int64) (σ : wx_St) : Option (Unit × wx_St) :=
  wx_rI σ o6 k6 4 0 (fun v3 => wx_rI σ o6 k6 4 1 (fun v12 => wx_rI σ o6 k6 4 2 (fun v20 => f_X5_step_27 o0 k0 n0 o2 k2 n2 o6 k6 2000 x1 x3 x4 (FP.i2f v3) (FP.i2f (100 - v12)) (FP.i2f v20) 0 σ)))
def f_X0_passOne (o : Nat)  (x1 : Int64) (σ : wx_St) : Option (Unit × wx_St) :=
  wx_b (f_X5_step o 7 64 o 8 64 o 0 0 0 x1 σ) (fun v15 σ15 => wx_l (wx_cF σ15 o 8 0 o 7 0 64) (fun σ30 => some ((), σ30)))
def f_X0_letPass_11 (o : Nat)  (x1 : Int32) (σ : wx_St) : Option (Int32 × wx_St) :=
  some ((-2), σ)
def f_X0_letPass_36 (o : Nat)  : Nat → Int32 → Int64 → Int32 → wx_St → Option (Int32 × wx_St)
  | 0, _, _, _, _ => none
  | n + 1, x1, x2, x4, σ =>
  if x1 ≤ x4 then
    wx_l (wx_sS σ o 6 ((σ.2.2.1 o 6) + x1)) (fun σ60 => some ((σ60.2.2.1 o 6), σ60))
   else
    wx_b (f_X0_passOne o x2 σ) (fun v44 σ44 => (f_X0_letPass_36 o n) x1 x2 (x4 + 1) σ44)
def f_X0_letPass (o : Nat)  (x1 : Int32) (σ : wx_St) : Option (Int32 × wx_St) :=
  if x1 < 1 then
    f_X0_letPass_11 o x1 σ
   else
    if x1 ≤ 50 then
      if ((σ.2.2.1 o 6) + x1) ≤ 100 then
        wx_o (f_X0_heated o σ) (fun v29 => f_X0_letPass_36 o 2000 x1 v29 0 σ)
       else
        some ((-5), σ)
     else
      f_X0_letPass_11 o x1 σ
def f_X5_readOf   (x0 : UInt32) : Option Int32 :=
  wx_f (FP.fmul x0 (1092616192 : UInt32)) (fun v4 => some (FP.f2i v4))
def f_X0_measure (o : Nat)  (x1 : Int32) (x2 : Int32) (σ : wx_St) : Option (Int32 × wx_St) :=
  wx_o (f_X5_placeOf x1 x2) (fun v2 => if 0 ≤ v2 then
    if (σ.2.2.1 o 9) < 8 then
      wx_rF σ o 7 64 v2 (fun v29 => wx_o (f_X5_readOf v29) (fun v30 => wx_w (wx_sI σ o 10 (Int32.toNatClampNeg (σ.2.2.1 o 9)) v2) 8 (σ.2.2.1 o 9) (fun σ44 => wx_w (wx_sI σ44 o 11 (Int32.toNatClampNeg (σ44.2.2.1 o 9)) v30) 8 (σ44.2.2.1 o 9) (fun σ55 => wx_w (wx_sI σ55 o 12 (Int32.toNatClampNeg (σ55.2.2.1 o 9)) (σ55.2.2.1 o 6)) 8 (σ55.2.2.1 o 9) (fun σ68 => wx_l (wx_sS σ68 o 9 ((σ68.2.2.1 o 9) + 1)) (fun σ76 => some (v30, σ76)))))))
     else
      some ((-4), σ)
   else
    some ((-1), σ))
def f_X0_part_12 (o : Nat)  (x1 : Int32) (σ : wx_St) : Option (Int32 × wx_St) :=
  some ((-1), σ)
def f_X0_part_16 (o : Nat)  : Nat → Int32 → Int32 → wx_St → Option (Int32 × wx_St)
  | 0, _, _, _ => none
  | n + 1, x1, x2, σ =>
  if ((σ.2.2.1 o 3) - 1) ≤ x2 then
    wx_l (wx_sS σ o 3 ((σ.2.2.1 o 3) - 1)) (fun σ67 => wx_b (f_X0_beginRun o σ67) (fun v71 σ71 => some ((σ71.2.2.1 o 3), σ71)))
   else
    wx_rI σ o 4 3 (x2 + 1) (fun v38 => wx_w (wx_sI σ o 4 (Int32.toNatClampNeg x2) v38) 3 x2 (fun σ39 => wx_rI σ39 o 5 3 (x2 + 1) (fun v52 => wx_w (wx_sI σ39 o 5 (Int32.toNatClampNeg x2) v52) 3 x2 (fun σ53 => (f_X0_part_16 o n) x1 (x2 + 1) σ53))))
def f_X0_part (o : Nat)  (x1 : Int32) (σ : wx_St) : Option (Int32 × wx_St) :=
  if x1 < 0 then
    f_X0_part_12 o x1 σ
   else
    if x1 < (σ.2.2.1 o 3) then
      f_X0_part_16 o 2000 x1 x1 σ
     else
      f_X0_part_12 o x1 σ
def f_X0_placesOf_23 (o : Nat) (K4 : Int32 → Int32 → Int32 → wx_St → Option Int32) (x1 : Int32) (x2 : Int32) (x3 : Int32) (σ : wx_St) : Option Int32 :=
  K4 x1 x2 (x3 + 1) σ
def f_X0_placesOf_4 (o : Nat)  : Nat → Int32 → Int32 → Int32 → wx_St → Option Int32
  | 0, _, _, _, _ => none
  | n + 1, x1, x2, x3, σ =>
  if 64 ≤ x3 then
    some x2
   else
    wx_rI σ o 1 64 x3 (fun v15 => if v15 = x1 then
      f_X0_placesOf_23 o (f_X0_placesOf_4 o n) x1 (x2 + 1) x3 σ
     else
      f_X0_placesOf_23 o (f_X0_placesOf_4 o n) x1 x2 x3 σ)
def f_X0_placesOf (o : Nat)  (x1 : Int32) (σ : wx_St) : Option Int32 :=
  f_X0_placesOf_4 o 2000 x1 0 0 σ
def f_X0_suspects_24 (o : Nat) (K4 : Int64 → Int32 → wx_St → Option Int64) (x1 : Int64) (x3 : Int32) (σ : wx_St) : Option Int64 :=
  K4 x1 (x3 + 1) σ
def f_X0_suspects_4 (o : Nat)  : Nat → Int64 → Int32 → wx_St → Option Int64
  | 0, _, _, _ => none
  | n + 1, x1, x3, σ =>
  if 64 ≤ x3 then
    some x1
   else
    wx_o (f_X0_isSuspect o x3 σ) (fun v12 => if v12 = 0 then
      f_X0_suspects_24 o (f_X0_suspects_4 o n) x1 x3 σ
     else
      f_X0_suspects_24 o (f_X0_suspects_4 o n) (x1 ||| ((1 : Int64) <<< (x3.toInt64 &&& 63))) x3 σ)
def f_X0_suspects (o : Nat)   (σ : wx_St) : Option Int64 :=
  f_X0_suspects_4 o 2000 (0 : Int64) 0 σ
def f_X0_takeOver (o : Nat) (b1 : Nat)   (σ : wx_St) : Option (Unit × wx_St) :=
  wx_l (wx_cI σ b1 0 0 o 0 0 4) (fun σ11 => wx_l (wx_cI σ11 b1 1 0 o 1 0 64) (fun σ26 => wx_l (wx_cI σ26 b1 2 0 o 2 0 8) (fun σ41 => wx_l (wx_sS σ41 o 3 (σ41.2.2.1 b1 3)) (fun σ49 => wx_l (wx_cI σ49 b1 4 0 o 4 0 3) (fun σ63 => wx_l (wx_cI σ63 b1 5 0 o 5 0 3) (fun σ77 => wx_l (wx_sS σ77 o 6 (σ77.2.2.1 b1 6)) (fun σ85 => wx_l (wx_cF σ85 b1 7 0 o 7 0 64) (fun σ100 => wx_l (wx_sS σ100 o 9 (σ100.2.2.1 b1 9)) (fun σ108 => wx_l (wx_cI σ108 b1 10 0 o 10 0 8) (fun σ123 => wx_l (wx_cI σ123 b1 11 0 o 11 0 8) (fun σ138 => wx_l (wx_cI σ138 b1 12 0 o 12 0 8) (fun σ153 => some ((), σ153)))))))))))))
def f_X0_tracked_25 (o : Nat) (K4 : Int64 → Int32 → wx_St → Option Int64) (x1 : Int64) (x3 : Int32) (σ : wx_St) : Option Int64 :=
  K4 x1 (x3 + 1) σ
def f_X0_tracked_4 (o : Nat)  : Nat → Int64 → Int32 → wx_St → Option Int64
  | 0, _, _, _ => none
  | n + 1, x1, x3, σ =>
  if 64 ≤ x3 then
    some x1
   else
    wx_rI σ o 1 64 x3 (fun v15 => if v15 = 0 then
      f_X0_tracked_25 o (f_X0_tracked_4 o n) x1 x3 σ
     else
      f_X0_tracked_25 o (f_X0_tracked_4 o n) (x1 ||| ((1 : Int64) <<< (x3.toInt64 &&& 63))) x3 σ)
def f_X0_tracked (o : Nat)   (σ : wx_St) : Option Int64 :=
  f_X0_tracked_4 o 2000 (0 : Int64) 0 σ
def f_X0_turnPair_14 (o : Nat)  (x1 : Int32) (x2 : Int32) (σ : wx_St) : Option (Int32 × wx_St) :=
  some ((-1), σ)
def f_X0_turnPair_74 (o : Nat)  (x1 : Int32) (x2 : Int32) (y0 : Int32) (σ : wx_St) : Option (Int32 × wx_St) :=
  some (y0, σ)
def f_X0_turnPair (o : Nat)  (x1 : Int32) (x2 : Int32) (σ : wx_St) : Option (Int32 × wx_St) :=
  wx_o (f_X5_isNet x1) (fun v1 => if v1 = 0 then
    f_X0_turnPair_14 o x1 x2 σ
   else
    wx_o (f_X5_isNet x2) (fun v8 => if v8 = 0 then
      f_X0_turnPair_14 o x1 x2 σ
     else
      if x1 = x2 then
        some ((-2), σ)
       else
        wx_rI σ o 2 8 x1 (fun v34 => wx_w (wx_sI σ o 2 (Int32.toNatClampNeg x1) (v34 ^^^ (1 <<< (x2 &&& 31)))) 8 x1 (fun σ39 => wx_rI σ39 o 2 8 x2 (fun v50 => wx_w (wx_sI σ39 o 2 (Int32.toNatClampNeg x2) (v50 ^^^ (1 <<< (x1 &&& 31)))) 8 x2 (fun σ55 => wx_b (f_X0_beginRun o σ55) (fun v57 σ57 => wx_o (f_X0_isFed o x1 x2 σ57) (fun v63 => if v63 = 0 then
          f_X0_turnPair_74 o x1 x2 0 σ57
         else
          f_X0_turnPair_74 o x1 x2 1 σ57))))))))
def f_X0_warmest_28 (o : Nat) (K4 : Int32 → Int32 → wx_St → Option Int32) (x1 : Int32) (x2 : Int32) (σ : wx_St) : Option Int32 :=
  K4 x1 (x2 + 1) σ
def f_X0_warmest_4 (o : Nat)  : Nat → Int32 → Int32 → wx_St → Option Int32
  | 0, _, _, _ => none
  | n + 1, x1, x2, σ =>
  if 64 ≤ x2 then
    some x1
   else
    wx_rF σ o 7 64 x2 (fun v15 => wx_rF σ o 7 64 x1 (fun v21 => if (Op.cmpValue (FP.fcmp v15 v21) .l) ≤ 0 then
      f_X0_warmest_28 o (f_X0_warmest_4 o n) x1 x2 σ
     else
      f_X0_warmest_28 o (f_X0_warmest_4 o n) x2 x2 σ))
def f_X0_warmest (o : Nat)   (σ : wx_St) : Option Int32 :=
  f_X0_warmest_4 o 2000 0 1 σ
def f_X0_warmthOf_29 (o : Nat) (K4 : Int32 → UInt32 → Int32 → wx_St → Option UInt32) (x1 : Int32) (x2 : UInt32) (x3 : Int32) (σ : wx_St) : Option UInt32 :=
  K4 x1 x2 (x3 + 1) σ
def f_X0_warmthOf_4 (o : Nat)  : Nat → Int32 → UInt32 → Int32 → wx_St → Option UInt32
  | 0, _, _, _, _ => none
  | n + 1, x1, x2, x3, σ =>
  if 64 ≤ x3 then
    some x2
   else
    wx_rI σ o 1 64 x3 (fun v15 => if v15 = x1 then
      wx_rF σ o 7 64 x3 (fun v26 => wx_f (FP.fadd x2 v26) (fun v27 => f_X0_warmthOf_29 o (f_X0_warmthOf_4 o n) x1 v27 x3 σ))
     else
      f_X0_warmthOf_29 o (f_X0_warmthOf_4 o n) x1 x2 x3 σ)
def f_X0_warmthOf (o : Nat)  (x1 : Int32) (σ : wx_St) : Option UInt32 :=
  f_X0_warmthOf_4 o 2000 x1 FP.fconst0 0 σ
def f_X1_follow_50 (o1 : Nat) (k1 : Nat)  : Nat → Int32 → wx_St → Option (Unit × wx_St)
  | 0, _, _ => none
  | n + 1, x2, σ =>
  if 64 ≤ x2 then
    some ((), σ)
   else
    wx_w (wx_sI σ 13 2 (Int32.toNatClampNeg x2) 0) 64 x2 (fun σ62 => (f_X1_follow_50 o1 k1 n) (x2 + 1) σ62)
def f_X1_follow_37 (o1 : Nat) (k1 : Nat)   (σ : wx_St) : Option (Unit × wx_St) :=
  wx_l (wx_cI σ o1 k1 0 13 0 0 4) (fun σ45 => f_X1_follow_50 o1 k1 2000 0 σ45)
def f_X1_follow (o1 : Nat) (k1 : Nat)   (σ : wx_St) : Option (Unit × wx_St) :=
  wx_rI σ 13 0 4 0 (fun v5 => wx_rI σ o1 k1 4 0 (fun v8 => if v5 = v8 then
    wx_rI σ 13 0 4 1 (fun v17 => wx_rI σ o1 k1 4 1 (fun v20 => if v17 = v20 then
      wx_rI σ 13 0 4 2 (fun v29 => wx_rI σ o1 k1 4 2 (fun v32 => if v29 = v32 then
        some ((), σ)
       else
        f_X1_follow_37 o1 k1 σ))
     else
      f_X1_follow_37 o1 k1 σ))
   else
    f_X1_follow_37 o1 k1 σ))
def f_X1_warmthBy_91   (x1 : Int32) (x2 : Int32) (x3 : Int32) (x5 : Int32) (σ : wx_St) : Option (UInt32 × wx_St) :=
  wx_rF σ 13 (100 + x1.toNatClampNeg) 6464 ((x2 * 64) + x3) (fun v99 => some (v99, σ))
def f_X1_warmthBy_36   : Nat → Int32 → Int32 → Int32 → Int32 → wx_St → Option (UInt32 × wx_St)
  | 0, _, _, _, _, _ => none
  | n + 1, x1, x2, x3, x5, σ =>
  if x2 ≤ x5 then
    f_X1_warmthBy_91 x1 x2 x3 x5 σ
   else
    if 100 ≤ x5 then
      f_X1_warmthBy_91 x1 x2 x3 x5 σ
     else
      wx_b (f_X5_step 13 (100 + x1.toNatClampNeg) 6464 13 (100 + x1.toNatClampNeg) 6464 13 0 (x5 * 64) ((x5 + 1) * 64) ((1 : Int64) <<< (x1.toInt64 &&& 63)) σ) (fun v72 σ72 => wx_w (wx_sI σ72 13 2 (Int32.toNatClampNeg x1) (x5 + 1)) 64 x1 (fun σ84 => (f_X1_warmthBy_36 n) x1 x2 x3 (x5 + 1) σ84))
def f_X1_warmthBy_20   (x1 : Int32) (x2 : Int32) (x3 : Int32) (σ : wx_St) : Option (UInt32 × wx_St) :=
  wx_rA σ x1 (fun v25 => if v25 = true then
    wx_rI σ 13 2 64 x1 (fun v33 => f_X1_warmthBy_36 2000 x1 x2 x3 v33 σ)
   else none)
def f_X1_warmthBy   (x1 : Int32) (x2 : Int32) (x3 : Int32) (σ : wx_St) : Option (UInt32 × wx_St) :=
  wx_rA σ x1 (fun v5 => if v5 = true then
    f_X1_warmthBy_20 x1 x2 x3 σ
   else
    wx_l (wx_sA σ (Int32.toNatClampNeg x1)) (fun σ17 => f_X1_warmthBy_20 x1 x2 x3 σ17))
variable {p : Program} {l : Launch} {e : Env} {s : State} {m : MethodId} {args : Array Value} {below : List Frame} {meth : Method} {c : Code} {D : va_G} {ad : Nat → Nat → Nat} {rd : Nat → Nat} {ca : Nat → ClassId} {A : Nat → Prop}
theorem k_J0_isLatin1_aae02_w0 : Cond.fieldLink RJ0 38 "java/lang/String" "COMPACT_STRINGS" "Z" ∈ wsJ0_isLatin1_aae02 := by decide +kernel
theorem k_J0_isLatin1_aae02_w1 : Cond.fieldLink RJ0 15 "java/lang/String" "coder" "B" ∈ wsJ0_isLatin1_aae02 := by decide +kernel
set_option maxRecDepth 20000 in
set_option maxHeartbeats 4000000 in
theorem b_J0_isLatin1_aae02_18 (B : wx_B p s m args meth c cJ0_isLatin1_aae02 1 (some .boolean) wsJ0_isLatin1_aae02 RJ0 D ad ca A) {i : Nat}  (hi : i < 5) {r : Int32} {σ : wx_St}  {y0 : Int32}   (h : f_J0_isLatin1_aae02_18 i y0 = some r) {H : Heap} {locs : List Loc} (Z : wx_Z D ad rd ca A σ H) (hS : va_S A s.heap H locs) {ls : Array Slot} (hl : lv_has ls 1 [(0, .ref (ad 18 i))]) : W p l e ({ frames := 0, cells := 0, slots := 0, locals := 0 } : Room) s m args below meth c H locs 0 0 (MQ below (wx_Q D ad rd ca A (some (.int r)) σ) args s 0 0 A) (F0 m 18 ls [.int y0]) := by
  obtain ⟨hx, hb, hml, hr, hts, hown, hlk, hC, hA⟩ := id B
  unfold f_J0_isLatin1_aae02_18 at h
  obtain ⟨hz, h⟩ := wx_z_ok h
  obtain rfl := Option.some.inj h
  exact W.zret hx hb hr (wx_nb hz) (fun t ht hW => ⟨rfl, by rw [ht]; exact Z, hS.F ht⟩) hS.2.2 dJ0_isLatin1_aae02_18
set_option maxRecDepth 20000 in
set_option maxHeartbeats 4000000 in
theorem b_J0_isLatin1_aae02_17 (B : wx_B p s m args meth c cJ0_isLatin1_aae02 1 (some .boolean) wsJ0_isLatin1_aae02 RJ0 D ad ca A) {i : Nat}  (hi : i < 5) {r : Int32} {σ : wx_St}     (h : f_J0_isLatin1_aae02_17 i = some r) {H : Heap} {locs : List Loc} (Z : wx_Z D ad rd ca A σ H) (hS : va_S A s.heap H locs) {ls : Array Slot} (hl : lv_has ls 1 [(0, .ref (ad 18 i))]) : W p l e ({ frames := 0, cells := 0, slots := 0, locals := 0 } : Room) s m args below meth c H locs 0 0 (MQ below (wx_Q D ad rd ca A (some (.int r)) σ) args s 0 0 A) (F0 m 17 ls []) := by
  obtain ⟨hx, hb, hml, hr, hts, hown, hlk, hC, hA⟩ := id B
  unfold f_J0_isLatin1_aae02_17 at h
  refine lv_iconst (v := 0) hx hb dJ0_isLatin1_aae02_17 (by decide) ?_
  exact b_J0_isLatin1_aae02_18 B hi h Z hS (lv_sub hl [0] rfl)
set_option maxRecDepth 20000 in
set_option maxHeartbeats 4000000 in
theorem b_J0_isLatin1_aae02_0 (B : wx_B p s m args meth c cJ0_isLatin1_aae02 1 (some .boolean) wsJ0_isLatin1_aae02 RJ0 D ad ca A) {i : Nat}  (hi : i < 5) {r : Int32} {σ : wx_St}     (h : f_J0_isLatin1_aae02 i = some r) {H : Heap} {locs : List Loc} (Z : wx_Z D ad rd ca A σ H) (hS : va_S A s.heap H locs) {ls : Array Slot} (hl : lv_has ls 1 [(0, .ref (ad 18 i))]) : W p l e ({ frames := 0, cells := 0, slots := 0, locals := 0 } : Room) s m args below meth c H locs 0 0 (MQ below (wx_Q D ad rd ca A (some (.int r)) σ) args s 0 0 A) (F0 m 0 ls []) := by
  obtain ⟨hx, hb, hml, hr, hts, hown, hlk, hC, hA⟩ := id B
  unfold f_J0_isLatin1_aae02 at h
  refine va_gets (own := RJ0) hx hb hC.2.1.2.2.1.1 hS hown (hts _ k_J0_isLatin1_aae02_w0) (fun _ h9 => h9) dJ0_isLatin1_aae02_0 ?_
  refine lv_if_eq (tgt := 17) hx hb dJ0_isLatin1_aae02_3 (by decide) (fun c3 => ?_) (fun c3 => ?_)
  · replace h := wx_ift c3 h
    exact b_J0_isLatin1_aae02_17 B hi h Z hS (lv_sub hl [0] rfl)
  · replace h := wx_iff c3 h
    refine lv_aload_n hx hb dJ0_isLatin1_aae02_6 rfl (lv_at hl 0 rfl) ?_
    refine vk_getf (own := RJ0) hx hb (hC.2.1.2.2.2.1 _ hi).2.1 hS hown (hts _ k_J0_isLatin1_aae02_w1) (fun _ h9 => h9) dJ0_isLatin1_aae02_7 ?_
    refine lv_if_ne (tgt := 17) hx hb dJ0_isLatin1_aae02_10 (by decide) (fun c10 => ?_) (fun c10 => ?_)
    · replace h := wx_iff c10 h
      exact b_J0_isLatin1_aae02_17 B hi h Z hS (lv_sub hl [0] rfl)
    · replace h := wx_ift c10 h
      refine lv_iconst (v := 1) hx hb dJ0_isLatin1_aae02_13 (by decide) ?_
      refine lv_goto (tgt := 18) hx hb dJ0_isLatin1_aae02_14 (by decide) ?_
      exact b_J0_isLatin1_aae02_18 B hi h Z hS (lv_sub hl [0] rfl)
set_option maxRecDepth 20000 in
theorem c_J0_isLatin1_aae02 (l : Launch) {D : va_G} {ad : Nat → Nat → Nat} {rd : Nat → Nat} {ca : Nat → ClassId} {A : Nat → Prop} {σ : wx_St} {i : Nat}  (hi : i < 5)  {r : Int32} (h : f_J0_isLatin1_aae02 i = some r) : wx_M l yJ0_isLatin1_aae02 wsJ0_isLatin1_aae02 0 0 D ad rd ca A [.ref (ad 18 i)] σ (some (.int r)) σ := by
  refine va_MetF (cc := cJ0_isLatin1_aae02) (maxL := 1) (ret := (some .boolean)) (by decide +kernel) rfl ?_
  intro p e s m args below meth c s₁ B0 hml hv
  obtain ⟨rfl, hC, Z, hA⟩ := hv
  have hl := lv_entry ([.ref (ad 18 i)]) (n := 1) (Nat.le_of_ble_eq_true rfl)
  rw [lg_entry_eq]
  generalize (lg_sl ([.ref (ad 18 i)]) ++ List.replicate (1 - (lg_sl ([.ref (ad 18 i)])).length) Slot.unset).toArray = ls at hl ⊢
  exact b_J0_isLatin1_aae02_0 ⟨B0.exec, B0.bytes, hml, B0.returns, atoms_spec (ws := wsJ0_isLatin1_aae02) B0.pre, findClass_of_methodNamed B0.named, B0.notSynchronized, hC, hA⟩ hi  h Z va_S.rf hl
set_option maxRecDepth 20000 in
set_option maxHeartbeats 4000000 in
theorem b_J3_checkIndex_8e157n_9 (B : wx_B p s m args meth c cJ3_checkIndex_8e157 3 (some .int) wsJ3_checkIndex_8e157 RJ3 D ad ca A)    {r : Int32} {σ : wx_St}  {x0 : Int32} {x1 : Int32}   (h : f_J3_checkIndex_8e157_9 x0 x1 = some r) {H : Heap} {locs : List Loc} (Z : wx_Z D ad rd ca A σ H) (hS : va_S A s.heap H locs) {ls : Array Slot} (hl : lv_has ls 3 [(0, .int x0), (1, .int x1), (2, .null)]) : W p l e ({ frames := 0, cells := 0, slots := 0, locals := 0 } : Room) s m args below meth c H locs 0 0 (MQ below (wx_Q D ad rd ca A (some (.int r)) σ) args s 0 0 A) (F0 m 9 ls []) := by
  obtain ⟨hx, hb, hml, hr, hts, hown, hlk, hC, hA⟩ := id B
  unfold f_J3_checkIndex_8e157_9 at h
  exact wx_no h
set_option maxRecDepth 20000 in
set_option maxHeartbeats 4000000 in
theorem b_J3_checkIndex_8e157n_0 (B : wx_B p s m args meth c cJ3_checkIndex_8e157 3 (some .int) wsJ3_checkIndex_8e157 RJ3 D ad ca A)    {r : Int32} {σ : wx_St}  {x0 : Int32} {x1 : Int32}   (h : f_J3_checkIndex_8e157 x0 x1 = some r) {H : Heap} {locs : List Loc} (Z : wx_Z D ad rd ca A σ H) (hS : va_S A s.heap H locs) {ls : Array Slot} (hl : lv_has ls 3 [(0, .int x0), (1, .int x1), (2, .null)]) : W p l e ({ frames := 0, cells := 0, slots := 0, locals := 0 } : Room) s m args below meth c H locs 0 0 (MQ below (wx_Q D ad rd ca A (some (.int r)) σ) args s 0 0 A) (F0 m 0 ls []) := by
  obtain ⟨hx, hb, hml, hr, hts, hown, hlk, hC, hA⟩ := id B
  unfold f_J3_checkIndex_8e157 at h
  refine lv_iload_n hx hb dJ3_checkIndex_8e157_0 rfl (lv_at hl 0 rfl) ?_
  refine lv_if_lt (tgt := 9) hx hb dJ3_checkIndex_8e157_1 (by decide) (fun c1 => ?_) (fun c1 => ?_)
  · replace h := wx_ift c1 h
    exact b_J3_checkIndex_8e157n_9 B h Z hS (lv_sub hl [0, 1, 2] rfl)
  · replace h := wx_iff c1 h
    refine lv_iload_n hx hb dJ3_checkIndex_8e157_4 rfl (lv_at hl 0 rfl) ?_
    refine lv_iload_n hx hb dJ3_checkIndex_8e157_5 rfl (lv_at hl 1 rfl) ?_
    refine lv_icmp_lt (tgt := 16) hx hb dJ3_checkIndex_8e157_6 (by decide) (fun c6 => ?_) (fun c6 => ?_)
    · replace h := wx_ift c6 h
      refine lv_iload_n hx hb dJ3_checkIndex_8e157_16 rfl (lv_at hl 0 rfl) ?_
      obtain rfl := Option.some.inj h
      exact W.iret hx hb hr (fun t ht hW => ⟨rfl, by rw [ht]; exact Z, hS.F ht⟩) hS.2.2 dJ3_checkIndex_8e157_17
    · replace h := wx_iff c6 h
      exact b_J3_checkIndex_8e157n_9 B h Z hS (lv_sub hl [0, 1, 2] rfl)
set_option maxRecDepth 20000 in
theorem c_J3_checkIndex_8e157n (l : Launch) {D : va_G} {ad : Nat → Nat → Nat} {rd : Nat → Nat} {ca : Nat → ClassId} {A : Nat → Prop} {σ : wx_St}    {x0 : Int32} {x1 : Int32} {r : Int32} (h : f_J3_checkIndex_8e157 x0 x1 = some r) : wx_M l yJ3_checkIndex_8e157 wsJ3_checkIndex_8e157 0 0 D ad rd ca A [.int x0, .int x1, .null] σ (some (.int r)) σ := by
  refine va_MetF (cc := cJ3_checkIndex_8e157) (maxL := 3) (ret := (some .int)) (by decide +kernel) rfl ?_
  intro p e s m args below meth c s₁ B0 hml hv
  obtain ⟨rfl, hC, Z, hA⟩ := hv
  have hl := lv_entry ([.int x0, .int x1, .null]) (n := 3) (Nat.le_of_ble_eq_true rfl)
  rw [lg_entry_eq]
  generalize (lg_sl ([.int x0, .int x1, .null]) ++ List.replicate (3 - (lg_sl ([.int x0, .int x1, .null])).length) Slot.unset).toArray = ls at hl ⊢
  exact b_J3_checkIndex_8e157n_0 ⟨B0.exec, B0.bytes, hml, B0.returns, atoms_spec (ws := wsJ3_checkIndex_8e157) B0.pre, findClass_of_methodNamed B0.named, B0.notSynchronized, hC, hA⟩   h Z va_S.rf hl
set_option maxRecDepth 20000 in
set_option maxHeartbeats 4000000 in
theorem b_J3_checkIndex_8e157r_9 (B : wx_B p s m args meth c cJ3_checkIndex_8e157 3 (some .int) wsJ3_checkIndex_8e157 RJ3 D ad ca A) {t : Nat}    {r : Int32} {σ : wx_St}  {x0 : Int32} {x1 : Int32}   (h : f_J3_checkIndex_8e157_9 x0 x1 = some r) {H : Heap} {locs : List Loc} (Z : wx_Z D ad rd ca A σ H) (hS : va_S A s.heap H locs) {ls : Array Slot} (hl : lv_has ls 3 [(0, .int x0), (1, .int x1), (2, .ref t)]) : W p l e ({ frames := 0, cells := 0, slots := 0, locals := 0 } : Room) s m args below meth c H locs 0 0 (MQ below (wx_Q D ad rd ca A (some (.int r)) σ) args s 0 0 A) (F0 m 9 ls []) := by
  obtain ⟨hx, hb, hml, hr, hts, hown, hlk, hC, hA⟩ := id B
  unfold f_J3_checkIndex_8e157_9 at h
  exact wx_no h
set_option maxRecDepth 20000 in
set_option maxHeartbeats 4000000 in
theorem b_J3_checkIndex_8e157r_0 (B : wx_B p s m args meth c cJ3_checkIndex_8e157 3 (some .int) wsJ3_checkIndex_8e157 RJ3 D ad ca A) {t : Nat}    {r : Int32} {σ : wx_St}  {x0 : Int32} {x1 : Int32}   (h : f_J3_checkIndex_8e157 x0 x1 = some r) {H : Heap} {locs : List Loc} (Z : wx_Z D ad rd ca A σ H) (hS : va_S A s.heap H locs) {ls : Array Slot} (hl : lv_has ls 3 [(0, .int x0), (1, .int x1), (2, .ref t)]) : W p l e ({ frames := 0, cells := 0, slots := 0, locals := 0 } : Room) s m args below meth c H locs 0 0 (MQ below (wx_Q D ad rd ca A (some (.int r)) σ) args s 0 0 A) (F0 m 0 ls []) := by
  obtain ⟨hx, hb, hml, hr, hts, hown, hlk, hC, hA⟩ := id B
  unfold f_J3_checkIndex_8e157 at h
  refine lv_iload_n hx hb dJ3_checkIndex_8e157_0 rfl (lv_at hl 0 rfl) ?_
  refine lv_if_lt (tgt := 9) hx hb dJ3_checkIndex_8e157_1 (by decide) (fun c1 => ?_) (fun c1 => ?_)
  · replace h := wx_ift c1 h
    exact b_J3_checkIndex_8e157r_9 B h Z hS (lv_sub hl [0, 1, 2] rfl)
  · replace h := wx_iff c1 h
    refine lv_iload_n hx hb dJ3_checkIndex_8e157_4 rfl (lv_at hl 0 rfl) ?_
    refine lv_iload_n hx hb dJ3_checkIndex_8e157_5 rfl (lv_at hl 1 rfl) ?_
    refine lv_icmp_lt (tgt := 16) hx hb dJ3_checkIndex_8e157_6 (by decide) (fun c6 => ?_) (fun c6 => ?_)
    · replace h := wx_ift c6 h
      refine lv_iload_n hx hb dJ3_checkIndex_8e157_16 rfl (lv_at hl 0 rfl) ?_
      obtain rfl := Option.some.inj h
      exact W.iret hx hb hr (fun t ht hW => ⟨rfl, by rw [ht]; exact Z, hS.F ht⟩) hS.2.2 dJ3_checkIndex_8e157_17
    · replace h := wx_iff c6 h
      exact b_J3_checkIndex_8e157r_9 B h Z hS (lv_sub hl [0, 1, 2] rfl)
set_option maxRecDepth 20000 in
theorem c_J3_checkIndex_8e157r (l : Launch) {D : va_G} {ad : Nat → Nat → Nat} {rd : Nat → Nat} {ca : Nat → ClassId} {A : Nat → Prop} {σ : wx_St} {t : Nat} {t : Nat}    {x0 : Int32} {x1 : Int32} {r : Int32} (h : f_J3_checkIndex_8e157 x0 x1 = some r) : wx_M l yJ3_checkIndex_8e157 wsJ3_checkIndex_8e157 0 0 D ad rd ca A [.int x0, .int x1, .ref t] σ (some (.int r)) σ := by
  refine va_MetF (cc := cJ3_checkIndex_8e157) (maxL := 3) (ret := (some .int)) (by decide +kernel) rfl ?_
  intro p e s m args below meth c s₁ B0 hml hv
  obtain ⟨rfl, hC, Z, hA⟩ := hv
  have hl := lv_entry ([.int x0, .int x1, .ref t]) (n := 3) (Nat.le_of_ble_eq_true rfl)
  rw [lg_entry_eq]
  generalize (lg_sl ([.int x0, .int x1, .ref t]) ++ List.replicate (3 - (lg_sl ([.int x0, .int x1, .ref t])).length) Slot.unset).toArray = ls at hl ⊢
  exact b_J3_checkIndex_8e157r_0 ⟨B0.exec, B0.bytes, hml, B0.returns, atoms_spec (ws := wsJ3_checkIndex_8e157) B0.pre, findClass_of_methodNamed B0.named, B0.notSynchronized, hC, hA⟩   h Z va_S.rf hl
theorem k_J0_checkIndex_df160_w0 : Cond.fieldLink RJ0 1053 "jdk/internal/util/Preconditions" "SIOOBE_FORMATTER" "Ljava/util/function/BiFunction;" ∈ wsJ0_checkIndex_df160 := by decide +kernel
set_option maxRecDepth 20000 in
set_option maxHeartbeats 4000000 in
theorem b_J0_checkIndex_df160_0 (B : wx_B p s m args meth c cJ0_checkIndex_df160 2 none wsJ0_checkIndex_df160 RJ0 D ad ca A)     {σ : wx_St}  {x0 : Int32} {x1 : Int32}   (h : f_J0_checkIndex_df160 x0 x1 = some ()) {H : Heap} {locs : List Loc} (Z : wx_Z D ad rd ca A σ H) (hS : va_S A s.heap H locs) {ls : Array Slot} (hl : lv_has ls 2 [(0, .int x0), (1, .int x1)]) : W p l e ({ frames := 1, cells := 0, slots := 0, locals := 22 } : Room) s m args below meth c H locs 0 0 (MQ below (wx_Q D ad rd ca A none σ) args s 0 0 A) (F0 m 0 ls []) := by
  obtain ⟨hx, hb, hml, hr, hts, hown, hlk, hC, hA⟩ := id B
  unfold f_J0_checkIndex_df160 at h
  refine lv_iload_n hx hb dJ0_checkIndex_df160_0 rfl (lv_at hl 0 rfl) ?_
  refine lv_iload_n hx hb dJ0_checkIndex_df160_1 rfl (lv_at hl 1 rfl) ?_
  rcases hC.2.1.2.2.1.2 with hq | ⟨t, hq⟩
  · refine va_gets (own := RJ0) hx hb hq hS hown (hts _ k_J0_checkIndex_df160_w0) (fun _ h9 => h9) dJ0_checkIndex_df160_2 ?_
    obtain ⟨v5, hc5, h⟩ := wx_o_ok h
    refine wx_call (va_runS (As := [.int x0, .int x1, .null]) (rest := []) ⟨hx, hb, hml, hown, hts⟩ (c_J3_checkIndex_8e157n l (D := D) (ad := ad) (rd := rd) (ca := ca) (A := A) (σ := σ) hc5) (va_cwS 3 hts gJ0_checkIndex_df160_J3_checkIndex_8e157 rfl rfl rfl (by decide +kernel) ⟨Nat.le_of_ble_eq_true rfl, Nat.le_of_ble_eq_true rfl⟩) (wx_preS hC Z hS hA) rfl rfl hl.1 rfl (lv_room (Nat.le_of_ble_eq_true rfl)) dJ0_checkIndex_df160_5 ⟨Nat.zero_le _, Nat.zero_le _⟩) hS (fun H locs Z hS => ?_)
    refine lv_pop hx hb dJ0_checkIndex_df160_8 rfl ?_
    exact W.vret hx hb hr (fun t ht hW => ⟨rfl, by rw [ht]; exact Z, hS.F ht⟩) hS.2.2 dJ0_checkIndex_df160_9
  · refine va_gets (own := RJ0) hx hb hq hS hown (hts _ k_J0_checkIndex_df160_w0) (fun _ h9 => h9) dJ0_checkIndex_df160_2 ?_
    obtain ⟨v5, hc5, h⟩ := wx_o_ok h
    refine wx_call (va_runS (As := [.int x0, .int x1, .ref t]) (rest := []) ⟨hx, hb, hml, hown, hts⟩ (c_J3_checkIndex_8e157r l (D := D) (ad := ad) (rd := rd) (ca := ca) (A := A) (σ := σ) (t := t) hc5) (va_cwS 3 hts gJ0_checkIndex_df160_J3_checkIndex_8e157 rfl rfl rfl (by decide +kernel) ⟨Nat.le_of_ble_eq_true rfl, Nat.le_of_ble_eq_true rfl⟩) (wx_preS hC Z hS hA) rfl rfl hl.1 rfl (lv_room (Nat.le_of_ble_eq_true rfl)) dJ0_checkIndex_df160_5 ⟨Nat.zero_le _, Nat.zero_le _⟩) hS (fun H locs Z hS => ?_)
    refine lv_pop hx hb dJ0_checkIndex_df160_8 rfl ?_
    exact W.vret hx hb hr (fun t ht hW => ⟨rfl, by rw [ht]; exact Z, hS.F ht⟩) hS.2.2 dJ0_checkIndex_df160_9
set_option maxRecDepth 20000 in
theorem c_J0_checkIndex_df160 (l : Launch) {D : va_G} {ad : Nat → Nat → Nat} {rd : Nat → Nat} {ca : Nat → ClassId} {A : Nat → Prop} {σ : wx_St}    {x0 : Int32} {x1 : Int32}  (h : f_J0_checkIndex_df160 x0 x1 = some ()) : wx_M l yJ0_checkIndex_df160 wsJ0_checkIndex_df160 1 22 D ad rd ca A [.int x0, .int x1] σ none σ := by
  refine va_MetF (cc := cJ0_checkIndex_df160) (maxL := 2) (ret := none) (by decide +kernel) rfl ?_
  intro p e s m args below meth c s₁ B0 hml hv
  obtain ⟨rfl, hC, Z, hA⟩ := hv
  have hl := lv_entry ([.int x0, .int x1]) (n := 2) (Nat.le_of_ble_eq_true rfl)
  rw [lg_entry_eq]
  generalize (lg_sl ([.int x0, .int x1]) ++ List.replicate (2 - (lg_sl ([.int x0, .int x1])).length) Slot.unset).toArray = ls at hl ⊢
  exact b_J0_checkIndex_df160_0 ⟨B0.exec, B0.bytes, hml, B0.returns, atoms_spec (ws := wsJ0_checkIndex_df160) B0.pre, findClass_of_methodNamed B0.named, B0.notSynchronized, hC, hA⟩   h Z va_S.rf hl
set_option maxRecDepth 20000 in
set_option maxHeartbeats 4000000 in
theorem b_J1_charAt_3b067_0 (B : wx_B p s m args meth c cJ1_charAt_3b067 2 (some .char) wsJ1_charAt_3b067 RJ1 D ad ca A) {i : Nat}  (hi : i < 5) {r : Int32} {σ : wx_St}  {x1 : Int32}   (h : f_J1_charAt_3b067 i x1 = some r) {H : Heap} {locs : List Loc} (Z : wx_Z D ad rd ca A σ H) (hS : va_S A s.heap H locs) {ls : Array Slot} (hl : lv_has ls 2 [(0, .ref (ad 19 i)), (1, .int x1)]) : W p l e ({ frames := 2, cells := 0, slots := 0, locals := 43 } : Room) s m args below meth c H locs 0 0 (MQ below (wx_Q D ad rd ca A (some (.int r)) σ) args s 0 0 A) (F0 m 0 ls []) := by
  obtain ⟨hx, hb, hml, hr, hts, hown, hlk, hC, hA⟩ := id B
  unfold f_J1_charAt_3b067 at h
  refine lv_iload_n hx hb dJ1_charAt_3b067_0 rfl (lv_at hl 1 rfl) ?_
  refine lv_aload_n hx hb dJ1_charAt_3b067_1 rfl (lv_at hl 0 rfl) ?_
  refine va_tlen (v := (Int32.ofNat (wx_len.getD i 0))) hx hb (hC.2.1.2.2.2.1 _ hi).2.2.2 hS rfl dJ1_charAt_3b067_2 ?_
  obtain ⟨v3, hc3, h⟩ := wx_o_ok h
  refine wx_call (va_runS (As := [.int x1, .int (Int32.ofNat (wx_len.getD i 0))]) (rest := []) ⟨hx, hb, hml, hown, hts⟩ (c_J0_checkIndex_df160 l (D := D) (ad := ad) (rd := rd) (ca := ca) (A := A) (σ := σ) hc3) (va_cwS 2 hts gJ1_charAt_3b067_J0_checkIndex_df160 rfl rfl rfl (by decide +kernel) ⟨Nat.le_of_ble_eq_true rfl, Nat.le_of_ble_eq_true rfl⟩) (wx_preS hC Z hS hA) rfl rfl hl.1 rfl (lv_room (Nat.le_of_ble_eq_true rfl)) dJ1_charAt_3b067_3 ⟨Nat.zero_le _, Nat.zero_le _⟩) hS (fun H locs Z hS => ?_)
  refine lv_aload_n hx hb dJ1_charAt_3b067_6 rfl (lv_at hl 0 rfl) ?_
  refine lv_iload_n hx hb dJ1_charAt_3b067_7 rfl (lv_at hl 1 rfl) ?_
  obtain ⟨v8, ev8, iv8, h⟩ := wx_rT_ok h
  refine va_tb hx hb (hC.2.1.2.2.2.1 _ hi).2.2.2 hS (wx_in_vp iv8) (v := .int v8) (by rw [ev8]) dJ1_charAt_3b067_8 ?_
  refine lv_sipush (v := 255) hx hb dJ1_charAt_3b067_9 (by decide) ?_
  refine lv_iand hx hb dJ1_charAt_3b067_12 ?_
  refine lv_i2c (v := ((v8 &&& 255).toUInt32 % 65536).toInt32) hx hb dJ1_charAt_3b067_13 rfl ?_
  obtain ⟨hz, h⟩ := wx_zt_ok h
  obtain rfl := Option.some.inj h
  exact W.zret hx hb hr (wx_ntC hz) (fun t ht hW => ⟨rfl, by rw [ht]; exact Z, hS.F ht⟩) hS.2.2 dJ1_charAt_3b067_14
set_option maxRecDepth 20000 in
theorem c_J1_charAt_3b067 (l : Launch) {D : va_G} {ad : Nat → Nat → Nat} {rd : Nat → Nat} {ca : Nat → ClassId} {A : Nat → Prop} {σ : wx_St} {i : Nat}  (hi : i < 5) {x1 : Int32} {r : Int32} (h : f_J1_charAt_3b067 i x1 = some r) : wx_M l yJ1_charAt_3b067 wsJ1_charAt_3b067 2 43 D ad rd ca A [.ref (ad 19 i), .int x1] σ (some (.int r)) σ := by
  refine va_MetF (cc := cJ1_charAt_3b067) (maxL := 2) (ret := (some .char)) (by decide +kernel) rfl ?_
  intro p e s m args below meth c s₁ B0 hml hv
  obtain ⟨rfl, hC, Z, hA⟩ := hv
  have hl := lv_entry ([.ref (ad 19 i), .int x1]) (n := 2) (Nat.le_of_ble_eq_true rfl)
  rw [lg_entry_eq]
  generalize (lg_sl ([.ref (ad 19 i), .int x1]) ++ List.replicate (2 - (lg_sl ([.ref (ad 19 i), .int x1])).length) Slot.unset).toArray = ls at hl ⊢
  exact b_J1_charAt_3b067_0 ⟨B0.exec, B0.bytes, hml, B0.returns, atoms_spec (ws := wsJ1_charAt_3b067) B0.pre, findClass_of_methodNamed B0.named, B0.notSynchronized, hC, hA⟩ hi  h Z va_S.rf hl
theorem k_J0_charAt_5068e_w0 : Cond.fieldLink RJ0 9 "java/lang/String" "value" "[B" ∈ wsJ0_charAt_5068e := by decide +kernel
set_option maxRecDepth 20000 in
set_option maxHeartbeats 4000000 in
theorem b_J0_charAt_5068e_0 (B : wx_B p s m args meth c cJ0_charAt_5068e 2 (some .char) wsJ0_charAt_5068e RJ0 D ad ca A) {i : Nat}  (hi : i < 5) {r : Int32} {σ : wx_St}  {x1 : Int32}   (h : f_J0_charAt_5068e i x1 = some r) {H : Heap} {locs : List Loc} (Z : wx_Z D ad rd ca A σ H) (hS : va_S A s.heap H locs) {ls : Array Slot} (hl : lv_has ls 2 [(0, .ref (ad 18 i)), (1, .int x1)]) : W p l e ({ frames := 3, cells := 0, slots := 0, locals := 64 } : Room) s m args below meth c H locs 0 0 (MQ below (wx_Q D ad rd ca A (some (.int r)) σ) args s 0 0 A) (F0 m 0 ls []) := by
  obtain ⟨hx, hb, hml, hr, hts, hown, hlk, hC, hA⟩ := id B
  unfold f_J0_charAt_5068e at h
  refine lv_aload_n hx hb dJ0_charAt_5068e_0 rfl (lv_at hl 0 rfl) ?_
  obtain ⟨v1, hc1, h⟩ := wx_o_ok h
  refine wx_call (va_runV (As := []) (rest := []) ⟨hx, hb, hml, hown, hts⟩ (c_J0_isLatin1_aae02 l (D := D) (ad := ad) (rd := rd) (ca := ca) (A := A) (σ := σ) (i := i) hi hc1) (cwV 0 hts gJ0_charAt_5068e_J0_isLatin1_aae02 rfl rfl rfl (by decide +kernel) ⟨Nat.le_of_ble_eq_true rfl, Nat.le_of_ble_eq_true rfl⟩) (wx_preVS hC Z hS hA hi) rfl rfl hl.1 rfl (lv_room (Nat.le_of_ble_eq_true rfl)) dJ0_charAt_5068e_1 ⟨Nat.zero_le _, Nat.zero_le _⟩) hS (fun H locs Z hS => ?_)
  refine lv_if_eq (tgt := 16) hx hb dJ0_charAt_5068e_4 (by decide) (fun c4 => ?_) (fun c4 => ?_)
  · replace h := wx_ift c4 h
    exact wx_no h
  · replace h := wx_iff c4 h
    refine lv_aload_n hx hb dJ0_charAt_5068e_7 rfl (lv_at hl 0 rfl) ?_
    refine vk_getf (own := RJ0) hx hb (hC.2.1.2.2.2.1 _ hi).2.2.1 hS hown (hts _ k_J0_charAt_5068e_w0) (fun _ h9 => h9) dJ0_charAt_5068e_8 ?_
    refine lv_iload_n hx hb dJ0_charAt_5068e_11 rfl (lv_at hl 1 rfl) ?_
    obtain ⟨v12, hc12, h⟩ := wx_o_ok h
    refine wx_call (va_runS (As := [.ref (ad 19 i), .int x1]) (rest := []) ⟨hx, hb, hml, hown, hts⟩ (c_J1_charAt_3b067 l (D := D) (ad := ad) (rd := rd) (ca := ca) (A := A) (σ := σ) (i := i) hi hc12) (va_cwS 2 hts gJ0_charAt_5068e_J1_charAt_3b067 rfl rfl rfl (by decide +kernel) ⟨Nat.le_of_ble_eq_true rfl, Nat.le_of_ble_eq_true rfl⟩) (wx_preS hC Z hS hA) rfl rfl hl.1 rfl (lv_room (Nat.le_of_ble_eq_true rfl)) dJ0_charAt_5068e_12 ⟨Nat.zero_le _, Nat.zero_le _⟩) hS (fun H locs Z hS => ?_)
    obtain ⟨hz, h⟩ := wx_zt_ok h
    obtain rfl := Option.some.inj h
    exact W.zret hx hb hr (wx_ntC hz) (fun t ht hW => ⟨rfl, by rw [ht]; exact Z, hS.F ht⟩) hS.2.2 dJ0_charAt_5068e_15
set_option maxRecDepth 20000 in
theorem c_J0_charAt_5068e (l : Launch) {D : va_G} {ad : Nat → Nat → Nat} {rd : Nat → Nat} {ca : Nat → ClassId} {A : Nat → Prop} {σ : wx_St} {i : Nat}  (hi : i < 5) {x1 : Int32} {r : Int32} (h : f_J0_charAt_5068e i x1 = some r) : wx_M l yJ0_charAt_5068e wsJ0_charAt_5068e 3 64 D ad rd ca A [.ref (ad 18 i), .int x1] σ (some (.int r)) σ := by
  refine va_MetF (cc := cJ0_charAt_5068e) (maxL := 2) (ret := (some .char)) (by decide +kernel) rfl ?_
  intro p e s m args below meth c s₁ B0 hml hv
  obtain ⟨rfl, hC, Z, hA⟩ := hv
  have hl := lv_entry ([.ref (ad 18 i), .int x1]) (n := 2) (Nat.le_of_ble_eq_true rfl)
  rw [lg_entry_eq]
  generalize (lg_sl ([.ref (ad 18 i), .int x1]) ++ List.replicate (2 - (lg_sl ([.ref (ad 18 i), .int x1])).length) Slot.unset).toArray = ls at hl ⊢
  exact b_J0_charAt_5068e_0 ⟨B0.exec, B0.bytes, hml, B0.returns, atoms_spec (ws := wsJ0_charAt_5068e) B0.pre, findClass_of_methodNamed B0.named, B0.notSynchronized, hC, hA⟩ hi  h Z va_S.rf hl
theorem k_J0_coder_7d493_w0 : Cond.fieldLink RJ0 38 "java/lang/String" "COMPACT_STRINGS" "Z" ∈ wsJ0_coder_7d493 := by decide +kernel
theorem k_J0_coder_7d493_w1 : Cond.fieldLink RJ0 15 "java/lang/String" "coder" "B" ∈ wsJ0_coder_7d493 := by decide +kernel
set_option maxRecDepth 20000 in
set_option maxHeartbeats 4000000 in
theorem b_J0_coder_7d493_14 (B : wx_B p s m args meth c cJ0_coder_7d493 1 (some .byte) wsJ0_coder_7d493 RJ0 D ad ca A) {i : Nat}  (hi : i < 5) {r : Int32} {σ : wx_St}  {y0 : Int32}   (h : f_J0_coder_7d493_14 i y0 = some r) {H : Heap} {locs : List Loc} (Z : wx_Z D ad rd ca A σ H) (hS : va_S A s.heap H locs) {ls : Array Slot} (hl : lv_has ls 1 [(0, .ref (ad 18 i))]) : W p l e ({ frames := 0, cells := 0, slots := 0, locals := 0 } : Room) s m args below meth c H locs 0 0 (MQ below (wx_Q D ad rd ca A (some (.int r)) σ) args s 0 0 A) (F0 m 14 ls [.int y0]) := by
  obtain ⟨hx, hb, hml, hr, hts, hown, hlk, hC, hA⟩ := id B
  unfold f_J0_coder_7d493_14 at h
  obtain ⟨hz, h⟩ := wx_zt_ok h
  obtain rfl := Option.some.inj h
  exact W.zret hx hb hr (wx_ntB hz) (fun t ht hW => ⟨rfl, by rw [ht]; exact Z, hS.F ht⟩) hS.2.2 dJ0_coder_7d493_14
set_option maxRecDepth 20000 in
set_option maxHeartbeats 4000000 in
theorem b_J0_coder_7d493_0 (B : wx_B p s m args meth c cJ0_coder_7d493 1 (some .byte) wsJ0_coder_7d493 RJ0 D ad ca A) {i : Nat}  (hi : i < 5) {r : Int32} {σ : wx_St}     (h : f_J0_coder_7d493 i = some r) {H : Heap} {locs : List Loc} (Z : wx_Z D ad rd ca A σ H) (hS : va_S A s.heap H locs) {ls : Array Slot} (hl : lv_has ls 1 [(0, .ref (ad 18 i))]) : W p l e ({ frames := 0, cells := 0, slots := 0, locals := 0 } : Room) s m args below meth c H locs 0 0 (MQ below (wx_Q D ad rd ca A (some (.int r)) σ) args s 0 0 A) (F0 m 0 ls []) := by
  obtain ⟨hx, hb, hml, hr, hts, hown, hlk, hC, hA⟩ := id B
  unfold f_J0_coder_7d493 at h
  refine va_gets (own := RJ0) hx hb hC.2.1.2.2.1.1 hS hown (hts _ k_J0_coder_7d493_w0) (fun _ h9 => h9) dJ0_coder_7d493_0 ?_
  refine lv_if_eq (tgt := 13) hx hb dJ0_coder_7d493_3 (by decide) (fun c3 => ?_) (fun c3 => ?_)
  · replace h := wx_ift c3 h
    refine lv_iconst (v := 1) hx hb dJ0_coder_7d493_13 (by decide) ?_
    exact b_J0_coder_7d493_14 B hi h Z hS (lv_sub hl [0] rfl)
  · replace h := wx_iff c3 h
    refine lv_aload_n hx hb dJ0_coder_7d493_6 rfl (lv_at hl 0 rfl) ?_
    refine vk_getf (own := RJ0) hx hb (hC.2.1.2.2.2.1 _ hi).2.1 hS hown (hts _ k_J0_coder_7d493_w1) (fun _ h9 => h9) dJ0_coder_7d493_7 ?_
    refine lv_goto (tgt := 14) hx hb dJ0_coder_7d493_10 (by decide) ?_
    exact b_J0_coder_7d493_14 B hi h Z hS (lv_sub hl [0] rfl)
set_option maxRecDepth 20000 in
theorem c_J0_coder_7d493 (l : Launch) {D : va_G} {ad : Nat → Nat → Nat} {rd : Nat → Nat} {ca : Nat → ClassId} {A : Nat → Prop} {σ : wx_St} {i : Nat}  (hi : i < 5)  {r : Int32} (h : f_J0_coder_7d493 i = some r) : wx_M l yJ0_coder_7d493 wsJ0_coder_7d493 0 0 D ad rd ca A [.ref (ad 18 i)] σ (some (.int r)) σ := by
  refine va_MetF (cc := cJ0_coder_7d493) (maxL := 1) (ret := (some .byte)) (by decide +kernel) rfl ?_
  intro p e s m args below meth c s₁ B0 hml hv
  obtain ⟨rfl, hC, Z, hA⟩ := hv
  have hl := lv_entry ([.ref (ad 18 i)]) (n := 1) (Nat.le_of_ble_eq_true rfl)
  rw [lg_entry_eq]
  generalize (lg_sl ([.ref (ad 18 i)]) ++ List.replicate (1 - (lg_sl ([.ref (ad 18 i)])).length) Slot.unset).toArray = ls at hl ⊢
  exact b_J0_coder_7d493_0 ⟨B0.exec, B0.bytes, hml, B0.returns, atoms_spec (ws := wsJ0_coder_7d493) B0.pre, findClass_of_methodNamed B0.named, B0.notSynchronized, hC, hA⟩ hi  h Z va_S.rf hl
theorem k_J0_length_8abf5_w0 : Cond.fieldLink RJ0 9 "java/lang/String" "value" "[B" ∈ wsJ0_length_8abf5 := by decide +kernel
set_option maxRecDepth 20000 in
set_option maxHeartbeats 4000000 in
theorem b_J0_length_8abf5_0 (B : wx_B p s m args meth c cJ0_length_8abf5 1 (some .int) wsJ0_length_8abf5 RJ0 D ad ca A) {i : Nat}  (hi : i < 5) {r : Int32} {σ : wx_St}     (h : f_J0_length_8abf5 i = some r) {H : Heap} {locs : List Loc} (Z : wx_Z D ad rd ca A σ H) (hS : va_S A s.heap H locs) {ls : Array Slot} (hl : lv_has ls 1 [(0, .ref (ad 18 i))]) : W p l e ({ frames := 1, cells := 0, slots := 0, locals := 20 } : Room) s m args below meth c H locs 0 0 (MQ below (wx_Q D ad rd ca A (some (.int r)) σ) args s 0 0 A) (F0 m 0 ls []) := by
  obtain ⟨hx, hb, hml, hr, hts, hown, hlk, hC, hA⟩ := id B
  unfold f_J0_length_8abf5 at h
  refine lv_aload_n hx hb dJ0_length_8abf5_0 rfl (lv_at hl 0 rfl) ?_
  refine vk_getf (own := RJ0) hx hb (hC.2.1.2.2.2.1 _ hi).2.2.1 hS hown (hts _ k_J0_length_8abf5_w0) (fun _ h9 => h9) dJ0_length_8abf5_1 ?_
  refine va_tlen (v := (Int32.ofNat (wx_len.getD i 0))) hx hb (hC.2.1.2.2.2.1 _ hi).2.2.2 hS rfl dJ0_length_8abf5_4 ?_
  refine lv_aload_n hx hb dJ0_length_8abf5_5 rfl (lv_at hl 0 rfl) ?_
  obtain ⟨v6, hc6, h⟩ := wx_o_ok h
  refine wx_call (va_runV (As := []) (rest := [.int (Int32.ofNat (wx_len.getD i 0))]) ⟨hx, hb, hml, hown, hts⟩ (c_J0_coder_7d493 l (D := D) (ad := ad) (rd := rd) (ca := ca) (A := A) (σ := σ) (i := i) hi hc6) (cwV 0 hts gJ0_length_8abf5_J0_coder_7d493 rfl rfl rfl (by decide +kernel) ⟨Nat.le_of_ble_eq_true rfl, Nat.le_of_ble_eq_true rfl⟩) (wx_preVS hC Z hS hA hi) rfl rfl hl.1 rfl (lv_room (Nat.le_of_ble_eq_true rfl)) dJ0_length_8abf5_6 ⟨Nat.zero_le _, Nat.zero_le _⟩) hS (fun H locs Z hS => ?_)
  refine lv_ishr hx hb dJ0_length_8abf5_9 ?_
  obtain rfl := Option.some.inj h
  exact W.iret hx hb hr (fun t ht hW => ⟨rfl, by rw [ht]; exact Z, hS.F ht⟩) hS.2.2 dJ0_length_8abf5_10
set_option maxRecDepth 20000 in
theorem c_J0_length_8abf5 (l : Launch) {D : va_G} {ad : Nat → Nat → Nat} {rd : Nat → Nat} {ca : Nat → ClassId} {A : Nat → Prop} {σ : wx_St} {i : Nat}  (hi : i < 5)  {r : Int32} (h : f_J0_length_8abf5 i = some r) : wx_M l yJ0_length_8abf5 wsJ0_length_8abf5 1 20 D ad rd ca A [.ref (ad 18 i)] σ (some (.int r)) σ := by
  refine va_MetF (cc := cJ0_length_8abf5) (maxL := 1) (ret := (some .int)) (by decide +kernel) rfl ?_
  intro p e s m args below meth c s₁ B0 hml hv
  obtain ⟨rfl, hC, Z, hA⟩ := hv
  have hl := lv_entry ([.ref (ad 18 i)]) (n := 1) (Nat.le_of_ble_eq_true rfl)
  rw [lg_entry_eq]
  generalize (lg_sl ([.ref (ad 18 i)]) ++ List.replicate (1 - (lg_sl ([.ref (ad 18 i)])).length) Slot.unset).toArray = ls at hl ⊢
  exact b_J0_length_8abf5_0 ⟨B0.exec, B0.bytes, hml, B0.returns, atoms_spec (ws := wsJ0_length_8abf5) B0.pre, findClass_of_methodNamed B0.named, B0.notSynchronized, hC, hA⟩ hi  h Z va_S.rf hl
theorem k_J13_bitCount_95d88_w0 : Cond.constantLong RJ13 314 (6148914691236517205) ∈ wsJ13_bitCount_95d88 := by decide +kernel
theorem k_J13_bitCount_95d88_w1 : Cond.constantLong RJ13 316 (3689348814741910323) ∈ wsJ13_bitCount_95d88 := by decide +kernel
theorem k_J13_bitCount_95d88_w2 : Cond.constantLong RJ13 318 (1085102592571150095) ∈ wsJ13_bitCount_95d88 := by decide +kernel
set_option maxRecDepth 20000 in
set_option maxHeartbeats 4000000 in
theorem b_J13_bitCount_95d88_0 (B : wx_B p s m args meth c cJ13_bitCount_95d88 2 (some .int) wsJ13_bitCount_95d88 RJ13 D ad ca A)    {r : Int32} {σ : wx_St}  {x0 : Int64}   (h : f_J13_bitCount_95d88 x0 = some r) {H : Heap} {locs : List Loc} (Z : wx_Z D ad rd ca A σ H) (hS : va_S A s.heap H locs) {ls : Array Slot} (hl : lv_has ls 2 [(0, .long x0)]) : W p l e ({ frames := 0, cells := 0, slots := 0, locals := 0 } : Room) s m args below meth c H locs 0 0 (MQ below (wx_Q D ad rd ca A (some (.int r)) σ) args s 0 0 A) (F0 m 0 ls []) := by
  obtain ⟨hx, hb, hml, hr, hts, hown, hlk, hC, hA⟩ := id B
  unfold f_J13_bitCount_95d88 at h
  refine lv_lload_n hx hb dJ13_bitCount_95d88_0 rfl (lv_at hl 0 rfl) ?_
  refine lv_lload_n hx hb dJ13_bitCount_95d88_1 rfl (lv_at hl 0 rfl) ?_
  refine lv_iconst (v := 1) hx hb dJ13_bitCount_95d88_2 (by decide) ?_
  refine lv_lushr (v := (x0.toUInt64 >>> ((1 : Int32).toInt64.toUInt64 &&& Int64.toUInt64 63)).toInt64) hx hb dJ13_bitCount_95d88_3 rfl ?_
  refine lv_ldc2 hx hb hown (hts _ k_J13_bitCount_95d88_w0) dJ13_bitCount_95d88_4 ?_
  refine lv_land hx hb dJ13_bitCount_95d88_7 ?_
  refine lv_lsub hx hb dJ13_bitCount_95d88_8 ?_
  refine lv_lstore_n (lv' := [(0, .long (x0 - (((x0.toUInt64 >>> ((1 : Int32).toInt64.toUInt64 &&& Int64.toUInt64 63)).toInt64) &&& (6148914691236517205 : Int64))))]) hx hb dJ13_bitCount_95d88_9 rfl hl (by decide) rfl (fun ls hl => ?_)
  refine lv_lload_n hx hb dJ13_bitCount_95d88_10 rfl (lv_at hl 0 rfl) ?_
  refine lv_ldc2 hx hb hown (hts _ k_J13_bitCount_95d88_w1) dJ13_bitCount_95d88_11 ?_
  refine lv_land hx hb dJ13_bitCount_95d88_14 ?_
  refine lv_lload_n hx hb dJ13_bitCount_95d88_15 rfl (lv_at hl 0 rfl) ?_
  refine lv_iconst (v := 2) hx hb dJ13_bitCount_95d88_16 (by decide) ?_
  refine lv_lushr (v := ((x0 - (((x0.toUInt64 >>> ((1 : Int32).toInt64.toUInt64 &&& Int64.toUInt64 63)).toInt64) &&& (6148914691236517205 : Int64))).toUInt64 >>> ((2 : Int32).toInt64.toUInt64 &&& Int64.toUInt64 63)).toInt64) hx hb dJ13_bitCount_95d88_17 rfl ?_
  refine lv_ldc2 hx hb hown (hts _ k_J13_bitCount_95d88_w1) dJ13_bitCount_95d88_18 ?_
  refine lv_land hx hb dJ13_bitCount_95d88_21 ?_
  refine lv_ladd hx hb dJ13_bitCount_95d88_22 ?_
  refine lv_lstore_n (lv' := [(0, .long (((x0 - (((x0.toUInt64 >>> ((1 : Int32).toInt64.toUInt64 &&& Int64.toUInt64 63)).toInt64) &&& (6148914691236517205 : Int64))) &&& (3689348814741910323 : Int64)) + ((((x0 - (((x0.toUInt64 >>> ((1 : Int32).toInt64.toUInt64 &&& Int64.toUInt64 63)).toInt64) &&& (6148914691236517205 : Int64))).toUInt64 >>> ((2 : Int32).toInt64.toUInt64 &&& Int64.toUInt64 63)).toInt64) &&& (3689348814741910323 : Int64))))]) hx hb dJ13_bitCount_95d88_23 rfl hl (by decide) rfl (fun ls hl => ?_)
  refine lv_lload_n hx hb dJ13_bitCount_95d88_24 rfl (lv_at hl 0 rfl) ?_
  refine lv_lload_n hx hb dJ13_bitCount_95d88_25 rfl (lv_at hl 0 rfl) ?_
  refine lv_iconst (v := 4) hx hb dJ13_bitCount_95d88_26 (by decide) ?_
  refine lv_lushr (v := ((((x0 - (((x0.toUInt64 >>> ((1 : Int32).toInt64.toUInt64 &&& Int64.toUInt64 63)).toInt64) &&& (6148914691236517205 : Int64))) &&& (3689348814741910323 : Int64)) + ((((x0 - (((x0.toUInt64 >>> ((1 : Int32).toInt64.toUInt64 &&& Int64.toUInt64 63)).toInt64) &&& (6148914691236517205 : Int64))).toUInt64 >>> ((2 : Int32).toInt64.toUInt64 &&& Int64.toUInt64 63)).toInt64) &&& (3689348814741910323 : Int64))).toUInt64 >>> ((4 : Int32).toInt64.toUInt64 &&& Int64.toUInt64 63)).toInt64) hx hb dJ13_bitCount_95d88_27 rfl ?_
  refine lv_ladd hx hb dJ13_bitCount_95d88_28 ?_
  refine lv_ldc2 hx hb hown (hts _ k_J13_bitCount_95d88_w2) dJ13_bitCount_95d88_29 ?_
  refine lv_land hx hb dJ13_bitCount_95d88_32 ?_
  refine lv_lstore_n (lv' := [(0, .long (((((x0 - (((x0.toUInt64 >>> ((1 : Int32).toInt64.toUInt64 &&& Int64.toUInt64 63)).toInt64) &&& (6148914691236517205 : Int64))) &&& (3689348814741910323 : Int64)) + ((((x0 - (((x0.toUInt64 >>> ((1 : Int32).toInt64.toUInt64 &&& Int64.toUInt64 63)).toInt64) &&& (6148914691236517205 : Int64))).toUInt64 >>> ((2 : Int32).toInt64.toUInt64 &&& Int64.toUInt64 63)).toInt64) &&& (3689348814741910323 : Int64))) + (((((x0 - (((x0.toUInt64 >>> ((1 : Int32).toInt64.toUInt64 &&& Int64.toUInt64 63)).toInt64) &&& (6148914691236517205 : Int64))) &&& (3689348814741910323 : Int64)) + ((((x0 - (((x0.toUInt64 >>> ((1 : Int32).toInt64.toUInt64 &&& Int64.toUInt64 63)).toInt64) &&& (6148914691236517205 : Int64))).toUInt64 >>> ((2 : Int32).toInt64.toUInt64 &&& Int64.toUInt64 63)).toInt64) &&& (3689348814741910323 : Int64))).toUInt64 >>> ((4 : Int32).toInt64.toUInt64 &&& Int64.toUInt64 63)).toInt64)) &&& (1085102592571150095 : Int64)))]) hx hb dJ13_bitCount_95d88_33 rfl hl (by decide) rfl (fun ls hl => ?_)
  refine lv_lload_n hx hb dJ13_bitCount_95d88_34 rfl (lv_at hl 0 rfl) ?_
  refine lv_lload_n hx hb dJ13_bitCount_95d88_35 rfl (lv_at hl 0 rfl) ?_
  refine lv_bipush (v := 8) hx hb dJ13_bitCount_95d88_36 (by decide) ?_
  refine lv_lushr (v := ((((((x0 - (((x0.toUInt64 >>> ((1 : Int32).toInt64.toUInt64 &&& Int64.toUInt64 63)).toInt64) &&& (6148914691236517205 : Int64))) &&& (3689348814741910323 : Int64)) + ((((x0 - (((x0.toUInt64 >>> ((1 : Int32).toInt64.toUInt64 &&& Int64.toUInt64 63)).toInt64) &&& (6148914691236517205 : Int64))).toUInt64 >>> ((2 : Int32).toInt64.toUInt64 &&& Int64.toUInt64 63)).toInt64) &&& (3689348814741910323 : Int64))) + (((((x0 - (((x0.toUInt64 >>> ((1 : Int32).toInt64.toUInt64 &&& Int64.toUInt64 63)).toInt64) &&& (6148914691236517205 : Int64))) &&& (3689348814741910323 : Int64)) + ((((x0 - (((x0.toUInt64 >>> ((1 : Int32).toInt64.toUInt64 &&& Int64.toUInt64 63)).toInt64) &&& (6148914691236517205 : Int64))).toUInt64 >>> ((2 : Int32).toInt64.toUInt64 &&& Int64.toUInt64 63)).toInt64) &&& (3689348814741910323 : Int64))).toUInt64 >>> ((4 : Int32).toInt64.toUInt64 &&& Int64.toUInt64 63)).toInt64)) &&& (1085102592571150095 : Int64)).toUInt64 >>> ((8 : Int32).toInt64.toUInt64 &&& Int64.toUInt64 63)).toInt64) hx hb dJ13_bitCount_95d88_38 rfl ?_
  refine lv_ladd hx hb dJ13_bitCount_95d88_39 ?_
  refine lv_lstore_n (lv' := [(0, .long ((((((x0 - (((x0.toUInt64 >>> ((1 : Int32).toInt64.toUInt64 &&& Int64.toUInt64 63)).toInt64) &&& (6148914691236517205 : Int64))) &&& (3689348814741910323 : Int64)) + ((((x0 - (((x0.toUInt64 >>> ((1 : Int32).toInt64.toUInt64 &&& Int64.toUInt64 63)).toInt64) &&& (6148914691236517205 : Int64))).toUInt64 >>> ((2 : Int32).toInt64.toUInt64 &&& Int64.toUInt64 63)).toInt64) &&& (3689348814741910323 : Int64))) + (((((x0 - (((x0.toUInt64 >>> ((1 : Int32).toInt64.toUInt64 &&& Int64.toUInt64 63)).toInt64) &&& (6148914691236517205 : Int64))) &&& (3689348814741910323 : Int64)) + ((((x0 - (((x0.toUInt64 >>> ((1 : Int32).toInt64.toUInt64 &&& Int64.toUInt64 63)).toInt64) &&& (6148914691236517205 : Int64))).toUInt64 >>> ((2 : Int32).toInt64.toUInt64 &&& Int64.toUInt64 63)).toInt64) &&& (3689348814741910323 : Int64))).toUInt64 >>> ((4 : Int32).toInt64.toUInt64 &&& Int64.toUInt64 63)).toInt64)) &&& (1085102592571150095 : Int64)) + (((((((x0 - (((x0.toUInt64 >>> ((1 : Int32).toInt64.toUInt64 &&& Int64.toUInt64 63)).toInt64) &&& (6148914691236517205 : Int64))) &&& (3689348814741910323 : Int64)) + ((((x0 - (((x0.toUInt64 >>> ((1 : Int32).toInt64.toUInt64 &&& Int64.toUInt64 63)).toInt64) &&& (6148914691236517205 : Int64))).toUInt64 >>> ((2 : Int32).toInt64.toUInt64 &&& Int64.toUInt64 63)).toInt64) &&& (3689348814741910323 : Int64))) + (((((x0 - (((x0.toUInt64 >>> ((1 : Int32).toInt64.toUInt64 &&& Int64.toUInt64 63)).toInt64) &&& (6148914691236517205 : Int64))) &&& (3689348814741910323 : Int64)) + ((((x0 - (((x0.toUInt64 >>> ((1 : Int32).toInt64.toUInt64 &&& Int64.toUInt64 63)).toInt64) &&& (6148914691236517205 : Int64))).toUInt64 >>> ((2 : Int32).toInt64.toUInt64 &&& Int64.toUInt64 63)).toInt64) &&& (3689348814741910323 : Int64))).toUInt64 >>> ((4 : Int32).toInt64.toUInt64 &&& Int64.toUInt64 63)).toInt64)) &&& (1085102592571150095 : Int64)).toUInt64 >>> ((8 : Int32).toInt64.toUInt64 &&& Int64.toUInt64 63)).toInt64)))]) hx hb dJ13_bitCount_95d88_40 rfl hl (by decide) rfl (fun ls hl => ?_)
  refine lv_lload_n hx hb dJ13_bitCount_95d88_41 rfl (lv_at hl 0 rfl) ?_
  refine lv_lload_n hx hb dJ13_bitCount_95d88_42 rfl (lv_at hl 0 rfl) ?_
  refine lv_bipush (v := 16) hx hb dJ13_bitCount_95d88_43 (by decide) ?_
  refine lv_lushr (v := (((((((x0 - (((x0.toUInt64 >>> ((1 : Int32).toInt64.toUInt64 &&& Int64.toUInt64 63)).toInt64) &&& (6148914691236517205 : Int64))) &&& (3689348814741910323 : Int64)) + ((((x0 - (((x0.toUInt64 >>> ((1 : Int32).toInt64.toUInt64 &&& Int64.toUInt64 63)).toInt64) &&& (6148914691236517205 : Int64))).toUInt64 >>> ((2 : Int32).toInt64.toUInt64 &&& Int64.toUInt64 63)).toInt64) &&& (3689348814741910323 : Int64))) + (((((x0 - (((x0.toUInt64 >>> ((1 : Int32).toInt64.toUInt64 &&& Int64.toUInt64 63)).toInt64) &&& (6148914691236517205 : Int64))) &&& (3689348814741910323 : Int64)) + ((((x0 - (((x0.toUInt64 >>> ((1 : Int32).toInt64.toUInt64 &&& Int64.toUInt64 63)).toInt64) &&& (6148914691236517205 : Int64))).toUInt64 >>> ((2 : Int32).toInt64.toUInt64 &&& Int64.toUInt64 63)).toInt64) &&& (3689348814741910323 : Int64))).toUInt64 >>> ((4 : Int32).toInt64.toUInt64 &&& Int64.toUInt64 63)).toInt64)) &&& (1085102592571150095 : Int64)) + (((((((x0 - (((x0.toUInt64 >>> ((1 : Int32).toInt64.toUInt64 &&& Int64.toUInt64 63)).toInt64) &&& (6148914691236517205 : Int64))) &&& (3689348814741910323 : Int64)) + ((((x0 - (((x0.toUInt64 >>> ((1 : Int32).toInt64.toUInt64 &&& Int64.toUInt64 63)).toInt64) &&& (6148914691236517205 : Int64))).toUInt64 >>> ((2 : Int32).toInt64.toUInt64 &&& Int64.toUInt64 63)).toInt64) &&& (3689348814741910323 : Int64))) + (((((x0 - (((x0.toUInt64 >>> ((1 : Int32).toInt64.toUInt64 &&& Int64.toUInt64 63)).toInt64) &&& (6148914691236517205 : Int64))) &&& (3689348814741910323 : Int64)) + ((((x0 - (((x0.toUInt64 >>> ((1 : Int32).toInt64.toUInt64 &&& Int64.toUInt64 63)).toInt64) &&& (6148914691236517205 : Int64))).toUInt64 >>> ((2 : Int32).toInt64.toUInt64 &&& Int64.toUInt64 63)).toInt64) &&& (3689348814741910323 : Int64))).toUInt64 >>> ((4 : Int32).toInt64.toUInt64 &&& Int64.toUInt64 63)).toInt64)) &&& (1085102592571150095 : Int64)).toUInt64 >>> ((8 : Int32).toInt64.toUInt64 &&& Int64.toUInt64 63)).toInt64)).toUInt64 >>> ((16 : Int32).toInt64.toUInt64 &&& Int64.toUInt64 63)).toInt64) hx hb dJ13_bitCount_95d88_45 rfl ?_
  refine lv_ladd hx hb dJ13_bitCount_95d88_46 ?_
  refine lv_lstore_n (lv' := [(0, .long (((((((x0 - (((x0.toUInt64 >>> ((1 : Int32).toInt64.toUInt64 &&& Int64.toUInt64 63)).toInt64) &&& (6148914691236517205 : Int64))) &&& (3689348814741910323 : Int64)) + ((((x0 - (((x0.toUInt64 >>> ((1 : Int32).toInt64.toUInt64 &&& Int64.toUInt64 63)).toInt64) &&& (6148914691236517205 : Int64))).toUInt64 >>> ((2 : Int32).toInt64.toUInt64 &&& Int64.toUInt64 63)).toInt64) &&& (3689348814741910323 : Int64))) + (((((x0 - (((x0.toUInt64 >>> ((1 : Int32).toInt64.toUInt64 &&& Int64.toUInt64 63)).toInt64) &&& (6148914691236517205 : Int64))) &&& (3689348814741910323 : Int64)) + ((((x0 - (((x0.toUInt64 >>> ((1 : Int32).toInt64.toUInt64 &&& Int64.toUInt64 63)).toInt64) &&& (6148914691236517205 : Int64))).toUInt64 >>> ((2 : Int32).toInt64.toUInt64 &&& Int64.toUInt64 63)).toInt64) &&& (3689348814741910323 : Int64))).toUInt64 >>> ((4 : Int32).toInt64.toUInt64 &&& Int64.toUInt64 63)).toInt64)) &&& (1085102592571150095 : Int64)) + (((((((x0 - (((x0.toUInt64 >>> ((1 : Int32).toInt64.toUInt64 &&& Int64.toUInt64 63)).toInt64) &&& (6148914691236517205 : Int64))) &&& (3689348814741910323 : Int64)) + ((((x0 - (((x0.toUInt64 >>> ((1 : Int32).toInt64.toUInt64 &&& Int64.toUInt64 63)).toInt64) &&& (6148914691236517205 : Int64))).toUInt64 >>> ((2 : Int32).toInt64.toUInt64 &&& Int64.toUInt64 63)).toInt64) &&& (3689348814741910323 : Int64))) + (((((x0 - (((x0.toUInt64 >>> ((1 : Int32).toInt64.toUInt64 &&& Int64.toUInt64 63)).toInt64) &&& (6148914691236517205 : Int64))) &&& (3689348814741910323 : Int64)) + ((((x0 - (((x0.toUInt64 >>> ((1 : Int32).toInt64.toUInt64 &&& Int64.toUInt64 63)).toInt64) &&& (6148914691236517205 : Int64))).toUInt64 >>> ((2 : Int32).toInt64.toUInt64 &&& Int64.toUInt64 63)).toInt64) &&& (3689348814741910323 : Int64))).toUInt64 >>> ((4 : Int32).toInt64.toUInt64 &&& Int64.toUInt64 63)).toInt64)) &&& (1085102592571150095 : Int64)).toUInt64 >>> ((8 : Int32).toInt64.toUInt64 &&& Int64.toUInt64 63)).toInt64)) + ((((((((x0 - (((x0.toUInt64 >>> ((1 : Int32).toInt64.toUInt64 &&& Int64.toUInt64 63)).toInt64) &&& (6148914691236517205 : Int64))) &&& (3689348814741910323 : Int64)) + ((((x0 - (((x0.toUInt64 >>> ((1 : Int32).toInt64.toUInt64 &&& Int64.toUInt64 63)).toInt64) &&& (6148914691236517205 : Int64))).toUInt64 >>> ((2 : Int32).toInt64.toUInt64 &&& Int64.toUInt64 63)).toInt64) &&& (3689348814741910323 : Int64))) + (((((x0 - (((x0.toUInt64 >>> ((1 : Int32).toInt64.toUInt64 &&& Int64.toUInt64 63)).toInt64) &&& (6148914691236517205 : Int64))) &&& (3689348814741910323 : Int64)) + ((((x0 - (((x0.toUInt64 >>> ((1 : Int32).toInt64.toUInt64 &&& Int64.toUInt64 63)).toInt64) &&& (6148914691236517205 : Int64))).toUInt64 >>> ((2 : Int32).toInt64.toUInt64 &&& Int64.toUInt64 63)).toInt64) &&& (3689348814741910323 : Int64))).toUInt64 >>> ((4 : Int32).toInt64.toUInt64 &&& Int64.toUInt64 63)).toInt64)) &&& (1085102592571150095 : Int64)) + (((((((x0 - (((x0.toUInt64 >>> ((1 : Int32).toInt64.toUInt64 &&& Int64.toUInt64 63)).toInt64) &&& (6148914691236517205 : Int64))) &&& (3689348814741910323 : Int64)) + ((((x0 - (((x0.toUInt64 >>> ((1 : Int32).toInt64.toUInt64 &&& Int64.toUInt64 63)).toInt64) &&& (6148914691236517205 : Int64))).toUInt64 >>> ((2 : Int32).toInt64.toUInt64 &&& Int64.toUInt64 63)).toInt64) &&& (3689348814741910323 : Int64))) + (((((x0 - (((x0.toUInt64 >>> ((1 : Int32).toInt64.toUInt64 &&& Int64.toUInt64 63)).toInt64) &&& (6148914691236517205 : Int64))) &&& (3689348814741910323 : Int64)) + ((((x0 - (((x0.toUInt64 >>> ((1 : Int32).toInt64.toUInt64 &&& Int64.toUInt64 63)).toInt64) &&& (6148914691236517205 : Int64))).toUInt64 >>> ((2 : Int32).toInt64.toUInt64 &&& Int64.toUInt64 63)).toInt64) &&& (3689348814741910323 : Int64))).toUInt64 >>> ((4 : Int32).toInt64.toUInt64 &&& Int64.toUInt64 63)).toInt64)) &&& (1085102592571150095 : Int64)).toUInt64 >>> ((8 : Int32).toInt64.toUInt64 &&& Int64.toUInt64 63)).toInt64)).toUInt64 >>> ((16 : Int32).toInt64.toUInt64 &&& Int64.toUInt64 63)).toInt64)))]) hx hb dJ13_bitCount_95d88_47 rfl hl (by decide) rfl (fun ls hl => ?_)
  refine lv_lload_n hx hb dJ13_bitCount_95d88_48 rfl (lv_at hl 0 rfl) ?_
  refine lv_lload_n hx hb dJ13_bitCount_95d88_49 rfl (lv_at hl 0 rfl) ?_
  refine lv_bipush (v := 32) hx hb dJ13_bitCount_95d88_50 (by decide) ?_
  refine lv_lushr (v := ((((((((x0 - (((x0.toUInt64 >>> ((1 : Int32).toInt64.toUInt64 &&& Int64.toUInt64 63)).toInt64) &&& (6148914691236517205 : Int64))) &&& (3689348814741910323 : Int64)) + ((((x0 - (((x0.toUInt64 >>> ((1 : Int32).toInt64.toUInt64 &&& Int64.toUInt64 63)).toInt64) &&& (6148914691236517205 : Int64))).toUInt64 >>> ((2 : Int32).toInt64.toUInt64 &&& Int64.toUInt64 63)).toInt64) &&& (3689348814741910323 : Int64))) + (((((x0 - (((x0.toUInt64 >>> ((1 : Int32).toInt64.toUInt64 &&& Int64.toUInt64 63)).toInt64) &&& (6148914691236517205 : Int64))) &&& (3689348814741910323 : Int64)) + ((((x0 - (((x0.toUInt64 >>> ((1 : Int32).toInt64.toUInt64 &&& Int64.toUInt64 63)).toInt64) &&& (6148914691236517205 : Int64))).toUInt64 >>> ((2 : Int32).toInt64.toUInt64 &&& Int64.toUInt64 63)).toInt64) &&& (3689348814741910323 : Int64))).toUInt64 >>> ((4 : Int32).toInt64.toUInt64 &&& Int64.toUInt64 63)).toInt64)) &&& (1085102592571150095 : Int64)) + (((((((x0 - (((x0.toUInt64 >>> ((1 : Int32).toInt64.toUInt64 &&& Int64.toUInt64 63)).toInt64) &&& (6148914691236517205 : Int64))) &&& (3689348814741910323 : Int64)) + ((((x0 - (((x0.toUInt64 >>> ((1 : Int32).toInt64.toUInt64 &&& Int64.toUInt64 63)).toInt64) &&& (6148914691236517205 : Int64))).toUInt64 >>> ((2 : Int32).toInt64.toUInt64 &&& Int64.toUInt64 63)).toInt64) &&& (3689348814741910323 : Int64))) + (((((x0 - (((x0.toUInt64 >>> ((1 : Int32).toInt64.toUInt64 &&& Int64.toUInt64 63)).toInt64) &&& (6148914691236517205 : Int64))) &&& (3689348814741910323 : Int64)) + ((((x0 - (((x0.toUInt64 >>> ((1 : Int32).toInt64.toUInt64 &&& Int64.toUInt64 63)).toInt64) &&& (6148914691236517205 : Int64))).toUInt64 >>> ((2 : Int32).toInt64.toUInt64 &&& Int64.toUInt64 63)).toInt64) &&& (3689348814741910323 : Int64))).toUInt64 >>> ((4 : Int32).toInt64.toUInt64 &&& Int64.toUInt64 63)).toInt64)) &&& (1085102592571150095 : Int64)).toUInt64 >>> ((8 : Int32).toInt64.toUInt64 &&& Int64.toUInt64 63)).toInt64)) + ((((((((x0 - (((x0.toUInt64 >>> ((1 : Int32).toInt64.toUInt64 &&& Int64.toUInt64 63)).toInt64) &&& (6148914691236517205 : Int64))) &&& (3689348814741910323 : Int64)) + ((((x0 - (((x0.toUInt64 >>> ((1 : Int32).toInt64.toUInt64 &&& Int64.toUInt64 63)).toInt64) &&& (6148914691236517205 : Int64))).toUInt64 >>> ((2 : Int32).toInt64.toUInt64 &&& Int64.toUInt64 63)).toInt64) &&& (3689348814741910323 : Int64))) + (((((x0 - (((x0.toUInt64 >>> ((1 : Int32).toInt64.toUInt64 &&& Int64.toUInt64 63)).toInt64) &&& (6148914691236517205 : Int64))) &&& (3689348814741910323 : Int64)) + ((((x0 - (((x0.toUInt64 >>> ((1 : Int32).toInt64.toUInt64 &&& Int64.toUInt64 63)).toInt64) &&& (6148914691236517205 : Int64))).toUInt64 >>> ((2 : Int32).toInt64.toUInt64 &&& Int64.toUInt64 63)).toInt64) &&& (3689348814741910323 : Int64))).toUInt64 >>> ((4 : Int32).toInt64.toUInt64 &&& Int64.toUInt64 63)).toInt64)) &&& (1085102592571150095 : Int64)) + (((((((x0 - (((x0.toUInt64 >>> ((1 : Int32).toInt64.toUInt64 &&& Int64.toUInt64 63)).toInt64) &&& (6148914691236517205 : Int64))) &&& (3689348814741910323 : Int64)) + ((((x0 - (((x0.toUInt64 >>> ((1 : Int32).toInt64.toUInt64 &&& Int64.toUInt64 63)).toInt64) &&& (6148914691236517205 : Int64))).toUInt64 >>> ((2 : Int32).toInt64.toUInt64 &&& Int64.toUInt64 63)).toInt64) &&& (3689348814741910323 : Int64))) + (((((x0 - (((x0.toUInt64 >>> ((1 : Int32).toInt64.toUInt64 &&& Int64.toUInt64 63)).toInt64) &&& (6148914691236517205 : Int64))) &&& (3689348814741910323 : Int64)) + ((((x0 - (((x0.toUInt64 >>> ((1 : Int32).toInt64.toUInt64 &&& Int64.toUInt64 63)).toInt64) &&& (6148914691236517205 : Int64))).toUInt64 >>> ((2 : Int32).toInt64.toUInt64 &&& Int64.toUInt64 63)).toInt64) &&& (3689348814741910323 : Int64))).toUInt64 >>> ((4 : Int32).toInt64.toUInt64 &&& Int64.toUInt64 63)).toInt64)) &&& (1085102592571150095 : Int64)).toUInt64 >>> ((8 : Int32).toInt64.toUInt64 &&& Int64.toUInt64 63)).toInt64)).toUInt64 >>> ((16 : Int32).toInt64.toUInt64 &&& Int64.toUInt64 63)).toInt64)).toUInt64 >>> ((32 : Int32).toInt64.toUInt64 &&& Int64.toUInt64 63)).toInt64) hx hb dJ13_bitCount_95d88_52 rfl ?_
  refine lv_ladd hx hb dJ13_bitCount_95d88_53 ?_
  refine lv_lstore_n (lv' := [(0, .long ((((((((x0 - (((x0.toUInt64 >>> ((1 : Int32).toInt64.toUInt64 &&& Int64.toUInt64 63)).toInt64) &&& (6148914691236517205 : Int64))) &&& (3689348814741910323 : Int64)) + ((((x0 - (((x0.toUInt64 >>> ((1 : Int32).toInt64.toUInt64 &&& Int64.toUInt64 63)).toInt64) &&& (6148914691236517205 : Int64))).toUInt64 >>> ((2 : Int32).toInt64.toUInt64 &&& Int64.toUInt64 63)).toInt64) &&& (3689348814741910323 : Int64))) + (((((x0 - (((x0.toUInt64 >>> ((1 : Int32).toInt64.toUInt64 &&& Int64.toUInt64 63)).toInt64) &&& (6148914691236517205 : Int64))) &&& (3689348814741910323 : Int64)) + ((((x0 - (((x0.toUInt64 >>> ((1 : Int32).toInt64.toUInt64 &&& Int64.toUInt64 63)).toInt64) &&& (6148914691236517205 : Int64))).toUInt64 >>> ((2 : Int32).toInt64.toUInt64 &&& Int64.toUInt64 63)).toInt64) &&& (3689348814741910323 : Int64))).toUInt64 >>> ((4 : Int32).toInt64.toUInt64 &&& Int64.toUInt64 63)).toInt64)) &&& (1085102592571150095 : Int64)) + (((((((x0 - (((x0.toUInt64 >>> ((1 : Int32).toInt64.toUInt64 &&& Int64.toUInt64 63)).toInt64) &&& (6148914691236517205 : Int64))) &&& (3689348814741910323 : Int64)) + ((((x0 - (((x0.toUInt64 >>> ((1 : Int32).toInt64.toUInt64 &&& Int64.toUInt64 63)).toInt64) &&& (6148914691236517205 : Int64))).toUInt64 >>> ((2 : Int32).toInt64.toUInt64 &&& Int64.toUInt64 63)).toInt64) &&& (3689348814741910323 : Int64))) + (((((x0 - (((x0.toUInt64 >>> ((1 : Int32).toInt64.toUInt64 &&& Int64.toUInt64 63)).toInt64) &&& (6148914691236517205 : Int64))) &&& (3689348814741910323 : Int64)) + ((((x0 - (((x0.toUInt64 >>> ((1 : Int32).toInt64.toUInt64 &&& Int64.toUInt64 63)).toInt64) &&& (6148914691236517205 : Int64))).toUInt64 >>> ((2 : Int32).toInt64.toUInt64 &&& Int64.toUInt64 63)).toInt64) &&& (3689348814741910323 : Int64))).toUInt64 >>> ((4 : Int32).toInt64.toUInt64 &&& Int64.toUInt64 63)).toInt64)) &&& (1085102592571150095 : Int64)).toUInt64 >>> ((8 : Int32).toInt64.toUInt64 &&& Int64.toUInt64 63)).toInt64)) + ((((((((x0 - (((x0.toUInt64 >>> ((1 : Int32).toInt64.toUInt64 &&& Int64.toUInt64 63)).toInt64) &&& (6148914691236517205 : Int64))) &&& (3689348814741910323 : Int64)) + ((((x0 - (((x0.toUInt64 >>> ((1 : Int32).toInt64.toUInt64 &&& Int64.toUInt64 63)).toInt64) &&& (6148914691236517205 : Int64))).toUInt64 >>> ((2 : Int32).toInt64.toUInt64 &&& Int64.toUInt64 63)).toInt64) &&& (3689348814741910323 : Int64))) + (((((x0 - (((x0.toUInt64 >>> ((1 : Int32).toInt64.toUInt64 &&& Int64.toUInt64 63)).toInt64) &&& (6148914691236517205 : Int64))) &&& (3689348814741910323 : Int64)) + ((((x0 - (((x0.toUInt64 >>> ((1 : Int32).toInt64.toUInt64 &&& Int64.toUInt64 63)).toInt64) &&& (6148914691236517205 : Int64))).toUInt64 >>> ((2 : Int32).toInt64.toUInt64 &&& Int64.toUInt64 63)).toInt64) &&& (3689348814741910323 : Int64))).toUInt64 >>> ((4 : Int32).toInt64.toUInt64 &&& Int64.toUInt64 63)).toInt64)) &&& (1085102592571150095 : Int64)) + (((((((x0 - (((x0.toUInt64 >>> ((1 : Int32).toInt64.toUInt64 &&& Int64.toUInt64 63)).toInt64) &&& (6148914691236517205 : Int64))) &&& (3689348814741910323 : Int64)) + ((((x0 - (((x0.toUInt64 >>> ((1 : Int32).toInt64.toUInt64 &&& Int64.toUInt64 63)).toInt64) &&& (6148914691236517205 : Int64))).toUInt64 >>> ((2 : Int32).toInt64.toUInt64 &&& Int64.toUInt64 63)).toInt64) &&& (3689348814741910323 : Int64))) + (((((x0 - (((x0.toUInt64 >>> ((1 : Int32).toInt64.toUInt64 &&& Int64.toUInt64 63)).toInt64) &&& (6148914691236517205 : Int64))) &&& (3689348814741910323 : Int64)) + ((((x0 - (((x0.toUInt64 >>> ((1 : Int32).toInt64.toUInt64 &&& Int64.toUInt64 63)).toInt64) &&& (6148914691236517205 : Int64))).toUInt64 >>> ((2 : Int32).toInt64.toUInt64 &&& Int64.toUInt64 63)).toInt64) &&& (3689348814741910323 : Int64))).toUInt64 >>> ((4 : Int32).toInt64.toUInt64 &&& Int64.toUInt64 63)).toInt64)) &&& (1085102592571150095 : Int64)).toUInt64 >>> ((8 : Int32).toInt64.toUInt64 &&& Int64.toUInt64 63)).toInt64)).toUInt64 >>> ((16 : Int32).toInt64.toUInt64 &&& Int64.toUInt64 63)).toInt64)) + (((((((((x0 - (((x0.toUInt64 >>> ((1 : Int32).toInt64.toUInt64 &&& Int64.toUInt64 63)).toInt64) &&& (6148914691236517205 : Int64))) &&& (3689348814741910323 : Int64)) + ((((x0 - (((x0.toUInt64 >>> ((1 : Int32).toInt64.toUInt64 &&& Int64.toUInt64 63)).toInt64) &&& (6148914691236517205 : Int64))).toUInt64 >>> ((2 : Int32).toInt64.toUInt64 &&& Int64.toUInt64 63)).toInt64) &&& (3689348814741910323 : Int64))) + (((((x0 - (((x0.toUInt64 >>> ((1 : Int32).toInt64.toUInt64 &&& Int64.toUInt64 63)).toInt64) &&& (6148914691236517205 : Int64))) &&& (3689348814741910323 : Int64)) + ((((x0 - (((x0.toUInt64 >>> ((1 : Int32).toInt64.toUInt64 &&& Int64.toUInt64 63)).toInt64) &&& (6148914691236517205 : Int64))).toUInt64 >>> ((2 : Int32).toInt64.toUInt64 &&& Int64.toUInt64 63)).toInt64) &&& (3689348814741910323 : Int64))).toUInt64 >>> ((4 : Int32).toInt64.toUInt64 &&& Int64.toUInt64 63)).toInt64)) &&& (1085102592571150095 : Int64)) + (((((((x0 - (((x0.toUInt64 >>> ((1 : Int32).toInt64.toUInt64 &&& Int64.toUInt64 63)).toInt64) &&& (6148914691236517205 : Int64))) &&& (3689348814741910323 : Int64)) + ((((x0 - (((x0.toUInt64 >>> ((1 : Int32).toInt64.toUInt64 &&& Int64.toUInt64 63)).toInt64) &&& (6148914691236517205 : Int64))).toUInt64 >>> ((2 : Int32).toInt64.toUInt64 &&& Int64.toUInt64 63)).toInt64) &&& (3689348814741910323 : Int64))) + (((((x0 - (((x0.toUInt64 >>> ((1 : Int32).toInt64.toUInt64 &&& Int64.toUInt64 63)).toInt64) &&& (6148914691236517205 : Int64))) &&& (3689348814741910323 : Int64)) + ((((x0 - (((x0.toUInt64 >>> ((1 : Int32).toInt64.toUInt64 &&& Int64.toUInt64 63)).toInt64) &&& (6148914691236517205 : Int64))).toUInt64 >>> ((2 : Int32).toInt64.toUInt64 &&& Int64.toUInt64 63)).toInt64) &&& (3689348814741910323 : Int64))).toUInt64 >>> ((4 : Int32).toInt64.toUInt64 &&& Int64.toUInt64 63)).toInt64)) &&& (1085102592571150095 : Int64)).toUInt64 >>> ((8 : Int32).toInt64.toUInt64 &&& Int64.toUInt64 63)).toInt64)) + ((((((((x0 - (((x0.toUInt64 >>> ((1 : Int32).toInt64.toUInt64 &&& Int64.toUInt64 63)).toInt64) &&& (6148914691236517205 : Int64))) &&& (3689348814741910323 : Int64)) + ((((x0 - (((x0.toUInt64 >>> ((1 : Int32).toInt64.toUInt64 &&& Int64.toUInt64 63)).toInt64) &&& (6148914691236517205 : Int64))).toUInt64 >>> ((2 : Int32).toInt64.toUInt64 &&& Int64.toUInt64 63)).toInt64) &&& (3689348814741910323 : Int64))) + (((((x0 - (((x0.toUInt64 >>> ((1 : Int32).toInt64.toUInt64 &&& Int64.toUInt64 63)).toInt64) &&& (6148914691236517205 : Int64))) &&& (3689348814741910323 : Int64)) + ((((x0 - (((x0.toUInt64 >>> ((1 : Int32).toInt64.toUInt64 &&& Int64.toUInt64 63)).toInt64) &&& (6148914691236517205 : Int64))).toUInt64 >>> ((2 : Int32).toInt64.toUInt64 &&& Int64.toUInt64 63)).toInt64) &&& (3689348814741910323 : Int64))).toUInt64 >>> ((4 : Int32).toInt64.toUInt64 &&& Int64.toUInt64 63)).toInt64)) &&& (1085102592571150095 : Int64)) + (((((((x0 - (((x0.toUInt64 >>> ((1 : Int32).toInt64.toUInt64 &&& Int64.toUInt64 63)).toInt64) &&& (6148914691236517205 : Int64))) &&& (3689348814741910323 : Int64)) + ((((x0 - (((x0.toUInt64 >>> ((1 : Int32).toInt64.toUInt64 &&& Int64.toUInt64 63)).toInt64) &&& (6148914691236517205 : Int64))).toUInt64 >>> ((2 : Int32).toInt64.toUInt64 &&& Int64.toUInt64 63)).toInt64) &&& (3689348814741910323 : Int64))) + (((((x0 - (((x0.toUInt64 >>> ((1 : Int32).toInt64.toUInt64 &&& Int64.toUInt64 63)).toInt64) &&& (6148914691236517205 : Int64))) &&& (3689348814741910323 : Int64)) + ((((x0 - (((x0.toUInt64 >>> ((1 : Int32).toInt64.toUInt64 &&& Int64.toUInt64 63)).toInt64) &&& (6148914691236517205 : Int64))).toUInt64 >>> ((2 : Int32).toInt64.toUInt64 &&& Int64.toUInt64 63)).toInt64) &&& (3689348814741910323 : Int64))).toUInt64 >>> ((4 : Int32).toInt64.toUInt64 &&& Int64.toUInt64 63)).toInt64)) &&& (1085102592571150095 : Int64)).toUInt64 >>> ((8 : Int32).toInt64.toUInt64 &&& Int64.toUInt64 63)).toInt64)).toUInt64 >>> ((16 : Int32).toInt64.toUInt64 &&& Int64.toUInt64 63)).toInt64)).toUInt64 >>> ((32 : Int32).toInt64.toUInt64 &&& Int64.toUInt64 63)).toInt64)))]) hx hb dJ13_bitCount_95d88_54 rfl hl (by decide) rfl (fun ls hl => ?_)
  refine lv_lload_n hx hb dJ13_bitCount_95d88_55 rfl (lv_at hl 0 rfl) ?_
  refine lv_l2i (v := ((((((((x0 - (((x0.toUInt64 >>> ((1 : Int32).toInt64.toUInt64 &&& Int64.toUInt64 63)).toInt64) &&& (6148914691236517205 : Int64))) &&& (3689348814741910323 : Int64)) + ((((x0 - (((x0.toUInt64 >>> ((1 : Int32).toInt64.toUInt64 &&& Int64.toUInt64 63)).toInt64) &&& (6148914691236517205 : Int64))).toUInt64 >>> ((2 : Int32).toInt64.toUInt64 &&& Int64.toUInt64 63)).toInt64) &&& (3689348814741910323 : Int64))) + (((((x0 - (((x0.toUInt64 >>> ((1 : Int32).toInt64.toUInt64 &&& Int64.toUInt64 63)).toInt64) &&& (6148914691236517205 : Int64))) &&& (3689348814741910323 : Int64)) + ((((x0 - (((x0.toUInt64 >>> ((1 : Int32).toInt64.toUInt64 &&& Int64.toUInt64 63)).toInt64) &&& (6148914691236517205 : Int64))).toUInt64 >>> ((2 : Int32).toInt64.toUInt64 &&& Int64.toUInt64 63)).toInt64) &&& (3689348814741910323 : Int64))).toUInt64 >>> ((4 : Int32).toInt64.toUInt64 &&& Int64.toUInt64 63)).toInt64)) &&& (1085102592571150095 : Int64)) + (((((((x0 - (((x0.toUInt64 >>> ((1 : Int32).toInt64.toUInt64 &&& Int64.toUInt64 63)).toInt64) &&& (6148914691236517205 : Int64))) &&& (3689348814741910323 : Int64)) + ((((x0 - (((x0.toUInt64 >>> ((1 : Int32).toInt64.toUInt64 &&& Int64.toUInt64 63)).toInt64) &&& (6148914691236517205 : Int64))).toUInt64 >>> ((2 : Int32).toInt64.toUInt64 &&& Int64.toUInt64 63)).toInt64) &&& (3689348814741910323 : Int64))) + (((((x0 - (((x0.toUInt64 >>> ((1 : Int32).toInt64.toUInt64 &&& Int64.toUInt64 63)).toInt64) &&& (6148914691236517205 : Int64))) &&& (3689348814741910323 : Int64)) + ((((x0 - (((x0.toUInt64 >>> ((1 : Int32).toInt64.toUInt64 &&& Int64.toUInt64 63)).toInt64) &&& (6148914691236517205 : Int64))).toUInt64 >>> ((2 : Int32).toInt64.toUInt64 &&& Int64.toUInt64 63)).toInt64) &&& (3689348814741910323 : Int64))).toUInt64 >>> ((4 : Int32).toInt64.toUInt64 &&& Int64.toUInt64 63)).toInt64)) &&& (1085102592571150095 : Int64)).toUInt64 >>> ((8 : Int32).toInt64.toUInt64 &&& Int64.toUInt64 63)).toInt64)) + ((((((((x0 - (((x0.toUInt64 >>> ((1 : Int32).toInt64.toUInt64 &&& Int64.toUInt64 63)).toInt64) &&& (6148914691236517205 : Int64))) &&& (3689348814741910323 : Int64)) + ((((x0 - (((x0.toUInt64 >>> ((1 : Int32).toInt64.toUInt64 &&& Int64.toUInt64 63)).toInt64) &&& (6148914691236517205 : Int64))).toUInt64 >>> ((2 : Int32).toInt64.toUInt64 &&& Int64.toUInt64 63)).toInt64) &&& (3689348814741910323 : Int64))) + (((((x0 - (((x0.toUInt64 >>> ((1 : Int32).toInt64.toUInt64 &&& Int64.toUInt64 63)).toInt64) &&& (6148914691236517205 : Int64))) &&& (3689348814741910323 : Int64)) + ((((x0 - (((x0.toUInt64 >>> ((1 : Int32).toInt64.toUInt64 &&& Int64.toUInt64 63)).toInt64) &&& (6148914691236517205 : Int64))).toUInt64 >>> ((2 : Int32).toInt64.toUInt64 &&& Int64.toUInt64 63)).toInt64) &&& (3689348814741910323 : Int64))).toUInt64 >>> ((4 : Int32).toInt64.toUInt64 &&& Int64.toUInt64 63)).toInt64)) &&& (1085102592571150095 : Int64)) + (((((((x0 - (((x0.toUInt64 >>> ((1 : Int32).toInt64.toUInt64 &&& Int64.toUInt64 63)).toInt64) &&& (6148914691236517205 : Int64))) &&& (3689348814741910323 : Int64)) + ((((x0 - (((x0.toUInt64 >>> ((1 : Int32).toInt64.toUInt64 &&& Int64.toUInt64 63)).toInt64) &&& (6148914691236517205 : Int64))).toUInt64 >>> ((2 : Int32).toInt64.toUInt64 &&& Int64.toUInt64 63)).toInt64) &&& (3689348814741910323 : Int64))) + (((((x0 - (((x0.toUInt64 >>> ((1 : Int32).toInt64.toUInt64 &&& Int64.toUInt64 63)).toInt64) &&& (6148914691236517205 : Int64))) &&& (3689348814741910323 : Int64)) + ((((x0 - (((x0.toUInt64 >>> ((1 : Int32).toInt64.toUInt64 &&& Int64.toUInt64 63)).toInt64) &&& (6148914691236517205 : Int64))).toUInt64 >>> ((2 : Int32).toInt64.toUInt64 &&& Int64.toUInt64 63)).toInt64) &&& (3689348814741910323 : Int64))).toUInt64 >>> ((4 : Int32).toInt64.toUInt64 &&& Int64.toUInt64 63)).toInt64)) &&& (1085102592571150095 : Int64)).toUInt64 >>> ((8 : Int32).toInt64.toUInt64 &&& Int64.toUInt64 63)).toInt64)).toUInt64 >>> ((16 : Int32).toInt64.toUInt64 &&& Int64.toUInt64 63)).toInt64)) + (((((((((x0 - (((x0.toUInt64 >>> ((1 : Int32).toInt64.toUInt64 &&& Int64.toUInt64 63)).toInt64) &&& (6148914691236517205 : Int64))) &&& (3689348814741910323 : Int64)) + ((((x0 - (((x0.toUInt64 >>> ((1 : Int32).toInt64.toUInt64 &&& Int64.toUInt64 63)).toInt64) &&& (6148914691236517205 : Int64))).toUInt64 >>> ((2 : Int32).toInt64.toUInt64 &&& Int64.toUInt64 63)).toInt64) &&& (3689348814741910323 : Int64))) + (((((x0 - (((x0.toUInt64 >>> ((1 : Int32).toInt64.toUInt64 &&& Int64.toUInt64 63)).toInt64) &&& (6148914691236517205 : Int64))) &&& (3689348814741910323 : Int64)) + ((((x0 - (((x0.toUInt64 >>> ((1 : Int32).toInt64.toUInt64 &&& Int64.toUInt64 63)).toInt64) &&& (6148914691236517205 : Int64))).toUInt64 >>> ((2 : Int32).toInt64.toUInt64 &&& Int64.toUInt64 63)).toInt64) &&& (3689348814741910323 : Int64))).toUInt64 >>> ((4 : Int32).toInt64.toUInt64 &&& Int64.toUInt64 63)).toInt64)) &&& (1085102592571150095 : Int64)) + (((((((x0 - (((x0.toUInt64 >>> ((1 : Int32).toInt64.toUInt64 &&& Int64.toUInt64 63)).toInt64) &&& (6148914691236517205 : Int64))) &&& (3689348814741910323 : Int64)) + ((((x0 - (((x0.toUInt64 >>> ((1 : Int32).toInt64.toUInt64 &&& Int64.toUInt64 63)).toInt64) &&& (6148914691236517205 : Int64))).toUInt64 >>> ((2 : Int32).toInt64.toUInt64 &&& Int64.toUInt64 63)).toInt64) &&& (3689348814741910323 : Int64))) + (((((x0 - (((x0.toUInt64 >>> ((1 : Int32).toInt64.toUInt64 &&& Int64.toUInt64 63)).toInt64) &&& (6148914691236517205 : Int64))) &&& (3689348814741910323 : Int64)) + ((((x0 - (((x0.toUInt64 >>> ((1 : Int32).toInt64.toUInt64 &&& Int64.toUInt64 63)).toInt64) &&& (6148914691236517205 : Int64))).toUInt64 >>> ((2 : Int32).toInt64.toUInt64 &&& Int64.toUInt64 63)).toInt64) &&& (3689348814741910323 : Int64))).toUInt64 >>> ((4 : Int32).toInt64.toUInt64 &&& Int64.toUInt64 63)).toInt64)) &&& (1085102592571150095 : Int64)).toUInt64 >>> ((8 : Int32).toInt64.toUInt64 &&& Int64.toUInt64 63)).toInt64)) + ((((((((x0 - (((x0.toUInt64 >>> ((1 : Int32).toInt64.toUInt64 &&& Int64.toUInt64 63)).toInt64) &&& (6148914691236517205 : Int64))) &&& (3689348814741910323 : Int64)) + ((((x0 - (((x0.toUInt64 >>> ((1 : Int32).toInt64.toUInt64 &&& Int64.toUInt64 63)).toInt64) &&& (6148914691236517205 : Int64))).toUInt64 >>> ((2 : Int32).toInt64.toUInt64 &&& Int64.toUInt64 63)).toInt64) &&& (3689348814741910323 : Int64))) + (((((x0 - (((x0.toUInt64 >>> ((1 : Int32).toInt64.toUInt64 &&& Int64.toUInt64 63)).toInt64) &&& (6148914691236517205 : Int64))) &&& (3689348814741910323 : Int64)) + ((((x0 - (((x0.toUInt64 >>> ((1 : Int32).toInt64.toUInt64 &&& Int64.toUInt64 63)).toInt64) &&& (6148914691236517205 : Int64))).toUInt64 >>> ((2 : Int32).toInt64.toUInt64 &&& Int64.toUInt64 63)).toInt64) &&& (3689348814741910323 : Int64))).toUInt64 >>> ((4 : Int32).toInt64.toUInt64 &&& Int64.toUInt64 63)).toInt64)) &&& (1085102592571150095 : Int64)) + (((((((x0 - (((x0.toUInt64 >>> ((1 : Int32).toInt64.toUInt64 &&& Int64.toUInt64 63)).toInt64) &&& (6148914691236517205 : Int64))) &&& (3689348814741910323 : Int64)) + ((((x0 - (((x0.toUInt64 >>> ((1 : Int32).toInt64.toUInt64 &&& Int64.toUInt64 63)).toInt64) &&& (6148914691236517205 : Int64))).toUInt64 >>> ((2 : Int32).toInt64.toUInt64 &&& Int64.toUInt64 63)).toInt64) &&& (3689348814741910323 : Int64))) + (((((x0 - (((x0.toUInt64 >>> ((1 : Int32).toInt64.toUInt64 &&& Int64.toUInt64 63)).toInt64) &&& (6148914691236517205 : Int64))) &&& (3689348814741910323 : Int64)) + ((((x0 - (((x0.toUInt64 >>> ((1 : Int32).toInt64.toUInt64 &&& Int64.toUInt64 63)).toInt64) &&& (6148914691236517205 : Int64))).toUInt64 >>> ((2 : Int32).toInt64.toUInt64 &&& Int64.toUInt64 63)).toInt64) &&& (3689348814741910323 : Int64))).toUInt64 >>> ((4 : Int32).toInt64.toUInt64 &&& Int64.toUInt64 63)).toInt64)) &&& (1085102592571150095 : Int64)).toUInt64 >>> ((8 : Int32).toInt64.toUInt64 &&& Int64.toUInt64 63)).toInt64)).toUInt64 >>> ((16 : Int32).toInt64.toUInt64 &&& Int64.toUInt64 63)).toInt64)).toUInt64 >>> ((32 : Int32).toInt64.toUInt64 &&& Int64.toUInt64 63)).toInt64)).toInt32) hx hb dJ13_bitCount_95d88_56 rfl ?_
  refine lv_bipush (v := 127) hx hb dJ13_bitCount_95d88_57 (by decide) ?_
  refine lv_iand hx hb dJ13_bitCount_95d88_59 ?_
  obtain rfl := Option.some.inj h
  exact W.iret hx hb hr (fun t ht hW => ⟨rfl, by rw [ht]; exact Z, hS.F ht⟩) hS.2.2 dJ13_bitCount_95d88_60
set_option maxRecDepth 20000 in
theorem c_J13_bitCount_95d88 (l : Launch) {D : va_G} {ad : Nat → Nat → Nat} {rd : Nat → Nat} {ca : Nat → ClassId} {A : Nat → Prop} {σ : wx_St}    {x0 : Int64} {r : Int32} (h : f_J13_bitCount_95d88 x0 = some r) : wx_M l yJ13_bitCount_95d88 wsJ13_bitCount_95d88 0 0 D ad rd ca A [.long x0] σ (some (.int r)) σ := by
  refine va_MetF (cc := cJ13_bitCount_95d88) (maxL := 2) (ret := (some .int)) (by decide +kernel) rfl ?_
  intro p e s m args below meth c s₁ B0 hml hv
  obtain ⟨rfl, hC, Z, hA⟩ := hv
  have hl := lv_entry ([.long x0]) (n := 2) (Nat.le_of_ble_eq_true rfl)
  rw [lg_entry_eq]
  generalize (lg_sl ([.long x0]) ++ List.replicate (2 - (lg_sl ([.long x0])).length) Slot.unset).toArray = ls at hl ⊢
  exact b_J13_bitCount_95d88_0 ⟨B0.exec, B0.bytes, hml, B0.returns, atoms_spec (ws := wsJ13_bitCount_95d88) B0.pre, findClass_of_methodNamed B0.named, B0.notSynchronized, hC, hA⟩   h Z va_S.rf hl
set_option maxRecDepth 20000 in
set_option maxHeartbeats 4000000 in
theorem b_Jxe99ae_isNaN_b9ae7_11 (B : wx_B p s m args meth c cJxe99ae_isNaN_b9ae7 2 (some .boolean) wsJxe99ae_isNaN_b9ae7 RJxe99ae D ad ca A)    {r : Int32} {σ : wx_St}  {x0 : UInt64} {y0 : Int32}   (h : f_Jxe99ae_isNaN_b9ae7_11 x0 y0 = some r) {H : Heap} {locs : List Loc} (Z : wx_Z D ad rd ca A σ H) (hS : va_S A s.heap H locs) {ls : Array Slot} (hl : lv_has ls 2 [(0, .double x0)]) : W p l e ({ frames := 0, cells := 0, slots := 0, locals := 0 } : Room) s m args below meth c H locs 0 0 (MQ below (wx_Q D ad rd ca A (some (.int r)) σ) args s 0 0 A) (F0 m 11 ls [.int y0]) := by
  obtain ⟨hx, hb, hml, hr, hts, hown, hlk, hC, hA⟩ := id B
  unfold f_Jxe99ae_isNaN_b9ae7_11 at h
  obtain ⟨hz, h⟩ := wx_z_ok h
  obtain rfl := Option.some.inj h
  exact W.zret hx hb hr (wx_nb hz) (fun t ht hW => ⟨rfl, by rw [ht]; exact Z, hS.F ht⟩) hS.2.2 dJxe99ae_isNaN_b9ae7_11
set_option maxRecDepth 20000 in
set_option maxHeartbeats 4000000 in
theorem b_Jxe99ae_isNaN_b9ae7_0 (B : wx_B p s m args meth c cJxe99ae_isNaN_b9ae7 2 (some .boolean) wsJxe99ae_isNaN_b9ae7 RJxe99ae D ad ca A)    {r : Int32} {σ : wx_St}  {x0 : UInt64}   (h : f_Jxe99ae_isNaN_b9ae7 x0 = some r) {H : Heap} {locs : List Loc} (Z : wx_Z D ad rd ca A σ H) (hS : va_S A s.heap H locs) {ls : Array Slot} (hl : lv_has ls 2 [(0, .double x0)]) : W p l e ({ frames := 0, cells := 0, slots := 0, locals := 0 } : Room) s m args below meth c H locs 0 0 (MQ below (wx_Q D ad rd ca A (some (.int r)) σ) args s 0 0 A) (F0 m 0 ls []) := by
  obtain ⟨hx, hb, hml, hr, hts, hown, hlk, hC, hA⟩ := id B
  unfold f_Jxe99ae_isNaN_b9ae7 at h
  refine lv_dload_n hx hb dJxe99ae_isNaN_b9ae7_0 rfl (lv_at hl 0 rfl) ?_
  refine lv_dload_n hx hb dJxe99ae_isNaN_b9ae7_1 rfl (lv_at hl 0 rfl) ?_
  refine lv_dcmp hx hb dJxe99ae_isNaN_b9ae7_2 ?_
  refine lv_if_eq (tgt := 10) hx hb dJxe99ae_isNaN_b9ae7_3 (by decide) (fun c3 => ?_) (fun c3 => ?_)
  · replace h := wx_ift c3 h
    refine lv_iconst (v := 0) hx hb dJxe99ae_isNaN_b9ae7_10 (by decide) ?_
    exact b_Jxe99ae_isNaN_b9ae7_11 B h Z hS (lv_sub hl [0] rfl)
  · replace h := wx_iff c3 h
    refine lv_iconst (v := 1) hx hb dJxe99ae_isNaN_b9ae7_6 (by decide) ?_
    refine lv_goto (tgt := 11) hx hb dJxe99ae_isNaN_b9ae7_7 (by decide) ?_
    exact b_Jxe99ae_isNaN_b9ae7_11 B h Z hS (lv_sub hl [0] rfl)
set_option maxRecDepth 20000 in
theorem c_Jxe99ae_isNaN_b9ae7 (l : Launch) {D : va_G} {ad : Nat → Nat → Nat} {rd : Nat → Nat} {ca : Nat → ClassId} {A : Nat → Prop} {σ : wx_St}    {x0 : UInt64} {r : Int32} (h : f_Jxe99ae_isNaN_b9ae7 x0 = some r) : wx_M l yJxe99ae_isNaN_b9ae7 wsJxe99ae_isNaN_b9ae7 0 0 D ad rd ca A [.double x0] σ (some (.int r)) σ := by
  refine va_MetF (cc := cJxe99ae_isNaN_b9ae7) (maxL := 2) (ret := (some .boolean)) (by decide +kernel) rfl ?_
  intro p e s m args below meth c s₁ B0 hml hv
  obtain ⟨rfl, hC, Z, hA⟩ := hv
  have hl := lv_entry ([.double x0]) (n := 2) (Nat.le_of_ble_eq_true rfl)
  rw [lg_entry_eq]
  generalize (lg_sl ([.double x0]) ++ List.replicate (2 - (lg_sl ([.double x0])).length) Slot.unset).toArray = ls at hl ⊢
  exact b_Jxe99ae_isNaN_b9ae7_0 ⟨B0.exec, B0.bytes, hml, B0.returns, atoms_spec (ws := wsJxe99ae_isNaN_b9ae7) B0.pre, findClass_of_methodNamed B0.named, B0.notSynchronized, hC, hA⟩   h Z va_S.rf hl
theorem k_Jxe99ae_doubleToLongBits_ccdee_w0 : Cond.constantLong RJxe99ae 137 (9221120237041090560) ∈ wsJxe99ae_doubleToLongBits_ccdee := by decide +kernel
theorem k_Jxe99ae_doubleToLongBits_ccdee_w1 : Cond.methodLink RJxe99ae 134 ⟨"java/lang/Double", "doubleToRawLongBits", "(D)J"⟩ ∈ wsJxe99ae_doubleToLongBits_ccdee := by decide +kernel
theorem k_Jxe99ae_doubleToLongBits_ccdee_w2 : Cond.native ⟨"java/lang/Double", "doubleToRawLongBits", "(D)J"⟩ ∈ wsJxe99ae_doubleToLongBits_ccdee := by decide +kernel
theorem k_Jxe99ae_doubleToLongBits_ccdee_w3 : Cond.static ⟨"java/lang/Double", "doubleToRawLongBits", "(D)J"⟩ ∈ wsJxe99ae_doubleToLongBits_ccdee := by decide +kernel
theorem k_Jxe99ae_doubleToLongBits_ccdee_w4 : Cond.initialized "java/lang/Double" ∈ wsJxe99ae_doubleToLongBits_ccdee := by decide +kernel
set_option maxRecDepth 20000 in
set_option maxHeartbeats 4000000 in
theorem b_Jxe99ae_doubleToLongBits_ccdee_0 (B : wx_B p s m args meth c cJxe99ae_doubleToLongBits_ccdee 2 (some .long) wsJxe99ae_doubleToLongBits_ccdee RJxe99ae D ad ca A)    {r : Int64} {σ : wx_St}  {x0 : UInt64}   (h : f_Jxe99ae_doubleToLongBits_ccdee x0 = some r) {H : Heap} {locs : List Loc} (Z : wx_Z D ad rd ca A σ H) (hS : va_S A s.heap H locs) {ls : Array Slot} (hl : lv_has ls 2 [(0, .double x0)]) : W p l e ({ frames := 1, cells := 0, slots := 0, locals := 23 } : Room) s m args below meth c H locs 0 0 (MQ below (wx_Q D ad rd ca A (some (.long r)) σ) args s 0 0 A) (F0 m 0 ls []) := by
  obtain ⟨hx, hb, hml, hr, hts, hown, hlk, hC, hA⟩ := id B
  unfold f_Jxe99ae_doubleToLongBits_ccdee at h
  refine lv_dload_n hx hb dJxe99ae_doubleToLongBits_ccdee_0 rfl (lv_at hl 0 rfl) ?_
  obtain ⟨v1, hc1, h⟩ := wx_o_ok h
  refine wx_call (va_runS (As := [.double x0]) (rest := []) ⟨hx, hb, hml, hown, hts⟩ (c_Jxe99ae_isNaN_b9ae7 l (D := D) (ad := ad) (rd := rd) (ca := ca) (A := A) (σ := σ) hc1) (va_cwS 1 hts gJxe99ae_doubleToLongBits_ccdee_Jxe99ae_isNaN_b9ae7 rfl rfl rfl (by decide +kernel) ⟨Nat.le_of_ble_eq_true rfl, Nat.le_of_ble_eq_true rfl⟩) (wx_preS hC Z hS hA) rfl rfl hl.1 rfl (lv_room (Nat.le_of_ble_eq_true rfl)) dJxe99ae_doubleToLongBits_ccdee_1 ⟨Nat.zero_le _, Nat.zero_le _⟩) hS (fun H locs Z hS => ?_)
  refine lv_if_ne (tgt := 12) hx hb dJxe99ae_doubleToLongBits_ccdee_4 (by decide) (fun c4 => ?_) (fun c4 => ?_)
  · replace h := wx_iff c4 h
    refine lv_ldc2 hx hb hown (hts _ k_Jxe99ae_doubleToLongBits_ccdee_w0) dJxe99ae_doubleToLongBits_ccdee_12 ?_
    obtain rfl := Option.some.inj h
    exact W.lret hx hb hr (fun t ht hW => ⟨rfl, by rw [ht]; exact Z, hS.F ht⟩) hS.2.2 dJxe99ae_doubleToLongBits_ccdee_15
  · replace h := wx_ift c4 h
    refine lv_dload_n hx hb dJxe99ae_doubleToLongBits_ccdee_7 rfl (lv_at hl 0 rfl) ?_
    refine vn_d2l (own := RJxe99ae) hx hb (hml.trans hl.1.symm) hown (hts _ k_Jxe99ae_doubleToLongBits_ccdee_w1) (hts _ k_Jxe99ae_doubleToLongBits_ccdee_w2) (hts _ k_Jxe99ae_doubleToLongBits_ccdee_w3) (hts _ k_Jxe99ae_doubleToLongBits_ccdee_w4) (Nat.le_of_ble_eq_true rfl) (Nat.le_of_ble_eq_true rfl) dJxe99ae_doubleToLongBits_ccdee_8 ?_
    obtain rfl := Option.some.inj h
    exact W.lret hx hb hr (fun t ht hW => ⟨rfl, by rw [ht]; exact Z, hS.F ht⟩) hS.2.2 dJxe99ae_doubleToLongBits_ccdee_11
set_option maxRecDepth 20000 in
theorem c_Jxe99ae_doubleToLongBits_ccdee (l : Launch) {D : va_G} {ad : Nat → Nat → Nat} {rd : Nat → Nat} {ca : Nat → ClassId} {A : Nat → Prop} {σ : wx_St}    {x0 : UInt64} {r : Int64} (h : f_Jxe99ae_doubleToLongBits_ccdee x0 = some r) : wx_M l yJxe99ae_doubleToLongBits_ccdee wsJxe99ae_doubleToLongBits_ccdee 1 23 D ad rd ca A [.double x0] σ (some (.long r)) σ := by
  refine va_MetF (cc := cJxe99ae_doubleToLongBits_ccdee) (maxL := 2) (ret := (some .long)) (by decide +kernel) rfl ?_
  intro p e s m args below meth c s₁ B0 hml hv
  obtain ⟨rfl, hC, Z, hA⟩ := hv
  have hl := lv_entry ([.double x0]) (n := 2) (Nat.le_of_ble_eq_true rfl)
  rw [lg_entry_eq]
  generalize (lg_sl ([.double x0]) ++ List.replicate (2 - (lg_sl ([.double x0])).length) Slot.unset).toArray = ls at hl ⊢
  exact b_Jxe99ae_doubleToLongBits_ccdee_0 ⟨B0.exec, B0.bytes, hml, B0.returns, atoms_spec (ws := wsJxe99ae_doubleToLongBits_ccdee) B0.pre, findClass_of_methodNamed B0.named, B0.notSynchronized, hC, hA⟩   h Z va_S.rf hl
set_option maxRecDepth 20000 in
set_option maxHeartbeats 4000000 in
theorem b_Jxf58ca_isNaN_12338_11 (B : wx_B p s m args meth c cJxf58ca_isNaN_12338 1 (some .boolean) wsJxf58ca_isNaN_12338 RJxf58ca D ad ca A)    {r : Int32} {σ : wx_St}  {x0 : UInt32} {y0 : Int32}   (h : f_Jxf58ca_isNaN_12338_11 x0 y0 = some r) {H : Heap} {locs : List Loc} (Z : wx_Z D ad rd ca A σ H) (hS : va_S A s.heap H locs) {ls : Array Slot} (hl : lv_has ls 1 [(0, .float x0)]) : W p l e ({ frames := 0, cells := 0, slots := 0, locals := 0 } : Room) s m args below meth c H locs 0 0 (MQ below (wx_Q D ad rd ca A (some (.int r)) σ) args s 0 0 A) (F0 m 11 ls [.int y0]) := by
  obtain ⟨hx, hb, hml, hr, hts, hown, hlk, hC, hA⟩ := id B
  unfold f_Jxf58ca_isNaN_12338_11 at h
  obtain ⟨hz, h⟩ := wx_z_ok h
  obtain rfl := Option.some.inj h
  exact W.zret hx hb hr (wx_nb hz) (fun t ht hW => ⟨rfl, by rw [ht]; exact Z, hS.F ht⟩) hS.2.2 dJxf58ca_isNaN_12338_11
set_option maxRecDepth 20000 in
set_option maxHeartbeats 4000000 in
theorem b_Jxf58ca_isNaN_12338_0 (B : wx_B p s m args meth c cJxf58ca_isNaN_12338 1 (some .boolean) wsJxf58ca_isNaN_12338 RJxf58ca D ad ca A)    {r : Int32} {σ : wx_St}  {x0 : UInt32}   (h : f_Jxf58ca_isNaN_12338 x0 = some r) {H : Heap} {locs : List Loc} (Z : wx_Z D ad rd ca A σ H) (hS : va_S A s.heap H locs) {ls : Array Slot} (hl : lv_has ls 1 [(0, .float x0)]) : W p l e ({ frames := 0, cells := 0, slots := 0, locals := 0 } : Room) s m args below meth c H locs 0 0 (MQ below (wx_Q D ad rd ca A (some (.int r)) σ) args s 0 0 A) (F0 m 0 ls []) := by
  obtain ⟨hx, hb, hml, hr, hts, hown, hlk, hC, hA⟩ := id B
  unfold f_Jxf58ca_isNaN_12338 at h
  refine lv_fload_n hx hb dJxf58ca_isNaN_12338_0 rfl (lv_at hl 0 rfl) ?_
  refine lv_fload_n hx hb dJxf58ca_isNaN_12338_1 rfl (lv_at hl 0 rfl) ?_
  refine lv_fcmp hx hb dJxf58ca_isNaN_12338_2 ?_
  refine lv_if_eq (tgt := 10) hx hb dJxf58ca_isNaN_12338_3 (by decide) (fun c3 => ?_) (fun c3 => ?_)
  · replace h := wx_ift c3 h
    refine lv_iconst (v := 0) hx hb dJxf58ca_isNaN_12338_10 (by decide) ?_
    exact b_Jxf58ca_isNaN_12338_11 B h Z hS (lv_sub hl [0] rfl)
  · replace h := wx_iff c3 h
    refine lv_iconst (v := 1) hx hb dJxf58ca_isNaN_12338_6 (by decide) ?_
    refine lv_goto (tgt := 11) hx hb dJxf58ca_isNaN_12338_7 (by decide) ?_
    exact b_Jxf58ca_isNaN_12338_11 B h Z hS (lv_sub hl [0] rfl)
set_option maxRecDepth 20000 in
theorem c_Jxf58ca_isNaN_12338 (l : Launch) {D : va_G} {ad : Nat → Nat → Nat} {rd : Nat → Nat} {ca : Nat → ClassId} {A : Nat → Prop} {σ : wx_St}    {x0 : UInt32} {r : Int32} (h : f_Jxf58ca_isNaN_12338 x0 = some r) : wx_M l yJxf58ca_isNaN_12338 wsJxf58ca_isNaN_12338 0 0 D ad rd ca A [.float x0] σ (some (.int r)) σ := by
  refine va_MetF (cc := cJxf58ca_isNaN_12338) (maxL := 1) (ret := (some .boolean)) (by decide +kernel) rfl ?_
  intro p e s m args below meth c s₁ B0 hml hv
  obtain ⟨rfl, hC, Z, hA⟩ := hv
  have hl := lv_entry ([.float x0]) (n := 1) (Nat.le_of_ble_eq_true rfl)
  rw [lg_entry_eq]
  generalize (lg_sl ([.float x0]) ++ List.replicate (1 - (lg_sl ([.float x0])).length) Slot.unset).toArray = ls at hl ⊢
  exact b_Jxf58ca_isNaN_12338_0 ⟨B0.exec, B0.bytes, hml, B0.returns, atoms_spec (ws := wsJxf58ca_isNaN_12338) B0.pre, findClass_of_methodNamed B0.named, B0.notSynchronized, hC, hA⟩   h Z va_S.rf hl
theorem k_Jxf58ca_floatToIntBits_5c35a_w0 : Cond.constant RJxf58ca 77 (2143289344) ∈ wsJxf58ca_floatToIntBits_5c35a := by decide +kernel
theorem k_Jxf58ca_floatToIntBits_5c35a_w1 : Cond.methodLink RJxf58ca 74 ⟨"java/lang/Float", "floatToRawIntBits", "(F)I"⟩ ∈ wsJxf58ca_floatToIntBits_5c35a := by decide +kernel
theorem k_Jxf58ca_floatToIntBits_5c35a_w2 : Cond.native ⟨"java/lang/Float", "floatToRawIntBits", "(F)I"⟩ ∈ wsJxf58ca_floatToIntBits_5c35a := by decide +kernel
theorem k_Jxf58ca_floatToIntBits_5c35a_w3 : Cond.static ⟨"java/lang/Float", "floatToRawIntBits", "(F)I"⟩ ∈ wsJxf58ca_floatToIntBits_5c35a := by decide +kernel
theorem k_Jxf58ca_floatToIntBits_5c35a_w4 : Cond.initialized "java/lang/Float" ∈ wsJxf58ca_floatToIntBits_5c35a := by decide +kernel
set_option maxRecDepth 20000 in
set_option maxHeartbeats 4000000 in
theorem b_Jxf58ca_floatToIntBits_5c35a_0 (B : wx_B p s m args meth c cJxf58ca_floatToIntBits_5c35a 1 (some .int) wsJxf58ca_floatToIntBits_5c35a RJxf58ca D ad ca A)    {r : Int32} {σ : wx_St}  {x0 : UInt32}   (h : f_Jxf58ca_floatToIntBits_5c35a x0 = some r) {H : Heap} {locs : List Loc} (Z : wx_Z D ad rd ca A σ H) (hS : va_S A s.heap H locs) {ls : Array Slot} (hl : lv_has ls 1 [(0, .float x0)]) : W p l e ({ frames := 1, cells := 0, slots := 0, locals := 23 } : Room) s m args below meth c H locs 0 0 (MQ below (wx_Q D ad rd ca A (some (.int r)) σ) args s 0 0 A) (F0 m 0 ls []) := by
  obtain ⟨hx, hb, hml, hr, hts, hown, hlk, hC, hA⟩ := id B
  unfold f_Jxf58ca_floatToIntBits_5c35a at h
  refine lv_fload_n hx hb dJxf58ca_floatToIntBits_5c35a_0 rfl (lv_at hl 0 rfl) ?_
  obtain ⟨v1, hc1, h⟩ := wx_o_ok h
  refine wx_call (va_runS (As := [.float x0]) (rest := []) ⟨hx, hb, hml, hown, hts⟩ (c_Jxf58ca_isNaN_12338 l (D := D) (ad := ad) (rd := rd) (ca := ca) (A := A) (σ := σ) hc1) (va_cwS 1 hts gJxf58ca_floatToIntBits_5c35a_Jxf58ca_isNaN_12338 rfl rfl rfl (by decide +kernel) ⟨Nat.le_of_ble_eq_true rfl, Nat.le_of_ble_eq_true rfl⟩) (wx_preS hC Z hS hA) rfl rfl hl.1 rfl (lv_room (Nat.le_of_ble_eq_true rfl)) dJxf58ca_floatToIntBits_5c35a_1 ⟨Nat.zero_le _, Nat.zero_le _⟩) hS (fun H locs Z hS => ?_)
  refine lv_if_ne (tgt := 12) hx hb dJxf58ca_floatToIntBits_5c35a_4 (by decide) (fun c4 => ?_) (fun c4 => ?_)
  · replace h := wx_iff c4 h
    refine lv_ldc hx hb hown (hts _ k_Jxf58ca_floatToIntBits_5c35a_w0) dJxf58ca_floatToIntBits_5c35a_12 ?_
    obtain rfl := Option.some.inj h
    exact W.iret hx hb hr (fun t ht hW => ⟨rfl, by rw [ht]; exact Z, hS.F ht⟩) hS.2.2 dJxf58ca_floatToIntBits_5c35a_14
  · replace h := wx_ift c4 h
    refine lv_fload_n hx hb dJxf58ca_floatToIntBits_5c35a_7 rfl (lv_at hl 0 rfl) ?_
    refine vn_f2i (own := RJxf58ca) hx hb (hml.trans hl.1.symm) hown (hts _ k_Jxf58ca_floatToIntBits_5c35a_w1) (hts _ k_Jxf58ca_floatToIntBits_5c35a_w2) (hts _ k_Jxf58ca_floatToIntBits_5c35a_w3) (hts _ k_Jxf58ca_floatToIntBits_5c35a_w4) (Nat.le_of_ble_eq_true rfl) (Nat.le_of_ble_eq_true rfl) dJxf58ca_floatToIntBits_5c35a_8 ?_
    obtain rfl := Option.some.inj h
    exact W.iret hx hb hr (fun t ht hW => ⟨rfl, by rw [ht]; exact Z, hS.F ht⟩) hS.2.2 dJxf58ca_floatToIntBits_5c35a_11
set_option maxRecDepth 20000 in
theorem c_Jxf58ca_floatToIntBits_5c35a (l : Launch) {D : va_G} {ad : Nat → Nat → Nat} {rd : Nat → Nat} {ca : Nat → ClassId} {A : Nat → Prop} {σ : wx_St}    {x0 : UInt32} {r : Int32} (h : f_Jxf58ca_floatToIntBits_5c35a x0 = some r) : wx_M l yJxf58ca_floatToIntBits_5c35a wsJxf58ca_floatToIntBits_5c35a 1 23 D ad rd ca A [.float x0] σ (some (.int r)) σ := by
  refine va_MetF (cc := cJxf58ca_floatToIntBits_5c35a) (maxL := 1) (ret := (some .int)) (by decide +kernel) rfl ?_
  intro p e s m args below meth c s₁ B0 hml hv
  obtain ⟨rfl, hC, Z, hA⟩ := hv
  have hl := lv_entry ([.float x0]) (n := 1) (Nat.le_of_ble_eq_true rfl)
  rw [lg_entry_eq]
  generalize (lg_sl ([.float x0]) ++ List.replicate (1 - (lg_sl ([.float x0])).length) Slot.unset).toArray = ls at hl ⊢
  exact b_Jxf58ca_floatToIntBits_5c35a_0 ⟨B0.exec, B0.bytes, hml, B0.returns, atoms_spec (ws := wsJxf58ca_floatToIntBits_5c35a) B0.pre, findClass_of_methodNamed B0.named, B0.notSynchronized, hC, hA⟩   h Z va_S.rf hl
theorem i_X0_beginRun_0 : ∀ w ∈ wsX00, w ∈ wsX0_beginRun := by decide +kernel
theorem k_X0_beginRun_w0 : Cond.fieldLink RX0 31 "WarmProbes$Board" "steps" "I" ∈ wsX0_beginRun := by decide +kernel
theorem k_X0_beginRun_w1 : Cond.fieldLink RX0 41 "WarmProbes$Board" "readings" "I" ∈ wsX0_beginRun := by decide +kernel
theorem k_X0_beginRun_w2 : Cond.fieldLink RX0 34 "WarmProbes$Board" "warmth" "[F" ∈ wsX0_beginRun := by decide +kernel
set_option maxRecDepth 20000 in
set_option maxHeartbeats 4000000 in
theorem b_X0_beginRun_12 (B : wx_B p s m args meth c cX0_beginRun 2 none wsX0_beginRun RX0 D ad ca A) {o : Nat}  (ho : o < 11)  {σ' : wx_St}   :
    ∀ {n : Nat} {x1 : Int32} {σ : wx_St}  (h : f_X0_beginRun_12 o n x1 σ = some ((), σ')) {H : Heap} {locs : List Loc} (Z : wx_Z D ad rd ca A σ H) (hS : va_S A s.heap H locs) {ls : Array Slot} (hl : lv_has ls 2 [(0, .ref (ad o 99)), (1, .int x1)]), W p l e ({ frames := 0, cells := 0, slots := 0, locals := 0 } : Room) s m args below meth c H locs 0 0 (MQ below (wx_Q D ad rd ca A none σ') args s 0 0 A) (F0 m 12 ls []) := by
  obtain ⟨hx, hb, hml, hr, hts, hown, hlk, hC, hA⟩ := id B
  intro n
  induction n with
  | zero => intro x1 σ  h H locs Z hS ls hl; exact wx_no h
  | succ n ih =>
    intro x1 σ  h H locs Z hS ls hl
    rw [f_X0_beginRun_12] at h
    refine lv_iload_n hx hb dX0_beginRun_12 rfl (lv_at hl 1 rfl) ?_
    refine lv_bipush (v := 64) hx hb dX0_beginRun_13 (by decide) ?_
    refine lv_icmp_ge (tgt := 31) hx hb dX0_beginRun_15 (by decide) (fun c15 => ?_) (fun c15 => ?_)
    · replace h := wx_ift c15 h
      obtain ⟨-, rfl⟩ := wx_ret_ok h
      exact W.vret hx hb hr (fun t ht hW => ⟨rfl, by rw [ht]; exact Z, hS.F ht⟩) hS.2.2 dX0_beginRun_31
    · replace h := wx_iff c15 h
      refine lv_aload_n hx hb dX0_beginRun_18 rfl (lv_at hl 0 rfl) ?_
      refine wx_get (own := RX0) hx hb hts i_X0_beginRun_0 hown hC.1 Z (o := o) (ci := 0) (wx_sbo ho 99) (rfl : vwCl[0]? = some (RX0, TX0, 13)) 7 (by decide) (hts _ k_X0_beginRun_w2) (fun _ h9 => h9) (f := 0) rfl rfl dX0_beginRun_19 ?_
      refine lv_iload_n hx hb dX0_beginRun_22 rfl (lv_at hl 1 rfl) ?_
      refine lv_fconst0 hx hb dX0_beginRun_23 ?_
      obtain ⟨σ24, e24, i24, h⟩ := wx_w_ok h
      refine wx_fast hx hb hC.1 Z hS (o := o) (k := 7) (n := 64) (wx_sbo ho 7) rfl i24 dX0_beginRun_24 e24 (fun H locs Z hS => ?_)
      refine lv_iinc (v := x1 + 1) (lv' := [(1, .int (x1 + 1)), (0, .ref (ad o 99))]) hx hb dX0_beginRun_25 hl (k := 1) rfl rfl (by decide) rfl (fun ls hl => ?_)
      refine lv_goto (tgt := 12) hx hb dX0_beginRun_28 (by decide) ?_
      exact ih h Z hS (lv_sub hl [1, 0] rfl)
set_option maxRecDepth 20000 in
set_option maxHeartbeats 4000000 in
theorem b_X0_beginRun_0 (B : wx_B p s m args meth c cX0_beginRun 2 none wsX0_beginRun RX0 D ad ca A) {o : Nat}  (ho : o < 11)  {σ' : wx_St}   {σ : wx_St}  (h : f_X0_beginRun o σ = some ((), σ')) {H : Heap} {locs : List Loc} (Z : wx_Z D ad rd ca A σ H) (hS : va_S A s.heap H locs) {ls : Array Slot} (hl : lv_has ls 2 [(0, .ref (ad o 99))]) : W p l e ({ frames := 0, cells := 0, slots := 0, locals := 0 } : Room) s m args below meth c H locs 0 0 (MQ below (wx_Q D ad rd ca A none σ') args s 0 0 A) (F0 m 0 ls []) := by
  obtain ⟨hx, hb, hml, hr, hts, hown, hlk, hC, hA⟩ := id B
  unfold f_X0_beginRun at h
  refine lv_aload_n hx hb dX0_beginRun_0 rfl (lv_at hl 0 rfl) ?_
  refine lv_iconst (v := 0) hx hb dX0_beginRun_1 (by decide) ?_
  obtain ⟨σ2, e2, h⟩ := wx_l_ok h
  refine wx_put (own := RX0) hx hb hts i_X0_beginRun_0 tyX0 tyX0_ok nmX0 hown hC.1 Z hS (o := o) (ci := 0) (wx_sbo ho 99) (rfl : vwCl[0]? = some (RX0, TX0, 13)) 6 (by decide) (hts _ k_X0_beginRun_w0) (fun _ h9 => h9) rfl (by decide +kernel) rfl dX0_beginRun_2 e2 (fun H locs Z hS => ?_)
  refine lv_aload_n hx hb dX0_beginRun_5 rfl (lv_at hl 0 rfl) ?_
  refine lv_iconst (v := 0) hx hb dX0_beginRun_6 (by decide) ?_
  obtain ⟨σ7, e7, h⟩ := wx_l_ok h
  refine wx_put (own := RX0) hx hb hts i_X0_beginRun_0 tyX0 tyX0_ok nmX0 hown hC.1 Z hS (o := o) (ci := 0) (wx_sbo ho 99) (rfl : vwCl[0]? = some (RX0, TX0, 13)) 9 (by decide) (hts _ k_X0_beginRun_w1) (fun _ h9 => h9) rfl (by decide +kernel) rfl dX0_beginRun_7 e7 (fun H locs Z hS => ?_)
  refine lv_iconst (v := 0) hx hb dX0_beginRun_10 (by decide) ?_
  refine lv_istore_n (lv' := [(1, .int 0), (0, .ref (ad o 99))]) hx hb dX0_beginRun_11 rfl hl (by decide) rfl (fun ls hl => ?_)
  exact b_X0_beginRun_12 B ho h Z hS (lv_sub hl [1, 0] rfl)
set_option maxRecDepth 20000 in
theorem c_X0_beginRun (l : Launch) {D : va_G} {ad : Nat → Nat → Nat} {rd : Nat → Nat} {ca : Nat → ClassId} {A : Nat → Prop} {σ : wx_St} {o : Nat}  (ho : o < 11)   {σ' : wx_St} (h : f_X0_beginRun o σ = some ((), σ')) : wx_M l yX0_beginRun wsX0_beginRun 0 0 D ad rd ca A [.ref (ad o 99)] σ none σ' := by
  refine Met.ofW (cc := cX0_beginRun) (maxL := 2) (ret := none) (by decide +kernel) rfl ?_
  intro p e s m args below meth c s₁ B0 hml hv
  obtain ⟨rfl, hC, Z, hA⟩ := hv
  have hl := lv_entry ([.ref (ad o 99)]) (n := 2) (Nat.le_of_ble_eq_true rfl)
  rw [lg_entry_eq]
  generalize (lg_sl ([.ref (ad o 99)]) ++ List.replicate (2 - (lg_sl ([.ref (ad o 99)])).length) Slot.unset).toArray = ls at hl ⊢
  exact b_X0_beginRun_0 ⟨B0.exec, B0.bytes, hml, B0.returns, atoms_spec (ws := wsX0_beginRun) B0.pre, findClass_of_methodNamed B0.named, B0.notSynchronized, hC, hA⟩ ho  h Z va_S.rf hl
theorem i_X0_change_0 : ∀ w ∈ wsX00, w ∈ wsX0_change := by decide +kernel
theorem k_X0_change_w0 : Cond.fieldLink RX0 9 "WarmProbes$Board" "settings" "[I" ∈ wsX0_change := by decide +kernel
set_option maxRecDepth 20000 in
set_option maxHeartbeats 4000000 in
theorem b_X0_change_9 (B : wx_B p s m args meth c cX0_change 4 (some .int) wsX0_change RX0 D ad ca A) {o : Nat}  (ho : o < 11) {r : Int32} {σ' : wx_St}  {x1 : Int32} {x2 : Int32} {σ : wx_St}  (h : f_X0_change_9 o x1 x2 σ = some (r, σ')) {H : Heap} {locs : List Loc} (Z : wx_Z D ad rd ca A σ H) (hS : va_S A s.heap H locs) {ls : Array Slot} (hl : lv_has ls 4 [(0, .ref (ad o 99)), (1, .int x1), (2, .int x2)]) : W p l e ({ frames := 1, cells := 0, slots := 0, locals := 21 } : Room) s m args below meth c H locs 0 0 (MQ below (wx_Q D ad rd ca A (some (.int r)) σ') args s 0 0 A) (F0 m 9 ls []) := by
  obtain ⟨hx, hb, hml, hr, hts, hown, hlk, hC, hA⟩ := id B
  unfold f_X0_change_9 at h
  refine lv_bipush (v := (-2)) hx hb dX0_change_9 (by decide) ?_
  obtain ⟨rfl, rfl⟩ := wx_ret_ok h
  exact W.iret hx hb hr (fun t ht hW => ⟨rfl, by rw [ht]; exact Z, hS.F ht⟩) hS.2.2 dX0_change_11
set_option maxRecDepth 20000 in
set_option maxHeartbeats 4000000 in
theorem b_X0_change_30 (B : wx_B p s m args meth c cX0_change 4 (some .int) wsX0_change RX0 D ad ca A) {o : Nat}  (ho : o < 11) {r : Int32} {σ' : wx_St}  {x1 : Int32} {x2 : Int32} {σ : wx_St}  (h : f_X0_change_30 o x1 x2 σ = some (r, σ')) {H : Heap} {locs : List Loc} (Z : wx_Z D ad rd ca A σ H) (hS : va_S A s.heap H locs) {ls : Array Slot} (hl : lv_has ls 4 [(0, .ref (ad o 99)), (1, .int x1), (2, .int x2)]) : W p l e ({ frames := 1, cells := 0, slots := 0, locals := 21 } : Room) s m args below meth c H locs 0 0 (MQ below (wx_Q D ad rd ca A (some (.int r)) σ') args s 0 0 A) (F0 m 30 ls []) := by
  obtain ⟨hx, hb, hml, hr, hts, hown, hlk, hC, hA⟩ := id B
  unfold f_X0_change_30 at h
  refine lv_bipush (v := (-2)) hx hb dX0_change_30 (by decide) ?_
  obtain ⟨rfl, rfl⟩ := wx_ret_ok h
  exact W.iret hx hb hr (fun t ht hW => ⟨rfl, by rw [ht]; exact Z, hS.F ht⟩) hS.2.2 dX0_change_32
set_option maxRecDepth 20000 in
set_option maxHeartbeats 4000000 in
theorem b_X0_change_56 (B : wx_B p s m args meth c cX0_change 4 (some .int) wsX0_change RX0 D ad ca A) {o : Nat}  (ho : o < 11) {r : Int32} {σ' : wx_St}  {x1 : Int32} {x2 : Int32} {x3 : Int32} {σ : wx_St}  (h : f_X0_change_56 o x1 x2 x3 σ = some (r, σ')) {H : Heap} {locs : List Loc} (Z : wx_Z D ad rd ca A σ H) (hS : va_S A s.heap H locs) {ls : Array Slot} (hl : lv_has ls 4 [(0, .ref (ad o 99)), (1, .int x1), (2, .int x2), (3, .int x3)]) : W p l e ({ frames := 1, cells := 0, slots := 0, locals := 21 } : Room) s m args below meth c H locs 0 0 (MQ below (wx_Q D ad rd ca A (some (.int r)) σ') args s 0 0 A) (F0 m 56 ls []) := by
  obtain ⟨hx, hb, hml, hr, hts, hown, hlk, hC, hA⟩ := id B
  unfold f_X0_change_56 at h
  refine lv_iload_n hx hb dX0_change_56 rfl (lv_at hl 3 rfl) ?_
  obtain ⟨rfl, rfl⟩ := wx_ret_ok h
  exact W.iret hx hb hr (fun t ht hW => ⟨rfl, by rw [ht]; exact Z, hS.F ht⟩) hS.2.2 dX0_change_57
set_option maxRecDepth 20000 in
set_option maxHeartbeats 4000000 in
theorem b_X0_change_0 (B : wx_B p s m args meth c cX0_change 4 (some .int) wsX0_change RX0 D ad ca A) {o : Nat}  (ho : o < 11) {r : Int32} {σ' : wx_St}  {x1 : Int32} {x2 : Int32} {σ : wx_St}  (h : f_X0_change o x1 x2 σ = some (r, σ')) {H : Heap} {locs : List Loc} (Z : wx_Z D ad rd ca A σ H) (hS : va_S A s.heap H locs) {ls : Array Slot} (hl : lv_has ls 4 [(0, .ref (ad o 99)), (1, .int x1), (2, .int x2)]) : W p l e ({ frames := 1, cells := 0, slots := 0, locals := 21 } : Room) s m args below meth c H locs 0 0 (MQ below (wx_Q D ad rd ca A (some (.int r)) σ') args s 0 0 A) (F0 m 0 ls []) := by
  obtain ⟨hx, hb, hml, hr, hts, hown, hlk, hC, hA⟩ := id B
  unfold f_X0_change at h
  refine lv_iload_n hx hb dX0_change_0 rfl (lv_at hl 1 rfl) ?_
  refine lv_if_lt (tgt := 9) hx hb dX0_change_1 (by decide) (fun c1 => ?_) (fun c1 => ?_)
  · replace h := wx_ift c1 h
    exact b_X0_change_9 B ho h Z hS (lv_sub hl [0, 1, 2] rfl)
  · replace h := wx_iff c1 h
    refine lv_iload_n hx hb dX0_change_4 rfl (lv_at hl 1 rfl) ?_
    refine lv_iconst (v := 4) hx hb dX0_change_5 (by decide) ?_
    refine lv_icmp_lt (tgt := 12) hx hb dX0_change_6 (by decide) (fun c6 => ?_) (fun c6 => ?_)
    · replace h := wx_ift c6 h
      refine lv_iload_n hx hb dX0_change_12 rfl (lv_at hl 2 rfl) ?_
      refine va_getsN (own := RX0) hx hb hC.2.1.1.2.1 hS hown (wx_nst hC 30 rfl rfl) (fun _ h9 => h9) dX0_change_13 ?_
      refine lv_iload_n hx hb dX0_change_16 rfl (lv_at hl 1 rfl) ?_
      obtain ⟨v17, ev17, iv17, h⟩ := wx_rT_ok h
      refine va_ti hx hb hC.2.1.2.1.2.1 hS (wx_in_vp iv17) (v := .int v17) (by rw [ev17]) dX0_change_17 ?_
      refine lv_icmp_lt (tgt := 30) hx hb dX0_change_18 (by decide) (fun c18 => ?_) (fun c18 => ?_)
      · replace h := wx_ift c18 h
        exact b_X0_change_30 B ho h Z hS (lv_sub hl [0, 1, 2] rfl)
      · replace h := wx_iff c18 h
        refine lv_iload_n hx hb dX0_change_21 rfl (lv_at hl 2 rfl) ?_
        refine va_getsN (own := RX0) hx hb hC.2.1.1.2.2 hS hown (wx_nst hC 31 rfl rfl) (fun _ h9 => h9) dX0_change_22 ?_
        refine lv_iload_n hx hb dX0_change_25 rfl (lv_at hl 1 rfl) ?_
        obtain ⟨v26, ev26, iv26, h⟩ := wx_rT_ok h
        refine va_ti hx hb hC.2.1.2.1.2.2 hS (wx_in_vp iv26) (v := .int v26) (by rw [ev26]) dX0_change_26 ?_
        refine lv_icmp_le (tgt := 33) hx hb dX0_change_27 (by decide) (fun c27 => ?_) (fun c27 => ?_)
        · replace h := wx_ift c27 h
          refine lv_aload_n hx hb dX0_change_33 rfl (lv_at hl 0 rfl) ?_
          refine wx_get (own := RX0) hx hb hts i_X0_change_0 hown hC.1 Z (o := o) (ci := 0) (wx_sbo ho 99) (rfl : vwCl[0]? = some (RX0, TX0, 13)) 0 (by decide) (hts _ k_X0_change_w0) (fun _ h9 => h9) (f := 0) rfl rfl dX0_change_34 ?_
          refine lv_iload_n hx hb dX0_change_37 rfl (lv_at hl 1 rfl) ?_
          obtain ⟨v38, ev38, iv38, h⟩ := wx_rI_ok h
          refine wx_iald hx hb hC.1 Z (o := o) (k := 0) (n := 4) (wx_sbo ho 0) rfl iv38 dX0_change_38 ev38 ?_
          refine lv_istore_n (lv' := [(3, .int v38), (0, .ref (ad o 99)), (1, .int x1), (2, .int x2)]) hx hb dX0_change_39 rfl hl (by decide) rfl (fun ls hl => ?_)
          refine lv_aload_n hx hb dX0_change_40 rfl (lv_at hl 1 rfl) ?_
          refine wx_get (own := RX0) hx hb hts i_X0_change_0 hown hC.1 Z (o := o) (ci := 0) (wx_sbo ho 99) (rfl : vwCl[0]? = some (RX0, TX0, 13)) 0 (by decide) (hts _ k_X0_change_w0) (fun _ h9 => h9) (f := 0) rfl rfl dX0_change_41 ?_
          refine lv_iload_n hx hb dX0_change_44 rfl (lv_at hl 2 rfl) ?_
          refine lv_iload_n hx hb dX0_change_45 rfl (lv_at hl 3 rfl) ?_
          obtain ⟨σ46, e46, i46, h⟩ := wx_w_ok h
          refine wx_iast hx hb hC.1 Z hS (o := o) (k := 0) (n := 4) (wx_sbo ho 0) rfl i46 dX0_change_46 e46 (fun H locs Z hS => ?_)
          refine lv_iload_n hx hb dX0_change_47 rfl (lv_at hl 2 rfl) ?_
          refine lv_iconst (v := 3) hx hb dX0_change_48 (by decide) ?_
          refine lv_icmp_eq (tgt := 56) hx hb dX0_change_49 (by decide) (fun c49 => ?_) (fun c49 => ?_)
          · replace h := wx_ift c49 h
            exact b_X0_change_56 B ho h Z hS (lv_sub hl [1, 2, 3, 0] rfl)
          · replace h := wx_iff c49 h
            refine lv_aload_n hx hb dX0_change_52 rfl (lv_at hl 1 rfl) ?_
            obtain ⟨v53, σ53, hc53, h⟩ := wx_b_ok h
            refine wx_call (va_runV (As := []) (rest := []) ⟨hx, hb, hml, hown, hts⟩ (c_X0_beginRun l (D := D) (ad := ad) (rd := rd) (ca := ca) (A := A) (σ := σ46) (o := o) ho hc53) (cwV 0 hts gX0_change_X0_beginRun rfl rfl rfl (by decide +kernel) ⟨Nat.le_of_ble_eq_true rfl, Nat.le_of_ble_eq_true rfl⟩) (wx_preV hC Z hS hA (wx_sbo ho 99) (rfl : vwCl[0]? = some (RX0, TX0, 13))) rfl rfl hl.1 rfl (lv_room (Nat.le_of_ble_eq_true rfl)) dX0_change_53 ⟨Nat.zero_le _, Nat.zero_le _⟩) hS (fun H locs Z hS => ?_)
            exact b_X0_change_56 B ho h Z hS (lv_sub hl [1, 2, 3, 0] rfl)
        · replace h := wx_iff c27 h
          exact b_X0_change_30 B ho h Z hS (lv_sub hl [0, 1, 2] rfl)
    · replace h := wx_iff c6 h
      exact b_X0_change_9 B ho h Z hS (lv_sub hl [0, 1, 2] rfl)
set_option maxRecDepth 20000 in
theorem c_X0_change (l : Launch) {D : va_G} {ad : Nat → Nat → Nat} {rd : Nat → Nat} {ca : Nat → ClassId} {A : Nat → Prop} {σ : wx_St} {o : Nat}  (ho : o < 11) {x1 : Int32} {x2 : Int32} {r : Int32} {σ' : wx_St} (h : f_X0_change o x1 x2 σ = some (r, σ')) : wx_M l yX0_change wsX0_change 1 21 D ad rd ca A [.ref (ad o 99), .int x1, .int x2] σ (some (.int r)) σ' := by
  refine Met.ofW (cc := cX0_change) (maxL := 4) (ret := (some .int)) (by decide +kernel) rfl ?_
  intro p e s m args below meth c s₁ B0 hml hv
  obtain ⟨rfl, hC, Z, hA⟩ := hv
  have hl := lv_entry ([.ref (ad o 99), .int x1, .int x2]) (n := 4) (Nat.le_of_ble_eq_true rfl)
  rw [lg_entry_eq]
  generalize (lg_sl ([.ref (ad o 99), .int x1, .int x2]) ++ List.replicate (4 - (lg_sl ([.ref (ad o 99), .int x1, .int x2])).length) Slot.unset).toArray = ls at hl ⊢
  exact b_X0_change_0 ⟨B0.exec, B0.bytes, hml, B0.returns, atoms_spec (ws := wsX0_change) B0.pre, findClass_of_methodNamed B0.named, B0.notSynchronized, hC, hA⟩ ho  h Z va_S.rf hl
set_option maxRecDepth 20000 in
set_option maxHeartbeats 4000000 in
theorem b_X5_neighbourOf_43 (B : wx_B p s m args meth c cX5_neighbourOf 2 (some .int) wsX5_neighbourOf RX5 D ad ca A)    {r : Int32} {σ : wx_St}  {x0 : Int32} {x1 : Int32} {y0 : Int32}   (h : f_X5_neighbourOf_43 x0 x1 y0 = some r) {H : Heap} {locs : List Loc} (Z : wx_Z D ad rd ca A σ H) (hS : va_S A s.heap H locs) {ls : Array Slot} (hl : lv_has ls 2 [(0, .int x0), (1, .int x1)]) : W p l e ({ frames := 0, cells := 0, slots := 0, locals := 0 } : Room) s m args below meth c H locs 0 0 (MQ below (wx_Q D ad rd ca A (some (.int r)) σ) args s 0 0 A) (F0 m 43 ls [.int y0]) := by
  obtain ⟨hx, hb, hml, hr, hts, hown, hlk, hC, hA⟩ := id B
  unfold f_X5_neighbourOf_43 at h
  obtain rfl := Option.some.inj h
  exact W.iret hx hb hr (fun t ht hW => ⟨rfl, by rw [ht]; exact Z, hS.F ht⟩) hS.2.2 dX5_neighbourOf_43
set_option maxRecDepth 20000 in
set_option maxHeartbeats 4000000 in
theorem b_X5_neighbourOf_59 (B : wx_B p s m args meth c cX5_neighbourOf 2 (some .int) wsX5_neighbourOf RX5 D ad ca A)    {r : Int32} {σ : wx_St}  {x0 : Int32} {x1 : Int32} {y0 : Int32}   (h : f_X5_neighbourOf_59 x0 x1 y0 = some r) {H : Heap} {locs : List Loc} (Z : wx_Z D ad rd ca A σ H) (hS : va_S A s.heap H locs) {ls : Array Slot} (hl : lv_has ls 2 [(0, .int x0), (1, .int x1)]) : W p l e ({ frames := 0, cells := 0, slots := 0, locals := 0 } : Room) s m args below meth c H locs 0 0 (MQ below (wx_Q D ad rd ca A (some (.int r)) σ) args s 0 0 A) (F0 m 59 ls [.int y0]) := by
  obtain ⟨hx, hb, hml, hr, hts, hown, hlk, hC, hA⟩ := id B
  unfold f_X5_neighbourOf_59 at h
  obtain rfl := Option.some.inj h
  exact W.iret hx hb hr (fun t ht hW => ⟨rfl, by rw [ht]; exact Z, hS.F ht⟩) hS.2.2 dX5_neighbourOf_59
set_option maxRecDepth 20000 in
set_option maxHeartbeats 4000000 in
theorem b_X5_neighbourOf_75 (B : wx_B p s m args meth c cX5_neighbourOf 2 (some .int) wsX5_neighbourOf RX5 D ad ca A)    {r : Int32} {σ : wx_St}  {x0 : Int32} {x1 : Int32} {y0 : Int32}   (h : f_X5_neighbourOf_75 x0 x1 y0 = some r) {H : Heap} {locs : List Loc} (Z : wx_Z D ad rd ca A σ H) (hS : va_S A s.heap H locs) {ls : Array Slot} (hl : lv_has ls 2 [(0, .int x0), (1, .int x1)]) : W p l e ({ frames := 0, cells := 0, slots := 0, locals := 0 } : Room) s m args below meth c H locs 0 0 (MQ below (wx_Q D ad rd ca A (some (.int r)) σ) args s 0 0 A) (F0 m 75 ls [.int y0]) := by
  obtain ⟨hx, hb, hml, hr, hts, hown, hlk, hC, hA⟩ := id B
  unfold f_X5_neighbourOf_75 at h
  obtain rfl := Option.some.inj h
  exact W.iret hx hb hr (fun t ht hW => ⟨rfl, by rw [ht]; exact Z, hS.F ht⟩) hS.2.2 dX5_neighbourOf_75
set_option maxRecDepth 20000 in
set_option maxHeartbeats 4000000 in
theorem b_X5_neighbourOf_93 (B : wx_B p s m args meth c cX5_neighbourOf 2 (some .int) wsX5_neighbourOf RX5 D ad ca A)    {r : Int32} {σ : wx_St}  {x0 : Int32} {x1 : Int32} {y0 : Int32}   (h : f_X5_neighbourOf_93 x0 x1 y0 = some r) {H : Heap} {locs : List Loc} (Z : wx_Z D ad rd ca A σ H) (hS : va_S A s.heap H locs) {ls : Array Slot} (hl : lv_has ls 2 [(0, .int x0), (1, .int x1)]) : W p l e ({ frames := 0, cells := 0, slots := 0, locals := 0 } : Room) s m args below meth c H locs 0 0 (MQ below (wx_Q D ad rd ca A (some (.int r)) σ) args s 0 0 A) (F0 m 93 ls [.int y0]) := by
  obtain ⟨hx, hb, hml, hr, hts, hown, hlk, hC, hA⟩ := id B
  unfold f_X5_neighbourOf_93 at h
  obtain rfl := Option.some.inj h
  exact W.iret hx hb hr (fun t ht hW => ⟨rfl, by rw [ht]; exact Z, hS.F ht⟩) hS.2.2 dX5_neighbourOf_93
set_option maxRecDepth 20000 in
set_option maxHeartbeats 4000000 in
theorem b_X5_neighbourOf_0 (B : wx_B p s m args meth c cX5_neighbourOf 2 (some .int) wsX5_neighbourOf RX5 D ad ca A)    {r : Int32} {σ : wx_St}  {x0 : Int32} {x1 : Int32}   (h : f_X5_neighbourOf x0 x1 = some r) {H : Heap} {locs : List Loc} (Z : wx_Z D ad rd ca A σ H) (hS : va_S A s.heap H locs) {ls : Array Slot} (hl : lv_has ls 2 [(0, .int x0), (1, .int x1)]) : W p l e ({ frames := 0, cells := 0, slots := 0, locals := 0 } : Room) s m args below meth c H locs 0 0 (MQ below (wx_Q D ad rd ca A (some (.int r)) σ) args s 0 0 A) (F0 m 0 ls []) := by
  obtain ⟨hx, hb, hml, hr, hts, hown, hlk, hC, hA⟩ := id B
  unfold f_X5_neighbourOf at h
  refine lv_iload_n hx hb dX5_neighbourOf_0 rfl (lv_at hl 1 rfl) ?_
  by_cases c1_0 : x1 = 0
  · replace h := wx_ift c1_0 h
    refine lv_tableIn (off := 27) (tgt := 28) hx hb dX5_neighbourOf_1 (by rw [c1_0]; decide) (by rw [c1_0]; decide) (by rw [c1_0]; rfl) (by decide) ?_
    refine lv_iload_n hx hb dX5_neighbourOf_28 rfl (lv_at hl 0 rfl) ?_
    refine lv_bipush (v := 8) hx hb dX5_neighbourOf_29 (by decide) ?_
    refine lv_icmp_lt (tgt := 41) hx hb dX5_neighbourOf_31 (by decide) (fun c31 => ?_) (fun c31 => ?_)
    · replace h := wx_ift c31 h
      refine lv_bipush (v := (-6)) hx hb dX5_neighbourOf_41 (by decide) ?_
      exact b_X5_neighbourOf_43 B h Z hS (lv_sub hl [0, 1] rfl)
    · replace h := wx_iff c31 h
      refine lv_iload_n hx hb dX5_neighbourOf_34 rfl (lv_at hl 0 rfl) ?_
      refine lv_bipush (v := 8) hx hb dX5_neighbourOf_35 (by decide) ?_
      refine lv_isub hx hb dX5_neighbourOf_37 ?_
      refine lv_goto (tgt := 43) hx hb dX5_neighbourOf_38 (by decide) ?_
      exact b_X5_neighbourOf_43 B h Z hS (lv_sub hl [0, 1] rfl)
  · replace h := wx_iff c1_0 h
    by_cases c1_1 : x1 = 1
    · replace h := wx_ift c1_1 h
      refine lv_tableIn (off := 43) (tgt := 44) hx hb dX5_neighbourOf_1 (by rw [c1_1]; decide) (by rw [c1_1]; decide) (by rw [c1_1]; rfl) (by decide) ?_
      refine lv_iload_n hx hb dX5_neighbourOf_44 rfl (lv_at hl 0 rfl) ?_
      refine lv_bipush (v := 56) hx hb dX5_neighbourOf_45 (by decide) ?_
      refine lv_icmp_ge (tgt := 57) hx hb dX5_neighbourOf_47 (by decide) (fun c47 => ?_) (fun c47 => ?_)
      · replace h := wx_ift c47 h
        refine lv_bipush (v := (-6)) hx hb dX5_neighbourOf_57 (by decide) ?_
        exact b_X5_neighbourOf_59 B h Z hS (lv_sub hl [0, 1] rfl)
      · replace h := wx_iff c47 h
        refine lv_iload_n hx hb dX5_neighbourOf_50 rfl (lv_at hl 0 rfl) ?_
        refine lv_bipush (v := 8) hx hb dX5_neighbourOf_51 (by decide) ?_
        refine lv_iadd hx hb dX5_neighbourOf_53 ?_
        refine lv_goto (tgt := 59) hx hb dX5_neighbourOf_54 (by decide) ?_
        exact b_X5_neighbourOf_59 B h Z hS (lv_sub hl [0, 1] rfl)
    · replace h := wx_iff c1_1 h
      by_cases c1_2 : x1 = 2
      · replace h := wx_ift c1_2 h
        refine lv_tableIn (off := 59) (tgt := 60) hx hb dX5_neighbourOf_1 (by rw [c1_2]; decide) (by rw [c1_2]; decide) (by rw [c1_2]; rfl) (by decide) ?_
        refine lv_iload_n hx hb dX5_neighbourOf_60 rfl (lv_at hl 0 rfl) ?_
        refine lv_bipush (v := 8) hx hb dX5_neighbourOf_61 (by decide) ?_
        refine lv_irem hx hb dX5_neighbourOf_63 (by decide) ?_
        refine lv_if_le (tgt := 73) hx hb dX5_neighbourOf_64 (by decide) (fun c64 => ?_) (fun c64 => ?_)
        · replace h := wx_ift c64 h
          refine lv_bipush (v := (-6)) hx hb dX5_neighbourOf_73 (by decide) ?_
          exact b_X5_neighbourOf_75 B h Z hS (lv_sub hl [0, 1] rfl)
        · replace h := wx_iff c64 h
          refine lv_iload_n hx hb dX5_neighbourOf_67 rfl (lv_at hl 0 rfl) ?_
          refine lv_iconst (v := 1) hx hb dX5_neighbourOf_68 (by decide) ?_
          refine lv_isub hx hb dX5_neighbourOf_69 ?_
          refine lv_goto (tgt := 75) hx hb dX5_neighbourOf_70 (by decide) ?_
          exact b_X5_neighbourOf_75 B h Z hS (lv_sub hl [0, 1] rfl)
      · replace h := wx_iff c1_2 h
        have n1_0 := wx_ni c1_0
        have n1_1 := wx_ni c1_1
        have n1_2 := wx_ni c1_2
        rw [show (0 : Int32).toInt = 0 from by decide] at n1_0
        rw [show (1 : Int32).toInt = 1 from by decide] at n1_1
        rw [show (2 : Int32).toInt = 2 from by decide] at n1_2
        refine lv_tableOut (tgt := 76) hx hb dX5_neighbourOf_1 (by omega) (by decide) ?_
        refine lv_iload_n hx hb dX5_neighbourOf_76 rfl (lv_at hl 0 rfl) ?_
        refine lv_bipush (v := 8) hx hb dX5_neighbourOf_77 (by decide) ?_
        refine lv_irem hx hb dX5_neighbourOf_79 (by decide) ?_
        refine lv_bipush (v := 7) hx hb dX5_neighbourOf_80 (by decide) ?_
        refine lv_icmp_ge (tgt := 91) hx hb dX5_neighbourOf_82 (by decide) (fun c82 => ?_) (fun c82 => ?_)
        · replace h := wx_ift c82 h
          refine lv_bipush (v := (-6)) hx hb dX5_neighbourOf_91 (by decide) ?_
          exact b_X5_neighbourOf_93 B h Z hS (lv_sub hl [0, 1] rfl)
        · replace h := wx_iff c82 h
          refine lv_iload_n hx hb dX5_neighbourOf_85 rfl (lv_at hl 0 rfl) ?_
          refine lv_iconst (v := 1) hx hb dX5_neighbourOf_86 (by decide) ?_
          refine lv_iadd hx hb dX5_neighbourOf_87 ?_
          refine lv_goto (tgt := 93) hx hb dX5_neighbourOf_88 (by decide) ?_
          exact b_X5_neighbourOf_93 B h Z hS (lv_sub hl [0, 1] rfl)
set_option maxRecDepth 20000 in
theorem c_X5_neighbourOf (l : Launch) {D : va_G} {ad : Nat → Nat → Nat} {rd : Nat → Nat} {ca : Nat → ClassId} {A : Nat → Prop} {σ : wx_St}    {x0 : Int32} {x1 : Int32} {r : Int32} (h : f_X5_neighbourOf x0 x1 = some r) : wx_M l yX5_neighbourOf wsX5_neighbourOf 0 0 D ad rd ca A [.int x0, .int x1] σ (some (.int r)) σ := by
  refine Met.ofW (cc := cX5_neighbourOf) (maxL := 2) (ret := (some .int)) (by decide +kernel) rfl ?_
  intro p e s m args below meth c s₁ B0 hml hv
  obtain ⟨rfl, hC, Z, hA⟩ := hv
  have hl := lv_entry ([.int x0, .int x1]) (n := 2) (Nat.le_of_ble_eq_true rfl)
  rw [lg_entry_eq]
  generalize (lg_sl ([.int x0, .int x1]) ++ List.replicate (2 - (lg_sl ([.int x0, .int x1])).length) Slot.unset).toArray = ls at hl ⊢
  exact b_X5_neighbourOf_0 ⟨B0.exec, B0.bytes, hml, B0.returns, atoms_spec (ws := wsX5_neighbourOf) B0.pre, findClass_of_methodNamed B0.named, B0.notSynchronized, hC, hA⟩   h Z va_S.rf hl
theorem i_X0_hasNeighbourOf_0 : ∀ w ∈ wsX00, w ∈ wsX0_hasNeighbourOf := by decide +kernel
theorem k_X0_hasNeighbourOf_w0 : Cond.initialized RX5 ∈ wsX0_hasNeighbourOf := by decide +kernel
theorem k_X0_hasNeighbourOf_w1 : Cond.static yX5_neighbourOf ∈ wsX0_hasNeighbourOf := by decide +kernel
theorem k_X0_hasNeighbourOf_w2 : Cond.fieldLink RX0 15 "WarmProbes$Board" "nets" "[I" ∈ wsX0_hasNeighbourOf := by decide +kernel
set_option maxRecDepth 20000 in
set_option maxHeartbeats 4000000 in
theorem b_X0_hasNeighbourOf_32 (B : wx_B p s m args meth c cX0_hasNeighbourOf 5 (some .boolean) wsX0_hasNeighbourOf RX0 D ad ca A) {o : Nat}  (ho : o < 11) {r : Int32} {σ : wx_St} {K2 : Int32 → Int32 → Int32 → wx_St → Option Int32} (hK2 : ∀ {x1 : Int32} {x2 : Int32} {x3 : Int32}   (h : K2 x1 x2 x3 σ = some r) {H : Heap} {locs : List Loc} (Z : wx_Z D ad rd ca A σ H) (hS : va_S A s.heap H locs) {ls : Array Slot} (hl : lv_has ls 5 [(0, .ref (ad o 99)), (1, .int x1), (2, .int x2), (3, .int x3)]), W p l e ({ frames := 1, cells := 0, slots := 0, locals := 21 } : Room) s m args below meth c H locs 0 0 (MQ below (wx_Q D ad rd ca A (some (.int r)) σ) args s 0 0 A) (F0 m 2 ls [])) {x1 : Int32} {x2 : Int32} {x3 : Int32} {x4 : Int32}   (h : f_X0_hasNeighbourOf_32 o K2 x1 x2 x3 x4 σ = some r) {H : Heap} {locs : List Loc} (Z : wx_Z D ad rd ca A σ H) (hS : va_S A s.heap H locs) {ls : Array Slot} (hl : lv_has ls 5 [(0, .ref (ad o 99)), (1, .int x1), (2, .int x2), (3, .int x3), (4, .int x4)]) : W p l e ({ frames := 1, cells := 0, slots := 0, locals := 21 } : Room) s m args below meth c H locs 0 0 (MQ below (wx_Q D ad rd ca A (some (.int r)) σ) args s 0 0 A) (F0 m 32 ls []) := by
  obtain ⟨hx, hb, hml, hr, hts, hown, hlk, hC, hA⟩ := id B
  unfold f_X0_hasNeighbourOf_32 at h
  refine lv_iinc (v := x3 + 1) (lv' := [(3, .int (x3 + 1)), (0, .ref (ad o 99)), (1, .int x1), (2, .int x2), (4, .int x4)]) hx hb dX0_hasNeighbourOf_32 hl (k := 3) rfl rfl (by decide) rfl (fun ls hl => ?_)
  refine lv_goto (tgt := 2) hx hb dX0_hasNeighbourOf_35 (by decide) ?_
  exact hK2 h Z hS (lv_sub hl [1, 2, 3, 0] rfl)
set_option maxRecDepth 20000 in
set_option maxHeartbeats 4000000 in
theorem b_X0_hasNeighbourOf_2 (B : wx_B p s m args meth c cX0_hasNeighbourOf 5 (some .boolean) wsX0_hasNeighbourOf RX0 D ad ca A) {o : Nat}  (ho : o < 11) {r : Int32} {σ : wx_St}   :
    ∀ {n : Nat} {x1 : Int32} {x2 : Int32} {x3 : Int32}   (h : f_X0_hasNeighbourOf_2 o n x1 x2 x3 σ = some r) {H : Heap} {locs : List Loc} (Z : wx_Z D ad rd ca A σ H) (hS : va_S A s.heap H locs) {ls : Array Slot} (hl : lv_has ls 5 [(0, .ref (ad o 99)), (1, .int x1), (2, .int x2), (3, .int x3)]), W p l e ({ frames := 1, cells := 0, slots := 0, locals := 21 } : Room) s m args below meth c H locs 0 0 (MQ below (wx_Q D ad rd ca A (some (.int r)) σ) args s 0 0 A) (F0 m 2 ls []) := by
  obtain ⟨hx, hb, hml, hr, hts, hown, hlk, hC, hA⟩ := id B
  intro n
  induction n with
  | zero => intro x1 x2 x3   h H locs Z hS ls hl; exact wx_no h
  | succ n ih =>
    intro x1 x2 x3   h H locs Z hS ls hl
    rw [f_X0_hasNeighbourOf_2] at h
    refine lv_iload_n hx hb dX0_hasNeighbourOf_2 rfl (lv_at hl 3 rfl) ?_
    refine lv_iconst (v := 4) hx hb dX0_hasNeighbourOf_3 (by decide) ?_
    refine lv_icmp_ge (tgt := 38) hx hb dX0_hasNeighbourOf_4 (by decide) (fun c4 => ?_) (fun c4 => ?_)
    · replace h := wx_ift c4 h
      refine lv_iconst (v := 0) hx hb dX0_hasNeighbourOf_38 (by decide) ?_
      obtain rfl := Option.some.inj h
      exact W.zret hx hb hr rfl (fun t ht hW => ⟨rfl, by rw [ht]; exact Z, hS.F ht⟩) hS.2.2 dX0_hasNeighbourOf_39
    · replace h := wx_iff c4 h
      refine lv_iload_n hx hb dX0_hasNeighbourOf_7 rfl (lv_at hl 1 rfl) ?_
      refine lv_iload_n hx hb dX0_hasNeighbourOf_8 rfl (lv_at hl 3 rfl) ?_
      obtain ⟨v9, hc9, h⟩ := wx_o_ok h
      refine wx_call (va_runSN (As := [.int x1, .int x3]) (rest := []) ⟨hx, hb, hml, hown, hts⟩ (c_X5_neighbourOf l (D := D) (ad := ad) (rd := rd) (ca := ca) (A := A) (σ := σ) hc9) ⟨va_cnB 2 hts gX0_hasNeighbourOf_X5_neighbourOf_n93 rfl rfl rfl (hC.1.2.1 _ (List.mem_of_getElem? (i := 38) rfl)) (hts _ k_X0_hasNeighbourOf_w0) (by decide +kernel) ⟨Nat.le_of_ble_eq_true rfl, Nat.le_of_ble_eq_true rfl⟩, hts _ k_X0_hasNeighbourOf_w1, trivial⟩ (wx_preS hC Z hS hA) rfl rfl hl.1 rfl (lv_room (Nat.le_of_ble_eq_true rfl)) dX0_hasNeighbourOf_9 ⟨Nat.zero_le _, Nat.zero_le _⟩) hS (fun H locs Z hS => ?_)
      refine lv_istore (lv' := [(4, .int v9), (0, .ref (ad o 99)), (1, .int x1), (2, .int x2), (3, .int x3)]) hx hb dX0_hasNeighbourOf_12 hl (by decide) rfl (fun ls hl => ?_)
      refine lv_iload hx hb dX0_hasNeighbourOf_14 (lv_at hl 0 rfl) ?_
      refine lv_if_lt (tgt := 32) hx hb dX0_hasNeighbourOf_16 (by decide) (fun c16 => ?_) (fun c16 => ?_)
      · replace h := wx_ift c16 h
        exact b_X0_hasNeighbourOf_32 B ho (K2 := (f_X0_hasNeighbourOf_2 o n)) @ih h Z hS (lv_sub hl [1, 2, 3, 4, 0] rfl)
      · replace h := wx_iff c16 h
        refine lv_aload_n hx hb dX0_hasNeighbourOf_19 rfl (lv_at hl 1 rfl) ?_
        refine wx_get (own := RX0) hx hb hts i_X0_hasNeighbourOf_0 hown hC.1 Z (o := o) (ci := 0) (wx_sbo ho 99) (rfl : vwCl[0]? = some (RX0, TX0, 13)) 1 (by decide) (hts _ k_X0_hasNeighbourOf_w2) (fun _ h9 => h9) (f := 0) rfl rfl dX0_hasNeighbourOf_20 ?_
        refine lv_iload hx hb dX0_hasNeighbourOf_23 (lv_at hl 0 rfl) ?_
        obtain ⟨v25, ev25, iv25, h⟩ := wx_rI_ok h
        refine wx_iald hx hb hC.1 Z (o := o) (k := 1) (n := 64) (wx_sbo ho 1) rfl iv25 dX0_hasNeighbourOf_25 ev25 ?_
        refine lv_iload_n hx hb dX0_hasNeighbourOf_26 rfl (lv_at hl 3 rfl) ?_
        refine lv_icmp_ne (tgt := 32) hx hb dX0_hasNeighbourOf_27 (by decide) (fun c27 => ?_) (fun c27 => ?_)
        · replace h := wx_iff c27 h
          exact b_X0_hasNeighbourOf_32 B ho (K2 := (f_X0_hasNeighbourOf_2 o n)) @ih h Z hS (lv_sub hl [1, 2, 3, 4, 0] rfl)
        · replace h := wx_ift c27 h
          refine lv_iconst (v := 1) hx hb dX0_hasNeighbourOf_30 (by decide) ?_
          obtain rfl := Option.some.inj h
          exact W.zret hx hb hr rfl (fun t ht hW => ⟨rfl, by rw [ht]; exact Z, hS.F ht⟩) hS.2.2 dX0_hasNeighbourOf_31
set_option maxRecDepth 20000 in
set_option maxHeartbeats 4000000 in
theorem b_X0_hasNeighbourOf_0 (B : wx_B p s m args meth c cX0_hasNeighbourOf 5 (some .boolean) wsX0_hasNeighbourOf RX0 D ad ca A) {o : Nat}  (ho : o < 11) {r : Int32} {σ : wx_St}  {x1 : Int32} {x2 : Int32}   (h : f_X0_hasNeighbourOf o x1 x2 σ = some r) {H : Heap} {locs : List Loc} (Z : wx_Z D ad rd ca A σ H) (hS : va_S A s.heap H locs) {ls : Array Slot} (hl : lv_has ls 5 [(0, .ref (ad o 99)), (1, .int x1), (2, .int x2)]) : W p l e ({ frames := 1, cells := 0, slots := 0, locals := 21 } : Room) s m args below meth c H locs 0 0 (MQ below (wx_Q D ad rd ca A (some (.int r)) σ) args s 0 0 A) (F0 m 0 ls []) := by
  obtain ⟨hx, hb, hml, hr, hts, hown, hlk, hC, hA⟩ := id B
  unfold f_X0_hasNeighbourOf at h
  refine lv_iconst (v := 0) hx hb dX0_hasNeighbourOf_0 (by decide) ?_
  refine lv_istore_n (lv' := [(3, .int 0), (0, .ref (ad o 99)), (1, .int x1), (2, .int x2)]) hx hb dX0_hasNeighbourOf_1 rfl hl (by decide) rfl (fun ls hl => ?_)
  exact b_X0_hasNeighbourOf_2 B ho h Z hS (lv_sub hl [1, 2, 3, 0] rfl)
set_option maxRecDepth 20000 in
theorem c_X0_hasNeighbourOf (l : Launch) {D : va_G} {ad : Nat → Nat → Nat} {rd : Nat → Nat} {ca : Nat → ClassId} {A : Nat → Prop} {σ : wx_St} {o : Nat}  (ho : o < 11) {x1 : Int32} {x2 : Int32} {r : Int32} (h : f_X0_hasNeighbourOf o x1 x2 σ = some r) : wx_M l yX0_hasNeighbourOf wsX0_hasNeighbourOf 1 21 D ad rd ca A [.ref (ad o 99), .int x1, .int x2] σ (some (.int r)) σ := by
  refine Met.ofW (cc := cX0_hasNeighbourOf) (maxL := 5) (ret := (some .boolean)) (by decide +kernel) rfl ?_
  intro p e s m args below meth c s₁ B0 hml hv
  obtain ⟨rfl, hC, Z, hA⟩ := hv
  have hl := lv_entry ([.ref (ad o 99), .int x1, .int x2]) (n := 5) (Nat.le_of_ble_eq_true rfl)
  rw [lg_entry_eq]
  generalize (lg_sl ([.ref (ad o 99), .int x1, .int x2]) ++ List.replicate (5 - (lg_sl ([.ref (ad o 99), .int x1, .int x2])).length) Slot.unset).toArray = ls at hl ⊢
  exact b_X0_hasNeighbourOf_0 ⟨B0.exec, B0.bytes, hml, B0.returns, atoms_spec (ws := wsX0_hasNeighbourOf) B0.pre, findClass_of_methodNamed B0.named, B0.notSynchronized, hC, hA⟩ ho  h Z va_S.rf hl
theorem i_X0_isFed_0 : ∀ w ∈ wsX00, w ∈ wsX0_isFed := by decide +kernel
theorem k_X0_isFed_w0 : Cond.fieldLink RX0 18 "WarmProbes$Board" "fed" "[I" ∈ wsX0_isFed := by decide +kernel
set_option maxRecDepth 20000 in
set_option maxHeartbeats 4000000 in
theorem b_X0_isFed_18 (B : wx_B p s m args meth c cX0_isFed 3 (some .boolean) wsX0_isFed RX0 D ad ca A) {o : Nat}  (ho : o < 11) {r : Int32} {σ : wx_St}  {x1 : Int32} {x2 : Int32} {y0 : Int32}   (h : f_X0_isFed_18 o x1 x2 y0 σ = some r) {H : Heap} {locs : List Loc} (Z : wx_Z D ad rd ca A σ H) (hS : va_S A s.heap H locs) {ls : Array Slot} (hl : lv_has ls 3 [(0, .ref (ad o 99)), (1, .int x1), (2, .int x2)]) : W p l e ({ frames := 0, cells := 0, slots := 0, locals := 0 } : Room) s m args below meth c H locs 0 0 (MQ below (wx_Q D ad rd ca A (some (.int r)) σ) args s 0 0 A) (F0 m 18 ls [.int y0]) := by
  obtain ⟨hx, hb, hml, hr, hts, hown, hlk, hC, hA⟩ := id B
  unfold f_X0_isFed_18 at h
  obtain ⟨hz, h⟩ := wx_z_ok h
  obtain rfl := Option.some.inj h
  exact W.zret hx hb hr (wx_nb hz) (fun t ht hW => ⟨rfl, by rw [ht]; exact Z, hS.F ht⟩) hS.2.2 dX0_isFed_18
set_option maxRecDepth 20000 in
set_option maxHeartbeats 4000000 in
theorem b_X0_isFed_0 (B : wx_B p s m args meth c cX0_isFed 3 (some .boolean) wsX0_isFed RX0 D ad ca A) {o : Nat}  (ho : o < 11) {r : Int32} {σ : wx_St}  {x1 : Int32} {x2 : Int32}   (h : f_X0_isFed o x1 x2 σ = some r) {H : Heap} {locs : List Loc} (Z : wx_Z D ad rd ca A σ H) (hS : va_S A s.heap H locs) {ls : Array Slot} (hl : lv_has ls 3 [(0, .ref (ad o 99)), (1, .int x1), (2, .int x2)]) : W p l e ({ frames := 0, cells := 0, slots := 0, locals := 0 } : Room) s m args below meth c H locs 0 0 (MQ below (wx_Q D ad rd ca A (some (.int r)) σ) args s 0 0 A) (F0 m 0 ls []) := by
  obtain ⟨hx, hb, hml, hr, hts, hown, hlk, hC, hA⟩ := id B
  unfold f_X0_isFed at h
  refine lv_aload_n hx hb dX0_isFed_0 rfl (lv_at hl 0 rfl) ?_
  refine wx_get (own := RX0) hx hb hts i_X0_isFed_0 hown hC.1 Z (o := o) (ci := 0) (wx_sbo ho 99) (rfl : vwCl[0]? = some (RX0, TX0, 13)) 2 (by decide) (hts _ k_X0_isFed_w0) (fun _ h9 => h9) (f := 0) rfl rfl dX0_isFed_1 ?_
  refine lv_iload_n hx hb dX0_isFed_4 rfl (lv_at hl 1 rfl) ?_
  obtain ⟨v5, ev5, iv5, h⟩ := wx_rI_ok h
  refine wx_iald hx hb hC.1 Z (o := o) (k := 2) (n := 8) (wx_sbo ho 2) rfl iv5 dX0_isFed_5 ev5 ?_
  refine lv_iload_n hx hb dX0_isFed_6 rfl (lv_at hl 2 rfl) ?_
  refine lv_iushr (v := (v5.toUInt32 >>> (x2.toUInt32 &&& Int32.toUInt32 31)).toInt32) hx hb dX0_isFed_7 rfl ?_
  refine lv_iconst (v := 1) hx hb dX0_isFed_8 (by decide) ?_
  refine lv_iand hx hb dX0_isFed_9 ?_
  refine lv_if_eq (tgt := 17) hx hb dX0_isFed_10 (by decide) (fun c10 => ?_) (fun c10 => ?_)
  · replace h := wx_ift c10 h
    refine lv_iconst (v := 0) hx hb dX0_isFed_17 (by decide) ?_
    exact b_X0_isFed_18 B ho h Z hS (lv_sub hl [0, 1, 2] rfl)
  · replace h := wx_iff c10 h
    refine lv_iconst (v := 1) hx hb dX0_isFed_13 (by decide) ?_
    refine lv_goto (tgt := 18) hx hb dX0_isFed_14 (by decide) ?_
    exact b_X0_isFed_18 B ho h Z hS (lv_sub hl [0, 1, 2] rfl)
set_option maxRecDepth 20000 in
theorem c_X0_isFed (l : Launch) {D : va_G} {ad : Nat → Nat → Nat} {rd : Nat → Nat} {ca : Nat → ClassId} {A : Nat → Prop} {σ : wx_St} {o : Nat}  (ho : o < 11) {x1 : Int32} {x2 : Int32} {r : Int32} (h : f_X0_isFed o x1 x2 σ = some r) : wx_M l yX0_isFed wsX0_isFed 0 0 D ad rd ca A [.ref (ad o 99), .int x1, .int x2] σ (some (.int r)) σ := by
  refine Met.ofW (cc := cX0_isFed) (maxL := 3) (ret := (some .boolean)) (by decide +kernel) rfl ?_
  intro p e s m args below meth c s₁ B0 hml hv
  obtain ⟨rfl, hC, Z, hA⟩ := hv
  have hl := lv_entry ([.ref (ad o 99), .int x1, .int x2]) (n := 3) (Nat.le_of_ble_eq_true rfl)
  rw [lg_entry_eq]
  generalize (lg_sl ([.ref (ad o 99), .int x1, .int x2]) ++ List.replicate (3 - (lg_sl ([.ref (ad o 99), .int x1, .int x2])).length) Slot.unset).toArray = ls at hl ⊢
  exact b_X0_isFed_0 ⟨B0.exec, B0.bytes, hml, B0.returns, atoms_spec (ws := wsX0_isFed) B0.pre, findClass_of_methodNamed B0.named, B0.notSynchronized, hC, hA⟩ ho  h Z va_S.rf hl
theorem i_X0_isLive_0 : ∀ w ∈ wsX00, w ∈ wsX0_isLive := by decide +kernel
theorem k_X0_isLive_w0 : Cond.fieldLink RX0 15 "WarmProbes$Board" "nets" "[I" ∈ wsX0_isLive := by decide +kernel
theorem k_X0_isLive_w1 : Cond.fieldLink RX0 25 "WarmProbes$Board" "touchPlaces" "[I" ∈ wsX0_isLive := by decide +kernel
theorem k_X0_isLive_w2 : Cond.fieldLink RX0 28 "WarmProbes$Board" "touchOthers" "[I" ∈ wsX0_isLive := by decide +kernel
set_option maxRecDepth 20000 in
set_option maxHeartbeats 4000000 in
theorem b_X0_isLive_0 (B : wx_B p s m args meth c cX0_isLive 2 (some .boolean) wsX0_isLive RX0 D ad ca A) {o : Nat}  (ho : o < 11) {r : Int32} {σ : wx_St}  {x1 : Int32}   (h : f_X0_isLive o x1 σ = some r) {H : Heap} {locs : List Loc} (Z : wx_Z D ad rd ca A σ H) (hS : va_S A s.heap H locs) {ls : Array Slot} (hl : lv_has ls 2 [(0, .ref (ad o 99)), (1, .int x1)]) : W p l e ({ frames := 1, cells := 0, slots := 0, locals := 22 } : Room) s m args below meth c H locs 0 0 (MQ below (wx_Q D ad rd ca A (some (.int r)) σ) args s 0 0 A) (F0 m 0 ls []) := by
  obtain ⟨hx, hb, hml, hr, hts, hown, hlk, hC, hA⟩ := id B
  unfold f_X0_isLive at h
  refine lv_aload_n hx hb dX0_isLive_0 rfl (lv_at hl 0 rfl) ?_
  refine lv_aload_n hx hb dX0_isLive_1 rfl (lv_at hl 0 rfl) ?_
  refine wx_get (own := RX0) hx hb hts i_X0_isLive_0 hown hC.1 Z (o := o) (ci := 0) (wx_sbo ho 99) (rfl : vwCl[0]? = some (RX0, TX0, 13)) 1 (by decide) (hts _ k_X0_isLive_w0) (fun _ h9 => h9) (f := 0) rfl rfl dX0_isLive_2 ?_
  refine lv_aload_n hx hb dX0_isLive_5 rfl (lv_at hl 0 rfl) ?_
  refine wx_get (own := RX0) hx hb hts i_X0_isLive_0 hown hC.1 Z (o := o) (ci := 0) (wx_sbo ho 99) (rfl : vwCl[0]? = some (RX0, TX0, 13)) 4 (by decide) (hts _ k_X0_isLive_w1) (fun _ h9 => h9) (f := 0) rfl rfl dX0_isLive_6 ?_
  refine lv_iload_n hx hb dX0_isLive_9 rfl (lv_at hl 1 rfl) ?_
  obtain ⟨v10, ev10, iv10, h⟩ := wx_rI_ok h
  refine wx_iald hx hb hC.1 Z (o := o) (k := 4) (n := 3) (wx_sbo ho 4) rfl iv10 dX0_isLive_10 ev10 ?_
  obtain ⟨v11, ev11, iv11, h⟩ := wx_rI_ok h
  refine wx_iald hx hb hC.1 Z (o := o) (k := 1) (n := 64) (wx_sbo ho 1) rfl iv11 dX0_isLive_11 ev11 ?_
  refine lv_aload_n hx hb dX0_isLive_12 rfl (lv_at hl 0 rfl) ?_
  refine wx_get (own := RX0) hx hb hts i_X0_isLive_0 hown hC.1 Z (o := o) (ci := 0) (wx_sbo ho 99) (rfl : vwCl[0]? = some (RX0, TX0, 13)) 5 (by decide) (hts _ k_X0_isLive_w2) (fun _ h9 => h9) (f := 0) rfl rfl dX0_isLive_13 ?_
  refine lv_iload_n hx hb dX0_isLive_16 rfl (lv_at hl 1 rfl) ?_
  obtain ⟨v17, ev17, iv17, h⟩ := wx_rI_ok h
  refine wx_iald hx hb hC.1 Z (o := o) (k := 5) (n := 3) (wx_sbo ho 5) rfl iv17 dX0_isLive_17 ev17 ?_
  obtain ⟨v18, hc18, h⟩ := wx_o_ok h
  refine wx_call (va_runV (As := [.int v11, .int v17]) (rest := []) ⟨hx, hb, hml, hown, hts⟩ (c_X0_isFed l (D := D) (ad := ad) (rd := rd) (ca := ca) (A := A) (σ := σ) (o := o) ho hc18) (cwV 2 hts gX0_isLive_X0_isFed rfl rfl rfl (by decide +kernel) ⟨Nat.le_of_ble_eq_true rfl, Nat.le_of_ble_eq_true rfl⟩) (wx_preV hC Z hS hA (wx_sbo ho 99) (rfl : vwCl[0]? = some (RX0, TX0, 13))) rfl rfl hl.1 rfl (lv_room (Nat.le_of_ble_eq_true rfl)) dX0_isLive_18 ⟨Nat.zero_le _, Nat.zero_le _⟩) hS (fun H locs Z hS => ?_)
  obtain ⟨hz, h⟩ := wx_z_ok h
  obtain rfl := Option.some.inj h
  exact W.zret hx hb hr (wx_nb hz) (fun t ht hW => ⟨rfl, by rw [ht]; exact Z, hS.F ht⟩) hS.2.2 dX0_isLive_21
set_option maxRecDepth 20000 in
theorem c_X0_isLive (l : Launch) {D : va_G} {ad : Nat → Nat → Nat} {rd : Nat → Nat} {ca : Nat → ClassId} {A : Nat → Prop} {σ : wx_St} {o : Nat}  (ho : o < 11) {x1 : Int32} {r : Int32} (h : f_X0_isLive o x1 σ = some r) : wx_M l yX0_isLive wsX0_isLive 1 22 D ad rd ca A [.ref (ad o 99), .int x1] σ (some (.int r)) σ := by
  refine Met.ofW (cc := cX0_isLive) (maxL := 2) (ret := (some .boolean)) (by decide +kernel) rfl ?_
  intro p e s m args below meth c s₁ B0 hml hv
  obtain ⟨rfl, hC, Z, hA⟩ := hv
  have hl := lv_entry ([.ref (ad o 99), .int x1]) (n := 2) (Nat.le_of_ble_eq_true rfl)
  rw [lg_entry_eq]
  generalize (lg_sl ([.ref (ad o 99), .int x1]) ++ List.replicate (2 - (lg_sl ([.ref (ad o 99), .int x1])).length) Slot.unset).toArray = ls at hl ⊢
  exact b_X0_isLive_0 ⟨B0.exec, B0.bytes, hml, B0.returns, atoms_spec (ws := wsX0_isLive) B0.pre, findClass_of_methodNamed B0.named, B0.notSynchronized, hC, hA⟩ ho  h Z va_S.rf hl
theorem i_X0_heated_0 : ∀ w ∈ wsX00, w ∈ wsX0_heated := by decide +kernel
theorem k_X0_heated_w0 : Cond.fieldLink RX0 21 "WarmProbes$Board" "touches" "I" ∈ wsX0_heated := by decide +kernel
theorem k_X0_heated_w1 : Cond.fieldLink RX0 25 "WarmProbes$Board" "touchPlaces" "[I" ∈ wsX0_heated := by decide +kernel
set_option maxRecDepth 20000 in
set_option maxHeartbeats 4000000 in
theorem b_X0_heated_31 (B : wx_B p s m args meth c cX0_heated 4 (some .long) wsX0_heated RX0 D ad ca A) {o : Nat}  (ho : o < 11) {r : Int64} {σ : wx_St} {K4 : Int64 → Int32 → wx_St → Option Int64} (hK4 : ∀ {x1 : Int64} {x3 : Int32}   (h : K4 x1 x3 σ = some r) {H : Heap} {locs : List Loc} (Z : wx_Z D ad rd ca A σ H) (hS : va_S A s.heap H locs) {ls : Array Slot} (hl : lv_has ls 4 [(0, .ref (ad o 99)), (1, .long x1), (3, .int x3)]), W p l e ({ frames := 2, cells := 0, slots := 0, locals := 43 } : Room) s m args below meth c H locs 0 0 (MQ below (wx_Q D ad rd ca A (some (.long r)) σ) args s 0 0 A) (F0 m 4 ls [])) {x1 : Int64} {x3 : Int32}   (h : f_X0_heated_31 o K4 x1 x3 σ = some r) {H : Heap} {locs : List Loc} (Z : wx_Z D ad rd ca A σ H) (hS : va_S A s.heap H locs) {ls : Array Slot} (hl : lv_has ls 4 [(0, .ref (ad o 99)), (1, .long x1), (3, .int x3)]) : W p l e ({ frames := 2, cells := 0, slots := 0, locals := 43 } : Room) s m args below meth c H locs 0 0 (MQ below (wx_Q D ad rd ca A (some (.long r)) σ) args s 0 0 A) (F0 m 31 ls []) := by
  obtain ⟨hx, hb, hml, hr, hts, hown, hlk, hC, hA⟩ := id B
  unfold f_X0_heated_31 at h
  refine lv_iinc (v := x3 + 1) (lv' := [(3, .int (x3 + 1)), (0, .ref (ad o 99)), (1, .long x1)]) hx hb dX0_heated_31 hl (k := 2) rfl rfl (by decide) rfl (fun ls hl => ?_)
  refine lv_goto (tgt := 4) hx hb dX0_heated_34 (by decide) ?_
  exact hK4 h Z hS (lv_sub hl [1, 2, 0] rfl)
set_option maxRecDepth 20000 in
set_option maxHeartbeats 4000000 in
theorem b_X0_heated_4 (B : wx_B p s m args meth c cX0_heated 4 (some .long) wsX0_heated RX0 D ad ca A) {o : Nat}  (ho : o < 11) {r : Int64} {σ : wx_St}   :
    ∀ {n : Nat} {x1 : Int64} {x3 : Int32}   (h : f_X0_heated_4 o n x1 x3 σ = some r) {H : Heap} {locs : List Loc} (Z : wx_Z D ad rd ca A σ H) (hS : va_S A s.heap H locs) {ls : Array Slot} (hl : lv_has ls 4 [(0, .ref (ad o 99)), (1, .long x1), (3, .int x3)]), W p l e ({ frames := 2, cells := 0, slots := 0, locals := 43 } : Room) s m args below meth c H locs 0 0 (MQ below (wx_Q D ad rd ca A (some (.long r)) σ) args s 0 0 A) (F0 m 4 ls []) := by
  obtain ⟨hx, hb, hml, hr, hts, hown, hlk, hC, hA⟩ := id B
  intro n
  induction n with
  | zero => intro x1 x3   h H locs Z hS ls hl; exact wx_no h
  | succ n ih =>
    intro x1 x3   h H locs Z hS ls hl
    rw [f_X0_heated_4] at h
    refine lv_iload_n hx hb dX0_heated_4 rfl (lv_at hl 2 rfl) ?_
    refine lv_aload_n hx hb dX0_heated_5 rfl (lv_at hl 0 rfl) ?_
    refine wx_get (own := RX0) hx hb hts i_X0_heated_0 hown hC.1 Z (o := o) (ci := 0) (wx_sbo ho 99) (rfl : vwCl[0]? = some (RX0, TX0, 13)) 3 (by decide) (hts _ k_X0_heated_w0) (fun _ h9 => h9) (f := 1) rfl rfl dX0_heated_6 ?_
    refine lv_icmp_ge (tgt := 37) hx hb dX0_heated_9 (by decide) (fun c9 => ?_) (fun c9 => ?_)
    · replace h := wx_ift c9 h
      refine lv_lload_n hx hb dX0_heated_37 rfl (lv_at hl 1 rfl) ?_
      obtain rfl := Option.some.inj h
      exact W.lret hx hb hr (fun t ht hW => ⟨rfl, by rw [ht]; exact Z, hS.F ht⟩) hS.2.2 dX0_heated_38
    · replace h := wx_iff c9 h
      refine lv_aload_n hx hb dX0_heated_12 rfl (lv_at hl 0 rfl) ?_
      refine lv_iload_n hx hb dX0_heated_13 rfl (lv_at hl 2 rfl) ?_
      obtain ⟨v14, hc14, h⟩ := wx_o_ok h
      refine wx_call (va_runV (As := [.int x3]) (rest := []) ⟨hx, hb, hml, hown, hts⟩ (c_X0_isLive l (D := D) (ad := ad) (rd := rd) (ca := ca) (A := A) (σ := σ) (o := o) ho hc14) (cwV 1 hts gX0_heated_X0_isLive rfl rfl rfl (by decide +kernel) ⟨Nat.le_of_ble_eq_true rfl, Nat.le_of_ble_eq_true rfl⟩) (wx_preV hC Z hS hA (wx_sbo ho 99) (rfl : vwCl[0]? = some (RX0, TX0, 13))) rfl rfl hl.1 rfl (lv_room (Nat.le_of_ble_eq_true rfl)) dX0_heated_14 ⟨Nat.zero_le _, Nat.zero_le _⟩) hS (fun H locs Z hS => ?_)
      refine lv_if_eq (tgt := 31) hx hb dX0_heated_17 (by decide) (fun c17 => ?_) (fun c17 => ?_)
      · replace h := wx_ift c17 h
        exact b_X0_heated_31 B ho (K4 := (f_X0_heated_4 o n)) @ih h Z hS (lv_sub hl [0, 1, 2] rfl)
      · replace h := wx_iff c17 h
        refine lv_lload_n hx hb dX0_heated_20 rfl (lv_at hl 1 rfl) ?_
        refine lv_lconst (v := 1) hx hb dX0_heated_21 (by decide) ?_
        refine lv_aload_n hx hb dX0_heated_22 rfl (lv_at hl 0 rfl) ?_
        refine wx_get (own := RX0) hx hb hts i_X0_heated_0 hown hC.1 Z (o := o) (ci := 0) (wx_sbo ho 99) (rfl : vwCl[0]? = some (RX0, TX0, 13)) 4 (by decide) (hts _ k_X0_heated_w1) (fun _ h9 => h9) (f := 0) rfl rfl dX0_heated_23 ?_
        refine lv_iload_n hx hb dX0_heated_26 rfl (lv_at hl 2 rfl) ?_
        obtain ⟨v27, ev27, iv27, h⟩ := wx_rI_ok h
        refine wx_iald hx hb hC.1 Z (o := o) (k := 4) (n := 3) (wx_sbo ho 4) rfl iv27 dX0_heated_27 ev27 ?_
        refine lv_lshl (v := ((1 : Int64) <<< (v27.toInt64 &&& 63))) hx hb dX0_heated_28 rfl ?_
        refine lv_lor hx hb dX0_heated_29 ?_
        refine lv_lstore_n (lv' := [(1, .long (x1 ||| ((1 : Int64) <<< (v27.toInt64 &&& 63)))), (0, .ref (ad o 99)), (3, .int x3)]) hx hb dX0_heated_30 rfl hl (by decide) rfl (fun ls hl => ?_)
        exact b_X0_heated_31 B ho (K4 := (f_X0_heated_4 o n)) @ih h Z hS (lv_sub hl [1, 0, 2] rfl)
set_option maxRecDepth 20000 in
set_option maxHeartbeats 4000000 in
theorem b_X0_heated_0 (B : wx_B p s m args meth c cX0_heated 4 (some .long) wsX0_heated RX0 D ad ca A) {o : Nat}  (ho : o < 11) {r : Int64} {σ : wx_St}     (h : f_X0_heated o σ = some r) {H : Heap} {locs : List Loc} (Z : wx_Z D ad rd ca A σ H) (hS : va_S A s.heap H locs) {ls : Array Slot} (hl : lv_has ls 4 [(0, .ref (ad o 99))]) : W p l e ({ frames := 2, cells := 0, slots := 0, locals := 43 } : Room) s m args below meth c H locs 0 0 (MQ below (wx_Q D ad rd ca A (some (.long r)) σ) args s 0 0 A) (F0 m 0 ls []) := by
  obtain ⟨hx, hb, hml, hr, hts, hown, hlk, hC, hA⟩ := id B
  unfold f_X0_heated at h
  refine lv_lconst (v := 0) hx hb dX0_heated_0 (by decide) ?_
  refine lv_lstore_n (lv' := [(1, .long (0 : Int64)), (0, .ref (ad o 99))]) hx hb dX0_heated_1 rfl hl (by decide) rfl (fun ls hl => ?_)
  refine lv_iconst (v := 0) hx hb dX0_heated_2 (by decide) ?_
  refine lv_istore_n (lv' := [(3, .int 0), (1, .long (0 : Int64)), (0, .ref (ad o 99))]) hx hb dX0_heated_3 rfl hl (by decide) rfl (fun ls hl => ?_)
  exact b_X0_heated_4 B ho h Z hS (lv_sub hl [2, 1, 0] rfl)
set_option maxRecDepth 20000 in
theorem c_X0_heated (l : Launch) {D : va_G} {ad : Nat → Nat → Nat} {rd : Nat → Nat} {ca : Nat → ClassId} {A : Nat → Prop} {σ : wx_St} {o : Nat}  (ho : o < 11)  {r : Int64} (h : f_X0_heated o σ = some r) : wx_M l yX0_heated wsX0_heated 2 43 D ad rd ca A [.ref (ad o 99)] σ (some (.long r)) σ := by
  refine Met.ofW (cc := cX0_heated) (maxL := 4) (ret := (some .long)) (by decide +kernel) rfl ?_
  intro p e s m args below meth c s₁ B0 hml hv
  obtain ⟨rfl, hC, Z, hA⟩ := hv
  have hl := lv_entry ([.ref (ad o 99)]) (n := 4) (Nat.le_of_ble_eq_true rfl)
  rw [lg_entry_eq]
  generalize (lg_sl ([.ref (ad o 99)]) ++ List.replicate (4 - (lg_sl ([.ref (ad o 99)])).length) Slot.unset).toArray = ls at hl ⊢
  exact b_X0_heated_0 ⟨B0.exec, B0.bytes, hml, B0.returns, atoms_spec (ws := wsX0_heated) B0.pre, findClass_of_methodNamed B0.named, B0.notSynchronized, hC, hA⟩ ho  h Z va_S.rf hl
set_option maxRecDepth 20000 in
set_option maxHeartbeats 4000000 in
theorem b_X5_areNeighbours_2 (B : wx_B p s m args meth c cX5_areNeighbours 3 (some .boolean) wsX5_areNeighbours RX5 D ad ca A)    {r : Int32} {σ : wx_St}   :
    ∀ {n : Nat} {x0 : Int32} {x1 : Int32} {x2 : Int32}   (h : f_X5_areNeighbours_2 n x0 x1 x2 = some r) {H : Heap} {locs : List Loc} (Z : wx_Z D ad rd ca A σ H) (hS : va_S A s.heap H locs) {ls : Array Slot} (hl : lv_has ls 3 [(0, .int x0), (1, .int x1), (2, .int x2)]), W p l e ({ frames := 1, cells := 0, slots := 0, locals := 21 } : Room) s m args below meth c H locs 0 0 (MQ below (wx_Q D ad rd ca A (some (.int r)) σ) args s 0 0 A) (F0 m 2 ls []) := by
  obtain ⟨hx, hb, hml, hr, hts, hown, hlk, hC, hA⟩ := id B
  intro n
  induction n with
  | zero => intro x0 x1 x2   h H locs Z hS ls hl; exact wx_no h
  | succ n ih =>
    intro x0 x1 x2   h H locs Z hS ls hl
    rw [f_X5_areNeighbours_2] at h
    refine lv_iload_n hx hb dX5_areNeighbours_2 rfl (lv_at hl 2 rfl) ?_
    refine lv_iconst (v := 4) hx hb dX5_areNeighbours_3 (by decide) ?_
    refine lv_icmp_ge (tgt := 24) hx hb dX5_areNeighbours_4 (by decide) (fun c4 => ?_) (fun c4 => ?_)
    · replace h := wx_ift c4 h
      refine lv_iconst (v := 0) hx hb dX5_areNeighbours_24 (by decide) ?_
      obtain rfl := Option.some.inj h
      exact W.zret hx hb hr rfl (fun t ht hW => ⟨rfl, by rw [ht]; exact Z, hS.F ht⟩) hS.2.2 dX5_areNeighbours_25
    · replace h := wx_iff c4 h
      refine lv_iload_n hx hb dX5_areNeighbours_7 rfl (lv_at hl 0 rfl) ?_
      refine lv_iload_n hx hb dX5_areNeighbours_8 rfl (lv_at hl 2 rfl) ?_
      obtain ⟨v9, hc9, h⟩ := wx_o_ok h
      refine wx_call (va_runS (As := [.int x0, .int x2]) (rest := []) ⟨hx, hb, hml, hown, hts⟩ (c_X5_neighbourOf l (D := D) (ad := ad) (rd := rd) (ca := ca) (A := A) (σ := σ) hc9) (va_cwS 2 hts gX5_areNeighbours_X5_neighbourOf rfl rfl rfl (by decide +kernel) ⟨Nat.le_of_ble_eq_true rfl, Nat.le_of_ble_eq_true rfl⟩) (wx_preS hC Z hS hA) rfl rfl hl.1 rfl (lv_room (Nat.le_of_ble_eq_true rfl)) dX5_areNeighbours_9 ⟨Nat.zero_le _, Nat.zero_le _⟩) hS (fun H locs Z hS => ?_)
      refine lv_iload_n hx hb dX5_areNeighbours_12 rfl (lv_at hl 1 rfl) ?_
      refine lv_icmp_ne (tgt := 18) hx hb dX5_areNeighbours_13 (by decide) (fun c13 => ?_) (fun c13 => ?_)
      · replace h := wx_iff c13 h
        refine lv_iinc (v := x2 + 1) (lv' := [(2, .int (x2 + 1)), (0, .int x0), (1, .int x1)]) hx hb dX5_areNeighbours_18 hl (k := 2) rfl rfl (by decide) rfl (fun ls hl => ?_)
        refine lv_goto (tgt := 2) hx hb dX5_areNeighbours_21 (by decide) ?_
        exact ih h Z hS (lv_sub hl [1, 2, 0] rfl)
      · replace h := wx_ift c13 h
        refine lv_iconst (v := 1) hx hb dX5_areNeighbours_16 (by decide) ?_
        obtain rfl := Option.some.inj h
        exact W.zret hx hb hr rfl (fun t ht hW => ⟨rfl, by rw [ht]; exact Z, hS.F ht⟩) hS.2.2 dX5_areNeighbours_17
set_option maxRecDepth 20000 in
set_option maxHeartbeats 4000000 in
theorem b_X5_areNeighbours_0 (B : wx_B p s m args meth c cX5_areNeighbours 3 (some .boolean) wsX5_areNeighbours RX5 D ad ca A)    {r : Int32} {σ : wx_St}  {x0 : Int32} {x1 : Int32}   (h : f_X5_areNeighbours x0 x1 = some r) {H : Heap} {locs : List Loc} (Z : wx_Z D ad rd ca A σ H) (hS : va_S A s.heap H locs) {ls : Array Slot} (hl : lv_has ls 3 [(0, .int x0), (1, .int x1)]) : W p l e ({ frames := 1, cells := 0, slots := 0, locals := 21 } : Room) s m args below meth c H locs 0 0 (MQ below (wx_Q D ad rd ca A (some (.int r)) σ) args s 0 0 A) (F0 m 0 ls []) := by
  obtain ⟨hx, hb, hml, hr, hts, hown, hlk, hC, hA⟩ := id B
  unfold f_X5_areNeighbours at h
  refine lv_iconst (v := 0) hx hb dX5_areNeighbours_0 (by decide) ?_
  refine lv_istore_n (lv' := [(2, .int 0), (0, .int x0), (1, .int x1)]) hx hb dX5_areNeighbours_1 rfl hl (by decide) rfl (fun ls hl => ?_)
  exact b_X5_areNeighbours_2 B h Z hS (lv_sub hl [1, 2, 0] rfl)
set_option maxRecDepth 20000 in
theorem c_X5_areNeighbours (l : Launch) {D : va_G} {ad : Nat → Nat → Nat} {rd : Nat → Nat} {ca : Nat → ClassId} {A : Nat → Prop} {σ : wx_St}    {x0 : Int32} {x1 : Int32} {r : Int32} (h : f_X5_areNeighbours x0 x1 = some r) : wx_M l yX5_areNeighbours wsX5_areNeighbours 1 21 D ad rd ca A [.int x0, .int x1] σ (some (.int r)) σ := by
  refine Met.ofW (cc := cX5_areNeighbours) (maxL := 3) (ret := (some .boolean)) (by decide +kernel) rfl ?_
  intro p e s m args below meth c s₁ B0 hml hv
  obtain ⟨rfl, hC, Z, hA⟩ := hv
  have hl := lv_entry ([.int x0, .int x1]) (n := 3) (Nat.le_of_ble_eq_true rfl)
  rw [lg_entry_eq]
  generalize (lg_sl ([.int x0, .int x1]) ++ List.replicate (3 - (lg_sl ([.int x0, .int x1])).length) Slot.unset).toArray = ls at hl ⊢
  exact b_X5_areNeighbours_0 ⟨B0.exec, B0.bytes, hml, B0.returns, atoms_spec (ws := wsX5_areNeighbours) B0.pre, findClass_of_methodNamed B0.named, B0.notSynchronized, hC, hA⟩   h Z va_S.rf hl
theorem i_X0_isNeededByTouch_0 : ∀ w ∈ wsX00, w ∈ wsX0_isNeededByTouch := by decide +kernel
theorem k_X0_isNeededByTouch_w0 : Cond.fieldLink RX0 21 "WarmProbes$Board" "touches" "I" ∈ wsX0_isNeededByTouch := by decide +kernel
theorem k_X0_isNeededByTouch_w1 : Cond.fieldLink RX0 25 "WarmProbes$Board" "touchPlaces" "[I" ∈ wsX0_isNeededByTouch := by decide +kernel
theorem k_X0_isNeededByTouch_w2 : Cond.initialized RX5 ∈ wsX0_isNeededByTouch := by decide +kernel
theorem k_X0_isNeededByTouch_w3 : Cond.static yX5_areNeighbours ∈ wsX0_isNeededByTouch := by decide +kernel
theorem k_X0_isNeededByTouch_w4 : Cond.fieldLink RX0 28 "WarmProbes$Board" "touchOthers" "[I" ∈ wsX0_isNeededByTouch := by decide +kernel
theorem k_X0_isNeededByTouch_w5 : Cond.fieldLink RX0 15 "WarmProbes$Board" "nets" "[I" ∈ wsX0_isNeededByTouch := by decide +kernel
set_option maxRecDepth 20000 in
set_option maxHeartbeats 4000000 in
theorem b_X0_isNeededByTouch_52 (B : wx_B p s m args meth c cX0_isNeededByTouch 3 (some .boolean) wsX0_isNeededByTouch RX0 D ad ca A) {o : Nat}  (ho : o < 11) {r : Int32} {σ : wx_St} {K2 : Int32 → Int32 → wx_St → Option Int32} (hK2 : ∀ {x1 : Int32} {x2 : Int32}   (h : K2 x1 x2 σ = some r) {H : Heap} {locs : List Loc} (Z : wx_Z D ad rd ca A σ H) (hS : va_S A s.heap H locs) {ls : Array Slot} (hl : lv_has ls 3 [(0, .ref (ad o 99)), (1, .int x1), (2, .int x2)]), W p l e ({ frames := 2, cells := 0, slots := 0, locals := 43 } : Room) s m args below meth c H locs 0 0 (MQ below (wx_Q D ad rd ca A (some (.int r)) σ) args s 0 0 A) (F0 m 2 ls [])) {x1 : Int32} {x2 : Int32}   (h : f_X0_isNeededByTouch_52 o K2 x1 x2 σ = some r) {H : Heap} {locs : List Loc} (Z : wx_Z D ad rd ca A σ H) (hS : va_S A s.heap H locs) {ls : Array Slot} (hl : lv_has ls 3 [(0, .ref (ad o 99)), (1, .int x1), (2, .int x2)]) : W p l e ({ frames := 2, cells := 0, slots := 0, locals := 43 } : Room) s m args below meth c H locs 0 0 (MQ below (wx_Q D ad rd ca A (some (.int r)) σ) args s 0 0 A) (F0 m 52 ls []) := by
  obtain ⟨hx, hb, hml, hr, hts, hown, hlk, hC, hA⟩ := id B
  unfold f_X0_isNeededByTouch_52 at h
  refine lv_iinc (v := x2 + 1) (lv' := [(2, .int (x2 + 1)), (0, .ref (ad o 99)), (1, .int x1)]) hx hb dX0_isNeededByTouch_52 hl (k := 2) rfl rfl (by decide) rfl (fun ls hl => ?_)
  refine lv_goto (tgt := 2) hx hb dX0_isNeededByTouch_55 (by decide) ?_
  exact hK2 h Z hS (lv_sub hl [1, 2, 0] rfl)
set_option maxRecDepth 20000 in
set_option maxHeartbeats 4000000 in
theorem b_X0_isNeededByTouch_2 (B : wx_B p s m args meth c cX0_isNeededByTouch 3 (some .boolean) wsX0_isNeededByTouch RX0 D ad ca A) {o : Nat}  (ho : o < 11) {r : Int32} {σ : wx_St}   :
    ∀ {n : Nat} {x1 : Int32} {x2 : Int32}   (h : f_X0_isNeededByTouch_2 o n x1 x2 σ = some r) {H : Heap} {locs : List Loc} (Z : wx_Z D ad rd ca A σ H) (hS : va_S A s.heap H locs) {ls : Array Slot} (hl : lv_has ls 3 [(0, .ref (ad o 99)), (1, .int x1), (2, .int x2)]), W p l e ({ frames := 2, cells := 0, slots := 0, locals := 43 } : Room) s m args below meth c H locs 0 0 (MQ below (wx_Q D ad rd ca A (some (.int r)) σ) args s 0 0 A) (F0 m 2 ls []) := by
  obtain ⟨hx, hb, hml, hr, hts, hown, hlk, hC, hA⟩ := id B
  intro n
  induction n with
  | zero => intro x1 x2   h H locs Z hS ls hl; exact wx_no h
  | succ n ih =>
    intro x1 x2   h H locs Z hS ls hl
    rw [f_X0_isNeededByTouch_2] at h
    refine lv_iload_n hx hb dX0_isNeededByTouch_2 rfl (lv_at hl 2 rfl) ?_
    refine lv_aload_n hx hb dX0_isNeededByTouch_3 rfl (lv_at hl 0 rfl) ?_
    refine wx_get (own := RX0) hx hb hts i_X0_isNeededByTouch_0 hown hC.1 Z (o := o) (ci := 0) (wx_sbo ho 99) (rfl : vwCl[0]? = some (RX0, TX0, 13)) 3 (by decide) (hts _ k_X0_isNeededByTouch_w0) (fun _ h9 => h9) (f := 1) rfl rfl dX0_isNeededByTouch_4 ?_
    refine lv_icmp_ge (tgt := 58) hx hb dX0_isNeededByTouch_7 (by decide) (fun c7 => ?_) (fun c7 => ?_)
    · replace h := wx_ift c7 h
      refine lv_iconst (v := 0) hx hb dX0_isNeededByTouch_58 (by decide) ?_
      obtain rfl := Option.some.inj h
      exact W.zret hx hb hr rfl (fun t ht hW => ⟨rfl, by rw [ht]; exact Z, hS.F ht⟩) hS.2.2 dX0_isNeededByTouch_59
    · replace h := wx_iff c7 h
      refine lv_aload_n hx hb dX0_isNeededByTouch_10 rfl (lv_at hl 0 rfl) ?_
      refine wx_get (own := RX0) hx hb hts i_X0_isNeededByTouch_0 hown hC.1 Z (o := o) (ci := 0) (wx_sbo ho 99) (rfl : vwCl[0]? = some (RX0, TX0, 13)) 4 (by decide) (hts _ k_X0_isNeededByTouch_w1) (fun _ h9 => h9) (f := 0) rfl rfl dX0_isNeededByTouch_11 ?_
      refine lv_iload_n hx hb dX0_isNeededByTouch_14 rfl (lv_at hl 2 rfl) ?_
      obtain ⟨v15, ev15, iv15, h⟩ := wx_rI_ok h
      refine wx_iald hx hb hC.1 Z (o := o) (k := 4) (n := 3) (wx_sbo ho 4) rfl iv15 dX0_isNeededByTouch_15 ev15 ?_
      refine lv_iload_n hx hb dX0_isNeededByTouch_16 rfl (lv_at hl 1 rfl) ?_
      refine lv_icmp_ne (tgt := 22) hx hb dX0_isNeededByTouch_17 (by decide) (fun c17 => ?_) (fun c17 => ?_)
      · replace h := wx_iff c17 h
        refine lv_aload_n hx hb dX0_isNeededByTouch_22 rfl (lv_at hl 0 rfl) ?_
        refine wx_get (own := RX0) hx hb hts i_X0_isNeededByTouch_0 hown hC.1 Z (o := o) (ci := 0) (wx_sbo ho 99) (rfl : vwCl[0]? = some (RX0, TX0, 13)) 4 (by decide) (hts _ k_X0_isNeededByTouch_w1) (fun _ h9 => h9) (f := 0) rfl rfl dX0_isNeededByTouch_23 ?_
        refine lv_iload_n hx hb dX0_isNeededByTouch_26 rfl (lv_at hl 2 rfl) ?_
        obtain ⟨v27, ev27, iv27, h⟩ := wx_rI_ok h
        refine wx_iald hx hb hC.1 Z (o := o) (k := 4) (n := 3) (wx_sbo ho 4) rfl iv27 dX0_isNeededByTouch_27 ev27 ?_
        refine lv_iload_n hx hb dX0_isNeededByTouch_28 rfl (lv_at hl 1 rfl) ?_
        obtain ⟨v29, hc29, h⟩ := wx_o_ok h
        refine wx_call (va_runSN (As := [.int v27, .int x1]) (rest := []) ⟨hx, hb, hml, hown, hts⟩ (c_X5_areNeighbours l (D := D) (ad := ad) (rd := rd) (ca := ca) (A := A) (σ := σ) hc29) ⟨va_cnB 2 hts gX0_isNeededByTouch_X5_areNeighbours_n82 rfl rfl rfl (hC.1.2.1 _ (List.mem_of_getElem? (i := 36) rfl)) (hts _ k_X0_isNeededByTouch_w2) (by decide +kernel) ⟨Nat.le_of_ble_eq_true rfl, Nat.le_of_ble_eq_true rfl⟩, hts _ k_X0_isNeededByTouch_w3, trivial⟩ (wx_preS hC Z hS hA) rfl rfl hl.1 rfl (lv_room (Nat.le_of_ble_eq_true rfl)) dX0_isNeededByTouch_29 ⟨Nat.zero_le _, Nat.zero_le _⟩) hS (fun H locs Z hS => ?_)
        refine lv_if_eq (tgt := 52) hx hb dX0_isNeededByTouch_32 (by decide) (fun c32 => ?_) (fun c32 => ?_)
        · replace h := wx_ift c32 h
          exact b_X0_isNeededByTouch_52 B ho (K2 := (f_X0_isNeededByTouch_2 o n)) @ih h Z hS (lv_sub hl [0, 1, 2] rfl)
        · replace h := wx_iff c32 h
          refine lv_aload_n hx hb dX0_isNeededByTouch_35 rfl (lv_at hl 0 rfl) ?_
          refine wx_get (own := RX0) hx hb hts i_X0_isNeededByTouch_0 hown hC.1 Z (o := o) (ci := 0) (wx_sbo ho 99) (rfl : vwCl[0]? = some (RX0, TX0, 13)) 5 (by decide) (hts _ k_X0_isNeededByTouch_w4) (fun _ h9 => h9) (f := 0) rfl rfl dX0_isNeededByTouch_36 ?_
          refine lv_iload_n hx hb dX0_isNeededByTouch_39 rfl (lv_at hl 2 rfl) ?_
          obtain ⟨v40, ev40, iv40, h⟩ := wx_rI_ok h
          refine wx_iald hx hb hC.1 Z (o := o) (k := 5) (n := 3) (wx_sbo ho 5) rfl iv40 dX0_isNeededByTouch_40 ev40 ?_
          refine lv_aload_n hx hb dX0_isNeededByTouch_41 rfl (lv_at hl 0 rfl) ?_
          refine wx_get (own := RX0) hx hb hts i_X0_isNeededByTouch_0 hown hC.1 Z (o := o) (ci := 0) (wx_sbo ho 99) (rfl : vwCl[0]? = some (RX0, TX0, 13)) 1 (by decide) (hts _ k_X0_isNeededByTouch_w5) (fun _ h9 => h9) (f := 0) rfl rfl dX0_isNeededByTouch_42 ?_
          refine lv_iload_n hx hb dX0_isNeededByTouch_45 rfl (lv_at hl 1 rfl) ?_
          obtain ⟨v46, ev46, iv46, h⟩ := wx_rI_ok h
          refine wx_iald hx hb hC.1 Z (o := o) (k := 1) (n := 64) (wx_sbo ho 1) rfl iv46 dX0_isNeededByTouch_46 ev46 ?_
          refine lv_icmp_ne (tgt := 52) hx hb dX0_isNeededByTouch_47 (by decide) (fun c47 => ?_) (fun c47 => ?_)
          · replace h := wx_iff c47 h
            exact b_X0_isNeededByTouch_52 B ho (K2 := (f_X0_isNeededByTouch_2 o n)) @ih h Z hS (lv_sub hl [0, 1, 2] rfl)
          · replace h := wx_ift c47 h
            refine lv_iconst (v := 1) hx hb dX0_isNeededByTouch_50 (by decide) ?_
            obtain rfl := Option.some.inj h
            exact W.zret hx hb hr rfl (fun t ht hW => ⟨rfl, by rw [ht]; exact Z, hS.F ht⟩) hS.2.2 dX0_isNeededByTouch_51
      · replace h := wx_ift c17 h
        refine lv_iconst (v := 1) hx hb dX0_isNeededByTouch_20 (by decide) ?_
        obtain rfl := Option.some.inj h
        exact W.zret hx hb hr rfl (fun t ht hW => ⟨rfl, by rw [ht]; exact Z, hS.F ht⟩) hS.2.2 dX0_isNeededByTouch_21
set_option maxRecDepth 20000 in
set_option maxHeartbeats 4000000 in
theorem b_X0_isNeededByTouch_0 (B : wx_B p s m args meth c cX0_isNeededByTouch 3 (some .boolean) wsX0_isNeededByTouch RX0 D ad ca A) {o : Nat}  (ho : o < 11) {r : Int32} {σ : wx_St}  {x1 : Int32}   (h : f_X0_isNeededByTouch o x1 σ = some r) {H : Heap} {locs : List Loc} (Z : wx_Z D ad rd ca A σ H) (hS : va_S A s.heap H locs) {ls : Array Slot} (hl : lv_has ls 3 [(0, .ref (ad o 99)), (1, .int x1)]) : W p l e ({ frames := 2, cells := 0, slots := 0, locals := 43 } : Room) s m args below meth c H locs 0 0 (MQ below (wx_Q D ad rd ca A (some (.int r)) σ) args s 0 0 A) (F0 m 0 ls []) := by
  obtain ⟨hx, hb, hml, hr, hts, hown, hlk, hC, hA⟩ := id B
  unfold f_X0_isNeededByTouch at h
  refine lv_iconst (v := 0) hx hb dX0_isNeededByTouch_0 (by decide) ?_
  refine lv_istore_n (lv' := [(2, .int 0), (0, .ref (ad o 99)), (1, .int x1)]) hx hb dX0_isNeededByTouch_1 rfl hl (by decide) rfl (fun ls hl => ?_)
  exact b_X0_isNeededByTouch_2 B ho h Z hS (lv_sub hl [1, 2, 0] rfl)
set_option maxRecDepth 20000 in
theorem c_X0_isNeededByTouch (l : Launch) {D : va_G} {ad : Nat → Nat → Nat} {rd : Nat → Nat} {ca : Nat → ClassId} {A : Nat → Prop} {σ : wx_St} {o : Nat}  (ho : o < 11) {x1 : Int32} {r : Int32} (h : f_X0_isNeededByTouch o x1 σ = some r) : wx_M l yX0_isNeededByTouch wsX0_isNeededByTouch 2 43 D ad rd ca A [.ref (ad o 99), .int x1] σ (some (.int r)) σ := by
  refine Met.ofW (cc := cX0_isNeededByTouch) (maxL := 3) (ret := (some .boolean)) (by decide +kernel) rfl ?_
  intro p e s m args below meth c s₁ B0 hml hv
  obtain ⟨rfl, hC, Z, hA⟩ := hv
  have hl := lv_entry ([.ref (ad o 99), .int x1]) (n := 3) (Nat.le_of_ble_eq_true rfl)
  rw [lg_entry_eq]
  generalize (lg_sl ([.ref (ad o 99), .int x1]) ++ List.replicate (3 - (lg_sl ([.ref (ad o 99), .int x1])).length) Slot.unset).toArray = ls at hl ⊢
  exact b_X0_isNeededByTouch_0 ⟨B0.exec, B0.bytes, hml, B0.returns, atoms_spec (ws := wsX0_isNeededByTouch) B0.pre, findClass_of_methodNamed B0.named, B0.notSynchronized, hC, hA⟩ ho  h Z va_S.rf hl
theorem i_X0_isSuspect_0 : ∀ w ∈ wsX00, w ∈ wsX0_isSuspect := by decide +kernel
theorem k_X0_isSuspect_w0 : Cond.initialized RX5 ∈ wsX0_isSuspect := by decide +kernel
theorem k_X0_isSuspect_w1 : Cond.static yX5_neighbourOf ∈ wsX0_isSuspect := by decide +kernel
theorem k_X0_isSuspect_w2 : Cond.fieldLink RX0 15 "WarmProbes$Board" "nets" "[I" ∈ wsX0_isSuspect := by decide +kernel
set_option maxRecDepth 20000 in
set_option maxHeartbeats 4000000 in
theorem b_X0_isSuspect_38 (B : wx_B p s m args meth c cX0_isSuspect 4 (some .boolean) wsX0_isSuspect RX0 D ad ca A) {o : Nat}  (ho : o < 11) {r : Int32} {σ : wx_St} {K2 : Int32 → Int32 → wx_St → Option Int32} (hK2 : ∀ {x1 : Int32} {x2 : Int32}   (h : K2 x1 x2 σ = some r) {H : Heap} {locs : List Loc} (Z : wx_Z D ad rd ca A σ H) (hS : va_S A s.heap H locs) {ls : Array Slot} (hl : lv_has ls 4 [(0, .ref (ad o 99)), (1, .int x1), (2, .int x2)]), W p l e ({ frames := 1, cells := 0, slots := 0, locals := 22 } : Room) s m args below meth c H locs 0 0 (MQ below (wx_Q D ad rd ca A (some (.int r)) σ) args s 0 0 A) (F0 m 2 ls [])) {x1 : Int32} {x2 : Int32} {x3 : Int32}   (h : f_X0_isSuspect_38 o K2 x1 x2 x3 σ = some r) {H : Heap} {locs : List Loc} (Z : wx_Z D ad rd ca A σ H) (hS : va_S A s.heap H locs) {ls : Array Slot} (hl : lv_has ls 4 [(0, .ref (ad o 99)), (1, .int x1), (2, .int x2), (3, .int x3)]) : W p l e ({ frames := 1, cells := 0, slots := 0, locals := 22 } : Room) s m args below meth c H locs 0 0 (MQ below (wx_Q D ad rd ca A (some (.int r)) σ) args s 0 0 A) (F0 m 38 ls []) := by
  obtain ⟨hx, hb, hml, hr, hts, hown, hlk, hC, hA⟩ := id B
  unfold f_X0_isSuspect_38 at h
  refine lv_iinc (v := x2 + 1) (lv' := [(2, .int (x2 + 1)), (0, .ref (ad o 99)), (1, .int x1), (3, .int x3)]) hx hb dX0_isSuspect_38 hl (k := 2) rfl rfl (by decide) rfl (fun ls hl => ?_)
  refine lv_goto (tgt := 2) hx hb dX0_isSuspect_41 (by decide) ?_
  exact hK2 h Z hS (lv_sub hl [1, 2, 0] rfl)
set_option maxRecDepth 20000 in
set_option maxHeartbeats 4000000 in
theorem b_X0_isSuspect_2 (B : wx_B p s m args meth c cX0_isSuspect 4 (some .boolean) wsX0_isSuspect RX0 D ad ca A) {o : Nat}  (ho : o < 11) {r : Int32} {σ : wx_St}   :
    ∀ {n : Nat} {x1 : Int32} {x2 : Int32}   (h : f_X0_isSuspect_2 o n x1 x2 σ = some r) {H : Heap} {locs : List Loc} (Z : wx_Z D ad rd ca A σ H) (hS : va_S A s.heap H locs) {ls : Array Slot} (hl : lv_has ls 4 [(0, .ref (ad o 99)), (1, .int x1), (2, .int x2)]), W p l e ({ frames := 1, cells := 0, slots := 0, locals := 22 } : Room) s m args below meth c H locs 0 0 (MQ below (wx_Q D ad rd ca A (some (.int r)) σ) args s 0 0 A) (F0 m 2 ls []) := by
  obtain ⟨hx, hb, hml, hr, hts, hown, hlk, hC, hA⟩ := id B
  intro n
  induction n with
  | zero => intro x1 x2   h H locs Z hS ls hl; exact wx_no h
  | succ n ih =>
    intro x1 x2   h H locs Z hS ls hl
    rw [f_X0_isSuspect_2] at h
    refine lv_iload_n hx hb dX0_isSuspect_2 rfl (lv_at hl 2 rfl) ?_
    refine lv_iconst (v := 4) hx hb dX0_isSuspect_3 (by decide) ?_
    refine lv_icmp_ge (tgt := 44) hx hb dX0_isSuspect_4 (by decide) (fun c4 => ?_) (fun c4 => ?_)
    · replace h := wx_ift c4 h
      refine lv_iconst (v := 0) hx hb dX0_isSuspect_44 (by decide) ?_
      obtain rfl := Option.some.inj h
      exact W.zret hx hb hr rfl (fun t ht hW => ⟨rfl, by rw [ht]; exact Z, hS.F ht⟩) hS.2.2 dX0_isSuspect_45
    · replace h := wx_iff c4 h
      refine lv_iload_n hx hb dX0_isSuspect_7 rfl (lv_at hl 1 rfl) ?_
      refine lv_iload_n hx hb dX0_isSuspect_8 rfl (lv_at hl 2 rfl) ?_
      obtain ⟨v9, hc9, h⟩ := wx_o_ok h
      refine wx_call (va_runSN (As := [.int x1, .int x2]) (rest := []) ⟨hx, hb, hml, hown, hts⟩ (c_X5_neighbourOf l (D := D) (ad := ad) (rd := rd) (ca := ca) (A := A) (σ := σ) hc9) ⟨va_cnB 2 hts gX0_isSuspect_X5_neighbourOf_n93 rfl rfl rfl (hC.1.2.1 _ (List.mem_of_getElem? (i := 38) rfl)) (hts _ k_X0_isSuspect_w0) (by decide +kernel) ⟨Nat.le_of_ble_eq_true rfl, Nat.le_of_ble_eq_true rfl⟩, hts _ k_X0_isSuspect_w1, trivial⟩ (wx_preS hC Z hS hA) rfl rfl hl.1 rfl (lv_room (Nat.le_of_ble_eq_true rfl)) dX0_isSuspect_9 ⟨Nat.zero_le _, Nat.zero_le _⟩) hS (fun H locs Z hS => ?_)
      refine lv_istore_n (lv' := [(3, .int v9), (0, .ref (ad o 99)), (1, .int x1), (2, .int x2)]) hx hb dX0_isSuspect_12 rfl hl (by decide) rfl (fun ls hl => ?_)
      refine lv_iload_n hx hb dX0_isSuspect_13 rfl (lv_at hl 0 rfl) ?_
      refine lv_if_lt (tgt := 38) hx hb dX0_isSuspect_14 (by decide) (fun c14 => ?_) (fun c14 => ?_)
      · replace h := wx_ift c14 h
        exact b_X0_isSuspect_38 B ho (K2 := (f_X0_isSuspect_2 o n)) @ih h Z hS (lv_sub hl [1, 2, 3, 0] rfl)
      · replace h := wx_iff c14 h
        refine lv_aload_n hx hb dX0_isSuspect_17 rfl (lv_at hl 1 rfl) ?_
        refine lv_aload_n hx hb dX0_isSuspect_18 rfl (lv_at hl 1 rfl) ?_
        refine wx_get (own := RX0) hx hb hts i_X0_isSuspect_0 hown hC.1 Z (o := o) (ci := 0) (wx_sbo ho 99) (rfl : vwCl[0]? = some (RX0, TX0, 13)) 1 (by decide) (hts _ k_X0_isSuspect_w2) (fun _ h9 => h9) (f := 0) rfl rfl dX0_isSuspect_19 ?_
        refine lv_iload_n hx hb dX0_isSuspect_22 rfl (lv_at hl 2 rfl) ?_
        obtain ⟨v23, ev23, iv23, h⟩ := wx_rI_ok h
        refine wx_iald hx hb hC.1 Z (o := o) (k := 1) (n := 64) (wx_sbo ho 1) rfl iv23 dX0_isSuspect_23 ev23 ?_
        refine lv_aload_n hx hb dX0_isSuspect_24 rfl (lv_at hl 1 rfl) ?_
        refine wx_get (own := RX0) hx hb hts i_X0_isSuspect_0 hown hC.1 Z (o := o) (ci := 0) (wx_sbo ho 99) (rfl : vwCl[0]? = some (RX0, TX0, 13)) 1 (by decide) (hts _ k_X0_isSuspect_w2) (fun _ h9 => h9) (f := 0) rfl rfl dX0_isSuspect_25 ?_
        refine lv_iload_n hx hb dX0_isSuspect_28 rfl (lv_at hl 0 rfl) ?_
        obtain ⟨v29, ev29, iv29, h⟩ := wx_rI_ok h
        refine wx_iald hx hb hC.1 Z (o := o) (k := 1) (n := 64) (wx_sbo ho 1) rfl iv29 dX0_isSuspect_29 ev29 ?_
        obtain ⟨v30, hc30, h⟩ := wx_o_ok h
        refine wx_call (va_runV (As := [.int v23, .int v29]) (rest := []) ⟨hx, hb, hml, hown, hts⟩ (c_X0_isFed l (D := D) (ad := ad) (rd := rd) (ca := ca) (A := A) (σ := σ) (o := o) ho hc30) (cwV 2 hts gX0_isSuspect_X0_isFed rfl rfl rfl (by decide +kernel) ⟨Nat.le_of_ble_eq_true rfl, Nat.le_of_ble_eq_true rfl⟩) (wx_preV hC Z hS hA (wx_sbo ho 99) (rfl : vwCl[0]? = some (RX0, TX0, 13))) rfl rfl hl.1 rfl (lv_room (Nat.le_of_ble_eq_true rfl)) dX0_isSuspect_30 ⟨Nat.zero_le _, Nat.zero_le _⟩) hS (fun H locs Z hS => ?_)
        refine lv_if_eq (tgt := 38) hx hb dX0_isSuspect_33 (by decide) (fun c33 => ?_) (fun c33 => ?_)
        · replace h := wx_ift c33 h
          exact b_X0_isSuspect_38 B ho (K2 := (f_X0_isSuspect_2 o n)) @ih h Z hS (lv_sub hl [1, 2, 3, 0] rfl)
        · replace h := wx_iff c33 h
          refine lv_iconst (v := 1) hx hb dX0_isSuspect_36 (by decide) ?_
          obtain rfl := Option.some.inj h
          exact W.zret hx hb hr rfl (fun t ht hW => ⟨rfl, by rw [ht]; exact Z, hS.F ht⟩) hS.2.2 dX0_isSuspect_37
set_option maxRecDepth 20000 in
set_option maxHeartbeats 4000000 in
theorem b_X0_isSuspect_0 (B : wx_B p s m args meth c cX0_isSuspect 4 (some .boolean) wsX0_isSuspect RX0 D ad ca A) {o : Nat}  (ho : o < 11) {r : Int32} {σ : wx_St}  {x1 : Int32}   (h : f_X0_isSuspect o x1 σ = some r) {H : Heap} {locs : List Loc} (Z : wx_Z D ad rd ca A σ H) (hS : va_S A s.heap H locs) {ls : Array Slot} (hl : lv_has ls 4 [(0, .ref (ad o 99)), (1, .int x1)]) : W p l e ({ frames := 1, cells := 0, slots := 0, locals := 22 } : Room) s m args below meth c H locs 0 0 (MQ below (wx_Q D ad rd ca A (some (.int r)) σ) args s 0 0 A) (F0 m 0 ls []) := by
  obtain ⟨hx, hb, hml, hr, hts, hown, hlk, hC, hA⟩ := id B
  unfold f_X0_isSuspect at h
  refine lv_iconst (v := 0) hx hb dX0_isSuspect_0 (by decide) ?_
  refine lv_istore_n (lv' := [(2, .int 0), (0, .ref (ad o 99)), (1, .int x1)]) hx hb dX0_isSuspect_1 rfl hl (by decide) rfl (fun ls hl => ?_)
  exact b_X0_isSuspect_2 B ho h Z hS (lv_sub hl [1, 2, 0] rfl)
set_option maxRecDepth 20000 in
theorem c_X0_isSuspect (l : Launch) {D : va_G} {ad : Nat → Nat → Nat} {rd : Nat → Nat} {ca : Nat → ClassId} {A : Nat → Prop} {σ : wx_St} {o : Nat}  (ho : o < 11) {x1 : Int32} {r : Int32} (h : f_X0_isSuspect o x1 σ = some r) : wx_M l yX0_isSuspect wsX0_isSuspect 1 22 D ad rd ca A [.ref (ad o 99), .int x1] σ (some (.int r)) σ := by
  refine Met.ofW (cc := cX0_isSuspect) (maxL := 4) (ret := (some .boolean)) (by decide +kernel) rfl ?_
  intro p e s m args below meth c s₁ B0 hml hv
  obtain ⟨rfl, hC, Z, hA⟩ := hv
  have hl := lv_entry ([.ref (ad o 99), .int x1]) (n := 4) (Nat.le_of_ble_eq_true rfl)
  rw [lg_entry_eq]
  generalize (lg_sl ([.ref (ad o 99), .int x1]) ++ List.replicate (4 - (lg_sl ([.ref (ad o 99), .int x1])).length) Slot.unset).toArray = ls at hl ⊢
  exact b_X0_isSuspect_0 ⟨B0.exec, B0.bytes, hml, B0.returns, atoms_spec (ws := wsX0_isSuspect) B0.pre, findClass_of_methodNamed B0.named, B0.notSynchronized, hC, hA⟩ ho  h Z va_S.rf hl
theorem i_X0_touchAt_0 : ∀ w ∈ wsX00, w ∈ wsX0_touchAt := by decide +kernel
theorem k_X0_touchAt_w0 : Cond.fieldLink RX0 21 "WarmProbes$Board" "touches" "I" ∈ wsX0_touchAt := by decide +kernel
theorem k_X0_touchAt_w1 : Cond.fieldLink RX0 25 "WarmProbes$Board" "touchPlaces" "[I" ∈ wsX0_touchAt := by decide +kernel
set_option maxRecDepth 20000 in
set_option maxHeartbeats 4000000 in
theorem b_X0_touchAt_2 (B : wx_B p s m args meth c cX0_touchAt 3 (some .int) wsX0_touchAt RX0 D ad ca A) {o : Nat}  (ho : o < 11) {r : Int32} {σ : wx_St}   :
    ∀ {n : Nat} {x1 : Int32} {x2 : Int32}   (h : f_X0_touchAt_2 o n x1 x2 σ = some r) {H : Heap} {locs : List Loc} (Z : wx_Z D ad rd ca A σ H) (hS : va_S A s.heap H locs) {ls : Array Slot} (hl : lv_has ls 3 [(0, .ref (ad o 99)), (1, .int x1), (2, .int x2)]), W p l e ({ frames := 0, cells := 0, slots := 0, locals := 0 } : Room) s m args below meth c H locs 0 0 (MQ below (wx_Q D ad rd ca A (some (.int r)) σ) args s 0 0 A) (F0 m 2 ls []) := by
  obtain ⟨hx, hb, hml, hr, hts, hown, hlk, hC, hA⟩ := id B
  intro n
  induction n with
  | zero => intro x1 x2   h H locs Z hS ls hl; exact wx_no h
  | succ n ih =>
    intro x1 x2   h H locs Z hS ls hl
    rw [f_X0_touchAt_2] at h
    refine lv_iload_n hx hb dX0_touchAt_2 rfl (lv_at hl 2 rfl) ?_
    refine lv_aload_n hx hb dX0_touchAt_3 rfl (lv_at hl 0 rfl) ?_
    refine wx_get (own := RX0) hx hb hts i_X0_touchAt_0 hown hC.1 Z (o := o) (ci := 0) (wx_sbo ho 99) (rfl : vwCl[0]? = some (RX0, TX0, 13)) 3 (by decide) (hts _ k_X0_touchAt_w0) (fun _ h9 => h9) (f := 1) rfl rfl dX0_touchAt_4 ?_
    refine lv_icmp_ge (tgt := 28) hx hb dX0_touchAt_7 (by decide) (fun c7 => ?_) (fun c7 => ?_)
    · replace h := wx_ift c7 h
      refine lv_bipush (v := (-6)) hx hb dX0_touchAt_28 (by decide) ?_
      obtain rfl := Option.some.inj h
      exact W.iret hx hb hr (fun t ht hW => ⟨rfl, by rw [ht]; exact Z, hS.F ht⟩) hS.2.2 dX0_touchAt_30
    · replace h := wx_iff c7 h
      refine lv_aload_n hx hb dX0_touchAt_10 rfl (lv_at hl 0 rfl) ?_
      refine wx_get (own := RX0) hx hb hts i_X0_touchAt_0 hown hC.1 Z (o := o) (ci := 0) (wx_sbo ho 99) (rfl : vwCl[0]? = some (RX0, TX0, 13)) 4 (by decide) (hts _ k_X0_touchAt_w1) (fun _ h9 => h9) (f := 0) rfl rfl dX0_touchAt_11 ?_
      refine lv_iload_n hx hb dX0_touchAt_14 rfl (lv_at hl 2 rfl) ?_
      obtain ⟨v15, ev15, iv15, h⟩ := wx_rI_ok h
      refine wx_iald hx hb hC.1 Z (o := o) (k := 4) (n := 3) (wx_sbo ho 4) rfl iv15 dX0_touchAt_15 ev15 ?_
      refine lv_iload_n hx hb dX0_touchAt_16 rfl (lv_at hl 1 rfl) ?_
      refine lv_icmp_ne (tgt := 22) hx hb dX0_touchAt_17 (by decide) (fun c17 => ?_) (fun c17 => ?_)
      · replace h := wx_iff c17 h
        refine lv_iinc (v := x2 + 1) (lv' := [(2, .int (x2 + 1)), (0, .ref (ad o 99)), (1, .int x1)]) hx hb dX0_touchAt_22 hl (k := 2) rfl rfl (by decide) rfl (fun ls hl => ?_)
        refine lv_goto (tgt := 2) hx hb dX0_touchAt_25 (by decide) ?_
        exact ih h Z hS (lv_sub hl [1, 2, 0] rfl)
      · replace h := wx_ift c17 h
        refine lv_iload_n hx hb dX0_touchAt_20 rfl (lv_at hl 2 rfl) ?_
        obtain rfl := Option.some.inj h
        exact W.iret hx hb hr (fun t ht hW => ⟨rfl, by rw [ht]; exact Z, hS.F ht⟩) hS.2.2 dX0_touchAt_21
set_option maxRecDepth 20000 in
set_option maxHeartbeats 4000000 in
theorem b_X0_touchAt_0 (B : wx_B p s m args meth c cX0_touchAt 3 (some .int) wsX0_touchAt RX0 D ad ca A) {o : Nat}  (ho : o < 11) {r : Int32} {σ : wx_St}  {x1 : Int32}   (h : f_X0_touchAt o x1 σ = some r) {H : Heap} {locs : List Loc} (Z : wx_Z D ad rd ca A σ H) (hS : va_S A s.heap H locs) {ls : Array Slot} (hl : lv_has ls 3 [(0, .ref (ad o 99)), (1, .int x1)]) : W p l e ({ frames := 0, cells := 0, slots := 0, locals := 0 } : Room) s m args below meth c H locs 0 0 (MQ below (wx_Q D ad rd ca A (some (.int r)) σ) args s 0 0 A) (F0 m 0 ls []) := by
  obtain ⟨hx, hb, hml, hr, hts, hown, hlk, hC, hA⟩ := id B
  unfold f_X0_touchAt at h
  refine lv_iconst (v := 0) hx hb dX0_touchAt_0 (by decide) ?_
  refine lv_istore_n (lv' := [(2, .int 0), (0, .ref (ad o 99)), (1, .int x1)]) hx hb dX0_touchAt_1 rfl hl (by decide) rfl (fun ls hl => ?_)
  exact b_X0_touchAt_2 B ho h Z hS (lv_sub hl [1, 2, 0] rfl)
set_option maxRecDepth 20000 in
theorem c_X0_touchAt (l : Launch) {D : va_G} {ad : Nat → Nat → Nat} {rd : Nat → Nat} {ca : Nat → ClassId} {A : Nat → Prop} {σ : wx_St} {o : Nat}  (ho : o < 11) {x1 : Int32} {r : Int32} (h : f_X0_touchAt o x1 σ = some r) : wx_M l yX0_touchAt wsX0_touchAt 0 0 D ad rd ca A [.ref (ad o 99), .int x1] σ (some (.int r)) σ := by
  refine Met.ofW (cc := cX0_touchAt) (maxL := 3) (ret := (some .int)) (by decide +kernel) rfl ?_
  intro p e s m args below meth c s₁ B0 hml hv
  obtain ⟨rfl, hC, Z, hA⟩ := hv
  have hl := lv_entry ([.ref (ad o 99), .int x1]) (n := 3) (Nat.le_of_ble_eq_true rfl)
  rw [lg_entry_eq]
  generalize (lg_sl ([.ref (ad o 99), .int x1]) ++ List.replicate (3 - (lg_sl ([.ref (ad o 99), .int x1])).length) Slot.unset).toArray = ls at hl ⊢
  exact b_X0_touchAt_0 ⟨B0.exec, B0.bytes, hml, B0.returns, atoms_spec (ws := wsX0_touchAt) B0.pre, findClass_of_methodNamed B0.named, B0.notSynchronized, hC, hA⟩ ho  h Z va_S.rf hl
set_option maxRecDepth 20000 in
set_option maxHeartbeats 4000000 in
theorem b_X5_isNet_16 (B : wx_B p s m args meth c cX5_isNet 1 (some .boolean) wsX5_isNet RX5 D ad ca A)    {r : Int32} {σ : wx_St}  {x0 : Int32} {y0 : Int32}   (h : f_X5_isNet_16 x0 y0 = some r) {H : Heap} {locs : List Loc} (Z : wx_Z D ad rd ca A σ H) (hS : va_S A s.heap H locs) {ls : Array Slot} (hl : lv_has ls 1 [(0, .int x0)]) : W p l e ({ frames := 0, cells := 0, slots := 0, locals := 0 } : Room) s m args below meth c H locs 0 0 (MQ below (wx_Q D ad rd ca A (some (.int r)) σ) args s 0 0 A) (F0 m 16 ls [.int y0]) := by
  obtain ⟨hx, hb, hml, hr, hts, hown, hlk, hC, hA⟩ := id B
  unfold f_X5_isNet_16 at h
  obtain ⟨hz, h⟩ := wx_z_ok h
  obtain rfl := Option.some.inj h
  exact W.zret hx hb hr (wx_nb hz) (fun t ht hW => ⟨rfl, by rw [ht]; exact Z, hS.F ht⟩) hS.2.2 dX5_isNet_16
set_option maxRecDepth 20000 in
set_option maxHeartbeats 4000000 in
theorem b_X5_isNet_15 (B : wx_B p s m args meth c cX5_isNet 1 (some .boolean) wsX5_isNet RX5 D ad ca A)    {r : Int32} {σ : wx_St}  {x0 : Int32}   (h : f_X5_isNet_15 x0 = some r) {H : Heap} {locs : List Loc} (Z : wx_Z D ad rd ca A σ H) (hS : va_S A s.heap H locs) {ls : Array Slot} (hl : lv_has ls 1 [(0, .int x0)]) : W p l e ({ frames := 0, cells := 0, slots := 0, locals := 0 } : Room) s m args below meth c H locs 0 0 (MQ below (wx_Q D ad rd ca A (some (.int r)) σ) args s 0 0 A) (F0 m 15 ls []) := by
  obtain ⟨hx, hb, hml, hr, hts, hown, hlk, hC, hA⟩ := id B
  unfold f_X5_isNet_15 at h
  refine lv_iconst (v := 0) hx hb dX5_isNet_15 (by decide) ?_
  exact b_X5_isNet_16 B h Z hS (lv_sub hl [0] rfl)
set_option maxRecDepth 20000 in
set_option maxHeartbeats 4000000 in
theorem b_X5_isNet_0 (B : wx_B p s m args meth c cX5_isNet 1 (some .boolean) wsX5_isNet RX5 D ad ca A)    {r : Int32} {σ : wx_St}  {x0 : Int32}   (h : f_X5_isNet x0 = some r) {H : Heap} {locs : List Loc} (Z : wx_Z D ad rd ca A σ H) (hS : va_S A s.heap H locs) {ls : Array Slot} (hl : lv_has ls 1 [(0, .int x0)]) : W p l e ({ frames := 0, cells := 0, slots := 0, locals := 0 } : Room) s m args below meth c H locs 0 0 (MQ below (wx_Q D ad rd ca A (some (.int r)) σ) args s 0 0 A) (F0 m 0 ls []) := by
  obtain ⟨hx, hb, hml, hr, hts, hown, hlk, hC, hA⟩ := id B
  unfold f_X5_isNet at h
  refine lv_iload_n hx hb dX5_isNet_0 rfl (lv_at hl 0 rfl) ?_
  refine lv_iconst (v := 1) hx hb dX5_isNet_1 (by decide) ?_
  refine lv_icmp_lt (tgt := 15) hx hb dX5_isNet_2 (by decide) (fun c2 => ?_) (fun c2 => ?_)
  · replace h := wx_ift c2 h
    exact b_X5_isNet_15 B h Z hS (lv_sub hl [0] rfl)
  · replace h := wx_iff c2 h
    refine lv_iload_n hx hb dX5_isNet_5 rfl (lv_at hl 0 rfl) ?_
    refine lv_bipush (v := 7) hx hb dX5_isNet_6 (by decide) ?_
    refine lv_icmp_gt (tgt := 15) hx hb dX5_isNet_8 (by decide) (fun c8 => ?_) (fun c8 => ?_)
    · replace h := wx_ift c8 h
      exact b_X5_isNet_15 B h Z hS (lv_sub hl [0] rfl)
    · replace h := wx_iff c8 h
      refine lv_iconst (v := 1) hx hb dX5_isNet_11 (by decide) ?_
      refine lv_goto (tgt := 16) hx hb dX5_isNet_12 (by decide) ?_
      exact b_X5_isNet_16 B h Z hS (lv_sub hl [0] rfl)
set_option maxRecDepth 20000 in
theorem c_X5_isNet (l : Launch) {D : va_G} {ad : Nat → Nat → Nat} {rd : Nat → Nat} {ca : Nat → ClassId} {A : Nat → Prop} {σ : wx_St}    {x0 : Int32} {r : Int32} (h : f_X5_isNet x0 = some r) : wx_M l yX5_isNet wsX5_isNet 0 0 D ad rd ca A [.int x0] σ (some (.int r)) σ := by
  refine Met.ofW (cc := cX5_isNet) (maxL := 1) (ret := (some .boolean)) (by decide +kernel) rfl ?_
  intro p e s m args below meth c s₁ B0 hml hv
  obtain ⟨rfl, hC, Z, hA⟩ := hv
  have hl := lv_entry ([.int x0]) (n := 1) (Nat.le_of_ble_eq_true rfl)
  rw [lg_entry_eq]
  generalize (lg_sl ([.int x0]) ++ List.replicate (1 - (lg_sl ([.int x0])).length) Slot.unset).toArray = ls at hl ⊢
  exact b_X5_isNet_0 ⟨B0.exec, B0.bytes, hml, B0.returns, atoms_spec (ws := wsX5_isNet) B0.pre, findClass_of_methodNamed B0.named, B0.notSynchronized, hC, hA⟩   h Z va_S.rf hl
set_option maxRecDepth 20000 in
set_option maxHeartbeats 4000000 in
theorem b_X5_placeOf_30 (B : wx_B p s m args meth c cX5_placeOf 2 (some .int) wsX5_placeOf RX5 D ad ca A)    {r : Int32} {σ : wx_St}  {x0 : Int32} {x1 : Int32} {y0 : Int32}   (h : f_X5_placeOf_30 x0 x1 y0 = some r) {H : Heap} {locs : List Loc} (Z : wx_Z D ad rd ca A σ H) (hS : va_S A s.heap H locs) {ls : Array Slot} (hl : lv_has ls 2 [(0, .int x0), (1, .int x1)]) : W p l e ({ frames := 0, cells := 0, slots := 0, locals := 0 } : Room) s m args below meth c H locs 0 0 (MQ below (wx_Q D ad rd ca A (some (.int r)) σ) args s 0 0 A) (F0 m 30 ls [.int y0]) := by
  obtain ⟨hx, hb, hml, hr, hts, hown, hlk, hC, hA⟩ := id B
  unfold f_X5_placeOf_30 at h
  obtain rfl := Option.some.inj h
  exact W.iret hx hb hr (fun t ht hW => ⟨rfl, by rw [ht]; exact Z, hS.F ht⟩) hS.2.2 dX5_placeOf_30
set_option maxRecDepth 20000 in
set_option maxHeartbeats 4000000 in
theorem b_X5_placeOf_20 (B : wx_B p s m args meth c cX5_placeOf 2 (some .int) wsX5_placeOf RX5 D ad ca A)    {r : Int32} {σ : wx_St}  {x0 : Int32} {x1 : Int32}   (h : f_X5_placeOf_20 x0 x1 = some r) {H : Heap} {locs : List Loc} (Z : wx_Z D ad rd ca A σ H) (hS : va_S A s.heap H locs) {ls : Array Slot} (hl : lv_has ls 2 [(0, .int x0), (1, .int x1)]) : W p l e ({ frames := 0, cells := 0, slots := 0, locals := 0 } : Room) s m args below meth c H locs 0 0 (MQ below (wx_Q D ad rd ca A (some (.int r)) σ) args s 0 0 A) (F0 m 20 ls []) := by
  obtain ⟨hx, hb, hml, hr, hts, hown, hlk, hC, hA⟩ := id B
  unfold f_X5_placeOf_20 at h
  refine lv_iconst (v := (-1)) hx hb dX5_placeOf_20 (by decide) ?_
  refine lv_goto (tgt := 30) hx hb dX5_placeOf_21 (by decide) ?_
  exact b_X5_placeOf_30 B h Z hS (lv_sub hl [0, 1] rfl)
set_option maxRecDepth 20000 in
set_option maxHeartbeats 4000000 in
theorem b_X5_placeOf_0 (B : wx_B p s m args meth c cX5_placeOf 2 (some .int) wsX5_placeOf RX5 D ad ca A)    {r : Int32} {σ : wx_St}  {x0 : Int32} {x1 : Int32}   (h : f_X5_placeOf x0 x1 = some r) {H : Heap} {locs : List Loc} (Z : wx_Z D ad rd ca A σ H) (hS : va_S A s.heap H locs) {ls : Array Slot} (hl : lv_has ls 2 [(0, .int x0), (1, .int x1)]) : W p l e ({ frames := 0, cells := 0, slots := 0, locals := 0 } : Room) s m args below meth c H locs 0 0 (MQ below (wx_Q D ad rd ca A (some (.int r)) σ) args s 0 0 A) (F0 m 0 ls []) := by
  obtain ⟨hx, hb, hml, hr, hts, hown, hlk, hC, hA⟩ := id B
  unfold f_X5_placeOf at h
  refine lv_iload_n hx hb dX5_placeOf_0 rfl (lv_at hl 0 rfl) ?_
  refine lv_if_lt (tgt := 20) hx hb dX5_placeOf_1 (by decide) (fun c1 => ?_) (fun c1 => ?_)
  · replace h := wx_ift c1 h
    exact b_X5_placeOf_20 B h Z hS (lv_sub hl [0, 1] rfl)
  · replace h := wx_iff c1 h
    refine lv_iload_n hx hb dX5_placeOf_4 rfl (lv_at hl 0 rfl) ?_
    refine lv_bipush (v := 8) hx hb dX5_placeOf_5 (by decide) ?_
    refine lv_icmp_ge (tgt := 20) hx hb dX5_placeOf_7 (by decide) (fun c7 => ?_) (fun c7 => ?_)
    · replace h := wx_ift c7 h
      exact b_X5_placeOf_20 B h Z hS (lv_sub hl [0, 1] rfl)
    · replace h := wx_iff c7 h
      refine lv_iload_n hx hb dX5_placeOf_10 rfl (lv_at hl 1 rfl) ?_
      refine lv_if_lt (tgt := 20) hx hb dX5_placeOf_11 (by decide) (fun c11 => ?_) (fun c11 => ?_)
      · replace h := wx_ift c11 h
        exact b_X5_placeOf_20 B h Z hS (lv_sub hl [0, 1] rfl)
      · replace h := wx_iff c11 h
        refine lv_iload_n hx hb dX5_placeOf_14 rfl (lv_at hl 1 rfl) ?_
        refine lv_bipush (v := 8) hx hb dX5_placeOf_15 (by decide) ?_
        refine lv_icmp_lt (tgt := 24) hx hb dX5_placeOf_17 (by decide) (fun c17 => ?_) (fun c17 => ?_)
        · replace h := wx_ift c17 h
          refine lv_bipush (v := 8) hx hb dX5_placeOf_24 (by decide) ?_
          refine lv_iload_n hx hb dX5_placeOf_26 rfl (lv_at hl 0 rfl) ?_
          refine lv_imul hx hb dX5_placeOf_27 ?_
          refine lv_iload_n hx hb dX5_placeOf_28 rfl (lv_at hl 1 rfl) ?_
          refine lv_iadd hx hb dX5_placeOf_29 ?_
          exact b_X5_placeOf_30 B h Z hS (lv_sub hl [0, 1] rfl)
        · replace h := wx_iff c17 h
          exact b_X5_placeOf_20 B h Z hS (lv_sub hl [0, 1] rfl)
set_option maxRecDepth 20000 in
theorem c_X5_placeOf (l : Launch) {D : va_G} {ad : Nat → Nat → Nat} {rd : Nat → Nat} {ca : Nat → ClassId} {A : Nat → Prop} {σ : wx_St}    {x0 : Int32} {x1 : Int32} {r : Int32} (h : f_X5_placeOf x0 x1 = some r) : wx_M l yX5_placeOf wsX5_placeOf 0 0 D ad rd ca A [.int x0, .int x1] σ (some (.int r)) σ := by
  refine Met.ofW (cc := cX5_placeOf) (maxL := 2) (ret := (some .int)) (by decide +kernel) rfl ?_
  intro p e s m args below meth c s₁ B0 hml hv
  obtain ⟨rfl, hC, Z, hA⟩ := hv
  have hl := lv_entry ([.int x0, .int x1]) (n := 2) (Nat.le_of_ble_eq_true rfl)
  rw [lg_entry_eq]
  generalize (lg_sl ([.int x0, .int x1]) ++ List.replicate (2 - (lg_sl ([.int x0, .int x1])).length) Slot.unset).toArray = ls at hl ⊢
  exact b_X5_placeOf_0 ⟨B0.exec, B0.bytes, hml, B0.returns, atoms_spec (ws := wsX5_placeOf) B0.pre, findClass_of_methodNamed B0.named, B0.notSynchronized, hC, hA⟩   h Z va_S.rf hl
theorem i_X0_join_0 : ∀ w ∈ wsX00, w ∈ wsX0_join := by decide +kernel
theorem k_X0_join_w0 : Cond.initialized RX5 ∈ wsX0_join := by decide +kernel
theorem k_X0_join_w1 : Cond.static yX5_placeOf ∈ wsX0_join := by decide +kernel
theorem k_X0_join_w2 : Cond.static yX5_isNet ∈ wsX0_join := by decide +kernel
theorem k_X0_join_w3 : Cond.fieldLink RX0 15 "WarmProbes$Board" "nets" "[I" ∈ wsX0_join := by decide +kernel
theorem k_X0_join_w4 : Cond.fieldLink RX0 21 "WarmProbes$Board" "touches" "I" ∈ wsX0_join := by decide +kernel
theorem k_X0_join_w5 : Cond.fieldLink RX0 25 "WarmProbes$Board" "touchPlaces" "[I" ∈ wsX0_join := by decide +kernel
theorem k_X0_join_w6 : Cond.fieldLink RX0 28 "WarmProbes$Board" "touchOthers" "[I" ∈ wsX0_join := by decide +kernel
set_option maxRecDepth 20000 in
set_option maxHeartbeats 4000000 in
theorem b_X0_join_66 (B : wx_B p s m args meth c cX0_join 5 (some .int) wsX0_join RX0 D ad ca A) {o : Nat}  (ho : o < 11) {r : Int32} {σ' : wx_St}  {x1 : Int32} {x2 : Int32} {x3 : Int32} {x4 : Int32} {σ : wx_St}  (h : f_X0_join_66 o x1 x2 x3 x4 σ = some (r, σ')) {H : Heap} {locs : List Loc} (Z : wx_Z D ad rd ca A σ H) (hS : va_S A s.heap H locs) {ls : Array Slot} (hl : lv_has ls 5 [(0, .ref (ad o 99)), (1, .int x1), (2, .int x2), (3, .int x3), (4, .int x4)]) : W p l e ({ frames := 2, cells := 0, slots := 0, locals := 45 } : Room) s m args below meth c H locs 0 0 (MQ below (wx_Q D ad rd ca A (some (.int r)) σ') args s 0 0 A) (F0 m 66 ls []) := by
  obtain ⟨hx, hb, hml, hr, hts, hown, hlk, hC, hA⟩ := id B
  unfold f_X0_join_66 at h
  refine lv_bipush (v := (-5)) hx hb dX0_join_66 (by decide) ?_
  obtain ⟨rfl, rfl⟩ := wx_ret_ok h
  exact W.iret hx hb hr (fun t ht hW => ⟨rfl, by rw [ht]; exact Z, hS.F ht⟩) hS.2.2 dX0_join_68
set_option maxRecDepth 20000 in
set_option maxHeartbeats 4000000 in
theorem b_X0_join_0 (B : wx_B p s m args meth c cX0_join 5 (some .int) wsX0_join RX0 D ad ca A) {o : Nat}  (ho : o < 11) {r : Int32} {σ' : wx_St}  {x1 : Int32} {x2 : Int32} {x3 : Int32} {σ : wx_St}  (h : f_X0_join o x1 x2 x3 σ = some (r, σ')) {H : Heap} {locs : List Loc} (Z : wx_Z D ad rd ca A σ H) (hS : va_S A s.heap H locs) {ls : Array Slot} (hl : lv_has ls 5 [(0, .ref (ad o 99)), (1, .int x1), (2, .int x2), (3, .int x3)]) : W p l e ({ frames := 2, cells := 0, slots := 0, locals := 45 } : Room) s m args below meth c H locs 0 0 (MQ below (wx_Q D ad rd ca A (some (.int r)) σ') args s 0 0 A) (F0 m 0 ls []) := by
  obtain ⟨hx, hb, hml, hr, hts, hown, hlk, hC, hA⟩ := id B
  unfold f_X0_join at h
  refine lv_iload_n hx hb dX0_join_0 rfl (lv_at hl 1 rfl) ?_
  refine lv_iload_n hx hb dX0_join_1 rfl (lv_at hl 2 rfl) ?_
  obtain ⟨v2, hc2, h⟩ := wx_o_ok h
  refine wx_call (va_runSN (As := [.int x1, .int x2]) (rest := []) ⟨hx, hb, hml, hown, hts⟩ (c_X5_placeOf l (D := D) (ad := ad) (rd := rd) (ca := ca) (A := A) (σ := σ) hc2) ⟨va_cnB 2 hts gX0_join_X5_placeOf_n71 rfl rfl rfl (hC.1.2.1 _ (List.mem_of_getElem? (i := 34) rfl)) (hts _ k_X0_join_w0) (by decide +kernel) ⟨Nat.le_of_ble_eq_true rfl, Nat.le_of_ble_eq_true rfl⟩, hts _ k_X0_join_w1, trivial⟩ (wx_preS hC Z hS hA) rfl rfl hl.1 rfl (lv_room (Nat.le_of_ble_eq_true rfl)) dX0_join_2 ⟨Nat.zero_le _, Nat.zero_le _⟩) hS (fun H locs Z hS => ?_)
  refine lv_istore (lv' := [(4, .int v2), (0, .ref (ad o 99)), (1, .int x1), (2, .int x2), (3, .int x3)]) hx hb dX0_join_5 hl (by decide) rfl (fun ls hl => ?_)
  refine lv_iload hx hb dX0_join_7 (lv_at hl 0 rfl) ?_
  refine lv_if_ge (tgt := 14) hx hb dX0_join_9 (by decide) (fun c9 => ?_) (fun c9 => ?_)
  · replace h := wx_ift c9 h
    refine lv_iload_n hx hb dX0_join_14 rfl (lv_at hl 4 rfl) ?_
    obtain ⟨v15, hc15, h⟩ := wx_o_ok h
    refine wx_call (va_runSN (As := [.int x3]) (rest := []) ⟨hx, hb, hml, hown, hts⟩ (c_X5_isNet l (D := D) (ad := ad) (rd := rd) (ca := ca) (A := A) (σ := σ) hc15) ⟨va_cnB 1 hts gX0_join_X5_isNet_n75 rfl rfl rfl (hC.1.2.1 _ (List.mem_of_getElem? (i := 35) rfl)) (hts _ k_X0_join_w0) (by decide +kernel) ⟨Nat.le_of_ble_eq_true rfl, Nat.le_of_ble_eq_true rfl⟩, hts _ k_X0_join_w2, trivial⟩ (wx_preS hC Z hS hA) rfl rfl hl.1 rfl (lv_room (Nat.le_of_ble_eq_true rfl)) dX0_join_15 ⟨Nat.zero_le _, Nat.zero_le _⟩) hS (fun H locs Z hS => ?_)
    refine lv_if_ne (tgt := 24) hx hb dX0_join_18 (by decide) (fun c18 => ?_) (fun c18 => ?_)
    · replace h := wx_iff c18 h
      refine lv_aload_n hx hb dX0_join_24 rfl (lv_at hl 1 rfl) ?_
      refine wx_get (own := RX0) hx hb hts i_X0_join_0 hown hC.1 Z (o := o) (ci := 0) (wx_sbo ho 99) (rfl : vwCl[0]? = some (RX0, TX0, 13)) 1 (by decide) (hts _ k_X0_join_w3) (fun _ h9 => h9) (f := 0) rfl rfl dX0_join_25 ?_
      refine lv_iload hx hb dX0_join_28 (lv_at hl 0 rfl) ?_
      obtain ⟨v30, ev30, iv30, h⟩ := wx_rI_ok h
      refine wx_iald hx hb hC.1 Z (o := o) (k := 1) (n := 64) (wx_sbo ho 1) rfl iv30 dX0_join_30 ev30 ?_
      refine lv_if_eq (tgt := 66) hx hb dX0_join_31 (by decide) (fun c31 => ?_) (fun c31 => ?_)
      · replace h := wx_ift c31 h
        exact b_X0_join_66 B ho h Z hS (lv_sub hl [1, 2, 3, 4, 0] rfl)
      · replace h := wx_iff c31 h
        refine lv_aload_n hx hb dX0_join_34 rfl (lv_at hl 1 rfl) ?_
        refine wx_get (own := RX0) hx hb hts i_X0_join_0 hown hC.1 Z (o := o) (ci := 0) (wx_sbo ho 99) (rfl : vwCl[0]? = some (RX0, TX0, 13)) 1 (by decide) (hts _ k_X0_join_w3) (fun _ h9 => h9) (f := 0) rfl rfl dX0_join_35 ?_
        refine lv_iload hx hb dX0_join_38 (lv_at hl 0 rfl) ?_
        obtain ⟨v40, ev40, iv40, h⟩ := wx_rI_ok h
        refine wx_iald hx hb hC.1 Z (o := o) (k := 1) (n := 64) (wx_sbo ho 1) rfl iv40 dX0_join_40 ev40 ?_
        refine lv_iload_n hx hb dX0_join_41 rfl (lv_at hl 4 rfl) ?_
        refine lv_icmp_eq (tgt := 66) hx hb dX0_join_42 (by decide) (fun c42 => ?_) (fun c42 => ?_)
        · replace h := wx_ift c42 h
          exact b_X0_join_66 B ho h Z hS (lv_sub hl [1, 2, 3, 4, 0] rfl)
        · replace h := wx_iff c42 h
          refine lv_aload_n hx hb dX0_join_45 rfl (lv_at hl 1 rfl) ?_
          refine lv_iload hx hb dX0_join_46 (lv_at hl 0 rfl) ?_
          obtain ⟨v48, hc48, h⟩ := wx_o_ok h
          refine wx_call (va_runV (As := [.int v2]) (rest := []) ⟨hx, hb, hml, hown, hts⟩ (c_X0_touchAt l (D := D) (ad := ad) (rd := rd) (ca := ca) (A := A) (σ := σ) (o := o) ho hc48) (cwV 1 hts gX0_join_X0_touchAt rfl rfl rfl (by decide +kernel) ⟨Nat.le_of_ble_eq_true rfl, Nat.le_of_ble_eq_true rfl⟩) (wx_preV hC Z hS hA (wx_sbo ho 99) (rfl : vwCl[0]? = some (RX0, TX0, 13))) rfl rfl hl.1 rfl (lv_room (Nat.le_of_ble_eq_true rfl)) dX0_join_48 ⟨Nat.zero_le _, Nat.zero_le _⟩) hS (fun H locs Z hS => ?_)
          refine lv_bipush (v := (-6)) hx hb dX0_join_51 (by decide) ?_
          refine lv_icmp_ne (tgt := 66) hx hb dX0_join_53 (by decide) (fun c53 => ?_) (fun c53 => ?_)
          · replace h := wx_iff c53 h
            exact b_X0_join_66 B ho h Z hS (lv_sub hl [1, 2, 3, 4, 0] rfl)
          · replace h := wx_ift c53 h
            refine lv_aload_n hx hb dX0_join_56 rfl (lv_at hl 1 rfl) ?_
            refine lv_iload hx hb dX0_join_57 (lv_at hl 0 rfl) ?_
            refine lv_iload_n hx hb dX0_join_59 rfl (lv_at hl 4 rfl) ?_
            obtain ⟨v60, hc60, h⟩ := wx_o_ok h
            refine wx_call (va_runV (As := [.int v2, .int x3]) (rest := []) ⟨hx, hb, hml, hown, hts⟩ (c_X0_hasNeighbourOf l (D := D) (ad := ad) (rd := rd) (ca := ca) (A := A) (σ := σ) (o := o) ho hc60) (cwV 2 hts gX0_join_X0_hasNeighbourOf rfl rfl rfl (by decide +kernel) ⟨Nat.le_of_ble_eq_true rfl, Nat.le_of_ble_eq_true rfl⟩) (wx_preV hC Z hS hA (wx_sbo ho 99) (rfl : vwCl[0]? = some (RX0, TX0, 13))) rfl rfl hl.1 rfl (lv_room (Nat.le_of_ble_eq_true rfl)) dX0_join_60 ⟨Nat.zero_le _, Nat.zero_le _⟩) hS (fun H locs Z hS => ?_)
            refine lv_if_ne (tgt := 69) hx hb dX0_join_63 (by decide) (fun c63 => ?_) (fun c63 => ?_)
            · replace h := wx_iff c63 h
              refine lv_aload_n hx hb dX0_join_69 rfl (lv_at hl 1 rfl) ?_
              refine wx_get (own := RX0) hx hb hts i_X0_join_0 hown hC.1 Z (o := o) (ci := 0) (wx_sbo ho 99) (rfl : vwCl[0]? = some (RX0, TX0, 13)) 3 (by decide) (hts _ k_X0_join_w4) (fun _ h9 => h9) (f := 1) rfl rfl dX0_join_70 ?_
              refine lv_iconst (v := 3) hx hb dX0_join_73 (by decide) ?_
              refine lv_icmp_lt (tgt := 80) hx hb dX0_join_74 (by decide) (fun c74 => ?_) (fun c74 => ?_)
              · replace h := wx_ift c74 h
                refine lv_aload_n hx hb dX0_join_80 rfl (lv_at hl 1 rfl) ?_
                refine wx_get (own := RX0) hx hb hts i_X0_join_0 hown hC.1 Z (o := o) (ci := 0) (wx_sbo ho 99) (rfl : vwCl[0]? = some (RX0, TX0, 13)) 4 (by decide) (hts _ k_X0_join_w5) (fun _ h9 => h9) (f := 0) rfl rfl dX0_join_81 ?_
                refine lv_aload_n hx hb dX0_join_84 rfl (lv_at hl 1 rfl) ?_
                refine wx_get (own := RX0) hx hb hts i_X0_join_0 hown hC.1 Z (o := o) (ci := 0) (wx_sbo ho 99) (rfl : vwCl[0]? = some (RX0, TX0, 13)) 3 (by decide) (hts _ k_X0_join_w4) (fun _ h9 => h9) (f := 1) rfl rfl dX0_join_85 ?_
                refine lv_iload hx hb dX0_join_88 (lv_at hl 0 rfl) ?_
                obtain ⟨σ90, e90, i90, h⟩ := wx_w_ok h
                refine wx_iast hx hb hC.1 Z hS (o := o) (k := 4) (n := 3) (wx_sbo ho 4) rfl i90 dX0_join_90 e90 (fun H locs Z hS => ?_)
                refine lv_aload_n hx hb dX0_join_91 rfl (lv_at hl 1 rfl) ?_
                refine wx_get (own := RX0) hx hb hts i_X0_join_0 hown hC.1 Z (o := o) (ci := 0) (wx_sbo ho 99) (rfl : vwCl[0]? = some (RX0, TX0, 13)) 5 (by decide) (hts _ k_X0_join_w6) (fun _ h9 => h9) (f := 0) rfl rfl dX0_join_92 ?_
                refine lv_aload_n hx hb dX0_join_95 rfl (lv_at hl 1 rfl) ?_
                refine wx_get (own := RX0) hx hb hts i_X0_join_0 hown hC.1 Z (o := o) (ci := 0) (wx_sbo ho 99) (rfl : vwCl[0]? = some (RX0, TX0, 13)) 3 (by decide) (hts _ k_X0_join_w4) (fun _ h9 => h9) (f := 1) rfl rfl dX0_join_96 ?_
                refine lv_iload_n hx hb dX0_join_99 rfl (lv_at hl 4 rfl) ?_
                obtain ⟨σ100, e100, i100, h⟩ := wx_w_ok h
                refine wx_iast hx hb hC.1 Z hS (o := o) (k := 5) (n := 3) (wx_sbo ho 5) rfl i100 dX0_join_100 e100 (fun H locs Z hS => ?_)
                refine lv_aload_n hx hb dX0_join_101 rfl (lv_at hl 1 rfl) ?_
                refine lv_dup hx hb dX0_join_102 rfl ?_
                refine wx_get (own := RX0) hx hb hts i_X0_join_0 hown hC.1 Z (o := o) (ci := 0) (wx_sbo ho 99) (rfl : vwCl[0]? = some (RX0, TX0, 13)) 3 (by decide) (hts _ k_X0_join_w4) (fun _ h9 => h9) (f := 1) rfl rfl dX0_join_103 ?_
                refine lv_iconst (v := 1) hx hb dX0_join_106 (by decide) ?_
                refine lv_iadd hx hb dX0_join_107 ?_
                obtain ⟨σ108, e108, h⟩ := wx_l_ok h
                refine wx_put (own := RX0) hx hb hts i_X0_join_0 tyX0 tyX0_ok nmX0 hown hC.1 Z hS (o := o) (ci := 0) (wx_sbo ho 99) (rfl : vwCl[0]? = some (RX0, TX0, 13)) 3 (by decide) (hts _ k_X0_join_w4) (fun _ h9 => h9) rfl (by decide +kernel) rfl dX0_join_108 e108 (fun H locs Z hS => ?_)
                refine lv_aload_n hx hb dX0_join_111 rfl (lv_at hl 1 rfl) ?_
                obtain ⟨v112, σ112, hc112, h⟩ := wx_b_ok h
                refine wx_call (va_runV (As := []) (rest := []) ⟨hx, hb, hml, hown, hts⟩ (c_X0_beginRun l (D := D) (ad := ad) (rd := rd) (ca := ca) (A := A) (σ := σ108) (o := o) ho hc112) (cwV 0 hts gX0_join_X0_beginRun rfl rfl rfl (by decide +kernel) ⟨Nat.le_of_ble_eq_true rfl, Nat.le_of_ble_eq_true rfl⟩) (wx_preV hC Z hS hA (wx_sbo ho 99) (rfl : vwCl[0]? = some (RX0, TX0, 13))) rfl rfl hl.1 rfl (lv_room (Nat.le_of_ble_eq_true rfl)) dX0_join_112 ⟨Nat.zero_le _, Nat.zero_le _⟩) hS (fun H locs Z hS => ?_)
                refine lv_aload_n hx hb dX0_join_115 rfl (lv_at hl 1 rfl) ?_
                refine wx_get (own := RX0) hx hb hts i_X0_join_0 hown hC.1 Z (o := o) (ci := 0) (wx_sbo ho 99) (rfl : vwCl[0]? = some (RX0, TX0, 13)) 3 (by decide) (hts _ k_X0_join_w4) (fun _ h9 => h9) (f := 1) rfl rfl dX0_join_116 ?_
                refine lv_iconst (v := 1) hx hb dX0_join_119 (by decide) ?_
                refine lv_isub hx hb dX0_join_120 ?_
                obtain ⟨rfl, rfl⟩ := wx_ret_ok h
                exact W.iret hx hb hr (fun t ht hW => ⟨rfl, by rw [ht]; exact Z, hS.F ht⟩) hS.2.2 dX0_join_121
              · replace h := wx_iff c74 h
                refine lv_bipush (v := (-4)) hx hb dX0_join_77 (by decide) ?_
                obtain ⟨rfl, rfl⟩ := wx_ret_ok h
                exact W.iret hx hb hr (fun t ht hW => ⟨rfl, by rw [ht]; exact Z, hS.F ht⟩) hS.2.2 dX0_join_79
            · replace h := wx_ift c63 h
              exact b_X0_join_66 B ho h Z hS (lv_sub hl [1, 2, 3, 4, 0] rfl)
    · replace h := wx_ift c18 h
      refine lv_bipush (v := (-2)) hx hb dX0_join_21 (by decide) ?_
      obtain ⟨rfl, rfl⟩ := wx_ret_ok h
      exact W.iret hx hb hr (fun t ht hW => ⟨rfl, by rw [ht]; exact Z, hS.F ht⟩) hS.2.2 dX0_join_23
  · replace h := wx_iff c9 h
    refine lv_iconst (v := (-1)) hx hb dX0_join_12 (by decide) ?_
    obtain ⟨rfl, rfl⟩ := wx_ret_ok h
    exact W.iret hx hb hr (fun t ht hW => ⟨rfl, by rw [ht]; exact Z, hS.F ht⟩) hS.2.2 dX0_join_13
set_option maxRecDepth 20000 in
theorem c_X0_join (l : Launch) {D : va_G} {ad : Nat → Nat → Nat} {rd : Nat → Nat} {ca : Nat → ClassId} {A : Nat → Prop} {σ : wx_St} {o : Nat}  (ho : o < 11) {x1 : Int32} {x2 : Int32} {x3 : Int32} {r : Int32} {σ' : wx_St} (h : f_X0_join o x1 x2 x3 σ = some (r, σ')) : wx_M l yX0_join wsX0_join 2 45 D ad rd ca A [.ref (ad o 99), .int x1, .int x2, .int x3] σ (some (.int r)) σ' := by
  refine Met.ofW (cc := cX0_join) (maxL := 5) (ret := (some .int)) (by decide +kernel) rfl ?_
  intro p e s m args below meth c s₁ B0 hml hv
  obtain ⟨rfl, hC, Z, hA⟩ := hv
  have hl := lv_entry ([.ref (ad o 99), .int x1, .int x2, .int x3]) (n := 5) (Nat.le_of_ble_eq_true rfl)
  rw [lg_entry_eq]
  generalize (lg_sl ([.ref (ad o 99), .int x1, .int x2, .int x3]) ++ List.replicate (5 - (lg_sl ([.ref (ad o 99), .int x1, .int x2, .int x3])).length) Slot.unset).toArray = ls at hl ⊢
  exact b_X0_join_0 ⟨B0.exec, B0.bytes, hml, B0.returns, atoms_spec (ws := wsX0_join) B0.pre, findClass_of_methodNamed B0.named, B0.notSynchronized, hC, hA⟩ ho  h Z va_S.rf hl
theorem i_X0_lay_0 : ∀ w ∈ wsX00, w ∈ wsX0_lay := by decide +kernel
theorem k_X0_lay_w0 : Cond.initialized RX5 ∈ wsX0_lay := by decide +kernel
theorem k_X0_lay_w1 : Cond.static yX5_placeOf ∈ wsX0_lay := by decide +kernel
theorem k_X0_lay_w2 : Cond.static yX5_isNet ∈ wsX0_lay := by decide +kernel
theorem k_X0_lay_w3 : Cond.fieldLink RX0 15 "WarmProbes$Board" "nets" "[I" ∈ wsX0_lay := by decide +kernel
set_option maxRecDepth 20000 in
set_option maxHeartbeats 4000000 in
theorem b_X0_lay_28 (B : wx_B p s m args meth c cX0_lay 6 (some .int) wsX0_lay RX0 D ad ca A) {o : Nat}  (ho : o < 11) {r : Int32} {σ' : wx_St}  {x1 : Int32} {x2 : Int32} {x3 : Int32} {x4 : Int32} {σ : wx_St}  (h : f_X0_lay_28 o x1 x2 x3 x4 σ = some (r, σ')) {H : Heap} {locs : List Loc} (Z : wx_Z D ad rd ca A σ H) (hS : va_S A s.heap H locs) {ls : Array Slot} (hl : lv_has ls 6 [(0, .ref (ad o 99)), (1, .int x1), (2, .int x2), (3, .int x3), (4, .int x4)]) : W p l e ({ frames := 3, cells := 0, slots := 0, locals := 65 } : Room) s m args below meth c H locs 0 0 (MQ below (wx_Q D ad rd ca A (some (.int r)) σ') args s 0 0 A) (F0 m 28 ls []) := by
  obtain ⟨hx, hb, hml, hr, hts, hown, hlk, hC, hA⟩ := id B
  unfold f_X0_lay_28 at h
  refine lv_aload_n hx hb dX0_lay_28 rfl (lv_at hl 0 rfl) ?_
  refine lv_iload hx hb dX0_lay_29 (lv_at hl 4 rfl) ?_
  obtain ⟨v31, hc31, h⟩ := wx_o_ok h
  refine wx_call (va_runV (As := [.int x4]) (rest := []) ⟨hx, hb, hml, hown, hts⟩ (c_X0_isNeededByTouch l (D := D) (ad := ad) (rd := rd) (ca := ca) (A := A) (σ := σ) (o := o) ho hc31) (cwV 1 hts gX0_lay_X0_isNeededByTouch rfl rfl rfl (by decide +kernel) ⟨Nat.le_of_ble_eq_true rfl, Nat.le_of_ble_eq_true rfl⟩) (wx_preV hC Z hS hA (wx_sbo ho 99) (rfl : vwCl[0]? = some (RX0, TX0, 13))) rfl rfl hl.1 rfl (lv_room (Nat.le_of_ble_eq_true rfl)) dX0_lay_31 ⟨Nat.zero_le _, Nat.zero_le _⟩) hS (fun H locs Z hS => ?_)
  refine lv_if_eq (tgt := 40) hx hb dX0_lay_34 (by decide) (fun c34 => ?_) (fun c34 => ?_)
  · replace h := wx_ift c34 h
    refine lv_aload_n hx hb dX0_lay_40 rfl (lv_at hl 0 rfl) ?_
    refine wx_get (own := RX0) hx hb hts i_X0_lay_0 hown hC.1 Z (o := o) (ci := 0) (wx_sbo ho 99) (rfl : vwCl[0]? = some (RX0, TX0, 13)) 1 (by decide) (hts _ k_X0_lay_w3) (fun _ h9 => h9) (f := 0) rfl rfl dX0_lay_41 ?_
    refine lv_iload hx hb dX0_lay_44 (lv_at hl 4 rfl) ?_
    obtain ⟨v46, ev46, iv46, h⟩ := wx_rI_ok h
    refine wx_iald hx hb hC.1 Z (o := o) (k := 1) (n := 64) (wx_sbo ho 1) rfl iv46 dX0_lay_46 ev46 ?_
    refine lv_istore (lv' := [(5, .int v46), (0, .ref (ad o 99)), (1, .int x1), (2, .int x2), (3, .int x3), (4, .int x4)]) hx hb dX0_lay_47 hl (by decide) rfl (fun ls hl => ?_)
    refine lv_aload_n hx hb dX0_lay_49 rfl (lv_at hl 1 rfl) ?_
    refine wx_get (own := RX0) hx hb hts i_X0_lay_0 hown hC.1 Z (o := o) (ci := 0) (wx_sbo ho 99) (rfl : vwCl[0]? = some (RX0, TX0, 13)) 1 (by decide) (hts _ k_X0_lay_w3) (fun _ h9 => h9) (f := 0) rfl rfl dX0_lay_50 ?_
    refine lv_iload hx hb dX0_lay_53 (lv_at hl 5 rfl) ?_
    refine lv_iload_n hx hb dX0_lay_55 rfl (lv_at hl 4 rfl) ?_
    obtain ⟨σ56, e56, i56, h⟩ := wx_w_ok h
    refine wx_iast hx hb hC.1 Z hS (o := o) (k := 1) (n := 64) (wx_sbo ho 1) rfl i56 dX0_lay_56 e56 (fun H locs Z hS => ?_)
    refine lv_aload_n hx hb dX0_lay_57 rfl (lv_at hl 1 rfl) ?_
    obtain ⟨v58, σ58, hc58, h⟩ := wx_b_ok h
    refine wx_call (va_runV (As := []) (rest := []) ⟨hx, hb, hml, hown, hts⟩ (c_X0_beginRun l (D := D) (ad := ad) (rd := rd) (ca := ca) (A := A) (σ := σ56) (o := o) ho hc58) (cwV 0 hts gX0_lay_X0_beginRun rfl rfl rfl (by decide +kernel) ⟨Nat.le_of_ble_eq_true rfl, Nat.le_of_ble_eq_true rfl⟩) (wx_preV hC Z hS hA (wx_sbo ho 99) (rfl : vwCl[0]? = some (RX0, TX0, 13))) rfl rfl hl.1 rfl (lv_room (Nat.le_of_ble_eq_true rfl)) dX0_lay_58 ⟨Nat.zero_le _, Nat.zero_le _⟩) hS (fun H locs Z hS => ?_)
    refine lv_iload hx hb dX0_lay_61 (lv_at hl 0 rfl) ?_
    obtain ⟨rfl, rfl⟩ := wx_ret_ok h
    exact W.iret hx hb hr (fun t ht hW => ⟨rfl, by rw [ht]; exact Z, hS.F ht⟩) hS.2.2 dX0_lay_63
  · replace h := wx_iff c34 h
    refine lv_bipush (v := (-5)) hx hb dX0_lay_37 (by decide) ?_
    obtain ⟨rfl, rfl⟩ := wx_ret_ok h
    exact W.iret hx hb hr (fun t ht hW => ⟨rfl, by rw [ht]; exact Z, hS.F ht⟩) hS.2.2 dX0_lay_39
set_option maxRecDepth 20000 in
set_option maxHeartbeats 4000000 in
theorem b_X0_lay_0 (B : wx_B p s m args meth c cX0_lay 6 (some .int) wsX0_lay RX0 D ad ca A) {o : Nat}  (ho : o < 11) {r : Int32} {σ' : wx_St}  {x1 : Int32} {x2 : Int32} {x3 : Int32} {σ : wx_St}  (h : f_X0_lay o x1 x2 x3 σ = some (r, σ')) {H : Heap} {locs : List Loc} (Z : wx_Z D ad rd ca A σ H) (hS : va_S A s.heap H locs) {ls : Array Slot} (hl : lv_has ls 6 [(0, .ref (ad o 99)), (1, .int x1), (2, .int x2), (3, .int x3)]) : W p l e ({ frames := 3, cells := 0, slots := 0, locals := 65 } : Room) s m args below meth c H locs 0 0 (MQ below (wx_Q D ad rd ca A (some (.int r)) σ') args s 0 0 A) (F0 m 0 ls []) := by
  obtain ⟨hx, hb, hml, hr, hts, hown, hlk, hC, hA⟩ := id B
  unfold f_X0_lay at h
  refine lv_iload_n hx hb dX0_lay_0 rfl (lv_at hl 1 rfl) ?_
  refine lv_iload_n hx hb dX0_lay_1 rfl (lv_at hl 2 rfl) ?_
  obtain ⟨v2, hc2, h⟩ := wx_o_ok h
  refine wx_call (va_runSN (As := [.int x1, .int x2]) (rest := []) ⟨hx, hb, hml, hown, hts⟩ (c_X5_placeOf l (D := D) (ad := ad) (rd := rd) (ca := ca) (A := A) (σ := σ) hc2) ⟨va_cnB 2 hts gX0_lay_X5_placeOf_n71 rfl rfl rfl (hC.1.2.1 _ (List.mem_of_getElem? (i := 34) rfl)) (hts _ k_X0_lay_w0) (by decide +kernel) ⟨Nat.le_of_ble_eq_true rfl, Nat.le_of_ble_eq_true rfl⟩, hts _ k_X0_lay_w1, trivial⟩ (wx_preS hC Z hS hA) rfl rfl hl.1 rfl (lv_room (Nat.le_of_ble_eq_true rfl)) dX0_lay_2 ⟨Nat.zero_le _, Nat.zero_le _⟩) hS (fun H locs Z hS => ?_)
  refine lv_istore (lv' := [(4, .int v2), (0, .ref (ad o 99)), (1, .int x1), (2, .int x2), (3, .int x3)]) hx hb dX0_lay_5 hl (by decide) rfl (fun ls hl => ?_)
  refine lv_iload hx hb dX0_lay_7 (lv_at hl 0 rfl) ?_
  refine lv_if_ge (tgt := 14) hx hb dX0_lay_9 (by decide) (fun c9 => ?_) (fun c9 => ?_)
  · replace h := wx_ift c9 h
    refine lv_iload_n hx hb dX0_lay_14 rfl (lv_at hl 4 rfl) ?_
    refine lv_if_eq (tgt := 28) hx hb dX0_lay_15 (by decide) (fun c15 => ?_) (fun c15 => ?_)
    · replace h := wx_ift c15 h
      exact b_X0_lay_28 B ho h Z hS (lv_sub hl [1, 2, 3, 4, 0] rfl)
    · replace h := wx_iff c15 h
      refine lv_iload_n hx hb dX0_lay_18 rfl (lv_at hl 4 rfl) ?_
      obtain ⟨v19, hc19, h⟩ := wx_o_ok h
      refine wx_call (va_runSN (As := [.int x3]) (rest := []) ⟨hx, hb, hml, hown, hts⟩ (c_X5_isNet l (D := D) (ad := ad) (rd := rd) (ca := ca) (A := A) (σ := σ) hc19) ⟨va_cnB 1 hts gX0_lay_X5_isNet_n75 rfl rfl rfl (hC.1.2.1 _ (List.mem_of_getElem? (i := 35) rfl)) (hts _ k_X0_lay_w0) (by decide +kernel) ⟨Nat.le_of_ble_eq_true rfl, Nat.le_of_ble_eq_true rfl⟩, hts _ k_X0_lay_w2, trivial⟩ (wx_preS hC Z hS hA) rfl rfl hl.1 rfl (lv_room (Nat.le_of_ble_eq_true rfl)) dX0_lay_19 ⟨Nat.zero_le _, Nat.zero_le _⟩) hS (fun H locs Z hS => ?_)
      refine lv_if_ne (tgt := 28) hx hb dX0_lay_22 (by decide) (fun c22 => ?_) (fun c22 => ?_)
      · replace h := wx_iff c22 h
        exact b_X0_lay_28 B ho h Z hS (lv_sub hl [1, 2, 3, 4, 0] rfl)
      · replace h := wx_ift c22 h
        refine lv_bipush (v := (-2)) hx hb dX0_lay_25 (by decide) ?_
        obtain ⟨rfl, rfl⟩ := wx_ret_ok h
        exact W.iret hx hb hr (fun t ht hW => ⟨rfl, by rw [ht]; exact Z, hS.F ht⟩) hS.2.2 dX0_lay_27
  · replace h := wx_iff c9 h
    refine lv_iconst (v := (-1)) hx hb dX0_lay_12 (by decide) ?_
    obtain ⟨rfl, rfl⟩ := wx_ret_ok h
    exact W.iret hx hb hr (fun t ht hW => ⟨rfl, by rw [ht]; exact Z, hS.F ht⟩) hS.2.2 dX0_lay_13
set_option maxRecDepth 20000 in
theorem c_X0_lay (l : Launch) {D : va_G} {ad : Nat → Nat → Nat} {rd : Nat → Nat} {ca : Nat → ClassId} {A : Nat → Prop} {σ : wx_St} {o : Nat}  (ho : o < 11) {x1 : Int32} {x2 : Int32} {x3 : Int32} {r : Int32} {σ' : wx_St} (h : f_X0_lay o x1 x2 x3 σ = some (r, σ')) : wx_M l yX0_lay wsX0_lay 3 65 D ad rd ca A [.ref (ad o 99), .int x1, .int x2, .int x3] σ (some (.int r)) σ' := by
  refine Met.ofW (cc := cX0_lay) (maxL := 6) (ret := (some .int)) (by decide +kernel) rfl ?_
  intro p e s m args below meth c s₁ B0 hml hv
  obtain ⟨rfl, hC, Z, hA⟩ := hv
  have hl := lv_entry ([.ref (ad o 99), .int x1, .int x2, .int x3]) (n := 6) (Nat.le_of_ble_eq_true rfl)
  rw [lg_entry_eq]
  generalize (lg_sl ([.ref (ad o 99), .int x1, .int x2, .int x3]) ++ List.replicate (6 - (lg_sl ([.ref (ad o 99), .int x1, .int x2, .int x3])).length) Slot.unset).toArray = ls at hl ⊢
  exact b_X0_lay_0 ⟨B0.exec, B0.bytes, hml, B0.returns, atoms_spec (ws := wsX0_lay) B0.pre, findClass_of_methodNamed B0.named, B0.notSynchronized, hC, hA⟩ ho  h Z va_S.rf hl
set_option maxRecDepth 20000 in
set_option maxHeartbeats 4000000 in
theorem b_X5_isIn_15 (B : wx_B p s m args meth c cX5_isIn 3 (some .boolean) wsX5_isIn RX5 D ad ca A)    {r : Int32} {σ : wx_St}  {x0 : Int64} {x2 : Int32} {y0 : Int32}   (h : f_X5_isIn_15 x0 x2 y0 = some r) {H : Heap} {locs : List Loc} (Z : wx_Z D ad rd ca A σ H) (hS : va_S A s.heap H locs) {ls : Array Slot} (hl : lv_has ls 3 [(0, .long x0), (2, .int x2)]) : W p l e ({ frames := 0, cells := 0, slots := 0, locals := 0 } : Room) s m args below meth c H locs 0 0 (MQ below (wx_Q D ad rd ca A (some (.int r)) σ) args s 0 0 A) (F0 m 15 ls [.int y0]) := by
  obtain ⟨hx, hb, hml, hr, hts, hown, hlk, hC, hA⟩ := id B
  unfold f_X5_isIn_15 at h
  obtain ⟨hz, h⟩ := wx_z_ok h
  obtain rfl := Option.some.inj h
  exact W.zret hx hb hr (wx_nb hz) (fun t ht hW => ⟨rfl, by rw [ht]; exact Z, hS.F ht⟩) hS.2.2 dX5_isIn_15
set_option maxRecDepth 20000 in
set_option maxHeartbeats 4000000 in
theorem b_X5_isIn_0 (B : wx_B p s m args meth c cX5_isIn 3 (some .boolean) wsX5_isIn RX5 D ad ca A)    {r : Int32} {σ : wx_St}  {x0 : Int64} {x2 : Int32}   (h : f_X5_isIn x0 x2 = some r) {H : Heap} {locs : List Loc} (Z : wx_Z D ad rd ca A σ H) (hS : va_S A s.heap H locs) {ls : Array Slot} (hl : lv_has ls 3 [(0, .long x0), (2, .int x2)]) : W p l e ({ frames := 0, cells := 0, slots := 0, locals := 0 } : Room) s m args below meth c H locs 0 0 (MQ below (wx_Q D ad rd ca A (some (.int r)) σ) args s 0 0 A) (F0 m 0 ls []) := by
  obtain ⟨hx, hb, hml, hr, hts, hown, hlk, hC, hA⟩ := id B
  unfold f_X5_isIn at h
  refine lv_lload_n hx hb dX5_isIn_0 rfl (lv_at hl 0 rfl) ?_
  refine lv_iload_n hx hb dX5_isIn_1 rfl (lv_at hl 1 rfl) ?_
  refine lv_lushr (v := (x0.toUInt64 >>> (x2.toInt64.toUInt64 &&& Int64.toUInt64 63)).toInt64) hx hb dX5_isIn_2 rfl ?_
  refine lv_lconst (v := 1) hx hb dX5_isIn_3 (by decide) ?_
  refine lv_land hx hb dX5_isIn_4 ?_
  refine lv_lconst (v := 0) hx hb dX5_isIn_5 (by decide) ?_
  refine W.lcmp hx hb dX5_isIn_6 ?_
  refine lv_if_eq (tgt := 14) hx hb dX5_isIn_7 (by decide) (fun c7 => ?_) (fun c7 => ?_)
  · replace h := wx_ift c7 h
    refine lv_iconst (v := 0) hx hb dX5_isIn_14 (by decide) ?_
    exact b_X5_isIn_15 B h Z hS (lv_sub hl [0, 1] rfl)
  · replace h := wx_iff c7 h
    refine lv_iconst (v := 1) hx hb dX5_isIn_10 (by decide) ?_
    refine lv_goto (tgt := 15) hx hb dX5_isIn_11 (by decide) ?_
    exact b_X5_isIn_15 B h Z hS (lv_sub hl [0, 1] rfl)
set_option maxRecDepth 20000 in
theorem c_X5_isIn (l : Launch) {D : va_G} {ad : Nat → Nat → Nat} {rd : Nat → Nat} {ca : Nat → ClassId} {A : Nat → Prop} {σ : wx_St}    {x0 : Int64} {x2 : Int32} {r : Int32} (h : f_X5_isIn x0 x2 = some r) : wx_M l yX5_isIn wsX5_isIn 0 0 D ad rd ca A [.long x0, .int x2] σ (some (.int r)) σ := by
  refine Met.ofW (cc := cX5_isIn) (maxL := 3) (ret := (some .boolean)) (by decide +kernel) rfl ?_
  intro p e s m args below meth c s₁ B0 hml hv
  obtain ⟨rfl, hC, Z, hA⟩ := hv
  have hl := lv_entry ([.long x0, .int x2]) (n := 3) (Nat.le_of_ble_eq_true rfl)
  rw [lg_entry_eq]
  generalize (lg_sl ([.long x0, .int x2]) ++ List.replicate (3 - (lg_sl ([.long x0, .int x2])).length) Slot.unset).toArray = ls at hl ⊢
  exact b_X5_isIn_0 ⟨B0.exec, B0.bytes, hml, B0.returns, atoms_spec (ws := wsX5_isIn) B0.pre, findClass_of_methodNamed B0.named, B0.notSynchronized, hC, hA⟩   h Z va_S.rf hl
theorem k_X5_step_w0 : Cond.constantFloat RX5 259 (1120403456) ∈ wsX5_step := by decide +kernel
set_option maxRecDepth 20000 in
set_option maxHeartbeats 4000000 in
theorem m_X5_step_206 {o0 : Nat} {k0 : Nat} {n0 : Nat} {o2 : Nat} {k2 : Nat} {n2 : Nat} {o6 : Nat} {k6 : Nat}  {σ' : wx_St} {K27 : Int32 → Int32 → Int64 → UInt32 → UInt32 → UInt32 → Int32 → wx_St → Option (Unit × wx_St)} (mK27 : ∀ {x1 : Int32} {x3 : Int32} {x4 : Int64} {x7 : UInt32} {x8 : UInt32} {x9 : UInt32} {x10 : Int32} {σ : wx_St}, K27 x1 x3 x4 x7 x8 x9 x10 σ = some ((), σ') → σ'.2.2.2.2 = σ.2.2.2.2) {x1 : Int32} {x3 : Int32} {x4 : Int64} {x7 : UInt32} {x8 : UInt32} {x9 : UInt32} {x10 : Int32} {x11 : Int32} {x12 : UInt32} {x13 : UInt32} {x14 : UInt32} {y1 : Int32} {y2 : UInt32} {σ : wx_St} (h : f_X5_step_206 o0 k0 n0 o2 k2 n2 o6 k6 K27 x1 x3 x4 x7 x8 x9 x10 x11 x12 x13 x14 y1 y2 σ = some ((), σ')) : σ'.2.2.2.2 = σ.2.2.2.2 := by
  unfold f_X5_step_206 at h
  obtain ⟨σ206, e206, i206, h⟩ := wx_w_ok h
  refine Eq.trans ?_ (show σ206.2.2.2.2 = σ.2.2.2.2 from (congrArg (fun z : wx_St => z.2.2.2.2) e206).trans rfl)
  exact mK27 h
set_option maxRecDepth 20000 in
set_option maxHeartbeats 4000000 in
theorem b_X5_step_206 (B : wx_B p s m args meth c cX5_step 15 none wsX5_step RX5 D ad ca A) {o0 : Nat} {k0 : Nat} {n0 : Nat} {o2 : Nat} {k2 : Nat} {n2 : Nat} {o6 : Nat} {k6 : Nat} {al : Nat → Bool} (hs0 : wx_sh al o0 k0 = (2, n0)) (hs2 : wx_sh al o2 k2 = (2, n2)) (hs6 : wx_sh al o6 k6 = (1, 4))  {σ' : wx_St} {K27 : Int32 → Int32 → Int64 → UInt32 → UInt32 → UInt32 → Int32 → wx_St → Option (Unit × wx_St)} (hK27 : ∀ {x1 : Int32} {x3 : Int32} {x4 : Int64} {x7 : UInt32} {x8 : UInt32} {x9 : UInt32} {x10 : Int32} {σ : wx_St}  (h : K27 x1 x3 x4 x7 x8 x9 x10 σ = some ((), σ')) {H : Heap} {locs : List Loc} (Z : wx_Z D ad rd ca A σ H) (hS : va_S A s.heap H locs) {ls : Array Slot} (hl : lv_has ls 15 [(0, .ref (wx_ad ad rd o0 k0)), (1, .int x1), (2, .ref (wx_ad ad rd o2 k2)), (3, .int x3), (4, .long x4), (6, .ref (wx_ad ad rd o6 k6)), (7, .float x7), (8, .float x8), (9, .float x9), (10, .int x10)]) (hal : σ.2.2.2.2 = al), W p l e ({ frames := 1, cells := 0, slots := 0, locals := 22 } : Room) s m args below meth c H locs 0 0 (MQ below (wx_Q D ad rd ca A none σ') args s 0 0 A) (F0 m 27 ls [])) {x1 : Int32} {x3 : Int32} {x4 : Int64} {x7 : UInt32} {x8 : UInt32} {x9 : UInt32} {x10 : Int32} {x11 : Int32} {x12 : UInt32} {x13 : UInt32} {x14 : UInt32} {y1 : Int32} {y2 : UInt32} {σ : wx_St}  (h : f_X5_step_206 o0 k0 n0 o2 k2 n2 o6 k6 K27 x1 x3 x4 x7 x8 x9 x10 x11 x12 x13 x14 y1 y2 σ = some ((), σ')) {H : Heap} {locs : List Loc} (Z : wx_Z D ad rd ca A σ H) (hS : va_S A s.heap H locs) {ls : Array Slot} (hl : lv_has ls 15 [(0, .ref (wx_ad ad rd o0 k0)), (1, .int x1), (2, .ref (wx_ad ad rd o2 k2)), (3, .int x3), (4, .long x4), (6, .ref (wx_ad ad rd o6 k6)), (7, .float x7), (8, .float x8), (9, .float x9), (10, .int x10), (11, .int x11), (12, .float x12), (13, .float x13), (14, .float x14)]) (hal : σ.2.2.2.2 = al) : W p l e ({ frames := 1, cells := 0, slots := 0, locals := 22 } : Room) s m args below meth c H locs 0 0 (MQ below (wx_Q D ad rd ca A none σ') args s 0 0 A) (F0 m 206 ls [.float y2, .int y1, .ref (wx_ad ad rd o2 k2)]) := by
  obtain ⟨hx, hb, hml, hr, hts, hown, hlk, hC, hA⟩ := id B
  unfold f_X5_step_206 at h
  obtain ⟨σ206, e206, i206, h⟩ := wx_w_ok h
  refine wx_fast hx hb hC.1 Z hS (o := o2) (k := k2) (n := n2) (wx_hal hal hs2) rfl i206 dX5_step_206 e206 (fun H locs Z hS => ?_)
  replace hal := (show σ206.2.2.2.2 = σ.2.2.2.2 from (congrArg (fun z : wx_St => z.2.2.2.2) e206).trans rfl).trans hal
  refine lv_iinc (v := x10 + 1) (lv' := [(10, .int (x10 + 1)), (0, .ref (wx_ad ad rd o0 k0)), (1, .int x1), (2, .ref (wx_ad ad rd o2 k2)), (3, .int x3), (4, .long x4), (6, .ref (wx_ad ad rd o6 k6)), (7, .float x7), (8, .float x8), (9, .float x9), (11, .int x11), (12, .float x12), (13, .float x13), (14, .float x14)]) hx hb dX5_step_207 hl (k := 9) rfl rfl (by decide) rfl (fun ls hl => ?_)
  refine lv_goto (tgt := 27) hx hb dX5_step_210 (by decide) ?_
  exact hK27 h Z hS (lv_sub hl [1, 2, 3, 4, 5, 6, 7, 8, 9, 0] rfl) hal
set_option maxRecDepth 20000 in
set_option maxHeartbeats 4000000 in
theorem m_X5_step_167 {o0 : Nat} {k0 : Nat} {n0 : Nat} {o2 : Nat} {k2 : Nat} {n2 : Nat} {o6 : Nat} {k6 : Nat}  {σ' : wx_St} {K27 : Int32 → Int32 → Int64 → UInt32 → UInt32 → UInt32 → Int32 → wx_St → Option (Unit × wx_St)} (mK27 : ∀ {x1 : Int32} {x3 : Int32} {x4 : Int64} {x7 : UInt32} {x8 : UInt32} {x9 : UInt32} {x10 : Int32} {σ : wx_St}, K27 x1 x3 x4 x7 x8 x9 x10 σ = some ((), σ') → σ'.2.2.2.2 = σ.2.2.2.2) {x1 : Int32} {x3 : Int32} {x4 : Int64} {x7 : UInt32} {x8 : UInt32} {x9 : UInt32} {x10 : Int32} {x11 : Int32} {x12 : UInt32} {x13 : UInt32} {σ : wx_St} (h : f_X5_step_167 o0 k0 n0 o2 k2 n2 o6 k6 K27 x1 x3 x4 x7 x8 x9 x10 x11 x12 x13 σ = some ((), σ')) : σ'.2.2.2.2 = σ.2.2.2.2 := by
  unfold f_X5_step_167 at h
  obtain ⟨v171, ev171, nv171, h⟩ := wx_f_ok h
  obtain ⟨v174, ev174, nv174, h⟩ := wx_f_ok h
  obtain ⟨v178, ev178, nv178, h⟩ := wx_f_ok h
  obtain ⟨v190, hc190, h⟩ := wx_o_ok h
  by_cases c193 : v190 = 0
  · replace h := wx_ift c193 h
    exact m_X5_step_206 (K27 := K27) @mK27 h
  · replace h := wx_iff c193 h
    obtain ⟨v200, ev200, nv200, h⟩ := wx_f_ok h
    exact m_X5_step_206 (K27 := K27) @mK27 h
set_option maxRecDepth 20000 in
set_option maxHeartbeats 4000000 in
theorem b_X5_step_167 (B : wx_B p s m args meth c cX5_step 15 none wsX5_step RX5 D ad ca A) {o0 : Nat} {k0 : Nat} {n0 : Nat} {o2 : Nat} {k2 : Nat} {n2 : Nat} {o6 : Nat} {k6 : Nat} {al : Nat → Bool} (hs0 : wx_sh al o0 k0 = (2, n0)) (hs2 : wx_sh al o2 k2 = (2, n2)) (hs6 : wx_sh al o6 k6 = (1, 4))  {σ' : wx_St} {K27 : Int32 → Int32 → Int64 → UInt32 → UInt32 → UInt32 → Int32 → wx_St → Option (Unit × wx_St)} (hK27 : ∀ {x1 : Int32} {x3 : Int32} {x4 : Int64} {x7 : UInt32} {x8 : UInt32} {x9 : UInt32} {x10 : Int32} {σ : wx_St}  (h : K27 x1 x3 x4 x7 x8 x9 x10 σ = some ((), σ')) {H : Heap} {locs : List Loc} (Z : wx_Z D ad rd ca A σ H) (hS : va_S A s.heap H locs) {ls : Array Slot} (hl : lv_has ls 15 [(0, .ref (wx_ad ad rd o0 k0)), (1, .int x1), (2, .ref (wx_ad ad rd o2 k2)), (3, .int x3), (4, .long x4), (6, .ref (wx_ad ad rd o6 k6)), (7, .float x7), (8, .float x8), (9, .float x9), (10, .int x10)]) (hal : σ.2.2.2.2 = al), W p l e ({ frames := 1, cells := 0, slots := 0, locals := 22 } : Room) s m args below meth c H locs 0 0 (MQ below (wx_Q D ad rd ca A none σ') args s 0 0 A) (F0 m 27 ls [])) {x1 : Int32} {x3 : Int32} {x4 : Int64} {x7 : UInt32} {x8 : UInt32} {x9 : UInt32} {x10 : Int32} {x11 : Int32} {x12 : UInt32} {x13 : UInt32} {σ : wx_St}  (h : f_X5_step_167 o0 k0 n0 o2 k2 n2 o6 k6 K27 x1 x3 x4 x7 x8 x9 x10 x11 x12 x13 σ = some ((), σ')) {H : Heap} {locs : List Loc} (Z : wx_Z D ad rd ca A σ H) (hS : va_S A s.heap H locs) {ls : Array Slot} (hl : lv_has ls 15 [(0, .ref (wx_ad ad rd o0 k0)), (1, .int x1), (2, .ref (wx_ad ad rd o2 k2)), (3, .int x3), (4, .long x4), (6, .ref (wx_ad ad rd o6 k6)), (7, .float x7), (8, .float x8), (9, .float x9), (10, .int x10), (11, .int x11), (12, .float x12), (13, .float x13)]) (hal : σ.2.2.2.2 = al) : W p l e ({ frames := 1, cells := 0, slots := 0, locals := 22 } : Room) s m args below meth c H locs 0 0 (MQ below (wx_Q D ad rd ca A none σ') args s 0 0 A) (F0 m 167 ls []) := by
  obtain ⟨hx, hb, hml, hr, hts, hown, hlk, hC, hA⟩ := id B
  unfold f_X5_step_167 at h
  refine lv_fload hx hb dX5_step_167 (lv_at hl 11 rfl) ?_
  refine lv_fload hx hb dX5_step_169 (lv_at hl 12 rfl) ?_
  obtain ⟨v171, ev171, nv171, h⟩ := wx_f_ok h
  refine wx_fadd hx hb dX5_step_171 ev171 nv171 ?_
  refine lv_fload hx hb dX5_step_172 (lv_at hl 7 rfl) ?_
  obtain ⟨v174, ev174, nv174, h⟩ := wx_f_ok h
  refine wx_fmul hx hb dX5_step_174 ev174 nv174 ?_
  refine wx_ldcwF hx hb hown (hts _ k_X5_step_w0) dX5_step_175 ?_
  obtain ⟨v178, ev178, nv178, h⟩ := wx_f_ok h
  refine wx_fdiv hx hb dX5_step_178 ev178 nv178 ?_
  refine lv_fstore (lv' := [(14, .float v178), (0, .ref (wx_ad ad rd o0 k0)), (1, .int x1), (2, .ref (wx_ad ad rd o2 k2)), (3, .int x3), (4, .long x4), (6, .ref (wx_ad ad rd o6 k6)), (7, .float x7), (8, .float x8), (9, .float x9), (10, .int x10), (11, .int x11), (12, .float x12), (13, .float x13)]) hx hb dX5_step_179 hl (by decide) rfl (fun ls hl => ?_)
  refine lv_aload_n hx hb dX5_step_181 rfl (lv_at hl 3 rfl) ?_
  refine lv_iload_n hx hb dX5_step_182 rfl (lv_at hl 4 rfl) ?_
  refine lv_iload hx hb dX5_step_183 (lv_at hl 10 rfl) ?_
  refine lv_iadd hx hb dX5_step_185 ?_
  refine lv_lload hx hb dX5_step_186 (lv_at hl 5 rfl) ?_
  refine lv_iload hx hb dX5_step_188 (lv_at hl 10 rfl) ?_
  obtain ⟨v190, hc190, h⟩ := wx_o_ok h
  refine wx_call (va_runS (As := [.long x4, .int x10]) (rest := [.int (x3 + x10), .ref (wx_ad ad rd o2 k2)]) ⟨hx, hb, hml, hown, hts⟩ (c_X5_isIn l (D := D) (ad := ad) (rd := rd) (ca := ca) (A := A) (σ := σ) hc190) (va_cwS 2 hts gX5_step_X5_isIn rfl rfl rfl (by decide +kernel) ⟨Nat.le_of_ble_eq_true rfl, Nat.le_of_ble_eq_true rfl⟩) (wx_preS hC Z hS hA) rfl rfl hl.1 rfl (lv_room (Nat.le_of_ble_eq_true rfl)) dX5_step_190 ⟨Nat.zero_le _, Nat.zero_le _⟩) hS (fun H locs Z hS => ?_)
  refine lv_if_eq (tgt := 204) hx hb dX5_step_193 (by decide) (fun c193 => ?_) (fun c193 => ?_)
  · replace h := wx_ift c193 h
    refine lv_fload hx hb dX5_step_204 (lv_at hl 0 rfl) ?_
    exact b_X5_step_206 B hs0 hs2 hs6 (K27 := K27) @hK27 h Z hS (lv_sub hl [1, 2, 3, 4, 5, 6, 7, 8, 9, 10, 11, 12, 13, 0] rfl) hal
  · replace h := wx_iff c193 h
    refine lv_fload hx hb dX5_step_196 (lv_at hl 0 rfl) ?_
    refine lv_fload hx hb dX5_step_198 (lv_at hl 9 rfl) ?_
    obtain ⟨v200, ev200, nv200, h⟩ := wx_f_ok h
    refine wx_fadd hx hb dX5_step_200 ev200 nv200 ?_
    refine lv_goto (tgt := 206) hx hb dX5_step_201 (by decide) ?_
    exact b_X5_step_206 B hs0 hs2 hs6 (K27 := K27) @hK27 h Z hS (lv_sub hl [1, 2, 3, 4, 5, 6, 7, 8, 9, 10, 11, 12, 13, 0] rfl) hal
set_option maxRecDepth 20000 in
set_option maxHeartbeats 4000000 in
theorem m_X5_step_136 {o0 : Nat} {k0 : Nat} {n0 : Nat} {o2 : Nat} {k2 : Nat} {n2 : Nat} {o6 : Nat} {k6 : Nat}  {σ' : wx_St} {K27 : Int32 → Int32 → Int64 → UInt32 → UInt32 → UInt32 → Int32 → wx_St → Option (Unit × wx_St)} (mK27 : ∀ {x1 : Int32} {x3 : Int32} {x4 : Int64} {x7 : UInt32} {x8 : UInt32} {x9 : UInt32} {x10 : Int32} {σ : wx_St}, K27 x1 x3 x4 x7 x8 x9 x10 σ = some ((), σ') → σ'.2.2.2.2 = σ.2.2.2.2) {x1 : Int32} {x3 : Int32} {x4 : Int64} {x7 : UInt32} {x8 : UInt32} {x9 : UInt32} {x10 : Int32} {x11 : Int32} {x12 : UInt32} {x13 : UInt32} {σ : wx_St} (h : f_X5_step_136 o0 k0 n0 o2 k2 n2 o6 k6 K27 x1 x3 x4 x7 x8 x9 x10 x11 x12 x13 σ = some ((), σ')) : σ'.2.2.2.2 = σ.2.2.2.2 := by
  unfold f_X5_step_136 at h
  by_cases c143 : 7 ≤ (x10 - x10 / 8 * 8)
  · replace h := wx_ift c143 h
    exact m_X5_step_167 (K27 := K27) @mK27 h
  · replace h := wx_iff c143 h
    obtain ⟨v153, ev153, iv153, h⟩ := wx_rF_ok h
    obtain ⟨v156, ev156, nv156, h⟩ := wx_f_ok h
    obtain ⟨v159, ev159, nv159, h⟩ := wx_f_ok h
    obtain ⟨v163, ev163, nv163, h⟩ := wx_f_ok h
    obtain ⟨v164, ev164, nv164, h⟩ := wx_f_ok h
    exact m_X5_step_167 (K27 := K27) @mK27 h
set_option maxRecDepth 20000 in
set_option maxHeartbeats 4000000 in
theorem b_X5_step_136 (B : wx_B p s m args meth c cX5_step 15 none wsX5_step RX5 D ad ca A) {o0 : Nat} {k0 : Nat} {n0 : Nat} {o2 : Nat} {k2 : Nat} {n2 : Nat} {o6 : Nat} {k6 : Nat} {al : Nat → Bool} (hs0 : wx_sh al o0 k0 = (2, n0)) (hs2 : wx_sh al o2 k2 = (2, n2)) (hs6 : wx_sh al o6 k6 = (1, 4))  {σ' : wx_St} {K27 : Int32 → Int32 → Int64 → UInt32 → UInt32 → UInt32 → Int32 → wx_St → Option (Unit × wx_St)} (hK27 : ∀ {x1 : Int32} {x3 : Int32} {x4 : Int64} {x7 : UInt32} {x8 : UInt32} {x9 : UInt32} {x10 : Int32} {σ : wx_St}  (h : K27 x1 x3 x4 x7 x8 x9 x10 σ = some ((), σ')) {H : Heap} {locs : List Loc} (Z : wx_Z D ad rd ca A σ H) (hS : va_S A s.heap H locs) {ls : Array Slot} (hl : lv_has ls 15 [(0, .ref (wx_ad ad rd o0 k0)), (1, .int x1), (2, .ref (wx_ad ad rd o2 k2)), (3, .int x3), (4, .long x4), (6, .ref (wx_ad ad rd o6 k6)), (7, .float x7), (8, .float x8), (9, .float x9), (10, .int x10)]) (hal : σ.2.2.2.2 = al), W p l e ({ frames := 1, cells := 0, slots := 0, locals := 22 } : Room) s m args below meth c H locs 0 0 (MQ below (wx_Q D ad rd ca A none σ') args s 0 0 A) (F0 m 27 ls [])) {x1 : Int32} {x3 : Int32} {x4 : Int64} {x7 : UInt32} {x8 : UInt32} {x9 : UInt32} {x10 : Int32} {x11 : Int32} {x12 : UInt32} {x13 : UInt32} {σ : wx_St}  (h : f_X5_step_136 o0 k0 n0 o2 k2 n2 o6 k6 K27 x1 x3 x4 x7 x8 x9 x10 x11 x12 x13 σ = some ((), σ')) {H : Heap} {locs : List Loc} (Z : wx_Z D ad rd ca A σ H) (hS : va_S A s.heap H locs) {ls : Array Slot} (hl : lv_has ls 15 [(0, .ref (wx_ad ad rd o0 k0)), (1, .int x1), (2, .ref (wx_ad ad rd o2 k2)), (3, .int x3), (4, .long x4), (6, .ref (wx_ad ad rd o6 k6)), (7, .float x7), (8, .float x8), (9, .float x9), (10, .int x10), (11, .int x11), (12, .float x12), (13, .float x13)]) (hal : σ.2.2.2.2 = al) : W p l e ({ frames := 1, cells := 0, slots := 0, locals := 22 } : Room) s m args below meth c H locs 0 0 (MQ below (wx_Q D ad rd ca A none σ') args s 0 0 A) (F0 m 136 ls []) := by
  obtain ⟨hx, hb, hml, hr, hts, hown, hlk, hC, hA⟩ := id B
  unfold f_X5_step_136 at h
  refine lv_iload hx hb dX5_step_136 (lv_at hl 9 rfl) ?_
  refine lv_bipush (v := 8) hx hb dX5_step_138 (by decide) ?_
  refine lv_irem hx hb dX5_step_140 (by decide) ?_
  refine lv_bipush (v := 7) hx hb dX5_step_141 (by decide) ?_
  refine lv_icmp_ge (tgt := 167) hx hb dX5_step_143 (by decide) (fun c143 => ?_) (fun c143 => ?_)
  · replace h := wx_ift c143 h
    exact b_X5_step_167 B hs0 hs2 hs6 (K27 := K27) @hK27 h Z hS (lv_sub hl [0, 1, 2, 3, 4, 5, 6, 7, 8, 9, 10, 11, 12] rfl) hal
  · replace h := wx_iff c143 h
    refine lv_fload hx hb dX5_step_146 (lv_at hl 12 rfl) ?_
    refine lv_aload_n hx hb dX5_step_148 rfl (lv_at hl 0 rfl) ?_
    refine lv_iload hx hb dX5_step_149 (lv_at hl 10 rfl) ?_
    refine lv_iconst (v := 1) hx hb dX5_step_151 (by decide) ?_
    refine lv_iadd hx hb dX5_step_152 ?_
    obtain ⟨v153, ev153, iv153, h⟩ := wx_rF_ok h
    refine wx_fald hx hb hC.1 Z (o := o0) (k := k0) (n := n0) (wx_hal hal hs0) rfl iv153 dX5_step_153 ev153 ?_
    refine lv_fload hx hb dX5_step_154 (lv_at hl 11 rfl) ?_
    obtain ⟨v156, ev156, nv156, h⟩ := wx_f_ok h
    refine wx_fsub hx hb dX5_step_156 ev156 nv156 ?_
    refine lv_fload hx hb dX5_step_157 (lv_at hl 6 rfl) ?_
    obtain ⟨v159, ev159, nv159, h⟩ := wx_f_ok h
    refine wx_fmul hx hb dX5_step_159 ev159 nv159 ?_
    refine wx_ldcwF hx hb hown (hts _ k_X5_step_w0) dX5_step_160 ?_
    obtain ⟨v163, ev163, nv163, h⟩ := wx_f_ok h
    refine wx_fdiv hx hb dX5_step_163 ev163 nv163 ?_
    obtain ⟨v164, ev164, nv164, h⟩ := wx_f_ok h
    refine wx_fadd hx hb dX5_step_164 ev164 nv164 ?_
    refine lv_fstore (lv' := [(13, .float v164), (0, .ref (wx_ad ad rd o0 k0)), (1, .int x1), (2, .ref (wx_ad ad rd o2 k2)), (3, .int x3), (4, .long x4), (6, .ref (wx_ad ad rd o6 k6)), (7, .float x7), (8, .float x8), (9, .float x9), (10, .int x10), (11, .int x11), (12, .float x12)]) hx hb dX5_step_165 hl (by decide) rfl (fun ls hl => ?_)
    exact b_X5_step_167 B hs0 hs2 hs6 (K27 := K27) @hK27 h Z hS (lv_sub hl [1, 2, 3, 4, 5, 6, 7, 8, 9, 10, 11, 12, 0] rfl) hal
set_option maxRecDepth 20000 in
set_option maxHeartbeats 4000000 in
theorem m_X5_step_107 {o0 : Nat} {k0 : Nat} {n0 : Nat} {o2 : Nat} {k2 : Nat} {n2 : Nat} {o6 : Nat} {k6 : Nat}  {σ' : wx_St} {K27 : Int32 → Int32 → Int64 → UInt32 → UInt32 → UInt32 → Int32 → wx_St → Option (Unit × wx_St)} (mK27 : ∀ {x1 : Int32} {x3 : Int32} {x4 : Int64} {x7 : UInt32} {x8 : UInt32} {x9 : UInt32} {x10 : Int32} {σ : wx_St}, K27 x1 x3 x4 x7 x8 x9 x10 σ = some ((), σ') → σ'.2.2.2.2 = σ.2.2.2.2) {x1 : Int32} {x3 : Int32} {x4 : Int64} {x7 : UInt32} {x8 : UInt32} {x9 : UInt32} {x10 : Int32} {x11 : Int32} {x12 : UInt32} {x13 : UInt32} {σ : wx_St} (h : f_X5_step_107 o0 k0 n0 o2 k2 n2 o6 k6 K27 x1 x3 x4 x7 x8 x9 x10 x11 x12 x13 σ = some ((), σ')) : σ'.2.2.2.2 = σ.2.2.2.2 := by
  unfold f_X5_step_107 at h
  by_cases c112 : (x10 - x10 / 8 * 8) ≤ 0
  · replace h := wx_ift c112 h
    exact m_X5_step_136 (K27 := K27) @mK27 h
  · replace h := wx_iff c112 h
    obtain ⟨v122, ev122, iv122, h⟩ := wx_rF_ok h
    obtain ⟨v125, ev125, nv125, h⟩ := wx_f_ok h
    obtain ⟨v128, ev128, nv128, h⟩ := wx_f_ok h
    obtain ⟨v132, ev132, nv132, h⟩ := wx_f_ok h
    obtain ⟨v133, ev133, nv133, h⟩ := wx_f_ok h
    exact m_X5_step_136 (K27 := K27) @mK27 h
set_option maxRecDepth 20000 in
set_option maxHeartbeats 4000000 in
theorem b_X5_step_107 (B : wx_B p s m args meth c cX5_step 15 none wsX5_step RX5 D ad ca A) {o0 : Nat} {k0 : Nat} {n0 : Nat} {o2 : Nat} {k2 : Nat} {n2 : Nat} {o6 : Nat} {k6 : Nat} {al : Nat → Bool} (hs0 : wx_sh al o0 k0 = (2, n0)) (hs2 : wx_sh al o2 k2 = (2, n2)) (hs6 : wx_sh al o6 k6 = (1, 4))  {σ' : wx_St} {K27 : Int32 → Int32 → Int64 → UInt32 → UInt32 → UInt32 → Int32 → wx_St → Option (Unit × wx_St)} (hK27 : ∀ {x1 : Int32} {x3 : Int32} {x4 : Int64} {x7 : UInt32} {x8 : UInt32} {x9 : UInt32} {x10 : Int32} {σ : wx_St}  (h : K27 x1 x3 x4 x7 x8 x9 x10 σ = some ((), σ')) {H : Heap} {locs : List Loc} (Z : wx_Z D ad rd ca A σ H) (hS : va_S A s.heap H locs) {ls : Array Slot} (hl : lv_has ls 15 [(0, .ref (wx_ad ad rd o0 k0)), (1, .int x1), (2, .ref (wx_ad ad rd o2 k2)), (3, .int x3), (4, .long x4), (6, .ref (wx_ad ad rd o6 k6)), (7, .float x7), (8, .float x8), (9, .float x9), (10, .int x10)]) (hal : σ.2.2.2.2 = al), W p l e ({ frames := 1, cells := 0, slots := 0, locals := 22 } : Room) s m args below meth c H locs 0 0 (MQ below (wx_Q D ad rd ca A none σ') args s 0 0 A) (F0 m 27 ls [])) {x1 : Int32} {x3 : Int32} {x4 : Int64} {x7 : UInt32} {x8 : UInt32} {x9 : UInt32} {x10 : Int32} {x11 : Int32} {x12 : UInt32} {x13 : UInt32} {σ : wx_St}  (h : f_X5_step_107 o0 k0 n0 o2 k2 n2 o6 k6 K27 x1 x3 x4 x7 x8 x9 x10 x11 x12 x13 σ = some ((), σ')) {H : Heap} {locs : List Loc} (Z : wx_Z D ad rd ca A σ H) (hS : va_S A s.heap H locs) {ls : Array Slot} (hl : lv_has ls 15 [(0, .ref (wx_ad ad rd o0 k0)), (1, .int x1), (2, .ref (wx_ad ad rd o2 k2)), (3, .int x3), (4, .long x4), (6, .ref (wx_ad ad rd o6 k6)), (7, .float x7), (8, .float x8), (9, .float x9), (10, .int x10), (11, .int x11), (12, .float x12), (13, .float x13)]) (hal : σ.2.2.2.2 = al) : W p l e ({ frames := 1, cells := 0, slots := 0, locals := 22 } : Room) s m args below meth c H locs 0 0 (MQ below (wx_Q D ad rd ca A none σ') args s 0 0 A) (F0 m 107 ls []) := by
  obtain ⟨hx, hb, hml, hr, hts, hown, hlk, hC, hA⟩ := id B
  unfold f_X5_step_107 at h
  refine lv_iload hx hb dX5_step_107 (lv_at hl 9 rfl) ?_
  refine lv_bipush (v := 8) hx hb dX5_step_109 (by decide) ?_
  refine lv_irem hx hb dX5_step_111 (by decide) ?_
  refine lv_if_le (tgt := 136) hx hb dX5_step_112 (by decide) (fun c112 => ?_) (fun c112 => ?_)
  · replace h := wx_ift c112 h
    exact b_X5_step_136 B hs0 hs2 hs6 (K27 := K27) @hK27 h Z hS (lv_sub hl [0, 1, 2, 3, 4, 5, 6, 7, 8, 9, 10, 11, 12] rfl) hal
  · replace h := wx_iff c112 h
    refine lv_fload hx hb dX5_step_115 (lv_at hl 12 rfl) ?_
    refine lv_aload_n hx hb dX5_step_117 rfl (lv_at hl 0 rfl) ?_
    refine lv_iload hx hb dX5_step_118 (lv_at hl 10 rfl) ?_
    refine lv_iconst (v := 1) hx hb dX5_step_120 (by decide) ?_
    refine lv_isub hx hb dX5_step_121 ?_
    obtain ⟨v122, ev122, iv122, h⟩ := wx_rF_ok h
    refine wx_fald hx hb hC.1 Z (o := o0) (k := k0) (n := n0) (wx_hal hal hs0) rfl iv122 dX5_step_122 ev122 ?_
    refine lv_fload hx hb dX5_step_123 (lv_at hl 11 rfl) ?_
    obtain ⟨v125, ev125, nv125, h⟩ := wx_f_ok h
    refine wx_fsub hx hb dX5_step_125 ev125 nv125 ?_
    refine lv_fload hx hb dX5_step_126 (lv_at hl 6 rfl) ?_
    obtain ⟨v128, ev128, nv128, h⟩ := wx_f_ok h
    refine wx_fmul hx hb dX5_step_128 ev128 nv128 ?_
    refine wx_ldcwF hx hb hown (hts _ k_X5_step_w0) dX5_step_129 ?_
    obtain ⟨v132, ev132, nv132, h⟩ := wx_f_ok h
    refine wx_fdiv hx hb dX5_step_132 ev132 nv132 ?_
    obtain ⟨v133, ev133, nv133, h⟩ := wx_f_ok h
    refine wx_fadd hx hb dX5_step_133 ev133 nv133 ?_
    refine lv_fstore (lv' := [(13, .float v133), (0, .ref (wx_ad ad rd o0 k0)), (1, .int x1), (2, .ref (wx_ad ad rd o2 k2)), (3, .int x3), (4, .long x4), (6, .ref (wx_ad ad rd o6 k6)), (7, .float x7), (8, .float x8), (9, .float x9), (10, .int x10), (11, .int x11), (12, .float x12)]) hx hb dX5_step_134 hl (by decide) rfl (fun ls hl => ?_)
    exact b_X5_step_136 B hs0 hs2 hs6 (K27 := K27) @hK27 h Z hS (lv_sub hl [1, 2, 3, 4, 5, 6, 7, 8, 9, 10, 11, 12, 0] rfl) hal
set_option maxRecDepth 20000 in
set_option maxHeartbeats 4000000 in
theorem m_X5_step_78 {o0 : Nat} {k0 : Nat} {n0 : Nat} {o2 : Nat} {k2 : Nat} {n2 : Nat} {o6 : Nat} {k6 : Nat}  {σ' : wx_St} {K27 : Int32 → Int32 → Int64 → UInt32 → UInt32 → UInt32 → Int32 → wx_St → Option (Unit × wx_St)} (mK27 : ∀ {x1 : Int32} {x3 : Int32} {x4 : Int64} {x7 : UInt32} {x8 : UInt32} {x9 : UInt32} {x10 : Int32} {σ : wx_St}, K27 x1 x3 x4 x7 x8 x9 x10 σ = some ((), σ') → σ'.2.2.2.2 = σ.2.2.2.2) {x1 : Int32} {x3 : Int32} {x4 : Int64} {x7 : UInt32} {x8 : UInt32} {x9 : UInt32} {x10 : Int32} {x11 : Int32} {x12 : UInt32} {x13 : UInt32} {σ : wx_St} (h : f_X5_step_78 o0 k0 n0 o2 k2 n2 o6 k6 K27 x1 x3 x4 x7 x8 x9 x10 x11 x12 x13 σ = some ((), σ')) : σ'.2.2.2.2 = σ.2.2.2.2 := by
  unfold f_X5_step_78 at h
  by_cases c82 : 56 ≤ x10
  · replace h := wx_ift c82 h
    exact m_X5_step_107 (K27 := K27) @mK27 h
  · replace h := wx_iff c82 h
    obtain ⟨v93, ev93, iv93, h⟩ := wx_rF_ok h
    obtain ⟨v96, ev96, nv96, h⟩ := wx_f_ok h
    obtain ⟨v99, ev99, nv99, h⟩ := wx_f_ok h
    obtain ⟨v103, ev103, nv103, h⟩ := wx_f_ok h
    obtain ⟨v104, ev104, nv104, h⟩ := wx_f_ok h
    exact m_X5_step_107 (K27 := K27) @mK27 h
set_option maxRecDepth 20000 in
set_option maxHeartbeats 4000000 in
theorem b_X5_step_78 (B : wx_B p s m args meth c cX5_step 15 none wsX5_step RX5 D ad ca A) {o0 : Nat} {k0 : Nat} {n0 : Nat} {o2 : Nat} {k2 : Nat} {n2 : Nat} {o6 : Nat} {k6 : Nat} {al : Nat → Bool} (hs0 : wx_sh al o0 k0 = (2, n0)) (hs2 : wx_sh al o2 k2 = (2, n2)) (hs6 : wx_sh al o6 k6 = (1, 4))  {σ' : wx_St} {K27 : Int32 → Int32 → Int64 → UInt32 → UInt32 → UInt32 → Int32 → wx_St → Option (Unit × wx_St)} (hK27 : ∀ {x1 : Int32} {x3 : Int32} {x4 : Int64} {x7 : UInt32} {x8 : UInt32} {x9 : UInt32} {x10 : Int32} {σ : wx_St}  (h : K27 x1 x3 x4 x7 x8 x9 x10 σ = some ((), σ')) {H : Heap} {locs : List Loc} (Z : wx_Z D ad rd ca A σ H) (hS : va_S A s.heap H locs) {ls : Array Slot} (hl : lv_has ls 15 [(0, .ref (wx_ad ad rd o0 k0)), (1, .int x1), (2, .ref (wx_ad ad rd o2 k2)), (3, .int x3), (4, .long x4), (6, .ref (wx_ad ad rd o6 k6)), (7, .float x7), (8, .float x8), (9, .float x9), (10, .int x10)]) (hal : σ.2.2.2.2 = al), W p l e ({ frames := 1, cells := 0, slots := 0, locals := 22 } : Room) s m args below meth c H locs 0 0 (MQ below (wx_Q D ad rd ca A none σ') args s 0 0 A) (F0 m 27 ls [])) {x1 : Int32} {x3 : Int32} {x4 : Int64} {x7 : UInt32} {x8 : UInt32} {x9 : UInt32} {x10 : Int32} {x11 : Int32} {x12 : UInt32} {x13 : UInt32} {σ : wx_St}  (h : f_X5_step_78 o0 k0 n0 o2 k2 n2 o6 k6 K27 x1 x3 x4 x7 x8 x9 x10 x11 x12 x13 σ = some ((), σ')) {H : Heap} {locs : List Loc} (Z : wx_Z D ad rd ca A σ H) (hS : va_S A s.heap H locs) {ls : Array Slot} (hl : lv_has ls 15 [(0, .ref (wx_ad ad rd o0 k0)), (1, .int x1), (2, .ref (wx_ad ad rd o2 k2)), (3, .int x3), (4, .long x4), (6, .ref (wx_ad ad rd o6 k6)), (7, .float x7), (8, .float x8), (9, .float x9), (10, .int x10), (11, .int x11), (12, .float x12), (13, .float x13)]) (hal : σ.2.2.2.2 = al) : W p l e ({ frames := 1, cells := 0, slots := 0, locals := 22 } : Room) s m args below meth c H locs 0 0 (MQ below (wx_Q D ad rd ca A none σ') args s 0 0 A) (F0 m 78 ls []) := by
  obtain ⟨hx, hb, hml, hr, hts, hown, hlk, hC, hA⟩ := id B
  unfold f_X5_step_78 at h
  refine lv_iload hx hb dX5_step_78 (lv_at hl 9 rfl) ?_
  refine lv_bipush (v := 56) hx hb dX5_step_80 (by decide) ?_
  refine lv_icmp_ge (tgt := 107) hx hb dX5_step_82 (by decide) (fun c82 => ?_) (fun c82 => ?_)
  · replace h := wx_ift c82 h
    exact b_X5_step_107 B hs0 hs2 hs6 (K27 := K27) @hK27 h Z hS (lv_sub hl [0, 1, 2, 3, 4, 5, 6, 7, 8, 9, 10, 11, 12] rfl) hal
  · replace h := wx_iff c82 h
    refine lv_fload hx hb dX5_step_85 (lv_at hl 12 rfl) ?_
    refine lv_aload_n hx hb dX5_step_87 rfl (lv_at hl 0 rfl) ?_
    refine lv_iload hx hb dX5_step_88 (lv_at hl 10 rfl) ?_
    refine lv_bipush (v := 8) hx hb dX5_step_90 (by decide) ?_
    refine lv_iadd hx hb dX5_step_92 ?_
    obtain ⟨v93, ev93, iv93, h⟩ := wx_rF_ok h
    refine wx_fald hx hb hC.1 Z (o := o0) (k := k0) (n := n0) (wx_hal hal hs0) rfl iv93 dX5_step_93 ev93 ?_
    refine lv_fload hx hb dX5_step_94 (lv_at hl 11 rfl) ?_
    obtain ⟨v96, ev96, nv96, h⟩ := wx_f_ok h
    refine wx_fsub hx hb dX5_step_96 ev96 nv96 ?_
    refine lv_fload hx hb dX5_step_97 (lv_at hl 6 rfl) ?_
    obtain ⟨v99, ev99, nv99, h⟩ := wx_f_ok h
    refine wx_fmul hx hb dX5_step_99 ev99 nv99 ?_
    refine wx_ldcwF hx hb hown (hts _ k_X5_step_w0) dX5_step_100 ?_
    obtain ⟨v103, ev103, nv103, h⟩ := wx_f_ok h
    refine wx_fdiv hx hb dX5_step_103 ev103 nv103 ?_
    obtain ⟨v104, ev104, nv104, h⟩ := wx_f_ok h
    refine wx_fadd hx hb dX5_step_104 ev104 nv104 ?_
    refine lv_fstore (lv' := [(13, .float v104), (0, .ref (wx_ad ad rd o0 k0)), (1, .int x1), (2, .ref (wx_ad ad rd o2 k2)), (3, .int x3), (4, .long x4), (6, .ref (wx_ad ad rd o6 k6)), (7, .float x7), (8, .float x8), (9, .float x9), (10, .int x10), (11, .int x11), (12, .float x12)]) hx hb dX5_step_105 hl (by decide) rfl (fun ls hl => ?_)
    exact b_X5_step_107 B hs0 hs2 hs6 (K27 := K27) @hK27 h Z hS (lv_sub hl [1, 2, 3, 4, 5, 6, 7, 8, 9, 10, 11, 12, 0] rfl) hal
set_option maxRecDepth 20000 in
set_option maxHeartbeats 4000000 in
theorem m_X5_step_27 {o0 : Nat} {k0 : Nat} {n0 : Nat} {o2 : Nat} {k2 : Nat} {n2 : Nat} {o6 : Nat} {k6 : Nat}  {σ' : wx_St}  :
    ∀ {n : Nat} {x1 : Int32} {x3 : Int32} {x4 : Int64} {x7 : UInt32} {x8 : UInt32} {x9 : UInt32} {x10 : Int32} {σ : wx_St} (h : f_X5_step_27 o0 k0 n0 o2 k2 n2 o6 k6 n x1 x3 x4 x7 x8 x9 x10 σ = some ((), σ')), σ'.2.2.2.2 = σ.2.2.2.2 := by
  intro n
  induction n with
  | zero => intro x1 x3 x4 x7 x8 x9 x10 σ h; exact wx_no h
  | succ n ih =>
    intro x1 x3 x4 x7 x8 x9 x10 σ h
    rw [f_X5_step_27] at h
    by_cases c31 : 64 ≤ x10
    · replace h := wx_ift c31 h
      obtain ⟨-, rfl⟩ := wx_ret_ok h
      rfl
    · replace h := wx_iff c31 h
      obtain ⟨v43, ev43, iv43, h⟩ := wx_rF_ok h
      by_cases c53 : x10 < 8
      · replace h := wx_ift c53 h
        exact m_X5_step_78 (K27 := (f_X5_step_27 o0 k0 n0 o2 k2 n2 o6 k6 n)) @ih h
      · replace h := wx_iff c53 h
        obtain ⟨v64, ev64, iv64, h⟩ := wx_rF_ok h
        obtain ⟨v67, ev67, nv67, h⟩ := wx_f_ok h
        obtain ⟨v70, ev70, nv70, h⟩ := wx_f_ok h
        obtain ⟨v74, ev74, nv74, h⟩ := wx_f_ok h
        obtain ⟨v75, ev75, nv75, h⟩ := wx_f_ok h
        exact m_X5_step_78 (K27 := (f_X5_step_27 o0 k0 n0 o2 k2 n2 o6 k6 n)) @ih h
set_option maxRecDepth 20000 in
set_option maxHeartbeats 4000000 in
theorem b_X5_step_27 (B : wx_B p s m args meth c cX5_step 15 none wsX5_step RX5 D ad ca A) {o0 : Nat} {k0 : Nat} {n0 : Nat} {o2 : Nat} {k2 : Nat} {n2 : Nat} {o6 : Nat} {k6 : Nat} {al : Nat → Bool} (hs0 : wx_sh al o0 k0 = (2, n0)) (hs2 : wx_sh al o2 k2 = (2, n2)) (hs6 : wx_sh al o6 k6 = (1, 4))  {σ' : wx_St}   :
    ∀ {n : Nat} {x1 : Int32} {x3 : Int32} {x4 : Int64} {x7 : UInt32} {x8 : UInt32} {x9 : UInt32} {x10 : Int32} {σ : wx_St}  (h : f_X5_step_27 o0 k0 n0 o2 k2 n2 o6 k6 n x1 x3 x4 x7 x8 x9 x10 σ = some ((), σ')) {H : Heap} {locs : List Loc} (Z : wx_Z D ad rd ca A σ H) (hS : va_S A s.heap H locs) {ls : Array Slot} (hl : lv_has ls 15 [(0, .ref (wx_ad ad rd o0 k0)), (1, .int x1), (2, .ref (wx_ad ad rd o2 k2)), (3, .int x3), (4, .long x4), (6, .ref (wx_ad ad rd o6 k6)), (7, .float x7), (8, .float x8), (9, .float x9), (10, .int x10)]) (hal : σ.2.2.2.2 = al), W p l e ({ frames := 1, cells := 0, slots := 0, locals := 22 } : Room) s m args below meth c H locs 0 0 (MQ below (wx_Q D ad rd ca A none σ') args s 0 0 A) (F0 m 27 ls []) := by
  obtain ⟨hx, hb, hml, hr, hts, hown, hlk, hC, hA⟩ := id B
  intro n
  induction n with
  | zero => intro x1 x3 x4 x7 x8 x9 x10 σ  h H locs Z hS ls hl hal; exact wx_no h
  | succ n ih =>
    intro x1 x3 x4 x7 x8 x9 x10 σ  h H locs Z hS ls hl hal
    rw [f_X5_step_27] at h
    refine lv_iload hx hb dX5_step_27 (lv_at hl 9 rfl) ?_
    refine lv_bipush (v := 64) hx hb dX5_step_29 (by decide) ?_
    refine lv_icmp_ge (tgt := 213) hx hb dX5_step_31 (by decide) (fun c31 => ?_) (fun c31 => ?_)
    · replace h := wx_ift c31 h
      obtain ⟨-, rfl⟩ := wx_ret_ok h
      exact W.vret hx hb hr (fun t ht hW => ⟨rfl, by rw [ht]; exact Z, hS.F ht⟩) hS.2.2 dX5_step_213
    · replace h := wx_iff c31 h
      refine lv_iload_n hx hb dX5_step_34 rfl (lv_at hl 1 rfl) ?_
      refine lv_iload hx hb dX5_step_35 (lv_at hl 9 rfl) ?_
      refine lv_iadd hx hb dX5_step_37 ?_
      refine lv_istore (lv' := [(11, .int (x1 + x10)), (0, .ref (wx_ad ad rd o0 k0)), (1, .int x1), (2, .ref (wx_ad ad rd o2 k2)), (3, .int x3), (4, .long x4), (6, .ref (wx_ad ad rd o6 k6)), (7, .float x7), (8, .float x8), (9, .float x9), (10, .int x10)]) hx hb dX5_step_38 hl (by decide) rfl (fun ls hl => ?_)
      refine lv_aload_n hx hb dX5_step_40 rfl (lv_at hl 1 rfl) ?_
      refine lv_iload hx hb dX5_step_41 (lv_at hl 0 rfl) ?_
      obtain ⟨v43, ev43, iv43, h⟩ := wx_rF_ok h
      refine wx_fald hx hb hC.1 Z (o := o0) (k := k0) (n := n0) (wx_hal hal hs0) rfl iv43 dX5_step_43 ev43 ?_
      refine lv_fstore (lv' := [(12, .float v43), (11, .int (x1 + x10)), (0, .ref (wx_ad ad rd o0 k0)), (1, .int x1), (2, .ref (wx_ad ad rd o2 k2)), (3, .int x3), (4, .long x4), (6, .ref (wx_ad ad rd o6 k6)), (7, .float x7), (8, .float x8), (9, .float x9), (10, .int x10)]) hx hb dX5_step_44 hl (by decide) rfl (fun ls hl => ?_)
      refine lv_fconst0 hx hb dX5_step_46 ?_
      refine lv_fstore (lv' := [(13, .float FP.fconst0), (12, .float v43), (11, .int (x1 + x10)), (0, .ref (wx_ad ad rd o0 k0)), (1, .int x1), (2, .ref (wx_ad ad rd o2 k2)), (3, .int x3), (4, .long x4), (6, .ref (wx_ad ad rd o6 k6)), (7, .float x7), (8, .float x8), (9, .float x9), (10, .int x10)]) hx hb dX5_step_47 hl (by decide) rfl (fun ls hl => ?_)
      refine lv_iload hx hb dX5_step_49 (lv_at hl 12 rfl) ?_
      refine lv_bipush (v := 8) hx hb dX5_step_51 (by decide) ?_
      refine lv_icmp_lt (tgt := 78) hx hb dX5_step_53 (by decide) (fun c53 => ?_) (fun c53 => ?_)
      · replace h := wx_ift c53 h
        exact b_X5_step_78 B hs0 hs2 hs6 (K27 := (f_X5_step_27 o0 k0 n0 o2 k2 n2 o6 k6 n)) @ih h Z hS (lv_sub hl [3, 4, 5, 6, 7, 8, 9, 10, 11, 12, 2, 1, 0] rfl) hal
      · replace h := wx_iff c53 h
        refine lv_fload hx hb dX5_step_56 (lv_at hl 0 rfl) ?_
        refine lv_aload_n hx hb dX5_step_58 rfl (lv_at hl 3 rfl) ?_
        refine lv_iload hx hb dX5_step_59 (lv_at hl 2 rfl) ?_
        refine lv_bipush (v := 8) hx hb dX5_step_61 (by decide) ?_
        refine lv_isub hx hb dX5_step_63 ?_
        obtain ⟨v64, ev64, iv64, h⟩ := wx_rF_ok h
        refine wx_fald hx hb hC.1 Z (o := o0) (k := k0) (n := n0) (wx_hal hal hs0) rfl iv64 dX5_step_64 ev64 ?_
        refine lv_fload hx hb dX5_step_65 (lv_at hl 1 rfl) ?_
        obtain ⟨v67, ev67, nv67, h⟩ := wx_f_ok h
        refine wx_fsub hx hb dX5_step_67 ev67 nv67 ?_
        refine lv_fload hx hb dX5_step_68 (lv_at hl 9 rfl) ?_
        obtain ⟨v70, ev70, nv70, h⟩ := wx_f_ok h
        refine wx_fmul hx hb dX5_step_70 ev70 nv70 ?_
        refine wx_ldcwF hx hb hown (hts _ k_X5_step_w0) dX5_step_71 ?_
        obtain ⟨v74, ev74, nv74, h⟩ := wx_f_ok h
        refine wx_fdiv hx hb dX5_step_74 ev74 nv74 ?_
        obtain ⟨v75, ev75, nv75, h⟩ := wx_f_ok h
        refine wx_fadd hx hb dX5_step_75 ev75 nv75 ?_
        refine lv_fstore (lv' := [(13, .float v75), (12, .float v43), (11, .int (x1 + x10)), (0, .ref (wx_ad ad rd o0 k0)), (1, .int x1), (2, .ref (wx_ad ad rd o2 k2)), (3, .int x3), (4, .long x4), (6, .ref (wx_ad ad rd o6 k6)), (7, .float x7), (8, .float x8), (9, .float x9), (10, .int x10)]) hx hb dX5_step_76 hl (by decide) rfl (fun ls hl => ?_)
        exact b_X5_step_78 B hs0 hs2 hs6 (K27 := (f_X5_step_27 o0 k0 n0 o2 k2 n2 o6 k6 n)) @ih h Z hS (lv_sub hl [3, 4, 5, 6, 7, 8, 9, 10, 11, 12, 2, 1, 0] rfl) hal
set_option maxRecDepth 20000 in
set_option maxHeartbeats 4000000 in
theorem m_X5_step_0 {o0 : Nat} {k0 : Nat} {n0 : Nat} {o2 : Nat} {k2 : Nat} {n2 : Nat} {o6 : Nat} {k6 : Nat}  {σ' : wx_St}  {x1 : Int32} {x3 : Int32} {x4 : Int64} {σ : wx_St} (h : f_X5_step o0 k0 n0 o2 k2 n2 o6 k6 x1 x3 x4 σ = some ((), σ')) : σ'.2.2.2.2 = σ.2.2.2.2 := by
  unfold f_X5_step at h
  obtain ⟨v3, ev3, iv3, h⟩ := wx_rI_ok h
  obtain ⟨v12, ev12, iv12, h⟩ := wx_rI_ok h
  obtain ⟨v20, ev20, iv20, h⟩ := wx_rI_ok h
  exact m_X5_step_27 h
set_option maxRecDepth 20000 in
set_option maxHeartbeats 4000000 in
theorem b_X5_step_0 (B : wx_B p s m args meth c cX5_step 15 none wsX5_step RX5 D ad ca A) {o0 : Nat} {k0 : Nat} {n0 : Nat} {o2 : Nat} {k2 : Nat} {n2 : Nat} {o6 : Nat} {k6 : Nat} {al : Nat → Bool} (hs0 : wx_sh al o0 k0 = (2, n0)) (hs2 : wx_sh al o2 k2 = (2, n2)) (hs6 : wx_sh al o6 k6 = (1, 4))  {σ' : wx_St}  {x1 : Int32} {x3 : Int32} {x4 : Int64} {σ : wx_St}  (h : f_X5_step o0 k0 n0 o2 k2 n2 o6 k6 x1 x3 x4 σ = some ((), σ')) {H : Heap} {locs : List Loc} (Z : wx_Z D ad rd ca A σ H) (hS : va_S A s.heap H locs) {ls : Array Slot} (hl : lv_has ls 15 [(0, .ref (wx_ad ad rd o0 k0)), (1, .int x1), (2, .ref (wx_ad ad rd o2 k2)), (3, .int x3), (4, .long x4), (6, .ref (wx_ad ad rd o6 k6))]) (hal : σ.2.2.2.2 = al) : W p l e ({ frames := 1, cells := 0, slots := 0, locals := 22 } : Room) s m args below meth c H locs 0 0 (MQ below (wx_Q D ad rd ca A none σ') args s 0 0 A) (F0 m 0 ls []) := by
  obtain ⟨hx, hb, hml, hr, hts, hown, hlk, hC, hA⟩ := id B
  unfold f_X5_step at h
  refine lv_aload hx hb dX5_step_0 (lv_at hl 5 rfl) ?_
  refine lv_iconst (v := 0) hx hb dX5_step_2 (by decide) ?_
  obtain ⟨v3, ev3, iv3, h⟩ := wx_rI_ok h
  refine wx_iald hx hb hC.1 Z (o := o6) (k := k6) (n := 4) (wx_hal hal hs6) rfl iv3 dX5_step_3 ev3 ?_
  refine lv_i2f hx hb dX5_step_4 ?_
  refine lv_fstore (lv' := [(7, .float (FP.i2f v3)), (0, .ref (wx_ad ad rd o0 k0)), (1, .int x1), (2, .ref (wx_ad ad rd o2 k2)), (3, .int x3), (4, .long x4), (6, .ref (wx_ad ad rd o6 k6))]) hx hb dX5_step_5 hl (by decide) rfl (fun ls hl => ?_)
  refine lv_bipush (v := 100) hx hb dX5_step_7 (by decide) ?_
  refine lv_aload hx hb dX5_step_9 (lv_at hl 6 rfl) ?_
  refine lv_iconst (v := 1) hx hb dX5_step_11 (by decide) ?_
  obtain ⟨v12, ev12, iv12, h⟩ := wx_rI_ok h
  refine wx_iald hx hb hC.1 Z (o := o6) (k := k6) (n := 4) (wx_hal hal hs6) rfl iv12 dX5_step_12 ev12 ?_
  refine lv_isub hx hb dX5_step_13 ?_
  refine lv_i2f hx hb dX5_step_14 ?_
  refine lv_fstore (lv' := [(8, .float (FP.i2f (100 - v12))), (7, .float (FP.i2f v3)), (0, .ref (wx_ad ad rd o0 k0)), (1, .int x1), (2, .ref (wx_ad ad rd o2 k2)), (3, .int x3), (4, .long x4), (6, .ref (wx_ad ad rd o6 k6))]) hx hb dX5_step_15 hl (by decide) rfl (fun ls hl => ?_)
  refine lv_aload hx hb dX5_step_17 (lv_at hl 7 rfl) ?_
  refine lv_iconst (v := 2) hx hb dX5_step_19 (by decide) ?_
  obtain ⟨v20, ev20, iv20, h⟩ := wx_rI_ok h
  refine wx_iald hx hb hC.1 Z (o := o6) (k := k6) (n := 4) (wx_hal hal hs6) rfl iv20 dX5_step_20 ev20 ?_
  refine lv_i2f hx hb dX5_step_21 ?_
  refine lv_fstore (lv' := [(9, .float (FP.i2f v20)), (8, .float (FP.i2f (100 - v12))), (7, .float (FP.i2f v3)), (0, .ref (wx_ad ad rd o0 k0)), (1, .int x1), (2, .ref (wx_ad ad rd o2 k2)), (3, .int x3), (4, .long x4), (6, .ref (wx_ad ad rd o6 k6))]) hx hb dX5_step_22 hl (by decide) rfl (fun ls hl => ?_)
  refine lv_iconst (v := 0) hx hb dX5_step_24 (by decide) ?_
  refine lv_istore (lv' := [(10, .int 0), (9, .float (FP.i2f v20)), (8, .float (FP.i2f (100 - v12))), (7, .float (FP.i2f v3)), (0, .ref (wx_ad ad rd o0 k0)), (1, .int x1), (2, .ref (wx_ad ad rd o2 k2)), (3, .int x3), (4, .long x4), (6, .ref (wx_ad ad rd o6 k6))]) hx hb dX5_step_25 hl (by decide) rfl (fun ls hl => ?_)
  exact b_X5_step_27 B hs0 hs2 hs6 h Z hS (lv_sub hl [4, 5, 6, 7, 8, 9, 3, 2, 1, 0] rfl) hal
set_option maxRecDepth 20000 in
theorem c_X5_step (l : Launch) {D : va_G} {ad : Nat → Nat → Nat} {rd : Nat → Nat} {ca : Nat → ClassId} {A : Nat → Prop} {σ : wx_St} {o0 : Nat} {k0 : Nat} {n0 : Nat} {o2 : Nat} {k2 : Nat} {n2 : Nat} {o6 : Nat} {k6 : Nat} {al : Nat → Bool} (hs0 : wx_sh al o0 k0 = (2, n0)) (hs2 : wx_sh al o2 k2 = (2, n2)) (hs6 : wx_sh al o6 k6 = (1, 4)) (hal : σ.2.2.2.2 = al) {x1 : Int32} {x3 : Int32} {x4 : Int64}  {σ' : wx_St} (h : f_X5_step o0 k0 n0 o2 k2 n2 o6 k6 x1 x3 x4 σ = some ((), σ')) : wx_M l yX5_step wsX5_step 1 22 D ad rd ca A [.ref (wx_ad ad rd o0 k0), .int x1, .ref (wx_ad ad rd o2 k2), .int x3, .long x4, .ref (wx_ad ad rd o6 k6)] σ none σ' := by
  refine Met.ofW (cc := cX5_step) (maxL := 15) (ret := none) (by decide +kernel) rfl ?_
  intro p e s m args below meth c s₁ B0 hml hv
  obtain ⟨rfl, hC, Z, hA⟩ := hv
  have hl := lv_entry ([.ref (wx_ad ad rd o0 k0), .int x1, .ref (wx_ad ad rd o2 k2), .int x3, .long x4, .ref (wx_ad ad rd o6 k6)]) (n := 15) (Nat.le_of_ble_eq_true rfl)
  rw [lg_entry_eq]
  generalize (lg_sl ([.ref (wx_ad ad rd o0 k0), .int x1, .ref (wx_ad ad rd o2 k2), .int x3, .long x4, .ref (wx_ad ad rd o6 k6)]) ++ List.replicate (15 - (lg_sl ([.ref (wx_ad ad rd o0 k0), .int x1, .ref (wx_ad ad rd o2 k2), .int x3, .long x4, .ref (wx_ad ad rd o6 k6)])).length) Slot.unset).toArray = ls at hl ⊢
  exact b_X5_step_0 ⟨B0.exec, B0.bytes, hml, B0.returns, atoms_spec (ws := wsX5_step) B0.pre, findClass_of_methodNamed B0.named, B0.notSynchronized, hC, hA⟩ hs0 hs2 hs6  h Z va_S.rf hl hal
theorem i_X0_passOne_0 : ∀ w ∈ wsX00, w ∈ wsX0_passOne := by decide +kernel
theorem k_X0_passOne_w0 : Cond.fieldLink RX0 34 "WarmProbes$Board" "warmth" "[F" ∈ wsX0_passOne := by decide +kernel
theorem k_X0_passOne_w1 : Cond.fieldLink RX0 38 "WarmProbes$Board" "nextWarmth" "[F" ∈ wsX0_passOne := by decide +kernel
theorem k_X0_passOne_w2 : Cond.fieldLink RX0 9 "WarmProbes$Board" "settings" "[I" ∈ wsX0_passOne := by decide +kernel
theorem k_X0_passOne_w3 : Cond.initialized RX5 ∈ wsX0_passOne := by decide +kernel
theorem k_X0_passOne_w4 : Cond.static yX5_step ∈ wsX0_passOne := by decide +kernel
theorem k_X0_passOne_w5 : Cond.methodLink RX0 56 arraycopyName ∈ wsX0_passOne := by decide +kernel
theorem k_X0_passOne_w6 : Cond.native arraycopyName ∈ wsX0_passOne := by decide +kernel
theorem k_X0_passOne_w7 : Cond.static arraycopyName ∈ wsX0_passOne := by decide +kernel
theorem k_X0_passOne_w8 : Cond.initialized "java/lang/System" ∈ wsX0_passOne := by decide +kernel
set_option maxRecDepth 20000 in
set_option maxHeartbeats 4000000 in
theorem b_X0_passOne_0 (B : wx_B p s m args meth c cX0_passOne 3 none wsX0_passOne RX0 D ad ca A) {o : Nat}  (ho : o < 11)  {σ' : wx_St}  {x1 : Int64} {σ : wx_St}  (h : f_X0_passOne o x1 σ = some ((), σ')) {H : Heap} {locs : List Loc} (Z : wx_Z D ad rd ca A σ H) (hS : va_S A s.heap H locs) {ls : Array Slot} (hl : lv_has ls 3 [(0, .ref (ad o 99)), (1, .long x1)]) : W p l e ({ frames := 2, cells := 0, slots := 0, locals := 56 } : Room) s m args below meth c H locs 0 0 (MQ below (wx_Q D ad rd ca A none σ') args s 0 0 A) (F0 m 0 ls []) := by
  obtain ⟨hx, hb, hml, hr, hts, hown, hlk, hC, hA⟩ := id B
  unfold f_X0_passOne at h
  refine lv_aload_n hx hb dX0_passOne_0 rfl (lv_at hl 0 rfl) ?_
  refine wx_get (own := RX0) hx hb hts i_X0_passOne_0 hown hC.1 Z (o := o) (ci := 0) (wx_sbo ho 99) (rfl : vwCl[0]? = some (RX0, TX0, 13)) 7 (by decide) (hts _ k_X0_passOne_w0) (fun _ h9 => h9) (f := 0) rfl rfl dX0_passOne_1 ?_
  refine lv_iconst (v := 0) hx hb dX0_passOne_4 (by decide) ?_
  refine lv_aload_n hx hb dX0_passOne_5 rfl (lv_at hl 0 rfl) ?_
  refine wx_get (own := RX0) hx hb hts i_X0_passOne_0 hown hC.1 Z (o := o) (ci := 0) (wx_sbo ho 99) (rfl : vwCl[0]? = some (RX0, TX0, 13)) 8 (by decide) (hts _ k_X0_passOne_w1) (fun _ h9 => h9) (f := 0) rfl rfl dX0_passOne_6 ?_
  refine lv_iconst (v := 0) hx hb dX0_passOne_9 (by decide) ?_
  refine lv_lload_n hx hb dX0_passOne_10 rfl (lv_at hl 1 rfl) ?_
  refine lv_aload_n hx hb dX0_passOne_11 rfl (lv_at hl 0 rfl) ?_
  refine wx_get (own := RX0) hx hb hts i_X0_passOne_0 hown hC.1 Z (o := o) (ci := 0) (wx_sbo ho 99) (rfl : vwCl[0]? = some (RX0, TX0, 13)) 0 (by decide) (hts _ k_X0_passOne_w2) (fun _ h9 => h9) (f := 0) rfl rfl dX0_passOne_12 ?_
  obtain ⟨v15, σ15, hc15, h⟩ := wx_b_ok h
  refine wx_call (va_runSN (As := [.ref (ad o 7), .int 0, .ref (ad o 8), .int 0, .long x1, .ref (ad o 0)]) (rest := []) ⟨hx, hb, hml, hown, hts⟩ (c_X5_step l (D := D) (ad := ad) (rd := rd) (ca := ca) (A := A) (σ := σ) (o0 := o) (k0 := 7) (n0 := 64) (o2 := o) (k2 := 8) (n2 := 64) (o6 := o) (k6 := 0) (al := σ.2.2.2.2) (wx_sbo ho 7) (wx_sbo ho 8) (wx_sbo ho 0) rfl hc15) ⟨va_cnB 6 hts gX0_passOne_X5_step_n107 rfl rfl rfl (hC.1.2.1 _ (List.mem_of_getElem? (i := 43) rfl)) (hts _ k_X0_passOne_w3) (by decide +kernel) ⟨Nat.le_of_ble_eq_true rfl, Nat.le_of_ble_eq_true rfl⟩, hts _ k_X0_passOne_w4, trivial⟩ (wx_preS hC Z hS hA) rfl rfl hl.1 rfl (lv_room (Nat.le_of_ble_eq_true rfl)) dX0_passOne_15 ⟨Nat.zero_le _, Nat.zero_le _⟩) hS (fun H locs Z hS => ?_)
  refine lv_aload_n hx hb dX0_passOne_18 rfl (lv_at hl 0 rfl) ?_
  refine wx_get (own := RX0) hx hb hts i_X0_passOne_0 hown hC.1 Z (o := o) (ci := 0) (wx_sbo ho 99) (rfl : vwCl[0]? = some (RX0, TX0, 13)) 8 (by decide) (hts _ k_X0_passOne_w1) (fun _ h9 => h9) (f := 0) rfl rfl dX0_passOne_19 ?_
  refine lv_iconst (v := 0) hx hb dX0_passOne_22 (by decide) ?_
  refine lv_aload_n hx hb dX0_passOne_23 rfl (lv_at hl 0 rfl) ?_
  refine wx_get (own := RX0) hx hb hts i_X0_passOne_0 hown hC.1 Z (o := o) (ci := 0) (wx_sbo ho 99) (rfl : vwCl[0]? = some (RX0, TX0, 13)) 7 (by decide) (hts _ k_X0_passOne_w0) (fun _ h9 => h9) (f := 0) rfl rfl dX0_passOne_24 ?_
  refine lv_iconst (v := 0) hx hb dX0_passOne_27 (by decide) ?_
  refine lv_bipush (v := 64) hx hb dX0_passOne_28 (by decide) ?_
  obtain ⟨σ30, e30, h⟩ := wx_l_ok h
  refine wx_copyf (own := RX0) hx hb (hml.trans hl.1.symm) hown (hts _ k_X0_passOne_w5) (hts _ k_X0_passOne_w6) (hts _ k_X0_passOne_w7) (hts _ k_X0_passOne_w8) hC.1 Z hS (o := o) (k := 8) (n := 64) (o' := o) (k' := 7) (n' := 64) (wx_sbo ho 8) (wx_sbo ho 7) rfl rfl (by decide) (by decide) (by decide) (by decide) (by decide) (Nat.le_of_ble_eq_true rfl) (Nat.le_of_ble_eq_true rfl) dX0_passOne_30 e30 (fun H locs Z hS => ?_)
  obtain ⟨-, rfl⟩ := wx_ret_ok h
  exact W.vret hx hb hr (fun t ht hW => ⟨rfl, by rw [ht]; exact Z, hS.F ht⟩) hS.2.2 dX0_passOne_33
set_option maxRecDepth 20000 in
theorem c_X0_passOne (l : Launch) {D : va_G} {ad : Nat → Nat → Nat} {rd : Nat → Nat} {ca : Nat → ClassId} {A : Nat → Prop} {σ : wx_St} {o : Nat}  (ho : o < 11) {x1 : Int64}  {σ' : wx_St} (h : f_X0_passOne o x1 σ = some ((), σ')) : wx_M l yX0_passOne wsX0_passOne 2 56 D ad rd ca A [.ref (ad o 99), .long x1] σ none σ' := by
  refine Met.ofW (cc := cX0_passOne) (maxL := 3) (ret := none) (by decide +kernel) rfl ?_
  intro p e s m args below meth c s₁ B0 hml hv
  obtain ⟨rfl, hC, Z, hA⟩ := hv
  have hl := lv_entry ([.ref (ad o 99), .long x1]) (n := 3) (Nat.le_of_ble_eq_true rfl)
  rw [lg_entry_eq]
  generalize (lg_sl ([.ref (ad o 99), .long x1]) ++ List.replicate (3 - (lg_sl ([.ref (ad o 99), .long x1])).length) Slot.unset).toArray = ls at hl ⊢
  exact b_X0_passOne_0 ⟨B0.exec, B0.bytes, hml, B0.returns, atoms_spec (ws := wsX0_passOne) B0.pre, findClass_of_methodNamed B0.named, B0.notSynchronized, hC, hA⟩ ho  h Z va_S.rf hl
theorem i_X0_letPass_0 : ∀ w ∈ wsX00, w ∈ wsX0_letPass := by decide +kernel
theorem k_X0_letPass_w0 : Cond.fieldLink RX0 31 "WarmProbes$Board" "steps" "I" ∈ wsX0_letPass := by decide +kernel
set_option maxRecDepth 20000 in
set_option maxHeartbeats 4000000 in
theorem b_X0_letPass_11 (B : wx_B p s m args meth c cX0_letPass 5 (some .int) wsX0_letPass RX0 D ad ca A) {o : Nat}  (ho : o < 11) {r : Int32} {σ' : wx_St}  {x1 : Int32} {σ : wx_St}  (h : f_X0_letPass_11 o x1 σ = some (r, σ')) {H : Heap} {locs : List Loc} (Z : wx_Z D ad rd ca A σ H) (hS : va_S A s.heap H locs) {ls : Array Slot} (hl : lv_has ls 5 [(0, .ref (ad o 99)), (1, .int x1)]) : W p l e ({ frames := 3, cells := 0, slots := 0, locals := 78 } : Room) s m args below meth c H locs 0 0 (MQ below (wx_Q D ad rd ca A (some (.int r)) σ') args s 0 0 A) (F0 m 11 ls []) := by
  obtain ⟨hx, hb, hml, hr, hts, hown, hlk, hC, hA⟩ := id B
  unfold f_X0_letPass_11 at h
  refine lv_bipush (v := (-2)) hx hb dX0_letPass_11 (by decide) ?_
  obtain ⟨rfl, rfl⟩ := wx_ret_ok h
  exact W.iret hx hb hr (fun t ht hW => ⟨rfl, by rw [ht]; exact Z, hS.F ht⟩) hS.2.2 dX0_letPass_13
set_option maxRecDepth 20000 in
set_option maxHeartbeats 4000000 in
theorem b_X0_letPass_36 (B : wx_B p s m args meth c cX0_letPass 5 (some .int) wsX0_letPass RX0 D ad ca A) {o : Nat}  (ho : o < 11) {r : Int32} {σ' : wx_St}   :
    ∀ {n : Nat} {x1 : Int32} {x2 : Int64} {x4 : Int32} {σ : wx_St}  (h : f_X0_letPass_36 o n x1 x2 x4 σ = some (r, σ')) {H : Heap} {locs : List Loc} (Z : wx_Z D ad rd ca A σ H) (hS : va_S A s.heap H locs) {ls : Array Slot} (hl : lv_has ls 5 [(0, .ref (ad o 99)), (1, .int x1), (2, .long x2), (4, .int x4)]), W p l e ({ frames := 3, cells := 0, slots := 0, locals := 78 } : Room) s m args below meth c H locs 0 0 (MQ below (wx_Q D ad rd ca A (some (.int r)) σ') args s 0 0 A) (F0 m 36 ls []) := by
  obtain ⟨hx, hb, hml, hr, hts, hown, hlk, hC, hA⟩ := id B
  intro n
  induction n with
  | zero => intro x1 x2 x4 σ  h H locs Z hS ls hl; exact wx_no h
  | succ n ih =>
    intro x1 x2 x4 σ  h H locs Z hS ls hl
    rw [f_X0_letPass_36] at h
    refine lv_iload hx hb dX0_letPass_36 (lv_at hl 3 rfl) ?_
    refine lv_iload_n hx hb dX0_letPass_38 rfl (lv_at hl 1 rfl) ?_
    refine lv_icmp_ge (tgt := 53) hx hb dX0_letPass_39 (by decide) (fun c39 => ?_) (fun c39 => ?_)
    · replace h := wx_ift c39 h
      refine lv_aload_n hx hb dX0_letPass_53 rfl (lv_at hl 0 rfl) ?_
      refine lv_aload_n hx hb dX0_letPass_54 rfl (lv_at hl 0 rfl) ?_
      refine wx_get (own := RX0) hx hb hts i_X0_letPass_0 hown hC.1 Z (o := o) (ci := 0) (wx_sbo ho 99) (rfl : vwCl[0]? = some (RX0, TX0, 13)) 6 (by decide) (hts _ k_X0_letPass_w0) (fun _ h9 => h9) (f := 1) rfl rfl dX0_letPass_55 ?_
      refine lv_iload_n hx hb dX0_letPass_58 rfl (lv_at hl 1 rfl) ?_
      refine lv_iadd hx hb dX0_letPass_59 ?_
      obtain ⟨σ60, e60, h⟩ := wx_l_ok h
      refine wx_put (own := RX0) hx hb hts i_X0_letPass_0 tyX0 tyX0_ok nmX0 hown hC.1 Z hS (o := o) (ci := 0) (wx_sbo ho 99) (rfl : vwCl[0]? = some (RX0, TX0, 13)) 6 (by decide) (hts _ k_X0_letPass_w0) (fun _ h9 => h9) rfl (by decide +kernel) rfl dX0_letPass_60 e60 (fun H locs Z hS => ?_)
      refine lv_aload_n hx hb dX0_letPass_63 rfl (lv_at hl 0 rfl) ?_
      refine wx_get (own := RX0) hx hb hts i_X0_letPass_0 hown hC.1 Z (o := o) (ci := 0) (wx_sbo ho 99) (rfl : vwCl[0]? = some (RX0, TX0, 13)) 6 (by decide) (hts _ k_X0_letPass_w0) (fun _ h9 => h9) (f := 1) rfl rfl dX0_letPass_64 ?_
      obtain ⟨rfl, rfl⟩ := wx_ret_ok h
      exact W.iret hx hb hr (fun t ht hW => ⟨rfl, by rw [ht]; exact Z, hS.F ht⟩) hS.2.2 dX0_letPass_67
    · replace h := wx_iff c39 h
      refine lv_aload_n hx hb dX0_letPass_42 rfl (lv_at hl 0 rfl) ?_
      refine lv_lload_n hx hb dX0_letPass_43 rfl (lv_at hl 2 rfl) ?_
      obtain ⟨v44, σ44, hc44, h⟩ := wx_b_ok h
      refine wx_call (va_runV (As := [.long x2]) (rest := []) ⟨hx, hb, hml, hown, hts⟩ (c_X0_passOne l (D := D) (ad := ad) (rd := rd) (ca := ca) (A := A) (σ := σ) (o := o) ho hc44) (cwV 1 hts gX0_letPass_X0_passOne rfl rfl rfl (by decide +kernel) ⟨Nat.le_of_ble_eq_true rfl, Nat.le_of_ble_eq_true rfl⟩) (wx_preV hC Z hS hA (wx_sbo ho 99) (rfl : vwCl[0]? = some (RX0, TX0, 13))) rfl rfl hl.1 rfl (lv_room (Nat.le_of_ble_eq_true rfl)) dX0_letPass_44 ⟨Nat.zero_le _, Nat.zero_le _⟩) hS (fun H locs Z hS => ?_)
      refine lv_iinc (v := x4 + 1) (lv' := [(4, .int (x4 + 1)), (0, .ref (ad o 99)), (1, .int x1), (2, .long x2)]) hx hb dX0_letPass_47 hl (k := 3) rfl rfl (by decide) rfl (fun ls hl => ?_)
      refine lv_goto (tgt := 36) hx hb dX0_letPass_50 (by decide) ?_
      exact ih h Z hS (lv_sub hl [1, 2, 3, 0] rfl)
set_option maxRecDepth 20000 in
set_option maxHeartbeats 4000000 in
theorem b_X0_letPass_0 (B : wx_B p s m args meth c cX0_letPass 5 (some .int) wsX0_letPass RX0 D ad ca A) {o : Nat}  (ho : o < 11) {r : Int32} {σ' : wx_St}  {x1 : Int32} {σ : wx_St}  (h : f_X0_letPass o x1 σ = some (r, σ')) {H : Heap} {locs : List Loc} (Z : wx_Z D ad rd ca A σ H) (hS : va_S A s.heap H locs) {ls : Array Slot} (hl : lv_has ls 5 [(0, .ref (ad o 99)), (1, .int x1)]) : W p l e ({ frames := 3, cells := 0, slots := 0, locals := 78 } : Room) s m args below meth c H locs 0 0 (MQ below (wx_Q D ad rd ca A (some (.int r)) σ') args s 0 0 A) (F0 m 0 ls []) := by
  obtain ⟨hx, hb, hml, hr, hts, hown, hlk, hC, hA⟩ := id B
  unfold f_X0_letPass at h
  refine lv_iload_n hx hb dX0_letPass_0 rfl (lv_at hl 1 rfl) ?_
  refine lv_iconst (v := 1) hx hb dX0_letPass_1 (by decide) ?_
  refine lv_icmp_lt (tgt := 11) hx hb dX0_letPass_2 (by decide) (fun c2 => ?_) (fun c2 => ?_)
  · replace h := wx_ift c2 h
    exact b_X0_letPass_11 B ho h Z hS (lv_sub hl [0, 1] rfl)
  · replace h := wx_iff c2 h
    refine lv_iload_n hx hb dX0_letPass_5 rfl (lv_at hl 1 rfl) ?_
    refine lv_bipush (v := 50) hx hb dX0_letPass_6 (by decide) ?_
    refine lv_icmp_le (tgt := 14) hx hb dX0_letPass_8 (by decide) (fun c8 => ?_) (fun c8 => ?_)
    · replace h := wx_ift c8 h
      refine lv_aload_n hx hb dX0_letPass_14 rfl (lv_at hl 0 rfl) ?_
      refine wx_get (own := RX0) hx hb hts i_X0_letPass_0 hown hC.1 Z (o := o) (ci := 0) (wx_sbo ho 99) (rfl : vwCl[0]? = some (RX0, TX0, 13)) 6 (by decide) (hts _ k_X0_letPass_w0) (fun _ h9 => h9) (f := 1) rfl rfl dX0_letPass_15 ?_
      refine lv_iload_n hx hb dX0_letPass_18 rfl (lv_at hl 1 rfl) ?_
      refine lv_iadd hx hb dX0_letPass_19 ?_
      refine lv_bipush (v := 100) hx hb dX0_letPass_20 (by decide) ?_
      refine lv_icmp_le (tgt := 28) hx hb dX0_letPass_22 (by decide) (fun c22 => ?_) (fun c22 => ?_)
      · replace h := wx_ift c22 h
        refine lv_aload_n hx hb dX0_letPass_28 rfl (lv_at hl 0 rfl) ?_
        obtain ⟨v29, hc29, h⟩ := wx_o_ok h
        refine wx_call (va_runV (As := []) (rest := []) ⟨hx, hb, hml, hown, hts⟩ (c_X0_heated l (D := D) (ad := ad) (rd := rd) (ca := ca) (A := A) (σ := σ) (o := o) ho hc29) (cwV 0 hts gX0_letPass_X0_heated rfl rfl rfl (by decide +kernel) ⟨Nat.le_of_ble_eq_true rfl, Nat.le_of_ble_eq_true rfl⟩) (wx_preV hC Z hS hA (wx_sbo ho 99) (rfl : vwCl[0]? = some (RX0, TX0, 13))) rfl rfl hl.1 rfl (lv_room (Nat.le_of_ble_eq_true rfl)) dX0_letPass_29 ⟨Nat.zero_le _, Nat.zero_le _⟩) hS (fun H locs Z hS => ?_)
        refine lv_lstore_n (lv' := [(2, .long v29), (0, .ref (ad o 99)), (1, .int x1)]) hx hb dX0_letPass_32 rfl hl (by decide) rfl (fun ls hl => ?_)
        refine lv_iconst (v := 0) hx hb dX0_letPass_33 (by decide) ?_
        refine lv_istore (lv' := [(4, .int 0), (2, .long v29), (0, .ref (ad o 99)), (1, .int x1)]) hx hb dX0_letPass_34 hl (by decide) rfl (fun ls hl => ?_)
        exact b_X0_letPass_36 B ho h Z hS (lv_sub hl [2, 3, 1, 0] rfl)
      · replace h := wx_iff c22 h
        refine lv_bipush (v := (-5)) hx hb dX0_letPass_25 (by decide) ?_
        obtain ⟨rfl, rfl⟩ := wx_ret_ok h
        exact W.iret hx hb hr (fun t ht hW => ⟨rfl, by rw [ht]; exact Z, hS.F ht⟩) hS.2.2 dX0_letPass_27
    · replace h := wx_iff c8 h
      exact b_X0_letPass_11 B ho h Z hS (lv_sub hl [0, 1] rfl)
set_option maxRecDepth 20000 in
theorem c_X0_letPass (l : Launch) {D : va_G} {ad : Nat → Nat → Nat} {rd : Nat → Nat} {ca : Nat → ClassId} {A : Nat → Prop} {σ : wx_St} {o : Nat}  (ho : o < 11) {x1 : Int32} {r : Int32} {σ' : wx_St} (h : f_X0_letPass o x1 σ = some (r, σ')) : wx_M l yX0_letPass wsX0_letPass 3 78 D ad rd ca A [.ref (ad o 99), .int x1] σ (some (.int r)) σ' := by
  refine Met.ofW (cc := cX0_letPass) (maxL := 5) (ret := (some .int)) (by decide +kernel) rfl ?_
  intro p e s m args below meth c s₁ B0 hml hv
  obtain ⟨rfl, hC, Z, hA⟩ := hv
  have hl := lv_entry ([.ref (ad o 99), .int x1]) (n := 5) (Nat.le_of_ble_eq_true rfl)
  rw [lg_entry_eq]
  generalize (lg_sl ([.ref (ad o 99), .int x1]) ++ List.replicate (5 - (lg_sl ([.ref (ad o 99), .int x1])).length) Slot.unset).toArray = ls at hl ⊢
  exact b_X0_letPass_0 ⟨B0.exec, B0.bytes, hml, B0.returns, atoms_spec (ws := wsX0_letPass) B0.pre, findClass_of_methodNamed B0.named, B0.notSynchronized, hC, hA⟩ ho  h Z va_S.rf hl
theorem k_X5_readOf_w0 : Cond.constantFloat RX5 258 (1092616192) ∈ wsX5_readOf := by decide +kernel
set_option maxRecDepth 20000 in
set_option maxHeartbeats 4000000 in
theorem b_X5_readOf_0 (B : wx_B p s m args meth c cX5_readOf 1 (some .int) wsX5_readOf RX5 D ad ca A)    {r : Int32} {σ : wx_St}  {x0 : UInt32}   (h : f_X5_readOf x0 = some r) {H : Heap} {locs : List Loc} (Z : wx_Z D ad rd ca A σ H) (hS : va_S A s.heap H locs) {ls : Array Slot} (hl : lv_has ls 1 [(0, .float x0)]) : W p l e ({ frames := 0, cells := 0, slots := 0, locals := 0 } : Room) s m args below meth c H locs 0 0 (MQ below (wx_Q D ad rd ca A (some (.int r)) σ) args s 0 0 A) (F0 m 0 ls []) := by
  obtain ⟨hx, hb, hml, hr, hts, hown, hlk, hC, hA⟩ := id B
  unfold f_X5_readOf at h
  refine lv_fload_n hx hb dX5_readOf_0 rfl (lv_at hl 0 rfl) ?_
  refine wx_ldcwF hx hb hown (hts _ k_X5_readOf_w0) dX5_readOf_1 ?_
  obtain ⟨v4, ev4, nv4, h⟩ := wx_f_ok h
  refine wx_fmul hx hb dX5_readOf_4 ev4 nv4 ?_
  refine lv_f2i hx hb dX5_readOf_5 ?_
  obtain rfl := Option.some.inj h
  exact W.iret hx hb hr (fun t ht hW => ⟨rfl, by rw [ht]; exact Z, hS.F ht⟩) hS.2.2 dX5_readOf_6
set_option maxRecDepth 20000 in
theorem c_X5_readOf (l : Launch) {D : va_G} {ad : Nat → Nat → Nat} {rd : Nat → Nat} {ca : Nat → ClassId} {A : Nat → Prop} {σ : wx_St}    {x0 : UInt32} {r : Int32} (h : f_X5_readOf x0 = some r) : wx_M l yX5_readOf wsX5_readOf 0 0 D ad rd ca A [.float x0] σ (some (.int r)) σ := by
  refine Met.ofW (cc := cX5_readOf) (maxL := 1) (ret := (some .int)) (by decide +kernel) rfl ?_
  intro p e s m args below meth c s₁ B0 hml hv
  obtain ⟨rfl, hC, Z, hA⟩ := hv
  have hl := lv_entry ([.float x0]) (n := 1) (Nat.le_of_ble_eq_true rfl)
  rw [lg_entry_eq]
  generalize (lg_sl ([.float x0]) ++ List.replicate (1 - (lg_sl ([.float x0])).length) Slot.unset).toArray = ls at hl ⊢
  exact b_X5_readOf_0 ⟨B0.exec, B0.bytes, hml, B0.returns, atoms_spec (ws := wsX5_readOf) B0.pre, findClass_of_methodNamed B0.named, B0.notSynchronized, hC, hA⟩   h Z va_S.rf hl
theorem i_X0_measure_0 : ∀ w ∈ wsX00, w ∈ wsX0_measure := by decide +kernel
theorem k_X0_measure_w0 : Cond.initialized RX5 ∈ wsX0_measure := by decide +kernel
theorem k_X0_measure_w1 : Cond.static yX5_placeOf ∈ wsX0_measure := by decide +kernel
theorem k_X0_measure_w2 : Cond.fieldLink RX0 41 "WarmProbes$Board" "readings" "I" ∈ wsX0_measure := by decide +kernel
theorem k_X0_measure_w3 : Cond.fieldLink RX0 34 "WarmProbes$Board" "warmth" "[F" ∈ wsX0_measure := by decide +kernel
theorem k_X0_measure_w4 : Cond.static yX5_readOf ∈ wsX0_measure := by decide +kernel
theorem k_X0_measure_w5 : Cond.fieldLink RX0 44 "WarmProbes$Board" "readingPlaces" "[I" ∈ wsX0_measure := by decide +kernel
theorem k_X0_measure_w6 : Cond.fieldLink RX0 47 "WarmProbes$Board" "readingReads" "[I" ∈ wsX0_measure := by decide +kernel
theorem k_X0_measure_w7 : Cond.fieldLink RX0 50 "WarmProbes$Board" "readingSteps" "[I" ∈ wsX0_measure := by decide +kernel
theorem k_X0_measure_w8 : Cond.fieldLink RX0 31 "WarmProbes$Board" "steps" "I" ∈ wsX0_measure := by decide +kernel
set_option maxRecDepth 20000 in
set_option maxHeartbeats 4000000 in
theorem b_X0_measure_0 (B : wx_B p s m args meth c cX0_measure 5 (some .int) wsX0_measure RX0 D ad ca A) {o : Nat}  (ho : o < 11) {r : Int32} {σ' : wx_St}  {x1 : Int32} {x2 : Int32} {σ : wx_St}  (h : f_X0_measure o x1 x2 σ = some (r, σ')) {H : Heap} {locs : List Loc} (Z : wx_Z D ad rd ca A σ H) (hS : va_S A s.heap H locs) {ls : Array Slot} (hl : lv_has ls 5 [(0, .ref (ad o 99)), (1, .int x1), (2, .int x2)]) : W p l e ({ frames := 1, cells := 0, slots := 0, locals := 21 } : Room) s m args below meth c H locs 0 0 (MQ below (wx_Q D ad rd ca A (some (.int r)) σ') args s 0 0 A) (F0 m 0 ls []) := by
  obtain ⟨hx, hb, hml, hr, hts, hown, hlk, hC, hA⟩ := id B
  unfold f_X0_measure at h
  refine lv_iload_n hx hb dX0_measure_0 rfl (lv_at hl 1 rfl) ?_
  refine lv_iload_n hx hb dX0_measure_1 rfl (lv_at hl 2 rfl) ?_
  obtain ⟨v2, hc2, h⟩ := wx_o_ok h
  refine wx_call (va_runSN (As := [.int x1, .int x2]) (rest := []) ⟨hx, hb, hml, hown, hts⟩ (c_X5_placeOf l (D := D) (ad := ad) (rd := rd) (ca := ca) (A := A) (σ := σ) hc2) ⟨va_cnB 2 hts gX0_measure_X5_placeOf_n71 rfl rfl rfl (hC.1.2.1 _ (List.mem_of_getElem? (i := 34) rfl)) (hts _ k_X0_measure_w0) (by decide +kernel) ⟨Nat.le_of_ble_eq_true rfl, Nat.le_of_ble_eq_true rfl⟩, hts _ k_X0_measure_w1, trivial⟩ (wx_preS hC Z hS hA) rfl rfl hl.1 rfl (lv_room (Nat.le_of_ble_eq_true rfl)) dX0_measure_2 ⟨Nat.zero_le _, Nat.zero_le _⟩) hS (fun H locs Z hS => ?_)
  refine lv_istore_n (lv' := [(3, .int v2), (0, .ref (ad o 99)), (1, .int x1), (2, .int x2)]) hx hb dX0_measure_5 rfl hl (by decide) rfl (fun ls hl => ?_)
  refine lv_iload_n hx hb dX0_measure_6 rfl (lv_at hl 0 rfl) ?_
  refine lv_if_ge (tgt := 12) hx hb dX0_measure_7 (by decide) (fun c7 => ?_) (fun c7 => ?_)
  · replace h := wx_ift c7 h
    refine lv_aload_n hx hb dX0_measure_12 rfl (lv_at hl 1 rfl) ?_
    refine wx_get (own := RX0) hx hb hts i_X0_measure_0 hown hC.1 Z (o := o) (ci := 0) (wx_sbo ho 99) (rfl : vwCl[0]? = some (RX0, TX0, 13)) 9 (by decide) (hts _ k_X0_measure_w2) (fun _ h9 => h9) (f := 1) rfl rfl dX0_measure_13 ?_
    refine lv_bipush (v := 8) hx hb dX0_measure_16 (by decide) ?_
    refine lv_icmp_lt (tgt := 24) hx hb dX0_measure_18 (by decide) (fun c18 => ?_) (fun c18 => ?_)
    · replace h := wx_ift c18 h
      refine lv_aload_n hx hb dX0_measure_24 rfl (lv_at hl 1 rfl) ?_
      refine wx_get (own := RX0) hx hb hts i_X0_measure_0 hown hC.1 Z (o := o) (ci := 0) (wx_sbo ho 99) (rfl : vwCl[0]? = some (RX0, TX0, 13)) 7 (by decide) (hts _ k_X0_measure_w3) (fun _ h9 => h9) (f := 0) rfl rfl dX0_measure_25 ?_
      refine lv_iload_n hx hb dX0_measure_28 rfl (lv_at hl 0 rfl) ?_
      obtain ⟨v29, ev29, iv29, h⟩ := wx_rF_ok h
      refine wx_fald hx hb hC.1 Z (o := o) (k := 7) (n := 64) (wx_sbo ho 7) rfl iv29 dX0_measure_29 ev29 ?_
      obtain ⟨v30, hc30, h⟩ := wx_o_ok h
      refine wx_call (va_runSN (As := [.float v29]) (rest := []) ⟨hx, hb, hml, hown, hts⟩ (c_X5_readOf l (D := D) (ad := ad) (rd := rd) (ca := ca) (A := A) (σ := σ) hc30) ⟨va_cnB 1 hts gX0_measure_X5_readOf_n111 rfl rfl rfl (hC.1.2.1 _ (List.mem_of_getElem? (i := 45) rfl)) (hts _ k_X0_measure_w0) (by decide +kernel) ⟨Nat.le_of_ble_eq_true rfl, Nat.le_of_ble_eq_true rfl⟩, hts _ k_X0_measure_w4, trivial⟩ (wx_preS hC Z hS hA) rfl rfl hl.1 rfl (lv_room (Nat.le_of_ble_eq_true rfl)) dX0_measure_30 ⟨Nat.zero_le _, Nat.zero_le _⟩) hS (fun H locs Z hS => ?_)
      refine lv_istore (lv' := [(4, .int v30), (3, .int v2), (0, .ref (ad o 99)), (1, .int x1), (2, .int x2)]) hx hb dX0_measure_33 hl (by decide) rfl (fun ls hl => ?_)
      refine lv_aload_n hx hb dX0_measure_35 rfl (lv_at hl 2 rfl) ?_
      refine wx_get (own := RX0) hx hb hts i_X0_measure_0 hown hC.1 Z (o := o) (ci := 0) (wx_sbo ho 99) (rfl : vwCl[0]? = some (RX0, TX0, 13)) 10 (by decide) (hts _ k_X0_measure_w5) (fun _ h9 => h9) (f := 0) rfl rfl dX0_measure_36 ?_
      refine lv_aload_n hx hb dX0_measure_39 rfl (lv_at hl 2 rfl) ?_
      refine wx_get (own := RX0) hx hb hts i_X0_measure_0 hown hC.1 Z (o := o) (ci := 0) (wx_sbo ho 99) (rfl : vwCl[0]? = some (RX0, TX0, 13)) 9 (by decide) (hts _ k_X0_measure_w2) (fun _ h9 => h9) (f := 1) rfl rfl dX0_measure_40 ?_
      refine lv_iload_n hx hb dX0_measure_43 rfl (lv_at hl 1 rfl) ?_
      obtain ⟨σ44, e44, i44, h⟩ := wx_w_ok h
      refine wx_iast hx hb hC.1 Z hS (o := o) (k := 10) (n := 8) (wx_sbo ho 10) rfl i44 dX0_measure_44 e44 (fun H locs Z hS => ?_)
      refine lv_aload_n hx hb dX0_measure_45 rfl (lv_at hl 2 rfl) ?_
      refine wx_get (own := RX0) hx hb hts i_X0_measure_0 hown hC.1 Z (o := o) (ci := 0) (wx_sbo ho 99) (rfl : vwCl[0]? = some (RX0, TX0, 13)) 11 (by decide) (hts _ k_X0_measure_w6) (fun _ h9 => h9) (f := 0) rfl rfl dX0_measure_46 ?_
      refine lv_aload_n hx hb dX0_measure_49 rfl (lv_at hl 2 rfl) ?_
      refine wx_get (own := RX0) hx hb hts i_X0_measure_0 hown hC.1 Z (o := o) (ci := 0) (wx_sbo ho 99) (rfl : vwCl[0]? = some (RX0, TX0, 13)) 9 (by decide) (hts _ k_X0_measure_w2) (fun _ h9 => h9) (f := 1) rfl rfl dX0_measure_50 ?_
      refine lv_iload hx hb dX0_measure_53 (lv_at hl 0 rfl) ?_
      obtain ⟨σ55, e55, i55, h⟩ := wx_w_ok h
      refine wx_iast hx hb hC.1 Z hS (o := o) (k := 11) (n := 8) (wx_sbo ho 11) rfl i55 dX0_measure_55 e55 (fun H locs Z hS => ?_)
      refine lv_aload_n hx hb dX0_measure_56 rfl (lv_at hl 2 rfl) ?_
      refine wx_get (own := RX0) hx hb hts i_X0_measure_0 hown hC.1 Z (o := o) (ci := 0) (wx_sbo ho 99) (rfl : vwCl[0]? = some (RX0, TX0, 13)) 12 (by decide) (hts _ k_X0_measure_w7) (fun _ h9 => h9) (f := 0) rfl rfl dX0_measure_57 ?_
      refine lv_aload_n hx hb dX0_measure_60 rfl (lv_at hl 2 rfl) ?_
      refine wx_get (own := RX0) hx hb hts i_X0_measure_0 hown hC.1 Z (o := o) (ci := 0) (wx_sbo ho 99) (rfl : vwCl[0]? = some (RX0, TX0, 13)) 9 (by decide) (hts _ k_X0_measure_w2) (fun _ h9 => h9) (f := 1) rfl rfl dX0_measure_61 ?_
      refine lv_aload_n hx hb dX0_measure_64 rfl (lv_at hl 2 rfl) ?_
      refine wx_get (own := RX0) hx hb hts i_X0_measure_0 hown hC.1 Z (o := o) (ci := 0) (wx_sbo ho 99) (rfl : vwCl[0]? = some (RX0, TX0, 13)) 6 (by decide) (hts _ k_X0_measure_w8) (fun _ h9 => h9) (f := 1) rfl rfl dX0_measure_65 ?_
      obtain ⟨σ68, e68, i68, h⟩ := wx_w_ok h
      refine wx_iast hx hb hC.1 Z hS (o := o) (k := 12) (n := 8) (wx_sbo ho 12) rfl i68 dX0_measure_68 e68 (fun H locs Z hS => ?_)
      refine lv_aload_n hx hb dX0_measure_69 rfl (lv_at hl 2 rfl) ?_
      refine lv_dup hx hb dX0_measure_70 rfl ?_
      refine wx_get (own := RX0) hx hb hts i_X0_measure_0 hown hC.1 Z (o := o) (ci := 0) (wx_sbo ho 99) (rfl : vwCl[0]? = some (RX0, TX0, 13)) 9 (by decide) (hts _ k_X0_measure_w2) (fun _ h9 => h9) (f := 1) rfl rfl dX0_measure_71 ?_
      refine lv_iconst (v := 1) hx hb dX0_measure_74 (by decide) ?_
      refine lv_iadd hx hb dX0_measure_75 ?_
      obtain ⟨σ76, e76, h⟩ := wx_l_ok h
      refine wx_put (own := RX0) hx hb hts i_X0_measure_0 tyX0 tyX0_ok nmX0 hown hC.1 Z hS (o := o) (ci := 0) (wx_sbo ho 99) (rfl : vwCl[0]? = some (RX0, TX0, 13)) 9 (by decide) (hts _ k_X0_measure_w2) (fun _ h9 => h9) rfl (by decide +kernel) rfl dX0_measure_76 e76 (fun H locs Z hS => ?_)
      refine lv_iload hx hb dX0_measure_79 (lv_at hl 0 rfl) ?_
      obtain ⟨rfl, rfl⟩ := wx_ret_ok h
      exact W.iret hx hb hr (fun t ht hW => ⟨rfl, by rw [ht]; exact Z, hS.F ht⟩) hS.2.2 dX0_measure_81
    · replace h := wx_iff c18 h
      refine lv_bipush (v := (-4)) hx hb dX0_measure_21 (by decide) ?_
      obtain ⟨rfl, rfl⟩ := wx_ret_ok h
      exact W.iret hx hb hr (fun t ht hW => ⟨rfl, by rw [ht]; exact Z, hS.F ht⟩) hS.2.2 dX0_measure_23
  · replace h := wx_iff c7 h
    refine lv_iconst (v := (-1)) hx hb dX0_measure_10 (by decide) ?_
    obtain ⟨rfl, rfl⟩ := wx_ret_ok h
    exact W.iret hx hb hr (fun t ht hW => ⟨rfl, by rw [ht]; exact Z, hS.F ht⟩) hS.2.2 dX0_measure_11
set_option maxRecDepth 20000 in
theorem c_X0_measure (l : Launch) {D : va_G} {ad : Nat → Nat → Nat} {rd : Nat → Nat} {ca : Nat → ClassId} {A : Nat → Prop} {σ : wx_St} {o : Nat}  (ho : o < 11) {x1 : Int32} {x2 : Int32} {r : Int32} {σ' : wx_St} (h : f_X0_measure o x1 x2 σ = some (r, σ')) : wx_M l yX0_measure wsX0_measure 1 21 D ad rd ca A [.ref (ad o 99), .int x1, .int x2] σ (some (.int r)) σ' := by
  refine Met.ofW (cc := cX0_measure) (maxL := 5) (ret := (some .int)) (by decide +kernel) rfl ?_
  intro p e s m args below meth c s₁ B0 hml hv
  obtain ⟨rfl, hC, Z, hA⟩ := hv
  have hl := lv_entry ([.ref (ad o 99), .int x1, .int x2]) (n := 5) (Nat.le_of_ble_eq_true rfl)
  rw [lg_entry_eq]
  generalize (lg_sl ([.ref (ad o 99), .int x1, .int x2]) ++ List.replicate (5 - (lg_sl ([.ref (ad o 99), .int x1, .int x2])).length) Slot.unset).toArray = ls at hl ⊢
  exact b_X0_measure_0 ⟨B0.exec, B0.bytes, hml, B0.returns, atoms_spec (ws := wsX0_measure) B0.pre, findClass_of_methodNamed B0.named, B0.notSynchronized, hC, hA⟩ ho  h Z va_S.rf hl
theorem i_X0_part_0 : ∀ w ∈ wsX00, w ∈ wsX0_part := by decide +kernel
theorem k_X0_part_w0 : Cond.fieldLink RX0 21 "WarmProbes$Board" "touches" "I" ∈ wsX0_part := by decide +kernel
theorem k_X0_part_w1 : Cond.fieldLink RX0 25 "WarmProbes$Board" "touchPlaces" "[I" ∈ wsX0_part := by decide +kernel
theorem k_X0_part_w2 : Cond.fieldLink RX0 28 "WarmProbes$Board" "touchOthers" "[I" ∈ wsX0_part := by decide +kernel
set_option maxRecDepth 20000 in
set_option maxHeartbeats 4000000 in
theorem b_X0_part_12 (B : wx_B p s m args meth c cX0_part 3 (some .int) wsX0_part RX0 D ad ca A) {o : Nat}  (ho : o < 11) {r : Int32} {σ' : wx_St}  {x1 : Int32} {σ : wx_St}  (h : f_X0_part_12 o x1 σ = some (r, σ')) {H : Heap} {locs : List Loc} (Z : wx_Z D ad rd ca A σ H) (hS : va_S A s.heap H locs) {ls : Array Slot} (hl : lv_has ls 3 [(0, .ref (ad o 99)), (1, .int x1)]) : W p l e ({ frames := 1, cells := 0, slots := 0, locals := 21 } : Room) s m args below meth c H locs 0 0 (MQ below (wx_Q D ad rd ca A (some (.int r)) σ') args s 0 0 A) (F0 m 12 ls []) := by
  obtain ⟨hx, hb, hml, hr, hts, hown, hlk, hC, hA⟩ := id B
  unfold f_X0_part_12 at h
  refine lv_iconst (v := (-1)) hx hb dX0_part_12 (by decide) ?_
  obtain ⟨rfl, rfl⟩ := wx_ret_ok h
  exact W.iret hx hb hr (fun t ht hW => ⟨rfl, by rw [ht]; exact Z, hS.F ht⟩) hS.2.2 dX0_part_13
set_option maxRecDepth 20000 in
set_option maxHeartbeats 4000000 in
theorem b_X0_part_16 (B : wx_B p s m args meth c cX0_part 3 (some .int) wsX0_part RX0 D ad ca A) {o : Nat}  (ho : o < 11) {r : Int32} {σ' : wx_St}   :
    ∀ {n : Nat} {x1 : Int32} {x2 : Int32} {σ : wx_St}  (h : f_X0_part_16 o n x1 x2 σ = some (r, σ')) {H : Heap} {locs : List Loc} (Z : wx_Z D ad rd ca A σ H) (hS : va_S A s.heap H locs) {ls : Array Slot} (hl : lv_has ls 3 [(0, .ref (ad o 99)), (1, .int x1), (2, .int x2)]), W p l e ({ frames := 1, cells := 0, slots := 0, locals := 21 } : Room) s m args below meth c H locs 0 0 (MQ below (wx_Q D ad rd ca A (some (.int r)) σ') args s 0 0 A) (F0 m 16 ls []) := by
  obtain ⟨hx, hb, hml, hr, hts, hown, hlk, hC, hA⟩ := id B
  intro n
  induction n with
  | zero => intro x1 x2 σ  h H locs Z hS ls hl; exact wx_no h
  | succ n ih =>
    intro x1 x2 σ  h H locs Z hS ls hl
    rw [f_X0_part_16] at h
    refine lv_iload_n hx hb dX0_part_16 rfl (lv_at hl 2 rfl) ?_
    refine lv_aload_n hx hb dX0_part_17 rfl (lv_at hl 0 rfl) ?_
    refine wx_get (own := RX0) hx hb hts i_X0_part_0 hown hC.1 Z (o := o) (ci := 0) (wx_sbo ho 99) (rfl : vwCl[0]? = some (RX0, TX0, 13)) 3 (by decide) (hts _ k_X0_part_w0) (fun _ h9 => h9) (f := 1) rfl rfl dX0_part_18 ?_
    refine lv_iconst (v := 1) hx hb dX0_part_21 (by decide) ?_
    refine lv_isub hx hb dX0_part_22 ?_
    refine lv_icmp_ge (tgt := 60) hx hb dX0_part_23 (by decide) (fun c23 => ?_) (fun c23 => ?_)
    · replace h := wx_ift c23 h
      refine lv_aload_n hx hb dX0_part_60 rfl (lv_at hl 0 rfl) ?_
      refine lv_dup hx hb dX0_part_61 rfl ?_
      refine wx_get (own := RX0) hx hb hts i_X0_part_0 hown hC.1 Z (o := o) (ci := 0) (wx_sbo ho 99) (rfl : vwCl[0]? = some (RX0, TX0, 13)) 3 (by decide) (hts _ k_X0_part_w0) (fun _ h9 => h9) (f := 1) rfl rfl dX0_part_62 ?_
      refine lv_iconst (v := 1) hx hb dX0_part_65 (by decide) ?_
      refine lv_isub hx hb dX0_part_66 ?_
      obtain ⟨σ67, e67, h⟩ := wx_l_ok h
      refine wx_put (own := RX0) hx hb hts i_X0_part_0 tyX0 tyX0_ok nmX0 hown hC.1 Z hS (o := o) (ci := 0) (wx_sbo ho 99) (rfl : vwCl[0]? = some (RX0, TX0, 13)) 3 (by decide) (hts _ k_X0_part_w0) (fun _ h9 => h9) rfl (by decide +kernel) rfl dX0_part_67 e67 (fun H locs Z hS => ?_)
      refine lv_aload_n hx hb dX0_part_70 rfl (lv_at hl 0 rfl) ?_
      obtain ⟨v71, σ71, hc71, h⟩ := wx_b_ok h
      refine wx_call (va_runV (As := []) (rest := []) ⟨hx, hb, hml, hown, hts⟩ (c_X0_beginRun l (D := D) (ad := ad) (rd := rd) (ca := ca) (A := A) (σ := σ67) (o := o) ho hc71) (cwV 0 hts gX0_part_X0_beginRun rfl rfl rfl (by decide +kernel) ⟨Nat.le_of_ble_eq_true rfl, Nat.le_of_ble_eq_true rfl⟩) (wx_preV hC Z hS hA (wx_sbo ho 99) (rfl : vwCl[0]? = some (RX0, TX0, 13))) rfl rfl hl.1 rfl (lv_room (Nat.le_of_ble_eq_true rfl)) dX0_part_71 ⟨Nat.zero_le _, Nat.zero_le _⟩) hS (fun H locs Z hS => ?_)
      refine lv_aload_n hx hb dX0_part_74 rfl (lv_at hl 0 rfl) ?_
      refine wx_get (own := RX0) hx hb hts i_X0_part_0 hown hC.1 Z (o := o) (ci := 0) (wx_sbo ho 99) (rfl : vwCl[0]? = some (RX0, TX0, 13)) 3 (by decide) (hts _ k_X0_part_w0) (fun _ h9 => h9) (f := 1) rfl rfl dX0_part_75 ?_
      obtain ⟨rfl, rfl⟩ := wx_ret_ok h
      exact W.iret hx hb hr (fun t ht hW => ⟨rfl, by rw [ht]; exact Z, hS.F ht⟩) hS.2.2 dX0_part_78
    · replace h := wx_iff c23 h
      refine lv_aload_n hx hb dX0_part_26 rfl (lv_at hl 0 rfl) ?_
      refine wx_get (own := RX0) hx hb hts i_X0_part_0 hown hC.1 Z (o := o) (ci := 0) (wx_sbo ho 99) (rfl : vwCl[0]? = some (RX0, TX0, 13)) 4 (by decide) (hts _ k_X0_part_w1) (fun _ h9 => h9) (f := 0) rfl rfl dX0_part_27 ?_
      refine lv_iload_n hx hb dX0_part_30 rfl (lv_at hl 2 rfl) ?_
      refine lv_aload_n hx hb dX0_part_31 rfl (lv_at hl 0 rfl) ?_
      refine wx_get (own := RX0) hx hb hts i_X0_part_0 hown hC.1 Z (o := o) (ci := 0) (wx_sbo ho 99) (rfl : vwCl[0]? = some (RX0, TX0, 13)) 4 (by decide) (hts _ k_X0_part_w1) (fun _ h9 => h9) (f := 0) rfl rfl dX0_part_32 ?_
      refine lv_iload_n hx hb dX0_part_35 rfl (lv_at hl 2 rfl) ?_
      refine lv_iconst (v := 1) hx hb dX0_part_36 (by decide) ?_
      refine lv_iadd hx hb dX0_part_37 ?_
      obtain ⟨v38, ev38, iv38, h⟩ := wx_rI_ok h
      refine wx_iald hx hb hC.1 Z (o := o) (k := 4) (n := 3) (wx_sbo ho 4) rfl iv38 dX0_part_38 ev38 ?_
      obtain ⟨σ39, e39, i39, h⟩ := wx_w_ok h
      refine wx_iast hx hb hC.1 Z hS (o := o) (k := 4) (n := 3) (wx_sbo ho 4) rfl i39 dX0_part_39 e39 (fun H locs Z hS => ?_)
      refine lv_aload_n hx hb dX0_part_40 rfl (lv_at hl 0 rfl) ?_
      refine wx_get (own := RX0) hx hb hts i_X0_part_0 hown hC.1 Z (o := o) (ci := 0) (wx_sbo ho 99) (rfl : vwCl[0]? = some (RX0, TX0, 13)) 5 (by decide) (hts _ k_X0_part_w2) (fun _ h9 => h9) (f := 0) rfl rfl dX0_part_41 ?_
      refine lv_iload_n hx hb dX0_part_44 rfl (lv_at hl 2 rfl) ?_
      refine lv_aload_n hx hb dX0_part_45 rfl (lv_at hl 0 rfl) ?_
      refine wx_get (own := RX0) hx hb hts i_X0_part_0 hown hC.1 Z (o := o) (ci := 0) (wx_sbo ho 99) (rfl : vwCl[0]? = some (RX0, TX0, 13)) 5 (by decide) (hts _ k_X0_part_w2) (fun _ h9 => h9) (f := 0) rfl rfl dX0_part_46 ?_
      refine lv_iload_n hx hb dX0_part_49 rfl (lv_at hl 2 rfl) ?_
      refine lv_iconst (v := 1) hx hb dX0_part_50 (by decide) ?_
      refine lv_iadd hx hb dX0_part_51 ?_
      obtain ⟨v52, ev52, iv52, h⟩ := wx_rI_ok h
      refine wx_iald hx hb hC.1 Z (o := o) (k := 5) (n := 3) (wx_sbo ho 5) rfl iv52 dX0_part_52 ev52 ?_
      obtain ⟨σ53, e53, i53, h⟩ := wx_w_ok h
      refine wx_iast hx hb hC.1 Z hS (o := o) (k := 5) (n := 3) (wx_sbo ho 5) rfl i53 dX0_part_53 e53 (fun H locs Z hS => ?_)
      refine lv_iinc (v := x2 + 1) (lv' := [(2, .int (x2 + 1)), (0, .ref (ad o 99)), (1, .int x1)]) hx hb dX0_part_54 hl (k := 2) rfl rfl (by decide) rfl (fun ls hl => ?_)
      refine lv_goto (tgt := 16) hx hb dX0_part_57 (by decide) ?_
      exact ih h Z hS (lv_sub hl [1, 2, 0] rfl)
set_option maxRecDepth 20000 in
set_option maxHeartbeats 4000000 in
theorem b_X0_part_0 (B : wx_B p s m args meth c cX0_part 3 (some .int) wsX0_part RX0 D ad ca A) {o : Nat}  (ho : o < 11) {r : Int32} {σ' : wx_St}  {x1 : Int32} {σ : wx_St}  (h : f_X0_part o x1 σ = some (r, σ')) {H : Heap} {locs : List Loc} (Z : wx_Z D ad rd ca A σ H) (hS : va_S A s.heap H locs) {ls : Array Slot} (hl : lv_has ls 3 [(0, .ref (ad o 99)), (1, .int x1)]) : W p l e ({ frames := 1, cells := 0, slots := 0, locals := 21 } : Room) s m args below meth c H locs 0 0 (MQ below (wx_Q D ad rd ca A (some (.int r)) σ') args s 0 0 A) (F0 m 0 ls []) := by
  obtain ⟨hx, hb, hml, hr, hts, hown, hlk, hC, hA⟩ := id B
  unfold f_X0_part at h
  refine lv_iload_n hx hb dX0_part_0 rfl (lv_at hl 1 rfl) ?_
  refine lv_if_lt (tgt := 12) hx hb dX0_part_1 (by decide) (fun c1 => ?_) (fun c1 => ?_)
  · replace h := wx_ift c1 h
    exact b_X0_part_12 B ho h Z hS (lv_sub hl [0, 1] rfl)
  · replace h := wx_iff c1 h
    refine lv_iload_n hx hb dX0_part_4 rfl (lv_at hl 1 rfl) ?_
    refine lv_aload_n hx hb dX0_part_5 rfl (lv_at hl 0 rfl) ?_
    refine wx_get (own := RX0) hx hb hts i_X0_part_0 hown hC.1 Z (o := o) (ci := 0) (wx_sbo ho 99) (rfl : vwCl[0]? = some (RX0, TX0, 13)) 3 (by decide) (hts _ k_X0_part_w0) (fun _ h9 => h9) (f := 1) rfl rfl dX0_part_6 ?_
    refine lv_icmp_lt (tgt := 14) hx hb dX0_part_9 (by decide) (fun c9 => ?_) (fun c9 => ?_)
    · replace h := wx_ift c9 h
      refine lv_iload_n hx hb dX0_part_14 rfl (lv_at hl 1 rfl) ?_
      refine lv_istore_n (lv' := [(2, .int x1), (0, .ref (ad o 99)), (1, .int x1)]) hx hb dX0_part_15 rfl hl (by decide) rfl (fun ls hl => ?_)
      exact b_X0_part_16 B ho h Z hS (lv_sub hl [1, 2, 0] rfl)
    · replace h := wx_iff c9 h
      exact b_X0_part_12 B ho h Z hS (lv_sub hl [0, 1] rfl)
set_option maxRecDepth 20000 in
theorem c_X0_part (l : Launch) {D : va_G} {ad : Nat → Nat → Nat} {rd : Nat → Nat} {ca : Nat → ClassId} {A : Nat → Prop} {σ : wx_St} {o : Nat}  (ho : o < 11) {x1 : Int32} {r : Int32} {σ' : wx_St} (h : f_X0_part o x1 σ = some (r, σ')) : wx_M l yX0_part wsX0_part 1 21 D ad rd ca A [.ref (ad o 99), .int x1] σ (some (.int r)) σ' := by
  refine Met.ofW (cc := cX0_part) (maxL := 3) (ret := (some .int)) (by decide +kernel) rfl ?_
  intro p e s m args below meth c s₁ B0 hml hv
  obtain ⟨rfl, hC, Z, hA⟩ := hv
  have hl := lv_entry ([.ref (ad o 99), .int x1]) (n := 3) (Nat.le_of_ble_eq_true rfl)
  rw [lg_entry_eq]
  generalize (lg_sl ([.ref (ad o 99), .int x1]) ++ List.replicate (3 - (lg_sl ([.ref (ad o 99), .int x1])).length) Slot.unset).toArray = ls at hl ⊢
  exact b_X0_part_0 ⟨B0.exec, B0.bytes, hml, B0.returns, atoms_spec (ws := wsX0_part) B0.pre, findClass_of_methodNamed B0.named, B0.notSynchronized, hC, hA⟩ ho  h Z va_S.rf hl
theorem i_X0_placesOf_0 : ∀ w ∈ wsX00, w ∈ wsX0_placesOf := by decide +kernel
theorem k_X0_placesOf_w0 : Cond.fieldLink RX0 15 "WarmProbes$Board" "nets" "[I" ∈ wsX0_placesOf := by decide +kernel
set_option maxRecDepth 20000 in
set_option maxHeartbeats 4000000 in
theorem b_X0_placesOf_23 (B : wx_B p s m args meth c cX0_placesOf 4 (some .int) wsX0_placesOf RX0 D ad ca A) {o : Nat}  (ho : o < 11) {r : Int32} {σ : wx_St} {K4 : Int32 → Int32 → Int32 → wx_St → Option Int32} (hK4 : ∀ {x1 : Int32} {x2 : Int32} {x3 : Int32}   (h : K4 x1 x2 x3 σ = some r) {H : Heap} {locs : List Loc} (Z : wx_Z D ad rd ca A σ H) (hS : va_S A s.heap H locs) {ls : Array Slot} (hl : lv_has ls 4 [(0, .ref (ad o 99)), (1, .int x1), (2, .int x2), (3, .int x3)]), W p l e ({ frames := 0, cells := 0, slots := 0, locals := 0 } : Room) s m args below meth c H locs 0 0 (MQ below (wx_Q D ad rd ca A (some (.int r)) σ) args s 0 0 A) (F0 m 4 ls [])) {x1 : Int32} {x2 : Int32} {x3 : Int32}   (h : f_X0_placesOf_23 o K4 x1 x2 x3 σ = some r) {H : Heap} {locs : List Loc} (Z : wx_Z D ad rd ca A σ H) (hS : va_S A s.heap H locs) {ls : Array Slot} (hl : lv_has ls 4 [(0, .ref (ad o 99)), (1, .int x1), (2, .int x2), (3, .int x3)]) : W p l e ({ frames := 0, cells := 0, slots := 0, locals := 0 } : Room) s m args below meth c H locs 0 0 (MQ below (wx_Q D ad rd ca A (some (.int r)) σ) args s 0 0 A) (F0 m 23 ls []) := by
  obtain ⟨hx, hb, hml, hr, hts, hown, hlk, hC, hA⟩ := id B
  unfold f_X0_placesOf_23 at h
  refine lv_iinc (v := x3 + 1) (lv' := [(3, .int (x3 + 1)), (0, .ref (ad o 99)), (1, .int x1), (2, .int x2)]) hx hb dX0_placesOf_23 hl (k := 3) rfl rfl (by decide) rfl (fun ls hl => ?_)
  refine lv_goto (tgt := 4) hx hb dX0_placesOf_26 (by decide) ?_
  exact hK4 h Z hS (lv_sub hl [1, 2, 3, 0] rfl)
set_option maxRecDepth 20000 in
set_option maxHeartbeats 4000000 in
theorem b_X0_placesOf_4 (B : wx_B p s m args meth c cX0_placesOf 4 (some .int) wsX0_placesOf RX0 D ad ca A) {o : Nat}  (ho : o < 11) {r : Int32} {σ : wx_St}   :
    ∀ {n : Nat} {x1 : Int32} {x2 : Int32} {x3 : Int32}   (h : f_X0_placesOf_4 o n x1 x2 x3 σ = some r) {H : Heap} {locs : List Loc} (Z : wx_Z D ad rd ca A σ H) (hS : va_S A s.heap H locs) {ls : Array Slot} (hl : lv_has ls 4 [(0, .ref (ad o 99)), (1, .int x1), (2, .int x2), (3, .int x3)]), W p l e ({ frames := 0, cells := 0, slots := 0, locals := 0 } : Room) s m args below meth c H locs 0 0 (MQ below (wx_Q D ad rd ca A (some (.int r)) σ) args s 0 0 A) (F0 m 4 ls []) := by
  obtain ⟨hx, hb, hml, hr, hts, hown, hlk, hC, hA⟩ := id B
  intro n
  induction n with
  | zero => intro x1 x2 x3   h H locs Z hS ls hl; exact wx_no h
  | succ n ih =>
    intro x1 x2 x3   h H locs Z hS ls hl
    rw [f_X0_placesOf_4] at h
    refine lv_iload_n hx hb dX0_placesOf_4 rfl (lv_at hl 3 rfl) ?_
    refine lv_bipush (v := 64) hx hb dX0_placesOf_5 (by decide) ?_
    refine lv_icmp_ge (tgt := 29) hx hb dX0_placesOf_7 (by decide) (fun c7 => ?_) (fun c7 => ?_)
    · replace h := wx_ift c7 h
      refine lv_iload_n hx hb dX0_placesOf_29 rfl (lv_at hl 2 rfl) ?_
      obtain rfl := Option.some.inj h
      exact W.iret hx hb hr (fun t ht hW => ⟨rfl, by rw [ht]; exact Z, hS.F ht⟩) hS.2.2 dX0_placesOf_30
    · replace h := wx_iff c7 h
      refine lv_aload_n hx hb dX0_placesOf_10 rfl (lv_at hl 0 rfl) ?_
      refine wx_get (own := RX0) hx hb hts i_X0_placesOf_0 hown hC.1 Z (o := o) (ci := 0) (wx_sbo ho 99) (rfl : vwCl[0]? = some (RX0, TX0, 13)) 1 (by decide) (hts _ k_X0_placesOf_w0) (fun _ h9 => h9) (f := 0) rfl rfl dX0_placesOf_11 ?_
      refine lv_iload_n hx hb dX0_placesOf_14 rfl (lv_at hl 3 rfl) ?_
      obtain ⟨v15, ev15, iv15, h⟩ := wx_rI_ok h
      refine wx_iald hx hb hC.1 Z (o := o) (k := 1) (n := 64) (wx_sbo ho 1) rfl iv15 dX0_placesOf_15 ev15 ?_
      refine lv_iload_n hx hb dX0_placesOf_16 rfl (lv_at hl 1 rfl) ?_
      refine lv_icmp_ne (tgt := 23) hx hb dX0_placesOf_17 (by decide) (fun c17 => ?_) (fun c17 => ?_)
      · replace h := wx_iff c17 h
        exact b_X0_placesOf_23 B ho (K4 := (f_X0_placesOf_4 o n)) @ih h Z hS (lv_sub hl [0, 1, 2, 3] rfl)
      · replace h := wx_ift c17 h
        refine lv_iinc (v := x2 + 1) (lv' := [(2, .int (x2 + 1)), (0, .ref (ad o 99)), (1, .int x1), (3, .int x3)]) hx hb dX0_placesOf_20 hl (k := 2) rfl rfl (by decide) rfl (fun ls hl => ?_)
        exact b_X0_placesOf_23 B ho (K4 := (f_X0_placesOf_4 o n)) @ih h Z hS (lv_sub hl [1, 2, 0, 3] rfl)
set_option maxRecDepth 20000 in
set_option maxHeartbeats 4000000 in
theorem b_X0_placesOf_0 (B : wx_B p s m args meth c cX0_placesOf 4 (some .int) wsX0_placesOf RX0 D ad ca A) {o : Nat}  (ho : o < 11) {r : Int32} {σ : wx_St}  {x1 : Int32}   (h : f_X0_placesOf o x1 σ = some r) {H : Heap} {locs : List Loc} (Z : wx_Z D ad rd ca A σ H) (hS : va_S A s.heap H locs) {ls : Array Slot} (hl : lv_has ls 4 [(0, .ref (ad o 99)), (1, .int x1)]) : W p l e ({ frames := 0, cells := 0, slots := 0, locals := 0 } : Room) s m args below meth c H locs 0 0 (MQ below (wx_Q D ad rd ca A (some (.int r)) σ) args s 0 0 A) (F0 m 0 ls []) := by
  obtain ⟨hx, hb, hml, hr, hts, hown, hlk, hC, hA⟩ := id B
  unfold f_X0_placesOf at h
  refine lv_iconst (v := 0) hx hb dX0_placesOf_0 (by decide) ?_
  refine lv_istore_n (lv' := [(2, .int 0), (0, .ref (ad o 99)), (1, .int x1)]) hx hb dX0_placesOf_1 rfl hl (by decide) rfl (fun ls hl => ?_)
  refine lv_iconst (v := 0) hx hb dX0_placesOf_2 (by decide) ?_
  refine lv_istore_n (lv' := [(3, .int 0), (2, .int 0), (0, .ref (ad o 99)), (1, .int x1)]) hx hb dX0_placesOf_3 rfl hl (by decide) rfl (fun ls hl => ?_)
  exact b_X0_placesOf_4 B ho h Z hS (lv_sub hl [2, 3, 1, 0] rfl)
set_option maxRecDepth 20000 in
theorem c_X0_placesOf (l : Launch) {D : va_G} {ad : Nat → Nat → Nat} {rd : Nat → Nat} {ca : Nat → ClassId} {A : Nat → Prop} {σ : wx_St} {o : Nat}  (ho : o < 11) {x1 : Int32} {r : Int32} (h : f_X0_placesOf o x1 σ = some r) : wx_M l yX0_placesOf wsX0_placesOf 0 0 D ad rd ca A [.ref (ad o 99), .int x1] σ (some (.int r)) σ := by
  refine Met.ofW (cc := cX0_placesOf) (maxL := 4) (ret := (some .int)) (by decide +kernel) rfl ?_
  intro p e s m args below meth c s₁ B0 hml hv
  obtain ⟨rfl, hC, Z, hA⟩ := hv
  have hl := lv_entry ([.ref (ad o 99), .int x1]) (n := 4) (Nat.le_of_ble_eq_true rfl)
  rw [lg_entry_eq]
  generalize (lg_sl ([.ref (ad o 99), .int x1]) ++ List.replicate (4 - (lg_sl ([.ref (ad o 99), .int x1])).length) Slot.unset).toArray = ls at hl ⊢
  exact b_X0_placesOf_0 ⟨B0.exec, B0.bytes, hml, B0.returns, atoms_spec (ws := wsX0_placesOf) B0.pre, findClass_of_methodNamed B0.named, B0.notSynchronized, hC, hA⟩ ho  h Z va_S.rf hl
set_option maxRecDepth 20000 in
set_option maxHeartbeats 4000000 in
theorem b_X0_suspects_24 (B : wx_B p s m args meth c cX0_suspects 4 (some .long) wsX0_suspects RX0 D ad ca A) {o : Nat}  (ho : o < 11) {r : Int64} {σ : wx_St} {K4 : Int64 → Int32 → wx_St → Option Int64} (hK4 : ∀ {x1 : Int64} {x3 : Int32}   (h : K4 x1 x3 σ = some r) {H : Heap} {locs : List Loc} (Z : wx_Z D ad rd ca A σ H) (hS : va_S A s.heap H locs) {ls : Array Slot} (hl : lv_has ls 4 [(0, .ref (ad o 99)), (1, .long x1), (3, .int x3)]), W p l e ({ frames := 2, cells := 0, slots := 0, locals := 45 } : Room) s m args below meth c H locs 0 0 (MQ below (wx_Q D ad rd ca A (some (.long r)) σ) args s 0 0 A) (F0 m 4 ls [])) {x1 : Int64} {x3 : Int32}   (h : f_X0_suspects_24 o K4 x1 x3 σ = some r) {H : Heap} {locs : List Loc} (Z : wx_Z D ad rd ca A σ H) (hS : va_S A s.heap H locs) {ls : Array Slot} (hl : lv_has ls 4 [(0, .ref (ad o 99)), (1, .long x1), (3, .int x3)]) : W p l e ({ frames := 2, cells := 0, slots := 0, locals := 45 } : Room) s m args below meth c H locs 0 0 (MQ below (wx_Q D ad rd ca A (some (.long r)) σ) args s 0 0 A) (F0 m 24 ls []) := by
  obtain ⟨hx, hb, hml, hr, hts, hown, hlk, hC, hA⟩ := id B
  unfold f_X0_suspects_24 at h
  refine lv_iinc (v := x3 + 1) (lv' := [(3, .int (x3 + 1)), (0, .ref (ad o 99)), (1, .long x1)]) hx hb dX0_suspects_24 hl (k := 2) rfl rfl (by decide) rfl (fun ls hl => ?_)
  refine lv_goto (tgt := 4) hx hb dX0_suspects_27 (by decide) ?_
  exact hK4 h Z hS (lv_sub hl [1, 2, 0] rfl)
set_option maxRecDepth 20000 in
set_option maxHeartbeats 4000000 in
theorem b_X0_suspects_4 (B : wx_B p s m args meth c cX0_suspects 4 (some .long) wsX0_suspects RX0 D ad ca A) {o : Nat}  (ho : o < 11) {r : Int64} {σ : wx_St}   :
    ∀ {n : Nat} {x1 : Int64} {x3 : Int32}   (h : f_X0_suspects_4 o n x1 x3 σ = some r) {H : Heap} {locs : List Loc} (Z : wx_Z D ad rd ca A σ H) (hS : va_S A s.heap H locs) {ls : Array Slot} (hl : lv_has ls 4 [(0, .ref (ad o 99)), (1, .long x1), (3, .int x3)]), W p l e ({ frames := 2, cells := 0, slots := 0, locals := 45 } : Room) s m args below meth c H locs 0 0 (MQ below (wx_Q D ad rd ca A (some (.long r)) σ) args s 0 0 A) (F0 m 4 ls []) := by
  obtain ⟨hx, hb, hml, hr, hts, hown, hlk, hC, hA⟩ := id B
  intro n
  induction n with
  | zero => intro x1 x3   h H locs Z hS ls hl; exact wx_no h
  | succ n ih =>
    intro x1 x3   h H locs Z hS ls hl
    rw [f_X0_suspects_4] at h
    refine lv_iload_n hx hb dX0_suspects_4 rfl (lv_at hl 2 rfl) ?_
    refine lv_bipush (v := 64) hx hb dX0_suspects_5 (by decide) ?_
    refine lv_icmp_ge (tgt := 30) hx hb dX0_suspects_7 (by decide) (fun c7 => ?_) (fun c7 => ?_)
    · replace h := wx_ift c7 h
      refine lv_lload_n hx hb dX0_suspects_30 rfl (lv_at hl 1 rfl) ?_
      obtain rfl := Option.some.inj h
      exact W.lret hx hb hr (fun t ht hW => ⟨rfl, by rw [ht]; exact Z, hS.F ht⟩) hS.2.2 dX0_suspects_31
    · replace h := wx_iff c7 h
      refine lv_aload_n hx hb dX0_suspects_10 rfl (lv_at hl 0 rfl) ?_
      refine lv_iload_n hx hb dX0_suspects_11 rfl (lv_at hl 2 rfl) ?_
      obtain ⟨v12, hc12, h⟩ := wx_o_ok h
      refine wx_call (va_runV (As := [.int x3]) (rest := []) ⟨hx, hb, hml, hown, hts⟩ (c_X0_isSuspect l (D := D) (ad := ad) (rd := rd) (ca := ca) (A := A) (σ := σ) (o := o) ho hc12) (cwV 1 hts gX0_suspects_X0_isSuspect rfl rfl rfl (by decide +kernel) ⟨Nat.le_of_ble_eq_true rfl, Nat.le_of_ble_eq_true rfl⟩) (wx_preV hC Z hS hA (wx_sbo ho 99) (rfl : vwCl[0]? = some (RX0, TX0, 13))) rfl rfl hl.1 rfl (lv_room (Nat.le_of_ble_eq_true rfl)) dX0_suspects_12 ⟨Nat.zero_le _, Nat.zero_le _⟩) hS (fun H locs Z hS => ?_)
      refine lv_if_eq (tgt := 24) hx hb dX0_suspects_15 (by decide) (fun c15 => ?_) (fun c15 => ?_)
      · replace h := wx_ift c15 h
        exact b_X0_suspects_24 B ho (K4 := (f_X0_suspects_4 o n)) @ih h Z hS (lv_sub hl [0, 1, 2] rfl)
      · replace h := wx_iff c15 h
        refine lv_lload_n hx hb dX0_suspects_18 rfl (lv_at hl 1 rfl) ?_
        refine lv_lconst (v := 1) hx hb dX0_suspects_19 (by decide) ?_
        refine lv_iload_n hx hb dX0_suspects_20 rfl (lv_at hl 2 rfl) ?_
        refine lv_lshl (v := ((1 : Int64) <<< (x3.toInt64 &&& 63))) hx hb dX0_suspects_21 rfl ?_
        refine lv_lor hx hb dX0_suspects_22 ?_
        refine lv_lstore_n (lv' := [(1, .long (x1 ||| ((1 : Int64) <<< (x3.toInt64 &&& 63)))), (0, .ref (ad o 99)), (3, .int x3)]) hx hb dX0_suspects_23 rfl hl (by decide) rfl (fun ls hl => ?_)
        exact b_X0_suspects_24 B ho (K4 := (f_X0_suspects_4 o n)) @ih h Z hS (lv_sub hl [1, 0, 2] rfl)
set_option maxRecDepth 20000 in
set_option maxHeartbeats 4000000 in
theorem b_X0_suspects_0 (B : wx_B p s m args meth c cX0_suspects 4 (some .long) wsX0_suspects RX0 D ad ca A) {o : Nat}  (ho : o < 11) {r : Int64} {σ : wx_St}     (h : f_X0_suspects o σ = some r) {H : Heap} {locs : List Loc} (Z : wx_Z D ad rd ca A σ H) (hS : va_S A s.heap H locs) {ls : Array Slot} (hl : lv_has ls 4 [(0, .ref (ad o 99))]) : W p l e ({ frames := 2, cells := 0, slots := 0, locals := 45 } : Room) s m args below meth c H locs 0 0 (MQ below (wx_Q D ad rd ca A (some (.long r)) σ) args s 0 0 A) (F0 m 0 ls []) := by
  obtain ⟨hx, hb, hml, hr, hts, hown, hlk, hC, hA⟩ := id B
  unfold f_X0_suspects at h
  refine lv_lconst (v := 0) hx hb dX0_suspects_0 (by decide) ?_
  refine lv_lstore_n (lv' := [(1, .long (0 : Int64)), (0, .ref (ad o 99))]) hx hb dX0_suspects_1 rfl hl (by decide) rfl (fun ls hl => ?_)
  refine lv_iconst (v := 0) hx hb dX0_suspects_2 (by decide) ?_
  refine lv_istore_n (lv' := [(3, .int 0), (1, .long (0 : Int64)), (0, .ref (ad o 99))]) hx hb dX0_suspects_3 rfl hl (by decide) rfl (fun ls hl => ?_)
  exact b_X0_suspects_4 B ho h Z hS (lv_sub hl [2, 1, 0] rfl)
set_option maxRecDepth 20000 in
theorem c_X0_suspects (l : Launch) {D : va_G} {ad : Nat → Nat → Nat} {rd : Nat → Nat} {ca : Nat → ClassId} {A : Nat → Prop} {σ : wx_St} {o : Nat}  (ho : o < 11)  {r : Int64} (h : f_X0_suspects o σ = some r) : wx_M l yX0_suspects wsX0_suspects 2 45 D ad rd ca A [.ref (ad o 99)] σ (some (.long r)) σ := by
  refine Met.ofW (cc := cX0_suspects) (maxL := 4) (ret := (some .long)) (by decide +kernel) rfl ?_
  intro p e s m args below meth c s₁ B0 hml hv
  obtain ⟨rfl, hC, Z, hA⟩ := hv
  have hl := lv_entry ([.ref (ad o 99)]) (n := 4) (Nat.le_of_ble_eq_true rfl)
  rw [lg_entry_eq]
  generalize (lg_sl ([.ref (ad o 99)]) ++ List.replicate (4 - (lg_sl ([.ref (ad o 99)])).length) Slot.unset).toArray = ls at hl ⊢
  exact b_X0_suspects_0 ⟨B0.exec, B0.bytes, hml, B0.returns, atoms_spec (ws := wsX0_suspects) B0.pre, findClass_of_methodNamed B0.named, B0.notSynchronized, hC, hA⟩ ho  h Z va_S.rf hl
theorem i_X0_takeOver_0 : ∀ w ∈ wsX00, w ∈ wsX0_takeOver := by decide +kernel
theorem k_X0_takeOver_w0 : Cond.fieldLink RX0 9 "WarmProbes$Board" "settings" "[I" ∈ wsX0_takeOver := by decide +kernel
theorem k_X0_takeOver_w1 : Cond.methodLink RX0 56 arraycopyName ∈ wsX0_takeOver := by decide +kernel
theorem k_X0_takeOver_w2 : Cond.native arraycopyName ∈ wsX0_takeOver := by decide +kernel
theorem k_X0_takeOver_w3 : Cond.static arraycopyName ∈ wsX0_takeOver := by decide +kernel
theorem k_X0_takeOver_w4 : Cond.initialized "java/lang/System" ∈ wsX0_takeOver := by decide +kernel
theorem k_X0_takeOver_w5 : Cond.fieldLink RX0 15 "WarmProbes$Board" "nets" "[I" ∈ wsX0_takeOver := by decide +kernel
theorem k_X0_takeOver_w6 : Cond.fieldLink RX0 18 "WarmProbes$Board" "fed" "[I" ∈ wsX0_takeOver := by decide +kernel
theorem k_X0_takeOver_w7 : Cond.fieldLink RX0 21 "WarmProbes$Board" "touches" "I" ∈ wsX0_takeOver := by decide +kernel
theorem k_X0_takeOver_w8 : Cond.fieldLink RX0 25 "WarmProbes$Board" "touchPlaces" "[I" ∈ wsX0_takeOver := by decide +kernel
theorem k_X0_takeOver_w9 : Cond.fieldLink RX0 28 "WarmProbes$Board" "touchOthers" "[I" ∈ wsX0_takeOver := by decide +kernel
theorem k_X0_takeOver_w10 : Cond.fieldLink RX0 31 "WarmProbes$Board" "steps" "I" ∈ wsX0_takeOver := by decide +kernel
theorem k_X0_takeOver_w11 : Cond.fieldLink RX0 34 "WarmProbes$Board" "warmth" "[F" ∈ wsX0_takeOver := by decide +kernel
theorem k_X0_takeOver_w12 : Cond.fieldLink RX0 41 "WarmProbes$Board" "readings" "I" ∈ wsX0_takeOver := by decide +kernel
theorem k_X0_takeOver_w13 : Cond.fieldLink RX0 44 "WarmProbes$Board" "readingPlaces" "[I" ∈ wsX0_takeOver := by decide +kernel
theorem k_X0_takeOver_w14 : Cond.fieldLink RX0 47 "WarmProbes$Board" "readingReads" "[I" ∈ wsX0_takeOver := by decide +kernel
theorem k_X0_takeOver_w15 : Cond.fieldLink RX0 50 "WarmProbes$Board" "readingSteps" "[I" ∈ wsX0_takeOver := by decide +kernel
set_option maxRecDepth 20000 in
set_option maxHeartbeats 4000000 in
theorem b_X0_takeOver_0 (B : wx_B p s m args meth c cX0_takeOver 2 none wsX0_takeOver RX0 D ad ca A) {o : Nat} {b1 : Nat}  (ho : o < 11) (hb1 : b1 < 11)  {σ' : wx_St}   {σ : wx_St}  (h : f_X0_takeOver o b1 σ = some ((), σ')) {H : Heap} {locs : List Loc} (Z : wx_Z D ad rd ca A σ H) (hS : va_S A s.heap H locs) {ls : Array Slot} (hl : lv_has ls 2 [(0, .ref (ad o 99)), (1, .ref (ad b1 99))]) : W p l e ({ frames := 1, cells := 0, slots := 0, locals := 26 } : Room) s m args below meth c H locs 0 0 (MQ below (wx_Q D ad rd ca A none σ') args s 0 0 A) (F0 m 0 ls []) := by
  obtain ⟨hx, hb, hml, hr, hts, hown, hlk, hC, hA⟩ := id B
  unfold f_X0_takeOver at h
  refine lv_aload_n hx hb dX0_takeOver_0 rfl (lv_at hl 1 rfl) ?_
  refine wx_get (own := RX0) hx hb hts i_X0_takeOver_0 hown hC.1 Z (o := b1) (ci := 0) (wx_sbo hb1 99) (rfl : vwCl[0]? = some (RX0, TX0, 13)) 0 (by decide) (hts _ k_X0_takeOver_w0) (fun _ h9 => h9) (f := 0) rfl rfl dX0_takeOver_1 ?_
  refine lv_iconst (v := 0) hx hb dX0_takeOver_4 (by decide) ?_
  refine lv_aload_n hx hb dX0_takeOver_5 rfl (lv_at hl 0 rfl) ?_
  refine wx_get (own := RX0) hx hb hts i_X0_takeOver_0 hown hC.1 Z (o := o) (ci := 0) (wx_sbo ho 99) (rfl : vwCl[0]? = some (RX0, TX0, 13)) 0 (by decide) (hts _ k_X0_takeOver_w0) (fun _ h9 => h9) (f := 0) rfl rfl dX0_takeOver_6 ?_
  refine lv_iconst (v := 0) hx hb dX0_takeOver_9 (by decide) ?_
  refine lv_iconst (v := 4) hx hb dX0_takeOver_10 (by decide) ?_
  obtain ⟨σ11, e11, h⟩ := wx_l_ok h
  refine wx_copyi (own := RX0) hx hb (hml.trans hl.1.symm) hown (hts _ k_X0_takeOver_w1) (hts _ k_X0_takeOver_w2) (hts _ k_X0_takeOver_w3) (hts _ k_X0_takeOver_w4) hC.1 Z hS (o := b1) (k := 0) (n := 4) (o' := o) (k' := 0) (n' := 4) (wx_sbo hb1 0) (wx_sbo ho 0) rfl rfl (by decide) (by decide) (by decide) (by decide) (by decide) (Nat.le_of_ble_eq_true rfl) (Nat.le_of_ble_eq_true rfl) dX0_takeOver_11 e11 (fun H locs Z hS => ?_)
  refine lv_aload_n hx hb dX0_takeOver_14 rfl (lv_at hl 1 rfl) ?_
  refine wx_get (own := RX0) hx hb hts i_X0_takeOver_0 hown hC.1 Z (o := b1) (ci := 0) (wx_sbo hb1 99) (rfl : vwCl[0]? = some (RX0, TX0, 13)) 1 (by decide) (hts _ k_X0_takeOver_w5) (fun _ h9 => h9) (f := 0) rfl rfl dX0_takeOver_15 ?_
  refine lv_iconst (v := 0) hx hb dX0_takeOver_18 (by decide) ?_
  refine lv_aload_n hx hb dX0_takeOver_19 rfl (lv_at hl 0 rfl) ?_
  refine wx_get (own := RX0) hx hb hts i_X0_takeOver_0 hown hC.1 Z (o := o) (ci := 0) (wx_sbo ho 99) (rfl : vwCl[0]? = some (RX0, TX0, 13)) 1 (by decide) (hts _ k_X0_takeOver_w5) (fun _ h9 => h9) (f := 0) rfl rfl dX0_takeOver_20 ?_
  refine lv_iconst (v := 0) hx hb dX0_takeOver_23 (by decide) ?_
  refine lv_bipush (v := 64) hx hb dX0_takeOver_24 (by decide) ?_
  obtain ⟨σ26, e26, h⟩ := wx_l_ok h
  refine wx_copyi (own := RX0) hx hb (hml.trans hl.1.symm) hown (hts _ k_X0_takeOver_w1) (hts _ k_X0_takeOver_w2) (hts _ k_X0_takeOver_w3) (hts _ k_X0_takeOver_w4) hC.1 Z hS (o := b1) (k := 1) (n := 64) (o' := o) (k' := 1) (n' := 64) (wx_sbo hb1 1) (wx_sbo ho 1) rfl rfl (by decide) (by decide) (by decide) (by decide) (by decide) (Nat.le_of_ble_eq_true rfl) (Nat.le_of_ble_eq_true rfl) dX0_takeOver_26 e26 (fun H locs Z hS => ?_)
  refine lv_aload_n hx hb dX0_takeOver_29 rfl (lv_at hl 1 rfl) ?_
  refine wx_get (own := RX0) hx hb hts i_X0_takeOver_0 hown hC.1 Z (o := b1) (ci := 0) (wx_sbo hb1 99) (rfl : vwCl[0]? = some (RX0, TX0, 13)) 2 (by decide) (hts _ k_X0_takeOver_w6) (fun _ h9 => h9) (f := 0) rfl rfl dX0_takeOver_30 ?_
  refine lv_iconst (v := 0) hx hb dX0_takeOver_33 (by decide) ?_
  refine lv_aload_n hx hb dX0_takeOver_34 rfl (lv_at hl 0 rfl) ?_
  refine wx_get (own := RX0) hx hb hts i_X0_takeOver_0 hown hC.1 Z (o := o) (ci := 0) (wx_sbo ho 99) (rfl : vwCl[0]? = some (RX0, TX0, 13)) 2 (by decide) (hts _ k_X0_takeOver_w6) (fun _ h9 => h9) (f := 0) rfl rfl dX0_takeOver_35 ?_
  refine lv_iconst (v := 0) hx hb dX0_takeOver_38 (by decide) ?_
  refine lv_bipush (v := 8) hx hb dX0_takeOver_39 (by decide) ?_
  obtain ⟨σ41, e41, h⟩ := wx_l_ok h
  refine wx_copyi (own := RX0) hx hb (hml.trans hl.1.symm) hown (hts _ k_X0_takeOver_w1) (hts _ k_X0_takeOver_w2) (hts _ k_X0_takeOver_w3) (hts _ k_X0_takeOver_w4) hC.1 Z hS (o := b1) (k := 2) (n := 8) (o' := o) (k' := 2) (n' := 8) (wx_sbo hb1 2) (wx_sbo ho 2) rfl rfl (by decide) (by decide) (by decide) (by decide) (by decide) (Nat.le_of_ble_eq_true rfl) (Nat.le_of_ble_eq_true rfl) dX0_takeOver_41 e41 (fun H locs Z hS => ?_)
  refine lv_aload_n hx hb dX0_takeOver_44 rfl (lv_at hl 0 rfl) ?_
  refine lv_aload_n hx hb dX0_takeOver_45 rfl (lv_at hl 1 rfl) ?_
  refine wx_get (own := RX0) hx hb hts i_X0_takeOver_0 hown hC.1 Z (o := b1) (ci := 0) (wx_sbo hb1 99) (rfl : vwCl[0]? = some (RX0, TX0, 13)) 3 (by decide) (hts _ k_X0_takeOver_w7) (fun _ h9 => h9) (f := 1) rfl rfl dX0_takeOver_46 ?_
  obtain ⟨σ49, e49, h⟩ := wx_l_ok h
  refine wx_put (own := RX0) hx hb hts i_X0_takeOver_0 tyX0 tyX0_ok nmX0 hown hC.1 Z hS (o := o) (ci := 0) (wx_sbo ho 99) (rfl : vwCl[0]? = some (RX0, TX0, 13)) 3 (by decide) (hts _ k_X0_takeOver_w7) (fun _ h9 => h9) rfl (by decide +kernel) rfl dX0_takeOver_49 e49 (fun H locs Z hS => ?_)
  refine lv_aload_n hx hb dX0_takeOver_52 rfl (lv_at hl 1 rfl) ?_
  refine wx_get (own := RX0) hx hb hts i_X0_takeOver_0 hown hC.1 Z (o := b1) (ci := 0) (wx_sbo hb1 99) (rfl : vwCl[0]? = some (RX0, TX0, 13)) 4 (by decide) (hts _ k_X0_takeOver_w8) (fun _ h9 => h9) (f := 0) rfl rfl dX0_takeOver_53 ?_
  refine lv_iconst (v := 0) hx hb dX0_takeOver_56 (by decide) ?_
  refine lv_aload_n hx hb dX0_takeOver_57 rfl (lv_at hl 0 rfl) ?_
  refine wx_get (own := RX0) hx hb hts i_X0_takeOver_0 hown hC.1 Z (o := o) (ci := 0) (wx_sbo ho 99) (rfl : vwCl[0]? = some (RX0, TX0, 13)) 4 (by decide) (hts _ k_X0_takeOver_w8) (fun _ h9 => h9) (f := 0) rfl rfl dX0_takeOver_58 ?_
  refine lv_iconst (v := 0) hx hb dX0_takeOver_61 (by decide) ?_
  refine lv_iconst (v := 3) hx hb dX0_takeOver_62 (by decide) ?_
  obtain ⟨σ63, e63, h⟩ := wx_l_ok h
  refine wx_copyi (own := RX0) hx hb (hml.trans hl.1.symm) hown (hts _ k_X0_takeOver_w1) (hts _ k_X0_takeOver_w2) (hts _ k_X0_takeOver_w3) (hts _ k_X0_takeOver_w4) hC.1 Z hS (o := b1) (k := 4) (n := 3) (o' := o) (k' := 4) (n' := 3) (wx_sbo hb1 4) (wx_sbo ho 4) rfl rfl (by decide) (by decide) (by decide) (by decide) (by decide) (Nat.le_of_ble_eq_true rfl) (Nat.le_of_ble_eq_true rfl) dX0_takeOver_63 e63 (fun H locs Z hS => ?_)
  refine lv_aload_n hx hb dX0_takeOver_66 rfl (lv_at hl 1 rfl) ?_
  refine wx_get (own := RX0) hx hb hts i_X0_takeOver_0 hown hC.1 Z (o := b1) (ci := 0) (wx_sbo hb1 99) (rfl : vwCl[0]? = some (RX0, TX0, 13)) 5 (by decide) (hts _ k_X0_takeOver_w9) (fun _ h9 => h9) (f := 0) rfl rfl dX0_takeOver_67 ?_
  refine lv_iconst (v := 0) hx hb dX0_takeOver_70 (by decide) ?_
  refine lv_aload_n hx hb dX0_takeOver_71 rfl (lv_at hl 0 rfl) ?_
  refine wx_get (own := RX0) hx hb hts i_X0_takeOver_0 hown hC.1 Z (o := o) (ci := 0) (wx_sbo ho 99) (rfl : vwCl[0]? = some (RX0, TX0, 13)) 5 (by decide) (hts _ k_X0_takeOver_w9) (fun _ h9 => h9) (f := 0) rfl rfl dX0_takeOver_72 ?_
  refine lv_iconst (v := 0) hx hb dX0_takeOver_75 (by decide) ?_
  refine lv_iconst (v := 3) hx hb dX0_takeOver_76 (by decide) ?_
  obtain ⟨σ77, e77, h⟩ := wx_l_ok h
  refine wx_copyi (own := RX0) hx hb (hml.trans hl.1.symm) hown (hts _ k_X0_takeOver_w1) (hts _ k_X0_takeOver_w2) (hts _ k_X0_takeOver_w3) (hts _ k_X0_takeOver_w4) hC.1 Z hS (o := b1) (k := 5) (n := 3) (o' := o) (k' := 5) (n' := 3) (wx_sbo hb1 5) (wx_sbo ho 5) rfl rfl (by decide) (by decide) (by decide) (by decide) (by decide) (Nat.le_of_ble_eq_true rfl) (Nat.le_of_ble_eq_true rfl) dX0_takeOver_77 e77 (fun H locs Z hS => ?_)
  refine lv_aload_n hx hb dX0_takeOver_80 rfl (lv_at hl 0 rfl) ?_
  refine lv_aload_n hx hb dX0_takeOver_81 rfl (lv_at hl 1 rfl) ?_
  refine wx_get (own := RX0) hx hb hts i_X0_takeOver_0 hown hC.1 Z (o := b1) (ci := 0) (wx_sbo hb1 99) (rfl : vwCl[0]? = some (RX0, TX0, 13)) 6 (by decide) (hts _ k_X0_takeOver_w10) (fun _ h9 => h9) (f := 1) rfl rfl dX0_takeOver_82 ?_
  obtain ⟨σ85, e85, h⟩ := wx_l_ok h
  refine wx_put (own := RX0) hx hb hts i_X0_takeOver_0 tyX0 tyX0_ok nmX0 hown hC.1 Z hS (o := o) (ci := 0) (wx_sbo ho 99) (rfl : vwCl[0]? = some (RX0, TX0, 13)) 6 (by decide) (hts _ k_X0_takeOver_w10) (fun _ h9 => h9) rfl (by decide +kernel) rfl dX0_takeOver_85 e85 (fun H locs Z hS => ?_)
  refine lv_aload_n hx hb dX0_takeOver_88 rfl (lv_at hl 1 rfl) ?_
  refine wx_get (own := RX0) hx hb hts i_X0_takeOver_0 hown hC.1 Z (o := b1) (ci := 0) (wx_sbo hb1 99) (rfl : vwCl[0]? = some (RX0, TX0, 13)) 7 (by decide) (hts _ k_X0_takeOver_w11) (fun _ h9 => h9) (f := 0) rfl rfl dX0_takeOver_89 ?_
  refine lv_iconst (v := 0) hx hb dX0_takeOver_92 (by decide) ?_
  refine lv_aload_n hx hb dX0_takeOver_93 rfl (lv_at hl 0 rfl) ?_
  refine wx_get (own := RX0) hx hb hts i_X0_takeOver_0 hown hC.1 Z (o := o) (ci := 0) (wx_sbo ho 99) (rfl : vwCl[0]? = some (RX0, TX0, 13)) 7 (by decide) (hts _ k_X0_takeOver_w11) (fun _ h9 => h9) (f := 0) rfl rfl dX0_takeOver_94 ?_
  refine lv_iconst (v := 0) hx hb dX0_takeOver_97 (by decide) ?_
  refine lv_bipush (v := 64) hx hb dX0_takeOver_98 (by decide) ?_
  obtain ⟨σ100, e100, h⟩ := wx_l_ok h
  refine wx_copyf (own := RX0) hx hb (hml.trans hl.1.symm) hown (hts _ k_X0_takeOver_w1) (hts _ k_X0_takeOver_w2) (hts _ k_X0_takeOver_w3) (hts _ k_X0_takeOver_w4) hC.1 Z hS (o := b1) (k := 7) (n := 64) (o' := o) (k' := 7) (n' := 64) (wx_sbo hb1 7) (wx_sbo ho 7) rfl rfl (by decide) (by decide) (by decide) (by decide) (by decide) (Nat.le_of_ble_eq_true rfl) (Nat.le_of_ble_eq_true rfl) dX0_takeOver_100 e100 (fun H locs Z hS => ?_)
  refine lv_aload_n hx hb dX0_takeOver_103 rfl (lv_at hl 0 rfl) ?_
  refine lv_aload_n hx hb dX0_takeOver_104 rfl (lv_at hl 1 rfl) ?_
  refine wx_get (own := RX0) hx hb hts i_X0_takeOver_0 hown hC.1 Z (o := b1) (ci := 0) (wx_sbo hb1 99) (rfl : vwCl[0]? = some (RX0, TX0, 13)) 9 (by decide) (hts _ k_X0_takeOver_w12) (fun _ h9 => h9) (f := 1) rfl rfl dX0_takeOver_105 ?_
  obtain ⟨σ108, e108, h⟩ := wx_l_ok h
  refine wx_put (own := RX0) hx hb hts i_X0_takeOver_0 tyX0 tyX0_ok nmX0 hown hC.1 Z hS (o := o) (ci := 0) (wx_sbo ho 99) (rfl : vwCl[0]? = some (RX0, TX0, 13)) 9 (by decide) (hts _ k_X0_takeOver_w12) (fun _ h9 => h9) rfl (by decide +kernel) rfl dX0_takeOver_108 e108 (fun H locs Z hS => ?_)
  refine lv_aload_n hx hb dX0_takeOver_111 rfl (lv_at hl 1 rfl) ?_
  refine wx_get (own := RX0) hx hb hts i_X0_takeOver_0 hown hC.1 Z (o := b1) (ci := 0) (wx_sbo hb1 99) (rfl : vwCl[0]? = some (RX0, TX0, 13)) 10 (by decide) (hts _ k_X0_takeOver_w13) (fun _ h9 => h9) (f := 0) rfl rfl dX0_takeOver_112 ?_
  refine lv_iconst (v := 0) hx hb dX0_takeOver_115 (by decide) ?_
  refine lv_aload_n hx hb dX0_takeOver_116 rfl (lv_at hl 0 rfl) ?_
  refine wx_get (own := RX0) hx hb hts i_X0_takeOver_0 hown hC.1 Z (o := o) (ci := 0) (wx_sbo ho 99) (rfl : vwCl[0]? = some (RX0, TX0, 13)) 10 (by decide) (hts _ k_X0_takeOver_w13) (fun _ h9 => h9) (f := 0) rfl rfl dX0_takeOver_117 ?_
  refine lv_iconst (v := 0) hx hb dX0_takeOver_120 (by decide) ?_
  refine lv_bipush (v := 8) hx hb dX0_takeOver_121 (by decide) ?_
  obtain ⟨σ123, e123, h⟩ := wx_l_ok h
  refine wx_copyi (own := RX0) hx hb (hml.trans hl.1.symm) hown (hts _ k_X0_takeOver_w1) (hts _ k_X0_takeOver_w2) (hts _ k_X0_takeOver_w3) (hts _ k_X0_takeOver_w4) hC.1 Z hS (o := b1) (k := 10) (n := 8) (o' := o) (k' := 10) (n' := 8) (wx_sbo hb1 10) (wx_sbo ho 10) rfl rfl (by decide) (by decide) (by decide) (by decide) (by decide) (Nat.le_of_ble_eq_true rfl) (Nat.le_of_ble_eq_true rfl) dX0_takeOver_123 e123 (fun H locs Z hS => ?_)
  refine lv_aload_n hx hb dX0_takeOver_126 rfl (lv_at hl 1 rfl) ?_
  refine wx_get (own := RX0) hx hb hts i_X0_takeOver_0 hown hC.1 Z (o := b1) (ci := 0) (wx_sbo hb1 99) (rfl : vwCl[0]? = some (RX0, TX0, 13)) 11 (by decide) (hts _ k_X0_takeOver_w14) (fun _ h9 => h9) (f := 0) rfl rfl dX0_takeOver_127 ?_
  refine lv_iconst (v := 0) hx hb dX0_takeOver_130 (by decide) ?_
  refine lv_aload_n hx hb dX0_takeOver_131 rfl (lv_at hl 0 rfl) ?_
  refine wx_get (own := RX0) hx hb hts i_X0_takeOver_0 hown hC.1 Z (o := o) (ci := 0) (wx_sbo ho 99) (rfl : vwCl[0]? = some (RX0, TX0, 13)) 11 (by decide) (hts _ k_X0_takeOver_w14) (fun _ h9 => h9) (f := 0) rfl rfl dX0_takeOver_132 ?_
  refine lv_iconst (v := 0) hx hb dX0_takeOver_135 (by decide) ?_
  refine lv_bipush (v := 8) hx hb dX0_takeOver_136 (by decide) ?_
  obtain ⟨σ138, e138, h⟩ := wx_l_ok h
  refine wx_copyi (own := RX0) hx hb (hml.trans hl.1.symm) hown (hts _ k_X0_takeOver_w1) (hts _ k_X0_takeOver_w2) (hts _ k_X0_takeOver_w3) (hts _ k_X0_takeOver_w4) hC.1 Z hS (o := b1) (k := 11) (n := 8) (o' := o) (k' := 11) (n' := 8) (wx_sbo hb1 11) (wx_sbo ho 11) rfl rfl (by decide) (by decide) (by decide) (by decide) (by decide) (Nat.le_of_ble_eq_true rfl) (Nat.le_of_ble_eq_true rfl) dX0_takeOver_138 e138 (fun H locs Z hS => ?_)
  refine lv_aload_n hx hb dX0_takeOver_141 rfl (lv_at hl 1 rfl) ?_
  refine wx_get (own := RX0) hx hb hts i_X0_takeOver_0 hown hC.1 Z (o := b1) (ci := 0) (wx_sbo hb1 99) (rfl : vwCl[0]? = some (RX0, TX0, 13)) 12 (by decide) (hts _ k_X0_takeOver_w15) (fun _ h9 => h9) (f := 0) rfl rfl dX0_takeOver_142 ?_
  refine lv_iconst (v := 0) hx hb dX0_takeOver_145 (by decide) ?_
  refine lv_aload_n hx hb dX0_takeOver_146 rfl (lv_at hl 0 rfl) ?_
  refine wx_get (own := RX0) hx hb hts i_X0_takeOver_0 hown hC.1 Z (o := o) (ci := 0) (wx_sbo ho 99) (rfl : vwCl[0]? = some (RX0, TX0, 13)) 12 (by decide) (hts _ k_X0_takeOver_w15) (fun _ h9 => h9) (f := 0) rfl rfl dX0_takeOver_147 ?_
  refine lv_iconst (v := 0) hx hb dX0_takeOver_150 (by decide) ?_
  refine lv_bipush (v := 8) hx hb dX0_takeOver_151 (by decide) ?_
  obtain ⟨σ153, e153, h⟩ := wx_l_ok h
  refine wx_copyi (own := RX0) hx hb (hml.trans hl.1.symm) hown (hts _ k_X0_takeOver_w1) (hts _ k_X0_takeOver_w2) (hts _ k_X0_takeOver_w3) (hts _ k_X0_takeOver_w4) hC.1 Z hS (o := b1) (k := 12) (n := 8) (o' := o) (k' := 12) (n' := 8) (wx_sbo hb1 12) (wx_sbo ho 12) rfl rfl (by decide) (by decide) (by decide) (by decide) (by decide) (Nat.le_of_ble_eq_true rfl) (Nat.le_of_ble_eq_true rfl) dX0_takeOver_153 e153 (fun H locs Z hS => ?_)
  obtain ⟨-, rfl⟩ := wx_ret_ok h
  exact W.vret hx hb hr (fun t ht hW => ⟨rfl, by rw [ht]; exact Z, hS.F ht⟩) hS.2.2 dX0_takeOver_156
set_option maxRecDepth 20000 in
theorem c_X0_takeOver (l : Launch) {D : va_G} {ad : Nat → Nat → Nat} {rd : Nat → Nat} {ca : Nat → ClassId} {A : Nat → Prop} {σ : wx_St} {o : Nat} {b1 : Nat}  (ho : o < 11) (hb1 : b1 < 11)   {σ' : wx_St} (h : f_X0_takeOver o b1 σ = some ((), σ')) : wx_M l yX0_takeOver wsX0_takeOver 1 26 D ad rd ca A [.ref (ad o 99), .ref (ad b1 99)] σ none σ' := by
  refine Met.ofW (cc := cX0_takeOver) (maxL := 2) (ret := none) (by decide +kernel) rfl ?_
  intro p e s m args below meth c s₁ B0 hml hv
  obtain ⟨rfl, hC, Z, hA⟩ := hv
  have hl := lv_entry ([.ref (ad o 99), .ref (ad b1 99)]) (n := 2) (Nat.le_of_ble_eq_true rfl)
  rw [lg_entry_eq]
  generalize (lg_sl ([.ref (ad o 99), .ref (ad b1 99)]) ++ List.replicate (2 - (lg_sl ([.ref (ad o 99), .ref (ad b1 99)])).length) Slot.unset).toArray = ls at hl ⊢
  exact b_X0_takeOver_0 ⟨B0.exec, B0.bytes, hml, B0.returns, atoms_spec (ws := wsX0_takeOver) B0.pre, findClass_of_methodNamed B0.named, B0.notSynchronized, hC, hA⟩ ho hb1  h Z va_S.rf hl
theorem i_X0_tracked_0 : ∀ w ∈ wsX00, w ∈ wsX0_tracked := by decide +kernel
theorem k_X0_tracked_w0 : Cond.fieldLink RX0 15 "WarmProbes$Board" "nets" "[I" ∈ wsX0_tracked := by decide +kernel
set_option maxRecDepth 20000 in
set_option maxHeartbeats 4000000 in
theorem b_X0_tracked_25 (B : wx_B p s m args meth c cX0_tracked 4 (some .long) wsX0_tracked RX0 D ad ca A) {o : Nat}  (ho : o < 11) {r : Int64} {σ : wx_St} {K4 : Int64 → Int32 → wx_St → Option Int64} (hK4 : ∀ {x1 : Int64} {x3 : Int32}   (h : K4 x1 x3 σ = some r) {H : Heap} {locs : List Loc} (Z : wx_Z D ad rd ca A σ H) (hS : va_S A s.heap H locs) {ls : Array Slot} (hl : lv_has ls 4 [(0, .ref (ad o 99)), (1, .long x1), (3, .int x3)]), W p l e ({ frames := 0, cells := 0, slots := 0, locals := 0 } : Room) s m args below meth c H locs 0 0 (MQ below (wx_Q D ad rd ca A (some (.long r)) σ) args s 0 0 A) (F0 m 4 ls [])) {x1 : Int64} {x3 : Int32}   (h : f_X0_tracked_25 o K4 x1 x3 σ = some r) {H : Heap} {locs : List Loc} (Z : wx_Z D ad rd ca A σ H) (hS : va_S A s.heap H locs) {ls : Array Slot} (hl : lv_has ls 4 [(0, .ref (ad o 99)), (1, .long x1), (3, .int x3)]) : W p l e ({ frames := 0, cells := 0, slots := 0, locals := 0 } : Room) s m args below meth c H locs 0 0 (MQ below (wx_Q D ad rd ca A (some (.long r)) σ) args s 0 0 A) (F0 m 25 ls []) := by
  obtain ⟨hx, hb, hml, hr, hts, hown, hlk, hC, hA⟩ := id B
  unfold f_X0_tracked_25 at h
  refine lv_iinc (v := x3 + 1) (lv' := [(3, .int (x3 + 1)), (0, .ref (ad o 99)), (1, .long x1)]) hx hb dX0_tracked_25 hl (k := 2) rfl rfl (by decide) rfl (fun ls hl => ?_)
  refine lv_goto (tgt := 4) hx hb dX0_tracked_28 (by decide) ?_
  exact hK4 h Z hS (lv_sub hl [1, 2, 0] rfl)
set_option maxRecDepth 20000 in
set_option maxHeartbeats 4000000 in
theorem b_X0_tracked_4 (B : wx_B p s m args meth c cX0_tracked 4 (some .long) wsX0_tracked RX0 D ad ca A) {o : Nat}  (ho : o < 11) {r : Int64} {σ : wx_St}   :
    ∀ {n : Nat} {x1 : Int64} {x3 : Int32}   (h : f_X0_tracked_4 o n x1 x3 σ = some r) {H : Heap} {locs : List Loc} (Z : wx_Z D ad rd ca A σ H) (hS : va_S A s.heap H locs) {ls : Array Slot} (hl : lv_has ls 4 [(0, .ref (ad o 99)), (1, .long x1), (3, .int x3)]), W p l e ({ frames := 0, cells := 0, slots := 0, locals := 0 } : Room) s m args below meth c H locs 0 0 (MQ below (wx_Q D ad rd ca A (some (.long r)) σ) args s 0 0 A) (F0 m 4 ls []) := by
  obtain ⟨hx, hb, hml, hr, hts, hown, hlk, hC, hA⟩ := id B
  intro n
  induction n with
  | zero => intro x1 x3   h H locs Z hS ls hl; exact wx_no h
  | succ n ih =>
    intro x1 x3   h H locs Z hS ls hl
    rw [f_X0_tracked_4] at h
    refine lv_iload_n hx hb dX0_tracked_4 rfl (lv_at hl 2 rfl) ?_
    refine lv_bipush (v := 64) hx hb dX0_tracked_5 (by decide) ?_
    refine lv_icmp_ge (tgt := 31) hx hb dX0_tracked_7 (by decide) (fun c7 => ?_) (fun c7 => ?_)
    · replace h := wx_ift c7 h
      refine lv_lload_n hx hb dX0_tracked_31 rfl (lv_at hl 1 rfl) ?_
      obtain rfl := Option.some.inj h
      exact W.lret hx hb hr (fun t ht hW => ⟨rfl, by rw [ht]; exact Z, hS.F ht⟩) hS.2.2 dX0_tracked_32
    · replace h := wx_iff c7 h
      refine lv_aload_n hx hb dX0_tracked_10 rfl (lv_at hl 0 rfl) ?_
      refine wx_get (own := RX0) hx hb hts i_X0_tracked_0 hown hC.1 Z (o := o) (ci := 0) (wx_sbo ho 99) (rfl : vwCl[0]? = some (RX0, TX0, 13)) 1 (by decide) (hts _ k_X0_tracked_w0) (fun _ h9 => h9) (f := 0) rfl rfl dX0_tracked_11 ?_
      refine lv_iload_n hx hb dX0_tracked_14 rfl (lv_at hl 2 rfl) ?_
      obtain ⟨v15, ev15, iv15, h⟩ := wx_rI_ok h
      refine wx_iald hx hb hC.1 Z (o := o) (k := 1) (n := 64) (wx_sbo ho 1) rfl iv15 dX0_tracked_15 ev15 ?_
      refine lv_if_eq (tgt := 25) hx hb dX0_tracked_16 (by decide) (fun c16 => ?_) (fun c16 => ?_)
      · replace h := wx_ift c16 h
        exact b_X0_tracked_25 B ho (K4 := (f_X0_tracked_4 o n)) @ih h Z hS (lv_sub hl [0, 1, 2] rfl)
      · replace h := wx_iff c16 h
        refine lv_lload_n hx hb dX0_tracked_19 rfl (lv_at hl 1 rfl) ?_
        refine lv_lconst (v := 1) hx hb dX0_tracked_20 (by decide) ?_
        refine lv_iload_n hx hb dX0_tracked_21 rfl (lv_at hl 2 rfl) ?_
        refine lv_lshl (v := ((1 : Int64) <<< (x3.toInt64 &&& 63))) hx hb dX0_tracked_22 rfl ?_
        refine lv_lor hx hb dX0_tracked_23 ?_
        refine lv_lstore_n (lv' := [(1, .long (x1 ||| ((1 : Int64) <<< (x3.toInt64 &&& 63)))), (0, .ref (ad o 99)), (3, .int x3)]) hx hb dX0_tracked_24 rfl hl (by decide) rfl (fun ls hl => ?_)
        exact b_X0_tracked_25 B ho (K4 := (f_X0_tracked_4 o n)) @ih h Z hS (lv_sub hl [1, 0, 2] rfl)
set_option maxRecDepth 20000 in
set_option maxHeartbeats 4000000 in
theorem b_X0_tracked_0 (B : wx_B p s m args meth c cX0_tracked 4 (some .long) wsX0_tracked RX0 D ad ca A) {o : Nat}  (ho : o < 11) {r : Int64} {σ : wx_St}     (h : f_X0_tracked o σ = some r) {H : Heap} {locs : List Loc} (Z : wx_Z D ad rd ca A σ H) (hS : va_S A s.heap H locs) {ls : Array Slot} (hl : lv_has ls 4 [(0, .ref (ad o 99))]) : W p l e ({ frames := 0, cells := 0, slots := 0, locals := 0 } : Room) s m args below meth c H locs 0 0 (MQ below (wx_Q D ad rd ca A (some (.long r)) σ) args s 0 0 A) (F0 m 0 ls []) := by
  obtain ⟨hx, hb, hml, hr, hts, hown, hlk, hC, hA⟩ := id B
  unfold f_X0_tracked at h
  refine lv_lconst (v := 0) hx hb dX0_tracked_0 (by decide) ?_
  refine lv_lstore_n (lv' := [(1, .long (0 : Int64)), (0, .ref (ad o 99))]) hx hb dX0_tracked_1 rfl hl (by decide) rfl (fun ls hl => ?_)
  refine lv_iconst (v := 0) hx hb dX0_tracked_2 (by decide) ?_
  refine lv_istore_n (lv' := [(3, .int 0), (1, .long (0 : Int64)), (0, .ref (ad o 99))]) hx hb dX0_tracked_3 rfl hl (by decide) rfl (fun ls hl => ?_)
  exact b_X0_tracked_4 B ho h Z hS (lv_sub hl [2, 1, 0] rfl)
set_option maxRecDepth 20000 in
theorem c_X0_tracked (l : Launch) {D : va_G} {ad : Nat → Nat → Nat} {rd : Nat → Nat} {ca : Nat → ClassId} {A : Nat → Prop} {σ : wx_St} {o : Nat}  (ho : o < 11)  {r : Int64} (h : f_X0_tracked o σ = some r) : wx_M l yX0_tracked wsX0_tracked 0 0 D ad rd ca A [.ref (ad o 99)] σ (some (.long r)) σ := by
  refine Met.ofW (cc := cX0_tracked) (maxL := 4) (ret := (some .long)) (by decide +kernel) rfl ?_
  intro p e s m args below meth c s₁ B0 hml hv
  obtain ⟨rfl, hC, Z, hA⟩ := hv
  have hl := lv_entry ([.ref (ad o 99)]) (n := 4) (Nat.le_of_ble_eq_true rfl)
  rw [lg_entry_eq]
  generalize (lg_sl ([.ref (ad o 99)]) ++ List.replicate (4 - (lg_sl ([.ref (ad o 99)])).length) Slot.unset).toArray = ls at hl ⊢
  exact b_X0_tracked_0 ⟨B0.exec, B0.bytes, hml, B0.returns, atoms_spec (ws := wsX0_tracked) B0.pre, findClass_of_methodNamed B0.named, B0.notSynchronized, hC, hA⟩ ho  h Z va_S.rf hl
theorem i_X0_turnPair_0 : ∀ w ∈ wsX00, w ∈ wsX0_turnPair := by decide +kernel
theorem k_X0_turnPair_w0 : Cond.initialized RX5 ∈ wsX0_turnPair := by decide +kernel
theorem k_X0_turnPair_w1 : Cond.static yX5_isNet ∈ wsX0_turnPair := by decide +kernel
theorem k_X0_turnPair_w2 : Cond.fieldLink RX0 18 "WarmProbes$Board" "fed" "[I" ∈ wsX0_turnPair := by decide +kernel
set_option maxRecDepth 20000 in
set_option maxHeartbeats 4000000 in
theorem b_X0_turnPair_14 (B : wx_B p s m args meth c cX0_turnPair 3 (some .int) wsX0_turnPair RX0 D ad ca A) {o : Nat}  (ho : o < 11) {r : Int32} {σ' : wx_St}  {x1 : Int32} {x2 : Int32} {σ : wx_St}  (h : f_X0_turnPair_14 o x1 x2 σ = some (r, σ')) {H : Heap} {locs : List Loc} (Z : wx_Z D ad rd ca A σ H) (hS : va_S A s.heap H locs) {ls : Array Slot} (hl : lv_has ls 3 [(0, .ref (ad o 99)), (1, .int x1), (2, .int x2)]) : W p l e ({ frames := 1, cells := 0, slots := 0, locals := 22 } : Room) s m args below meth c H locs 0 0 (MQ below (wx_Q D ad rd ca A (some (.int r)) σ') args s 0 0 A) (F0 m 14 ls []) := by
  obtain ⟨hx, hb, hml, hr, hts, hown, hlk, hC, hA⟩ := id B
  unfold f_X0_turnPair_14 at h
  refine lv_iconst (v := (-1)) hx hb dX0_turnPair_14 (by decide) ?_
  obtain ⟨rfl, rfl⟩ := wx_ret_ok h
  exact W.iret hx hb hr (fun t ht hW => ⟨rfl, by rw [ht]; exact Z, hS.F ht⟩) hS.2.2 dX0_turnPair_15
set_option maxRecDepth 20000 in
set_option maxHeartbeats 4000000 in
theorem b_X0_turnPair_74 (B : wx_B p s m args meth c cX0_turnPair 3 (some .int) wsX0_turnPair RX0 D ad ca A) {o : Nat}  (ho : o < 11) {r : Int32} {σ' : wx_St}  {x1 : Int32} {x2 : Int32} {y0 : Int32} {σ : wx_St}  (h : f_X0_turnPair_74 o x1 x2 y0 σ = some (r, σ')) {H : Heap} {locs : List Loc} (Z : wx_Z D ad rd ca A σ H) (hS : va_S A s.heap H locs) {ls : Array Slot} (hl : lv_has ls 3 [(0, .ref (ad o 99)), (1, .int x1), (2, .int x2)]) : W p l e ({ frames := 1, cells := 0, slots := 0, locals := 22 } : Room) s m args below meth c H locs 0 0 (MQ below (wx_Q D ad rd ca A (some (.int r)) σ') args s 0 0 A) (F0 m 74 ls [.int y0]) := by
  obtain ⟨hx, hb, hml, hr, hts, hown, hlk, hC, hA⟩ := id B
  unfold f_X0_turnPair_74 at h
  obtain ⟨rfl, rfl⟩ := wx_ret_ok h
  exact W.iret hx hb hr (fun t ht hW => ⟨rfl, by rw [ht]; exact Z, hS.F ht⟩) hS.2.2 dX0_turnPair_74
set_option maxRecDepth 20000 in
set_option maxHeartbeats 4000000 in
theorem b_X0_turnPair_0 (B : wx_B p s m args meth c cX0_turnPair 3 (some .int) wsX0_turnPair RX0 D ad ca A) {o : Nat}  (ho : o < 11) {r : Int32} {σ' : wx_St}  {x1 : Int32} {x2 : Int32} {σ : wx_St}  (h : f_X0_turnPair o x1 x2 σ = some (r, σ')) {H : Heap} {locs : List Loc} (Z : wx_Z D ad rd ca A σ H) (hS : va_S A s.heap H locs) {ls : Array Slot} (hl : lv_has ls 3 [(0, .ref (ad o 99)), (1, .int x1), (2, .int x2)]) : W p l e ({ frames := 1, cells := 0, slots := 0, locals := 22 } : Room) s m args below meth c H locs 0 0 (MQ below (wx_Q D ad rd ca A (some (.int r)) σ') args s 0 0 A) (F0 m 0 ls []) := by
  obtain ⟨hx, hb, hml, hr, hts, hown, hlk, hC, hA⟩ := id B
  unfold f_X0_turnPair at h
  refine lv_iload_n hx hb dX0_turnPair_0 rfl (lv_at hl 1 rfl) ?_
  obtain ⟨v1, hc1, h⟩ := wx_o_ok h
  refine wx_call (va_runSN (As := [.int x1]) (rest := []) ⟨hx, hb, hml, hown, hts⟩ (c_X5_isNet l (D := D) (ad := ad) (rd := rd) (ca := ca) (A := A) (σ := σ) hc1) ⟨va_cnB 1 hts gX0_turnPair_X5_isNet_n75 rfl rfl rfl (hC.1.2.1 _ (List.mem_of_getElem? (i := 35) rfl)) (hts _ k_X0_turnPair_w0) (by decide +kernel) ⟨Nat.le_of_ble_eq_true rfl, Nat.le_of_ble_eq_true rfl⟩, hts _ k_X0_turnPair_w1, trivial⟩ (wx_preS hC Z hS hA) rfl rfl hl.1 rfl (lv_room (Nat.le_of_ble_eq_true rfl)) dX0_turnPair_1 ⟨Nat.zero_le _, Nat.zero_le _⟩) hS (fun H locs Z hS => ?_)
  refine lv_if_eq (tgt := 14) hx hb dX0_turnPair_4 (by decide) (fun c4 => ?_) (fun c4 => ?_)
  · replace h := wx_ift c4 h
    exact b_X0_turnPair_14 B ho h Z hS (lv_sub hl [0, 1, 2] rfl)
  · replace h := wx_iff c4 h
    refine lv_iload_n hx hb dX0_turnPair_7 rfl (lv_at hl 2 rfl) ?_
    obtain ⟨v8, hc8, h⟩ := wx_o_ok h
    refine wx_call (va_runSN (As := [.int x2]) (rest := []) ⟨hx, hb, hml, hown, hts⟩ (c_X5_isNet l (D := D) (ad := ad) (rd := rd) (ca := ca) (A := A) (σ := σ) hc8) ⟨va_cnB 1 hts gX0_turnPair_X5_isNet_n75 rfl rfl rfl (hC.1.2.1 _ (List.mem_of_getElem? (i := 35) rfl)) (hts _ k_X0_turnPair_w0) (by decide +kernel) ⟨Nat.le_of_ble_eq_true rfl, Nat.le_of_ble_eq_true rfl⟩, hts _ k_X0_turnPair_w1, trivial⟩ (wx_preS hC Z hS hA) rfl rfl hl.1 rfl (lv_room (Nat.le_of_ble_eq_true rfl)) dX0_turnPair_8 ⟨Nat.zero_le _, Nat.zero_le _⟩) hS (fun H locs Z hS => ?_)
    refine lv_if_ne (tgt := 16) hx hb dX0_turnPair_11 (by decide) (fun c11 => ?_) (fun c11 => ?_)
    · replace h := wx_iff c11 h
      refine lv_iload_n hx hb dX0_turnPair_16 rfl (lv_at hl 1 rfl) ?_
      refine lv_iload_n hx hb dX0_turnPair_17 rfl (lv_at hl 2 rfl) ?_
      refine lv_icmp_ne (tgt := 24) hx hb dX0_turnPair_18 (by decide) (fun c18 => ?_) (fun c18 => ?_)
      · replace h := wx_iff c18 h
        refine lv_aload_n hx hb dX0_turnPair_24 rfl (lv_at hl 0 rfl) ?_
        refine wx_get (own := RX0) hx hb hts i_X0_turnPair_0 hown hC.1 Z (o := o) (ci := 0) (wx_sbo ho 99) (rfl : vwCl[0]? = some (RX0, TX0, 13)) 2 (by decide) (hts _ k_X0_turnPair_w2) (fun _ h9 => h9) (f := 0) rfl rfl dX0_turnPair_25 ?_
        refine lv_iload_n hx hb dX0_turnPair_28 rfl (lv_at hl 1 rfl) ?_
        refine lv_aload_n hx hb dX0_turnPair_29 rfl (lv_at hl 0 rfl) ?_
        refine wx_get (own := RX0) hx hb hts i_X0_turnPair_0 hown hC.1 Z (o := o) (ci := 0) (wx_sbo ho 99) (rfl : vwCl[0]? = some (RX0, TX0, 13)) 2 (by decide) (hts _ k_X0_turnPair_w2) (fun _ h9 => h9) (f := 0) rfl rfl dX0_turnPair_30 ?_
        refine lv_iload_n hx hb dX0_turnPair_33 rfl (lv_at hl 1 rfl) ?_
        obtain ⟨v34, ev34, iv34, h⟩ := wx_rI_ok h
        refine wx_iald hx hb hC.1 Z (o := o) (k := 2) (n := 8) (wx_sbo ho 2) rfl iv34 dX0_turnPair_34 ev34 ?_
        refine lv_iconst (v := 1) hx hb dX0_turnPair_35 (by decide) ?_
        refine lv_iload_n hx hb dX0_turnPair_36 rfl (lv_at hl 2 rfl) ?_
        refine lv_ishl hx hb dX0_turnPair_37 ?_
        refine lv_ixor hx hb dX0_turnPair_38 ?_
        obtain ⟨σ39, e39, i39, h⟩ := wx_w_ok h
        refine wx_iast hx hb hC.1 Z hS (o := o) (k := 2) (n := 8) (wx_sbo ho 2) rfl i39 dX0_turnPair_39 e39 (fun H locs Z hS => ?_)
        refine lv_aload_n hx hb dX0_turnPair_40 rfl (lv_at hl 0 rfl) ?_
        refine wx_get (own := RX0) hx hb hts i_X0_turnPair_0 hown hC.1 Z (o := o) (ci := 0) (wx_sbo ho 99) (rfl : vwCl[0]? = some (RX0, TX0, 13)) 2 (by decide) (hts _ k_X0_turnPair_w2) (fun _ h9 => h9) (f := 0) rfl rfl dX0_turnPair_41 ?_
        refine lv_iload_n hx hb dX0_turnPair_44 rfl (lv_at hl 2 rfl) ?_
        refine lv_aload_n hx hb dX0_turnPair_45 rfl (lv_at hl 0 rfl) ?_
        refine wx_get (own := RX0) hx hb hts i_X0_turnPair_0 hown hC.1 Z (o := o) (ci := 0) (wx_sbo ho 99) (rfl : vwCl[0]? = some (RX0, TX0, 13)) 2 (by decide) (hts _ k_X0_turnPair_w2) (fun _ h9 => h9) (f := 0) rfl rfl dX0_turnPair_46 ?_
        refine lv_iload_n hx hb dX0_turnPair_49 rfl (lv_at hl 2 rfl) ?_
        obtain ⟨v50, ev50, iv50, h⟩ := wx_rI_ok h
        refine wx_iald hx hb hC.1 Z (o := o) (k := 2) (n := 8) (wx_sbo ho 2) rfl iv50 dX0_turnPair_50 ev50 ?_
        refine lv_iconst (v := 1) hx hb dX0_turnPair_51 (by decide) ?_
        refine lv_iload_n hx hb dX0_turnPair_52 rfl (lv_at hl 1 rfl) ?_
        refine lv_ishl hx hb dX0_turnPair_53 ?_
        refine lv_ixor hx hb dX0_turnPair_54 ?_
        obtain ⟨σ55, e55, i55, h⟩ := wx_w_ok h
        refine wx_iast hx hb hC.1 Z hS (o := o) (k := 2) (n := 8) (wx_sbo ho 2) rfl i55 dX0_turnPair_55 e55 (fun H locs Z hS => ?_)
        refine lv_aload_n hx hb dX0_turnPair_56 rfl (lv_at hl 0 rfl) ?_
        obtain ⟨v57, σ57, hc57, h⟩ := wx_b_ok h
        refine wx_call (va_runV (As := []) (rest := []) ⟨hx, hb, hml, hown, hts⟩ (c_X0_beginRun l (D := D) (ad := ad) (rd := rd) (ca := ca) (A := A) (σ := σ55) (o := o) ho hc57) (cwV 0 hts gX0_turnPair_X0_beginRun rfl rfl rfl (by decide +kernel) ⟨Nat.le_of_ble_eq_true rfl, Nat.le_of_ble_eq_true rfl⟩) (wx_preV hC Z hS hA (wx_sbo ho 99) (rfl : vwCl[0]? = some (RX0, TX0, 13))) rfl rfl hl.1 rfl (lv_room (Nat.le_of_ble_eq_true rfl)) dX0_turnPair_57 ⟨Nat.zero_le _, Nat.zero_le _⟩) hS (fun H locs Z hS => ?_)
        refine lv_aload_n hx hb dX0_turnPair_60 rfl (lv_at hl 0 rfl) ?_
        refine lv_iload_n hx hb dX0_turnPair_61 rfl (lv_at hl 1 rfl) ?_
        refine lv_iload_n hx hb dX0_turnPair_62 rfl (lv_at hl 2 rfl) ?_
        obtain ⟨v63, hc63, h⟩ := wx_o_ok h
        refine wx_call (va_runV (As := [.int x1, .int x2]) (rest := []) ⟨hx, hb, hml, hown, hts⟩ (c_X0_isFed l (D := D) (ad := ad) (rd := rd) (ca := ca) (A := A) (σ := σ57) (o := o) ho hc63) (cwV 2 hts gX0_turnPair_X0_isFed rfl rfl rfl (by decide +kernel) ⟨Nat.le_of_ble_eq_true rfl, Nat.le_of_ble_eq_true rfl⟩) (wx_preV hC Z hS hA (wx_sbo ho 99) (rfl : vwCl[0]? = some (RX0, TX0, 13))) rfl rfl hl.1 rfl (lv_room (Nat.le_of_ble_eq_true rfl)) dX0_turnPair_63 ⟨Nat.zero_le _, Nat.zero_le _⟩) hS (fun H locs Z hS => ?_)
        refine lv_if_eq (tgt := 73) hx hb dX0_turnPair_66 (by decide) (fun c66 => ?_) (fun c66 => ?_)
        · replace h := wx_ift c66 h
          refine lv_iconst (v := 0) hx hb dX0_turnPair_73 (by decide) ?_
          exact b_X0_turnPair_74 B ho h Z hS (lv_sub hl [0, 1, 2] rfl)
        · replace h := wx_iff c66 h
          refine lv_iconst (v := 1) hx hb dX0_turnPair_69 (by decide) ?_
          refine lv_goto (tgt := 74) hx hb dX0_turnPair_70 (by decide) ?_
          exact b_X0_turnPair_74 B ho h Z hS (lv_sub hl [0, 1, 2] rfl)
      · replace h := wx_ift c18 h
        refine lv_bipush (v := (-2)) hx hb dX0_turnPair_21 (by decide) ?_
        obtain ⟨rfl, rfl⟩ := wx_ret_ok h
        exact W.iret hx hb hr (fun t ht hW => ⟨rfl, by rw [ht]; exact Z, hS.F ht⟩) hS.2.2 dX0_turnPair_23
    · replace h := wx_ift c11 h
      exact b_X0_turnPair_14 B ho h Z hS (lv_sub hl [0, 1, 2] rfl)
set_option maxRecDepth 20000 in
theorem c_X0_turnPair (l : Launch) {D : va_G} {ad : Nat → Nat → Nat} {rd : Nat → Nat} {ca : Nat → ClassId} {A : Nat → Prop} {σ : wx_St} {o : Nat}  (ho : o < 11) {x1 : Int32} {x2 : Int32} {r : Int32} {σ' : wx_St} (h : f_X0_turnPair o x1 x2 σ = some (r, σ')) : wx_M l yX0_turnPair wsX0_turnPair 1 22 D ad rd ca A [.ref (ad o 99), .int x1, .int x2] σ (some (.int r)) σ' := by
  refine Met.ofW (cc := cX0_turnPair) (maxL := 3) (ret := (some .int)) (by decide +kernel) rfl ?_
  intro p e s m args below meth c s₁ B0 hml hv
  obtain ⟨rfl, hC, Z, hA⟩ := hv
  have hl := lv_entry ([.ref (ad o 99), .int x1, .int x2]) (n := 3) (Nat.le_of_ble_eq_true rfl)
  rw [lg_entry_eq]
  generalize (lg_sl ([.ref (ad o 99), .int x1, .int x2]) ++ List.replicate (3 - (lg_sl ([.ref (ad o 99), .int x1, .int x2])).length) Slot.unset).toArray = ls at hl ⊢
  exact b_X0_turnPair_0 ⟨B0.exec, B0.bytes, hml, B0.returns, atoms_spec (ws := wsX0_turnPair) B0.pre, findClass_of_methodNamed B0.named, B0.notSynchronized, hC, hA⟩ ho  h Z va_S.rf hl
theorem i_X0_warmest_0 : ∀ w ∈ wsX00, w ∈ wsX0_warmest := by decide +kernel
theorem k_X0_warmest_w0 : Cond.fieldLink RX0 34 "WarmProbes$Board" "warmth" "[F" ∈ wsX0_warmest := by decide +kernel
set_option maxRecDepth 20000 in
set_option maxHeartbeats 4000000 in
theorem b_X0_warmest_28 (B : wx_B p s m args meth c cX0_warmest 3 (some .int) wsX0_warmest RX0 D ad ca A) {o : Nat}  (ho : o < 11) {r : Int32} {σ : wx_St} {K4 : Int32 → Int32 → wx_St → Option Int32} (hK4 : ∀ {x1 : Int32} {x2 : Int32}   (h : K4 x1 x2 σ = some r) {H : Heap} {locs : List Loc} (Z : wx_Z D ad rd ca A σ H) (hS : va_S A s.heap H locs) {ls : Array Slot} (hl : lv_has ls 3 [(0, .ref (ad o 99)), (1, .int x1), (2, .int x2)]), W p l e ({ frames := 0, cells := 0, slots := 0, locals := 0 } : Room) s m args below meth c H locs 0 0 (MQ below (wx_Q D ad rd ca A (some (.int r)) σ) args s 0 0 A) (F0 m 4 ls [])) {x1 : Int32} {x2 : Int32}   (h : f_X0_warmest_28 o K4 x1 x2 σ = some r) {H : Heap} {locs : List Loc} (Z : wx_Z D ad rd ca A σ H) (hS : va_S A s.heap H locs) {ls : Array Slot} (hl : lv_has ls 3 [(0, .ref (ad o 99)), (1, .int x1), (2, .int x2)]) : W p l e ({ frames := 0, cells := 0, slots := 0, locals := 0 } : Room) s m args below meth c H locs 0 0 (MQ below (wx_Q D ad rd ca A (some (.int r)) σ) args s 0 0 A) (F0 m 28 ls []) := by
  obtain ⟨hx, hb, hml, hr, hts, hown, hlk, hC, hA⟩ := id B
  unfold f_X0_warmest_28 at h
  refine lv_iinc (v := x2 + 1) (lv' := [(2, .int (x2 + 1)), (0, .ref (ad o 99)), (1, .int x1)]) hx hb dX0_warmest_28 hl (k := 2) rfl rfl (by decide) rfl (fun ls hl => ?_)
  refine lv_goto (tgt := 4) hx hb dX0_warmest_31 (by decide) ?_
  exact hK4 h Z hS (lv_sub hl [1, 2, 0] rfl)
set_option maxRecDepth 20000 in
set_option maxHeartbeats 4000000 in
theorem b_X0_warmest_4 (B : wx_B p s m args meth c cX0_warmest 3 (some .int) wsX0_warmest RX0 D ad ca A) {o : Nat}  (ho : o < 11) {r : Int32} {σ : wx_St}   :
    ∀ {n : Nat} {x1 : Int32} {x2 : Int32}   (h : f_X0_warmest_4 o n x1 x2 σ = some r) {H : Heap} {locs : List Loc} (Z : wx_Z D ad rd ca A σ H) (hS : va_S A s.heap H locs) {ls : Array Slot} (hl : lv_has ls 3 [(0, .ref (ad o 99)), (1, .int x1), (2, .int x2)]), W p l e ({ frames := 0, cells := 0, slots := 0, locals := 0 } : Room) s m args below meth c H locs 0 0 (MQ below (wx_Q D ad rd ca A (some (.int r)) σ) args s 0 0 A) (F0 m 4 ls []) := by
  obtain ⟨hx, hb, hml, hr, hts, hown, hlk, hC, hA⟩ := id B
  intro n
  induction n with
  | zero => intro x1 x2   h H locs Z hS ls hl; exact wx_no h
  | succ n ih =>
    intro x1 x2   h H locs Z hS ls hl
    rw [f_X0_warmest_4] at h
    refine lv_iload_n hx hb dX0_warmest_4 rfl (lv_at hl 2 rfl) ?_
    refine lv_bipush (v := 64) hx hb dX0_warmest_5 (by decide) ?_
    refine lv_icmp_ge (tgt := 34) hx hb dX0_warmest_7 (by decide) (fun c7 => ?_) (fun c7 => ?_)
    · replace h := wx_ift c7 h
      refine lv_iload_n hx hb dX0_warmest_34 rfl (lv_at hl 1 rfl) ?_
      obtain rfl := Option.some.inj h
      exact W.iret hx hb hr (fun t ht hW => ⟨rfl, by rw [ht]; exact Z, hS.F ht⟩) hS.2.2 dX0_warmest_35
    · replace h := wx_iff c7 h
      refine lv_aload_n hx hb dX0_warmest_10 rfl (lv_at hl 0 rfl) ?_
      refine wx_get (own := RX0) hx hb hts i_X0_warmest_0 hown hC.1 Z (o := o) (ci := 0) (wx_sbo ho 99) (rfl : vwCl[0]? = some (RX0, TX0, 13)) 7 (by decide) (hts _ k_X0_warmest_w0) (fun _ h9 => h9) (f := 0) rfl rfl dX0_warmest_11 ?_
      refine lv_iload_n hx hb dX0_warmest_14 rfl (lv_at hl 2 rfl) ?_
      obtain ⟨v15, ev15, iv15, h⟩ := wx_rF_ok h
      refine wx_fald hx hb hC.1 Z (o := o) (k := 7) (n := 64) (wx_sbo ho 7) rfl iv15 dX0_warmest_15 ev15 ?_
      refine lv_aload_n hx hb dX0_warmest_16 rfl (lv_at hl 0 rfl) ?_
      refine wx_get (own := RX0) hx hb hts i_X0_warmest_0 hown hC.1 Z (o := o) (ci := 0) (wx_sbo ho 99) (rfl : vwCl[0]? = some (RX0, TX0, 13)) 7 (by decide) (hts _ k_X0_warmest_w0) (fun _ h9 => h9) (f := 0) rfl rfl dX0_warmest_17 ?_
      refine lv_iload_n hx hb dX0_warmest_20 rfl (lv_at hl 1 rfl) ?_
      obtain ⟨v21, ev21, iv21, h⟩ := wx_rF_ok h
      refine wx_fald hx hb hC.1 Z (o := o) (k := 7) (n := 64) (wx_sbo ho 7) rfl iv21 dX0_warmest_21 ev21 ?_
      refine lv_fcmp hx hb dX0_warmest_22 ?_
      refine lv_if_le (tgt := 28) hx hb dX0_warmest_23 (by decide) (fun c23 => ?_) (fun c23 => ?_)
      · replace h := wx_ift c23 h
        exact b_X0_warmest_28 B ho (K4 := (f_X0_warmest_4 o n)) @ih h Z hS (lv_sub hl [0, 1, 2] rfl)
      · replace h := wx_iff c23 h
        refine lv_iload_n hx hb dX0_warmest_26 rfl (lv_at hl 2 rfl) ?_
        refine lv_istore_n (lv' := [(1, .int x2), (0, .ref (ad o 99)), (2, .int x2)]) hx hb dX0_warmest_27 rfl hl (by decide) rfl (fun ls hl => ?_)
        exact b_X0_warmest_28 B ho (K4 := (f_X0_warmest_4 o n)) @ih h Z hS (lv_sub hl [1, 0, 2] rfl)
set_option maxRecDepth 20000 in
set_option maxHeartbeats 4000000 in
theorem b_X0_warmest_0 (B : wx_B p s m args meth c cX0_warmest 3 (some .int) wsX0_warmest RX0 D ad ca A) {o : Nat}  (ho : o < 11) {r : Int32} {σ : wx_St}     (h : f_X0_warmest o σ = some r) {H : Heap} {locs : List Loc} (Z : wx_Z D ad rd ca A σ H) (hS : va_S A s.heap H locs) {ls : Array Slot} (hl : lv_has ls 3 [(0, .ref (ad o 99))]) : W p l e ({ frames := 0, cells := 0, slots := 0, locals := 0 } : Room) s m args below meth c H locs 0 0 (MQ below (wx_Q D ad rd ca A (some (.int r)) σ) args s 0 0 A) (F0 m 0 ls []) := by
  obtain ⟨hx, hb, hml, hr, hts, hown, hlk, hC, hA⟩ := id B
  unfold f_X0_warmest at h
  refine lv_iconst (v := 0) hx hb dX0_warmest_0 (by decide) ?_
  refine lv_istore_n (lv' := [(1, .int 0), (0, .ref (ad o 99))]) hx hb dX0_warmest_1 rfl hl (by decide) rfl (fun ls hl => ?_)
  refine lv_iconst (v := 1) hx hb dX0_warmest_2 (by decide) ?_
  refine lv_istore_n (lv' := [(2, .int 1), (1, .int 0), (0, .ref (ad o 99))]) hx hb dX0_warmest_3 rfl hl (by decide) rfl (fun ls hl => ?_)
  exact b_X0_warmest_4 B ho h Z hS (lv_sub hl [2, 1, 0] rfl)
set_option maxRecDepth 20000 in
theorem c_X0_warmest (l : Launch) {D : va_G} {ad : Nat → Nat → Nat} {rd : Nat → Nat} {ca : Nat → ClassId} {A : Nat → Prop} {σ : wx_St} {o : Nat}  (ho : o < 11)  {r : Int32} (h : f_X0_warmest o σ = some r) : wx_M l yX0_warmest wsX0_warmest 0 0 D ad rd ca A [.ref (ad o 99)] σ (some (.int r)) σ := by
  refine Met.ofW (cc := cX0_warmest) (maxL := 3) (ret := (some .int)) (by decide +kernel) rfl ?_
  intro p e s m args below meth c s₁ B0 hml hv
  obtain ⟨rfl, hC, Z, hA⟩ := hv
  have hl := lv_entry ([.ref (ad o 99)]) (n := 3) (Nat.le_of_ble_eq_true rfl)
  rw [lg_entry_eq]
  generalize (lg_sl ([.ref (ad o 99)]) ++ List.replicate (3 - (lg_sl ([.ref (ad o 99)])).length) Slot.unset).toArray = ls at hl ⊢
  exact b_X0_warmest_0 ⟨B0.exec, B0.bytes, hml, B0.returns, atoms_spec (ws := wsX0_warmest) B0.pre, findClass_of_methodNamed B0.named, B0.notSynchronized, hC, hA⟩ ho  h Z va_S.rf hl
theorem i_X0_warmthOf_0 : ∀ w ∈ wsX00, w ∈ wsX0_warmthOf := by decide +kernel
theorem k_X0_warmthOf_w0 : Cond.fieldLink RX0 15 "WarmProbes$Board" "nets" "[I" ∈ wsX0_warmthOf := by decide +kernel
theorem k_X0_warmthOf_w1 : Cond.fieldLink RX0 34 "WarmProbes$Board" "warmth" "[F" ∈ wsX0_warmthOf := by decide +kernel
set_option maxRecDepth 20000 in
set_option maxHeartbeats 4000000 in
theorem b_X0_warmthOf_29 (B : wx_B p s m args meth c cX0_warmthOf 4 (some .float) wsX0_warmthOf RX0 D ad ca A) {o : Nat}  (ho : o < 11) {r : UInt32} {σ : wx_St} {K4 : Int32 → UInt32 → Int32 → wx_St → Option UInt32} (hK4 : ∀ {x1 : Int32} {x2 : UInt32} {x3 : Int32}   (h : K4 x1 x2 x3 σ = some r) {H : Heap} {locs : List Loc} (Z : wx_Z D ad rd ca A σ H) (hS : va_S A s.heap H locs) {ls : Array Slot} (hl : lv_has ls 4 [(0, .ref (ad o 99)), (1, .int x1), (2, .float x2), (3, .int x3)]), W p l e ({ frames := 0, cells := 0, slots := 0, locals := 0 } : Room) s m args below meth c H locs 0 0 (MQ below (wx_Q D ad rd ca A (some (.float r)) σ) args s 0 0 A) (F0 m 4 ls [])) {x1 : Int32} {x2 : UInt32} {x3 : Int32}   (h : f_X0_warmthOf_29 o K4 x1 x2 x3 σ = some r) {H : Heap} {locs : List Loc} (Z : wx_Z D ad rd ca A σ H) (hS : va_S A s.heap H locs) {ls : Array Slot} (hl : lv_has ls 4 [(0, .ref (ad o 99)), (1, .int x1), (2, .float x2), (3, .int x3)]) : W p l e ({ frames := 0, cells := 0, slots := 0, locals := 0 } : Room) s m args below meth c H locs 0 0 (MQ below (wx_Q D ad rd ca A (some (.float r)) σ) args s 0 0 A) (F0 m 29 ls []) := by
  obtain ⟨hx, hb, hml, hr, hts, hown, hlk, hC, hA⟩ := id B
  unfold f_X0_warmthOf_29 at h
  refine lv_iinc (v := x3 + 1) (lv' := [(3, .int (x3 + 1)), (0, .ref (ad o 99)), (1, .int x1), (2, .float x2)]) hx hb dX0_warmthOf_29 hl (k := 3) rfl rfl (by decide) rfl (fun ls hl => ?_)
  refine lv_goto (tgt := 4) hx hb dX0_warmthOf_32 (by decide) ?_
  exact hK4 h Z hS (lv_sub hl [1, 2, 3, 0] rfl)
set_option maxRecDepth 20000 in
set_option maxHeartbeats 4000000 in
theorem b_X0_warmthOf_4 (B : wx_B p s m args meth c cX0_warmthOf 4 (some .float) wsX0_warmthOf RX0 D ad ca A) {o : Nat}  (ho : o < 11) {r : UInt32} {σ : wx_St}   :
    ∀ {n : Nat} {x1 : Int32} {x2 : UInt32} {x3 : Int32}   (h : f_X0_warmthOf_4 o n x1 x2 x3 σ = some r) {H : Heap} {locs : List Loc} (Z : wx_Z D ad rd ca A σ H) (hS : va_S A s.heap H locs) {ls : Array Slot} (hl : lv_has ls 4 [(0, .ref (ad o 99)), (1, .int x1), (2, .float x2), (3, .int x3)]), W p l e ({ frames := 0, cells := 0, slots := 0, locals := 0 } : Room) s m args below meth c H locs 0 0 (MQ below (wx_Q D ad rd ca A (some (.float r)) σ) args s 0 0 A) (F0 m 4 ls []) := by
  obtain ⟨hx, hb, hml, hr, hts, hown, hlk, hC, hA⟩ := id B
  intro n
  induction n with
  | zero => intro x1 x2 x3   h H locs Z hS ls hl; exact wx_no h
  | succ n ih =>
    intro x1 x2 x3   h H locs Z hS ls hl
    rw [f_X0_warmthOf_4] at h
    refine lv_iload_n hx hb dX0_warmthOf_4 rfl (lv_at hl 3 rfl) ?_
    refine lv_bipush (v := 64) hx hb dX0_warmthOf_5 (by decide) ?_
    refine lv_icmp_ge (tgt := 35) hx hb dX0_warmthOf_7 (by decide) (fun c7 => ?_) (fun c7 => ?_)
    · replace h := wx_ift c7 h
      refine lv_fload_n hx hb dX0_warmthOf_35 rfl (lv_at hl 2 rfl) ?_
      obtain rfl := Option.some.inj h
      exact W.fret hx hb hr (fun t ht hW => ⟨rfl, by rw [ht]; exact Z, hS.F ht⟩) hS.2.2 dX0_warmthOf_36
    · replace h := wx_iff c7 h
      refine lv_aload_n hx hb dX0_warmthOf_10 rfl (lv_at hl 0 rfl) ?_
      refine wx_get (own := RX0) hx hb hts i_X0_warmthOf_0 hown hC.1 Z (o := o) (ci := 0) (wx_sbo ho 99) (rfl : vwCl[0]? = some (RX0, TX0, 13)) 1 (by decide) (hts _ k_X0_warmthOf_w0) (fun _ h9 => h9) (f := 0) rfl rfl dX0_warmthOf_11 ?_
      refine lv_iload_n hx hb dX0_warmthOf_14 rfl (lv_at hl 3 rfl) ?_
      obtain ⟨v15, ev15, iv15, h⟩ := wx_rI_ok h
      refine wx_iald hx hb hC.1 Z (o := o) (k := 1) (n := 64) (wx_sbo ho 1) rfl iv15 dX0_warmthOf_15 ev15 ?_
      refine lv_iload_n hx hb dX0_warmthOf_16 rfl (lv_at hl 1 rfl) ?_
      refine lv_icmp_ne (tgt := 29) hx hb dX0_warmthOf_17 (by decide) (fun c17 => ?_) (fun c17 => ?_)
      · replace h := wx_iff c17 h
        exact b_X0_warmthOf_29 B ho (K4 := (f_X0_warmthOf_4 o n)) @ih h Z hS (lv_sub hl [0, 1, 2, 3] rfl)
      · replace h := wx_ift c17 h
        refine lv_fload_n hx hb dX0_warmthOf_20 rfl (lv_at hl 2 rfl) ?_
        refine lv_aload_n hx hb dX0_warmthOf_21 rfl (lv_at hl 0 rfl) ?_
        refine wx_get (own := RX0) hx hb hts i_X0_warmthOf_0 hown hC.1 Z (o := o) (ci := 0) (wx_sbo ho 99) (rfl : vwCl[0]? = some (RX0, TX0, 13)) 7 (by decide) (hts _ k_X0_warmthOf_w1) (fun _ h9 => h9) (f := 0) rfl rfl dX0_warmthOf_22 ?_
        refine lv_iload_n hx hb dX0_warmthOf_25 rfl (lv_at hl 3 rfl) ?_
        obtain ⟨v26, ev26, iv26, h⟩ := wx_rF_ok h
        refine wx_fald hx hb hC.1 Z (o := o) (k := 7) (n := 64) (wx_sbo ho 7) rfl iv26 dX0_warmthOf_26 ev26 ?_
        obtain ⟨v27, ev27, nv27, h⟩ := wx_f_ok h
        refine wx_fadd hx hb dX0_warmthOf_27 ev27 nv27 ?_
        refine lv_fstore_n (lv' := [(2, .float v27), (0, .ref (ad o 99)), (1, .int x1), (3, .int x3)]) hx hb dX0_warmthOf_28 rfl hl (by decide) rfl (fun ls hl => ?_)
        exact b_X0_warmthOf_29 B ho (K4 := (f_X0_warmthOf_4 o n)) @ih h Z hS (lv_sub hl [1, 2, 0, 3] rfl)
set_option maxRecDepth 20000 in
set_option maxHeartbeats 4000000 in
theorem b_X0_warmthOf_0 (B : wx_B p s m args meth c cX0_warmthOf 4 (some .float) wsX0_warmthOf RX0 D ad ca A) {o : Nat}  (ho : o < 11) {r : UInt32} {σ : wx_St}  {x1 : Int32}   (h : f_X0_warmthOf o x1 σ = some r) {H : Heap} {locs : List Loc} (Z : wx_Z D ad rd ca A σ H) (hS : va_S A s.heap H locs) {ls : Array Slot} (hl : lv_has ls 4 [(0, .ref (ad o 99)), (1, .int x1)]) : W p l e ({ frames := 0, cells := 0, slots := 0, locals := 0 } : Room) s m args below meth c H locs 0 0 (MQ below (wx_Q D ad rd ca A (some (.float r)) σ) args s 0 0 A) (F0 m 0 ls []) := by
  obtain ⟨hx, hb, hml, hr, hts, hown, hlk, hC, hA⟩ := id B
  unfold f_X0_warmthOf at h
  refine lv_fconst0 hx hb dX0_warmthOf_0 ?_
  refine lv_fstore_n (lv' := [(2, .float FP.fconst0), (0, .ref (ad o 99)), (1, .int x1)]) hx hb dX0_warmthOf_1 rfl hl (by decide) rfl (fun ls hl => ?_)
  refine lv_iconst (v := 0) hx hb dX0_warmthOf_2 (by decide) ?_
  refine lv_istore_n (lv' := [(3, .int 0), (2, .float FP.fconst0), (0, .ref (ad o 99)), (1, .int x1)]) hx hb dX0_warmthOf_3 rfl hl (by decide) rfl (fun ls hl => ?_)
  exact b_X0_warmthOf_4 B ho h Z hS (lv_sub hl [2, 3, 1, 0] rfl)
set_option maxRecDepth 20000 in
theorem c_X0_warmthOf (l : Launch) {D : va_G} {ad : Nat → Nat → Nat} {rd : Nat → Nat} {ca : Nat → ClassId} {A : Nat → Prop} {σ : wx_St} {o : Nat}  (ho : o < 11) {x1 : Int32} {r : UInt32} (h : f_X0_warmthOf o x1 σ = some r) : wx_M l yX0_warmthOf wsX0_warmthOf 0 0 D ad rd ca A [.ref (ad o 99), .int x1] σ (some (.float r)) σ := by
  refine Met.ofW (cc := cX0_warmthOf) (maxL := 4) (ret := (some .float)) (by decide +kernel) rfl ?_
  intro p e s m args below meth c s₁ B0 hml hv
  obtain ⟨rfl, hC, Z, hA⟩ := hv
  have hl := lv_entry ([.ref (ad o 99), .int x1]) (n := 4) (Nat.le_of_ble_eq_true rfl)
  rw [lg_entry_eq]
  generalize (lg_sl ([.ref (ad o 99), .int x1]) ++ List.replicate (4 - (lg_sl ([.ref (ad o 99), .int x1])).length) Slot.unset).toArray = ls at hl ⊢
  exact b_X0_warmthOf_0 ⟨B0.exec, B0.bytes, hml, B0.returns, atoms_spec (ws := wsX0_warmthOf) B0.pre, findClass_of_methodNamed B0.named, B0.notSynchronized, hC, hA⟩ ho  h Z va_S.rf hl
theorem i_X1_follow_1 : ∀ w ∈ wsX10, w ∈ wsX1_follow := by decide +kernel
theorem k_X1_follow_w0 : Cond.fieldLink RX1 9 "WarmProbes$Lone" "settings" "[I" ∈ wsX1_follow := by decide +kernel
theorem k_X1_follow_w1 : Cond.methodLink RX1 24 arraycopyName ∈ wsX1_follow := by decide +kernel
theorem k_X1_follow_w2 : Cond.native arraycopyName ∈ wsX1_follow := by decide +kernel
theorem k_X1_follow_w3 : Cond.static arraycopyName ∈ wsX1_follow := by decide +kernel
theorem k_X1_follow_w4 : Cond.initialized "java/lang/System" ∈ wsX1_follow := by decide +kernel
theorem k_X1_follow_w5 : Cond.fieldLink RX1 21 "WarmProbes$Lone" "steps" "[I" ∈ wsX1_follow := by decide +kernel
set_option maxRecDepth 20000 in
set_option maxHeartbeats 4000000 in
theorem m_X1_follow_50 {o1 : Nat} {k1 : Nat}  {σ' : wx_St}  :
    ∀ {n : Nat} {x2 : Int32} {σ : wx_St} (h : f_X1_follow_50 o1 k1 n x2 σ = some ((), σ')), σ'.2.2.2.2 = σ.2.2.2.2 := by
  intro n
  induction n with
  | zero => intro x2 σ h; exact wx_no h
  | succ n ih =>
    intro x2 σ h
    rw [f_X1_follow_50] at h
    by_cases c53 : 64 ≤ x2
    · replace h := wx_ift c53 h
      obtain ⟨-, rfl⟩ := wx_ret_ok h
      rfl
    · replace h := wx_iff c53 h
      obtain ⟨σ62, e62, i62, h⟩ := wx_w_ok h
      refine Eq.trans ?_ (show σ62.2.2.2.2 = σ.2.2.2.2 from (congrArg (fun z : wx_St => z.2.2.2.2) e62).trans rfl)
      exact ih h
set_option maxRecDepth 20000 in
set_option maxHeartbeats 4000000 in
theorem b_X1_follow_50 (B : wx_B p s m args meth c cX1_follow 3 none wsX1_follow RX1 D ad ca A) {o1 : Nat} {k1 : Nat} {al : Nat → Bool} (hs1 : wx_sh al o1 k1 = (1, 4))  {σ' : wx_St}   :
    ∀ {n : Nat} {x2 : Int32} {σ : wx_St}  (h : f_X1_follow_50 o1 k1 n x2 σ = some ((), σ')) {H : Heap} {locs : List Loc} (Z : wx_Z D ad rd ca A σ H) (hS : va_S A s.heap H locs) {ls : Array Slot} (hl : lv_has ls 3 [(0, .ref (ad 13 99)), (1, .ref (wx_ad ad rd o1 k1)), (2, .int x2)]) (hal : σ.2.2.2.2 = al), W p l e ({ frames := 1, cells := 0, slots := 0, locals := 26 } : Room) s m args below meth c H locs 0 0 (MQ below (wx_Q D ad rd ca A none σ') args s 0 0 A) (F0 m 50 ls []) := by
  obtain ⟨hx, hb, hml, hr, hts, hown, hlk, hC, hA⟩ := id B
  intro n
  induction n with
  | zero => intro x2 σ  h H locs Z hS ls hl hal; exact wx_no h
  | succ n ih =>
    intro x2 σ  h H locs Z hS ls hl hal
    rw [f_X1_follow_50] at h
    refine lv_iload_n hx hb dX1_follow_50 rfl (lv_at hl 2 rfl) ?_
    refine lv_bipush (v := 64) hx hb dX1_follow_51 (by decide) ?_
    refine lv_icmp_ge (tgt := 69) hx hb dX1_follow_53 (by decide) (fun c53 => ?_) (fun c53 => ?_)
    · replace h := wx_ift c53 h
      obtain ⟨-, rfl⟩ := wx_ret_ok h
      exact W.vret hx hb hr (fun t ht hW => ⟨rfl, by rw [ht]; exact Z, hS.F ht⟩) hS.2.2 dX1_follow_69
    · replace h := wx_iff c53 h
      refine lv_aload_n hx hb dX1_follow_56 rfl (lv_at hl 0 rfl) ?_
      refine wx_get (own := RX1) hx hb hts i_X1_follow_1 hown hC.1 Z (o := 13) (ci := 1) rfl (rfl : vwCl[1]? = some (RX1, TX1, 3)) 2 (by decide) (hts _ k_X1_follow_w5) (fun _ h9 => h9) (f := 0) rfl rfl dX1_follow_57 ?_
      refine lv_iload_n hx hb dX1_follow_60 rfl (lv_at hl 2 rfl) ?_
      refine lv_iconst (v := 0) hx hb dX1_follow_61 (by decide) ?_
      obtain ⟨σ62, e62, i62, h⟩ := wx_w_ok h
      refine wx_iast hx hb hC.1 Z hS (o := 13) (k := 2) (n := 64) rfl rfl i62 dX1_follow_62 e62 (fun H locs Z hS => ?_)
      replace hal := (show σ62.2.2.2.2 = σ.2.2.2.2 from (congrArg (fun z : wx_St => z.2.2.2.2) e62).trans rfl).trans hal
      refine lv_iinc (v := x2 + 1) (lv' := [(2, .int (x2 + 1)), (0, .ref (ad 13 99)), (1, .ref (wx_ad ad rd o1 k1))]) hx hb dX1_follow_63 hl (k := 2) rfl rfl (by decide) rfl (fun ls hl => ?_)
      refine lv_goto (tgt := 50) hx hb dX1_follow_66 (by decide) ?_
      exact ih h Z hS (lv_sub hl [1, 2, 0] rfl) hal
set_option maxRecDepth 20000 in
set_option maxHeartbeats 4000000 in
theorem m_X1_follow_37 {o1 : Nat} {k1 : Nat}  {σ' : wx_St}   {σ : wx_St} (h : f_X1_follow_37 o1 k1 σ = some ((), σ')) : σ'.2.2.2.2 = σ.2.2.2.2 := by
  unfold f_X1_follow_37 at h
  obtain ⟨σ45, e45, h⟩ := wx_l_ok h
  refine Eq.trans ?_ (show σ45.2.2.2.2 = σ.2.2.2.2 from (congrArg (fun z : wx_St => z.2.2.2.2) e45).trans rfl)
  exact m_X1_follow_50 h
set_option maxRecDepth 20000 in
set_option maxHeartbeats 4000000 in
theorem b_X1_follow_37 (B : wx_B p s m args meth c cX1_follow 3 none wsX1_follow RX1 D ad ca A) {o1 : Nat} {k1 : Nat} {al : Nat → Bool} (hs1 : wx_sh al o1 k1 = (1, 4))  {σ' : wx_St}   {σ : wx_St}  (h : f_X1_follow_37 o1 k1 σ = some ((), σ')) {H : Heap} {locs : List Loc} (Z : wx_Z D ad rd ca A σ H) (hS : va_S A s.heap H locs) {ls : Array Slot} (hl : lv_has ls 3 [(0, .ref (ad 13 99)), (1, .ref (wx_ad ad rd o1 k1))]) (hal : σ.2.2.2.2 = al) : W p l e ({ frames := 1, cells := 0, slots := 0, locals := 26 } : Room) s m args below meth c H locs 0 0 (MQ below (wx_Q D ad rd ca A none σ') args s 0 0 A) (F0 m 37 ls []) := by
  obtain ⟨hx, hb, hml, hr, hts, hown, hlk, hC, hA⟩ := id B
  unfold f_X1_follow_37 at h
  refine lv_aload_n hx hb dX1_follow_37 rfl (lv_at hl 1 rfl) ?_
  refine lv_iconst (v := 0) hx hb dX1_follow_38 (by decide) ?_
  refine lv_aload_n hx hb dX1_follow_39 rfl (lv_at hl 0 rfl) ?_
  refine wx_get (own := RX1) hx hb hts i_X1_follow_1 hown hC.1 Z (o := 13) (ci := 1) rfl (rfl : vwCl[1]? = some (RX1, TX1, 3)) 0 (by decide) (hts _ k_X1_follow_w0) (fun _ h9 => h9) (f := 0) rfl rfl dX1_follow_40 ?_
  refine lv_iconst (v := 0) hx hb dX1_follow_43 (by decide) ?_
  refine lv_iconst (v := 4) hx hb dX1_follow_44 (by decide) ?_
  obtain ⟨σ45, e45, h⟩ := wx_l_ok h
  refine wx_copyi (own := RX1) hx hb (hml.trans hl.1.symm) hown (hts _ k_X1_follow_w1) (hts _ k_X1_follow_w2) (hts _ k_X1_follow_w3) (hts _ k_X1_follow_w4) hC.1 Z hS (o := o1) (k := k1) (n := 4) (o' := 13) (k' := 0) (n' := 4) (wx_hal hal hs1) rfl rfl rfl (by decide) (by decide) (by decide) (by decide) (by decide) (Nat.le_of_ble_eq_true rfl) (Nat.le_of_ble_eq_true rfl) dX1_follow_45 e45 (fun H locs Z hS => ?_)
  replace hal := (show σ45.2.2.2.2 = σ.2.2.2.2 from (congrArg (fun z : wx_St => z.2.2.2.2) e45).trans rfl).trans hal
  refine lv_iconst (v := 0) hx hb dX1_follow_48 (by decide) ?_
  refine lv_istore_n (lv' := [(2, .int 0), (0, .ref (ad 13 99)), (1, .ref (wx_ad ad rd o1 k1))]) hx hb dX1_follow_49 rfl hl (by decide) rfl (fun ls hl => ?_)
  exact b_X1_follow_50 B hs1 h Z hS (lv_sub hl [1, 2, 0] rfl) hal
set_option maxRecDepth 20000 in
set_option maxHeartbeats 4000000 in
theorem m_X1_follow_0 {o1 : Nat} {k1 : Nat}  {σ' : wx_St}   {σ : wx_St} (h : f_X1_follow o1 k1 σ = some ((), σ')) : σ'.2.2.2.2 = σ.2.2.2.2 := by
  unfold f_X1_follow at h
  obtain ⟨v5, ev5, iv5, h⟩ := wx_rI_ok h
  obtain ⟨v8, ev8, iv8, h⟩ := wx_rI_ok h
  by_cases c9 : v5 = v8
  · replace h := wx_ift c9 h
    obtain ⟨v17, ev17, iv17, h⟩ := wx_rI_ok h
    obtain ⟨v20, ev20, iv20, h⟩ := wx_rI_ok h
    by_cases c21 : v17 = v20
    · replace h := wx_ift c21 h
      obtain ⟨v29, ev29, iv29, h⟩ := wx_rI_ok h
      obtain ⟨v32, ev32, iv32, h⟩ := wx_rI_ok h
      by_cases c33 : v29 = v32
      · replace h := wx_ift c33 h
        obtain ⟨-, rfl⟩ := wx_ret_ok h
        rfl
      · replace h := wx_iff c33 h
        exact m_X1_follow_37 h
    · replace h := wx_iff c21 h
      exact m_X1_follow_37 h
  · replace h := wx_iff c9 h
    exact m_X1_follow_37 h
set_option maxRecDepth 20000 in
set_option maxHeartbeats 4000000 in
theorem b_X1_follow_0 (B : wx_B p s m args meth c cX1_follow 3 none wsX1_follow RX1 D ad ca A) {o1 : Nat} {k1 : Nat} {al : Nat → Bool} (hs1 : wx_sh al o1 k1 = (1, 4))  {σ' : wx_St}   {σ : wx_St}  (h : f_X1_follow o1 k1 σ = some ((), σ')) {H : Heap} {locs : List Loc} (Z : wx_Z D ad rd ca A σ H) (hS : va_S A s.heap H locs) {ls : Array Slot} (hl : lv_has ls 3 [(0, .ref (ad 13 99)), (1, .ref (wx_ad ad rd o1 k1))]) (hal : σ.2.2.2.2 = al) : W p l e ({ frames := 1, cells := 0, slots := 0, locals := 26 } : Room) s m args below meth c H locs 0 0 (MQ below (wx_Q D ad rd ca A none σ') args s 0 0 A) (F0 m 0 ls []) := by
  obtain ⟨hx, hb, hml, hr, hts, hown, hlk, hC, hA⟩ := id B
  unfold f_X1_follow at h
  refine lv_aload_n hx hb dX1_follow_0 rfl (lv_at hl 0 rfl) ?_
  refine wx_get (own := RX1) hx hb hts i_X1_follow_1 hown hC.1 Z (o := 13) (ci := 1) rfl (rfl : vwCl[1]? = some (RX1, TX1, 3)) 0 (by decide) (hts _ k_X1_follow_w0) (fun _ h9 => h9) (f := 0) rfl rfl dX1_follow_1 ?_
  refine lv_iconst (v := 0) hx hb dX1_follow_4 (by decide) ?_
  obtain ⟨v5, ev5, iv5, h⟩ := wx_rI_ok h
  refine wx_iald hx hb hC.1 Z (o := 13) (k := 0) (n := 4) rfl rfl iv5 dX1_follow_5 ev5 ?_
  refine lv_aload_n hx hb dX1_follow_6 rfl (lv_at hl 1 rfl) ?_
  refine lv_iconst (v := 0) hx hb dX1_follow_7 (by decide) ?_
  obtain ⟨v8, ev8, iv8, h⟩ := wx_rI_ok h
  refine wx_iald hx hb hC.1 Z (o := o1) (k := k1) (n := 4) (wx_hal hal hs1) rfl iv8 dX1_follow_8 ev8 ?_
  refine lv_icmp_ne (tgt := 37) hx hb dX1_follow_9 (by decide) (fun c9 => ?_) (fun c9 => ?_)
  · replace h := wx_iff c9 h
    exact b_X1_follow_37 B hs1 h Z hS (lv_sub hl [0, 1] rfl) hal
  · replace h := wx_ift c9 h
    refine lv_aload_n hx hb dX1_follow_12 rfl (lv_at hl 0 rfl) ?_
    refine wx_get (own := RX1) hx hb hts i_X1_follow_1 hown hC.1 Z (o := 13) (ci := 1) rfl (rfl : vwCl[1]? = some (RX1, TX1, 3)) 0 (by decide) (hts _ k_X1_follow_w0) (fun _ h9 => h9) (f := 0) rfl rfl dX1_follow_13 ?_
    refine lv_iconst (v := 1) hx hb dX1_follow_16 (by decide) ?_
    obtain ⟨v17, ev17, iv17, h⟩ := wx_rI_ok h
    refine wx_iald hx hb hC.1 Z (o := 13) (k := 0) (n := 4) rfl rfl iv17 dX1_follow_17 ev17 ?_
    refine lv_aload_n hx hb dX1_follow_18 rfl (lv_at hl 1 rfl) ?_
    refine lv_iconst (v := 1) hx hb dX1_follow_19 (by decide) ?_
    obtain ⟨v20, ev20, iv20, h⟩ := wx_rI_ok h
    refine wx_iald hx hb hC.1 Z (o := o1) (k := k1) (n := 4) (wx_hal hal hs1) rfl iv20 dX1_follow_20 ev20 ?_
    refine lv_icmp_ne (tgt := 37) hx hb dX1_follow_21 (by decide) (fun c21 => ?_) (fun c21 => ?_)
    · replace h := wx_iff c21 h
      exact b_X1_follow_37 B hs1 h Z hS (lv_sub hl [0, 1] rfl) hal
    · replace h := wx_ift c21 h
      refine lv_aload_n hx hb dX1_follow_24 rfl (lv_at hl 0 rfl) ?_
      refine wx_get (own := RX1) hx hb hts i_X1_follow_1 hown hC.1 Z (o := 13) (ci := 1) rfl (rfl : vwCl[1]? = some (RX1, TX1, 3)) 0 (by decide) (hts _ k_X1_follow_w0) (fun _ h9 => h9) (f := 0) rfl rfl dX1_follow_25 ?_
      refine lv_iconst (v := 2) hx hb dX1_follow_28 (by decide) ?_
      obtain ⟨v29, ev29, iv29, h⟩ := wx_rI_ok h
      refine wx_iald hx hb hC.1 Z (o := 13) (k := 0) (n := 4) rfl rfl iv29 dX1_follow_29 ev29 ?_
      refine lv_aload_n hx hb dX1_follow_30 rfl (lv_at hl 1 rfl) ?_
      refine lv_iconst (v := 2) hx hb dX1_follow_31 (by decide) ?_
      obtain ⟨v32, ev32, iv32, h⟩ := wx_rI_ok h
      refine wx_iald hx hb hC.1 Z (o := o1) (k := k1) (n := 4) (wx_hal hal hs1) rfl iv32 dX1_follow_32 ev32 ?_
      refine lv_icmp_ne (tgt := 37) hx hb dX1_follow_33 (by decide) (fun c33 => ?_) (fun c33 => ?_)
      · replace h := wx_iff c33 h
        exact b_X1_follow_37 B hs1 h Z hS (lv_sub hl [0, 1] rfl) hal
      · replace h := wx_ift c33 h
        obtain ⟨-, rfl⟩ := wx_ret_ok h
        exact W.vret hx hb hr (fun t ht hW => ⟨rfl, by rw [ht]; exact Z, hS.F ht⟩) hS.2.2 dX1_follow_36
set_option maxRecDepth 20000 in
theorem c_X1_follow (l : Launch) {D : va_G} {ad : Nat → Nat → Nat} {rd : Nat → Nat} {ca : Nat → ClassId} {A : Nat → Prop} {σ : wx_St} {o1 : Nat} {k1 : Nat} {al : Nat → Bool} (hs1 : wx_sh al o1 k1 = (1, 4)) (hal : σ.2.2.2.2 = al)   {σ' : wx_St} (h : f_X1_follow o1 k1 σ = some ((), σ')) : wx_M l yX1_follow wsX1_follow 1 26 D ad rd ca A [.ref (ad 13 99), .ref (wx_ad ad rd o1 k1)] σ none σ' := by
  refine Met.ofW (cc := cX1_follow) (maxL := 3) (ret := none) (by decide +kernel) rfl ?_
  intro p e s m args below meth c s₁ B0 hml hv
  obtain ⟨rfl, hC, Z, hA⟩ := hv
  have hl := lv_entry ([.ref (ad 13 99), .ref (wx_ad ad rd o1 k1)]) (n := 3) (Nat.le_of_ble_eq_true rfl)
  rw [lg_entry_eq]
  generalize (lg_sl ([.ref (ad 13 99), .ref (wx_ad ad rd o1 k1)]) ++ List.replicate (3 - (lg_sl ([.ref (ad 13 99), .ref (wx_ad ad rd o1 k1)])).length) Slot.unset).toArray = ls at hl ⊢
  exact b_X1_follow_0 ⟨B0.exec, B0.bytes, hml, B0.returns, atoms_spec (ws := wsX1_follow) B0.pre, findClass_of_methodNamed B0.named, B0.notSynchronized, hC, hA⟩ hs1  h Z va_S.rf hl hal
theorem i_X1_warmthBy_1 : ∀ w ∈ wsX10, w ∈ wsX1_warmthBy := by decide +kernel
theorem k_X1_warmthBy_w0 : Cond.fieldLink RX1 17 "WarmProbes$Lone" "fields" "[[F" ∈ wsX1_warmthBy := by decide +kernel
theorem k_X1_warmthBy_w1 : Cond.arrayClass .float ∈ wsX1_warmthBy := by decide +kernel
theorem k_X1_warmthBy_w2 : Cond.fieldLink RX1 21 "WarmProbes$Lone" "steps" "[I" ∈ wsX1_warmthBy := by decide +kernel
theorem k_X1_warmthBy_w3 : Cond.fieldLink RX1 9 "WarmProbes$Lone" "settings" "[I" ∈ wsX1_warmthBy := by decide +kernel
theorem k_X1_warmthBy_w4 : Cond.initialized RX5 ∈ wsX1_warmthBy := by decide +kernel
theorem k_X1_warmthBy_w5 : Cond.static yX5_step ∈ wsX1_warmthBy := by decide +kernel
set_option maxRecDepth 20000 in
set_option maxHeartbeats 4000000 in
theorem m_X1_warmthBy_91  {r : UInt32} {σ' : wx_St}  {x1 : Int32} {x2 : Int32} {x3 : Int32} {x5 : Int32} {σ : wx_St} (h : f_X1_warmthBy_91 x1 x2 x3 x5 σ = some (r, σ')) : wx_n σ.2.2.2.2 ≤ wx_n σ'.2.2.2.2 := by
  unfold f_X1_warmthBy_91 at h
  obtain ⟨v99, ev99, iv99, h⟩ := wx_rF_ok h
  obtain ⟨rfl, rfl⟩ := wx_ret_ok h
  exact Nat.le_refl _
set_option maxRecDepth 20000 in
set_option maxHeartbeats 4000000 in
theorem b_X1_warmthBy_91 (B : wx_B p s m args meth c cX1_warmthBy 6 (some .float) wsX1_warmthBy RX1 D ad ca A)    {r : UInt32} {σ' : wx_St} {mc : Nat}  {x1 : Int32} {x2 : Int32} {x3 : Int32} {x5 : Int32} {σ : wx_St} {k : Nat} (hk : k + wx_n σ'.2.2.2.2 ≤ mc + wx_n σ.2.2.2.2)  (h : f_X1_warmthBy_91 x1 x2 x3 x5 σ = some (r, σ')) {rd : Nat → Nat} {H : Heap} {locs : List Loc} (Z : wx_Z D ad rd ca A σ H) (hS : va_S A s.heap H locs) {ls : Array Slot} (hl : lv_has ls 6 [(0, .ref (ad 13 99)), (1, .int x1), (2, .int x2), (3, .int x3), (4, .ref (wx_ad ad rd 13 (100 + x1.toNatClampNeg))), (5, .int x5)]) (hrow : σ.2.2.2.2 (x1).toNatClampNeg = true) (hj : (x1).toNatClampNeg < 64) : W p l e ({ frames := 2, cells := mc, slots := 6464 * mc, locals := 56 } : Room) s m args below meth c H locs k (6464 * k) (MQ below (wx_QA D ad ca A (some (.float r)) σ') args s mc (6464 * mc) A) (F0 m 91 ls []) := by
  obtain ⟨hx, hb, hml, hr, hts, hown, hlk, hC, hA⟩ := id B
  have hm := m_X1_warmthBy_91 h
  unfold f_X1_warmthBy_91 at h
  refine lv_aload hx hb dX1_warmthBy_91 (lv_at hl 4 rfl) ?_
  refine lv_iload_n hx hb dX1_warmthBy_93 rfl (lv_at hl 2 rfl) ?_
  refine lv_bipush (v := 64) hx hb dX1_warmthBy_94 (by decide) ?_
  refine lv_imul hx hb dX1_warmthBy_96 ?_
  refine lv_iload_n hx hb dX1_warmthBy_97 rfl (lv_at hl 3 rfl) ?_
  refine lv_iadd hx hb dX1_warmthBy_98 ?_
  obtain ⟨v99, ev99, iv99, h⟩ := wx_rF_ok h
  refine wx_fald hx hb hC.1 Z (o := 13) (k := (100 + x1.toNatClampNeg)) (n := 6464) (wx_shr hrow hj) rfl iv99 dX1_warmthBy_99 ev99 ?_
  obtain ⟨rfl, rfl⟩ := wx_ret_ok h
  refine W.widen (k := mc) (n := 6464 * mc) (by omega) (by omega) ?_
  exact W.fret hx hb hr (fun t ht hW => ⟨rfl, ⟨_, by rw [ht]; exact Z⟩, hS.F ht⟩) hS.2.2 dX1_warmthBy_100
set_option maxRecDepth 20000 in
set_option maxHeartbeats 4000000 in
theorem m_X1_warmthBy_36  {r : UInt32} {σ' : wx_St}  :
    ∀ {n : Nat} {x1 : Int32} {x2 : Int32} {x3 : Int32} {x5 : Int32} {σ : wx_St} (h : f_X1_warmthBy_36 n x1 x2 x3 x5 σ = some (r, σ')), wx_n σ.2.2.2.2 ≤ wx_n σ'.2.2.2.2 := by
  intro n
  induction n with
  | zero => intro x1 x2 x3 x5 σ h; exact wx_no h
  | succ n ih =>
    intro x1 x2 x3 x5 σ h
    rw [f_X1_warmthBy_36] at h
    by_cases c39 : x2 ≤ x5
    · replace h := wx_ift c39 h
      exact m_X1_warmthBy_91 h
    · replace h := wx_iff c39 h
      by_cases c46 : 100 ≤ x5
      · replace h := wx_ift c46 h
        exact m_X1_warmthBy_91 h
      · replace h := wx_iff c46 h
        obtain ⟨v72, σ72, hc72, h⟩ := wx_b_ok h
        refine Nat.le_trans (Nat.le_of_eq (congrArg wx_n (show σ72.2.2.2.2 = σ.2.2.2.2 from m_X5_step_0 hc72)).symm) ?_
        obtain ⟨σ84, e84, i84, h⟩ := wx_w_ok h
        refine Nat.le_trans (Nat.le_of_eq (congrArg wx_n (show σ84.2.2.2.2 = σ72.2.2.2.2 from (congrArg (fun z : wx_St => z.2.2.2.2) e84).trans rfl)).symm) ?_
        exact ih h
set_option maxRecDepth 20000 in
set_option maxHeartbeats 4000000 in
theorem b_X1_warmthBy_36 (B : wx_B p s m args meth c cX1_warmthBy 6 (some .float) wsX1_warmthBy RX1 D ad ca A)    {r : UInt32} {σ' : wx_St} {mc : Nat}   :
    ∀ {n : Nat} {x1 : Int32} {x2 : Int32} {x3 : Int32} {x5 : Int32} {σ : wx_St} {k : Nat} (hk : k + wx_n σ'.2.2.2.2 ≤ mc + wx_n σ.2.2.2.2)  (h : f_X1_warmthBy_36 n x1 x2 x3 x5 σ = some (r, σ')) {rd : Nat → Nat} {H : Heap} {locs : List Loc} (Z : wx_Z D ad rd ca A σ H) (hS : va_S A s.heap H locs) {ls : Array Slot} (hl : lv_has ls 6 [(0, .ref (ad 13 99)), (1, .int x1), (2, .int x2), (3, .int x3), (4, .ref (wx_ad ad rd 13 (100 + x1.toNatClampNeg))), (5, .int x5)]) (hrow : σ.2.2.2.2 (x1).toNatClampNeg = true) (hj : (x1).toNatClampNeg < 64), W p l e ({ frames := 2, cells := mc, slots := 6464 * mc, locals := 56 } : Room) s m args below meth c H locs k (6464 * k) (MQ below (wx_QA D ad ca A (some (.float r)) σ') args s mc (6464 * mc) A) (F0 m 36 ls []) := by
  obtain ⟨hx, hb, hml, hr, hts, hown, hlk, hC, hA⟩ := id B
  intro n
  induction n with
  | zero => intro x1 x2 x3 x5 σ k hk  h rd H locs Z hS ls hl hrow hj; exact wx_no h
  | succ n ih =>
    intro x1 x2 x3 x5 σ k hk  h rd H locs Z hS ls hl hrow hj
    have hm := m_X1_warmthBy_36 h
    have mih : ∀ {x1 : Int32} {x2 : Int32} {x3 : Int32} {x5 : Int32} {σ : wx_St}, f_X1_warmthBy_36 n x1 x2 x3 x5 σ = some (r, σ') → wx_n σ.2.2.2.2 ≤ wx_n σ'.2.2.2.2 := fun h => m_X1_warmthBy_36 h
    rw [f_X1_warmthBy_36] at h
    refine lv_iload hx hb dX1_warmthBy_36 (lv_at hl 5 rfl) ?_
    refine lv_iload_n hx hb dX1_warmthBy_38 rfl (lv_at hl 2 rfl) ?_
    refine lv_icmp_ge (tgt := 91) hx hb dX1_warmthBy_39 (by decide) (fun c39 => ?_) (fun c39 => ?_)
    · replace h := wx_ift c39 h
      exact b_X1_warmthBy_91 B (k := k) hk h Z hS (lv_sub hl [0, 1, 2, 3, 4, 5] rfl) hrow hj
    · replace h := wx_iff c39 h
      refine lv_iload hx hb dX1_warmthBy_42 (lv_at hl 5 rfl) ?_
      refine lv_bipush (v := 100) hx hb dX1_warmthBy_44 (by decide) ?_
      refine lv_icmp_ge (tgt := 91) hx hb dX1_warmthBy_46 (by decide) (fun c46 => ?_) (fun c46 => ?_)
      · replace h := wx_ift c46 h
        exact b_X1_warmthBy_91 B (k := k) hk h Z hS (lv_sub hl [0, 1, 2, 3, 4, 5] rfl) hrow hj
      · replace h := wx_iff c46 h
        refine lv_aload hx hb dX1_warmthBy_49 (lv_at hl 4 rfl) ?_
        refine lv_iload hx hb dX1_warmthBy_51 (lv_at hl 5 rfl) ?_
        refine lv_bipush (v := 64) hx hb dX1_warmthBy_53 (by decide) ?_
        refine lv_imul hx hb dX1_warmthBy_55 ?_
        refine lv_aload hx hb dX1_warmthBy_56 (lv_at hl 4 rfl) ?_
        refine lv_iload hx hb dX1_warmthBy_58 (lv_at hl 5 rfl) ?_
        refine lv_iconst (v := 1) hx hb dX1_warmthBy_60 (by decide) ?_
        refine lv_iadd hx hb dX1_warmthBy_61 ?_
        refine lv_bipush (v := 64) hx hb dX1_warmthBy_62 (by decide) ?_
        refine lv_imul hx hb dX1_warmthBy_64 ?_
        refine lv_lconst (v := 1) hx hb dX1_warmthBy_65 (by decide) ?_
        refine lv_iload_n hx hb dX1_warmthBy_66 rfl (lv_at hl 1 rfl) ?_
        refine lv_lshl (v := ((1 : Int64) <<< (x1.toInt64 &&& 63))) hx hb dX1_warmthBy_67 rfl ?_
        refine lv_aload_n hx hb dX1_warmthBy_68 rfl (lv_at hl 0 rfl) ?_
        refine wx_get (own := RX1) hx hb hts i_X1_warmthBy_1 hown hC.1 Z (o := 13) (ci := 1) rfl (rfl : vwCl[1]? = some (RX1, TX1, 3)) 0 (by decide) (hts _ k_X1_warmthBy_w3) (fun _ h9 => h9) (f := 0) rfl rfl dX1_warmthBy_69 ?_
        obtain ⟨v72, σ72, hc72, h⟩ := wx_b_ok h
        refine wx_call (va_runSN (As := [.ref (wx_ad ad rd 13 (100 + x1.toNatClampNeg)), .int (x5 * 64), .ref (wx_ad ad rd 13 (100 + x1.toNatClampNeg)), .int ((x5 + 1) * 64), .long ((1 : Int64) <<< (x1.toInt64 &&& 63)), .ref (ad 13 0)]) (rest := []) ⟨hx, hb, hml, hown, hts⟩ (c_X5_step l (D := D) (ad := ad) (rd := rd) (ca := ca) (A := A) (σ := σ) (o0 := 13) (k0 := (100 + x1.toNatClampNeg)) (n0 := 6464) (o2 := 13) (k2 := (100 + x1.toNatClampNeg)) (n2 := 6464) (o6 := 13) (k6 := 0) (al := σ.2.2.2.2) (wx_shr hrow hj) (wx_shr hrow hj) rfl rfl hc72) ⟨va_cnB 6 hts gX1_warmthBy_X5_step_n30 rfl rfl rfl (hC.1.2.1 _ (List.mem_of_getElem? (i := 51) rfl)) (hts _ k_X1_warmthBy_w4) (by decide +kernel) ⟨Nat.le_of_ble_eq_true rfl, Nat.le_of_ble_eq_true rfl⟩, hts _ k_X1_warmthBy_w5, trivial⟩ (wx_preS hC Z hS hA) rfl rfl hl.1 rfl (lv_room (Nat.le_of_ble_eq_true rfl)) dX1_warmthBy_72 ⟨(by show k + 0 ≤ mc; omega), (by show 6464 * k + 0 ≤ 6464 * mc; omega)⟩) hS (fun H locs Z hS => ?_)
        have hqσ72 := congrArg wx_n (show σ72.2.2.2.2 = σ.2.2.2.2 from m_X5_step_0 hc72)
        rw [← hqσ72] at hk hm
        replace hrow := (congrFun (show σ72.2.2.2.2 = σ.2.2.2.2 from m_X5_step_0 hc72) _).trans hrow
        refine lv_aload_n hx hb dX1_warmthBy_75 rfl (lv_at hl 0 rfl) ?_
        refine wx_get (own := RX1) hx hb hts i_X1_warmthBy_1 hown hC.1 Z (o := 13) (ci := 1) rfl (rfl : vwCl[1]? = some (RX1, TX1, 3)) 2 (by decide) (hts _ k_X1_warmthBy_w2) (fun _ h9 => h9) (f := 0) rfl rfl dX1_warmthBy_76 ?_
        refine lv_iload_n hx hb dX1_warmthBy_79 rfl (lv_at hl 1 rfl) ?_
        refine lv_iload hx hb dX1_warmthBy_80 (lv_at hl 5 rfl) ?_
        refine lv_iconst (v := 1) hx hb dX1_warmthBy_82 (by decide) ?_
        refine lv_iadd hx hb dX1_warmthBy_83 ?_
        obtain ⟨σ84, e84, i84, h⟩ := wx_w_ok h
        refine wx_iast hx hb hC.1 Z hS (o := 13) (k := 2) (n := 64) rfl rfl i84 dX1_warmthBy_84 e84 (fun H locs Z hS => ?_)
        have hqσ84 := congrArg wx_n (show σ84.2.2.2.2 = σ72.2.2.2.2 from (congrArg (fun z : wx_St => z.2.2.2.2) e84).trans rfl)
        rw [← hqσ84] at hk hm
        replace hrow := (congrFun (show σ84.2.2.2.2 = σ72.2.2.2.2 from (congrArg (fun z : wx_St => z.2.2.2.2) e84).trans rfl) _).trans hrow
        refine lv_iinc (v := x5 + 1) (lv' := [(5, .int (x5 + 1)), (0, .ref (ad 13 99)), (1, .int x1), (2, .int x2), (3, .int x3), (4, .ref (wx_ad ad rd 13 (100 + x1.toNatClampNeg)))]) hx hb dX1_warmthBy_85 hl (k := 5) rfl rfl (by decide) rfl (fun ls hl => ?_)
        refine lv_goto (tgt := 36) hx hb dX1_warmthBy_88 (by decide) ?_
        exact ih (k := k) hk h Z hS (lv_sub hl [1, 2, 3, 4, 5, 0] rfl) hrow hj
set_option maxRecDepth 20000 in
set_option maxHeartbeats 4000000 in
theorem m_X1_warmthBy_20  {r : UInt32} {σ' : wx_St}  {x1 : Int32} {x2 : Int32} {x3 : Int32} {σ : wx_St} (h : f_X1_warmthBy_20 x1 x2 x3 σ = some (r, σ')) : wx_n σ.2.2.2.2 ≤ wx_n σ'.2.2.2.2 := by
  unfold f_X1_warmthBy_20 at h
  obtain ⟨v25, ev25, iv25, h⟩ := wx_rA_ok h
  by_cases c25 : v25 = true
  · replace h := wx_ift c25 h
    obtain ⟨v33, ev33, iv33, h⟩ := wx_rI_ok h
    exact m_X1_warmthBy_36 h
  · exact wx_no (wx_iff c25 h)
set_option maxRecDepth 20000 in
set_option maxHeartbeats 4000000 in
theorem b_X1_warmthBy_20 (B : wx_B p s m args meth c cX1_warmthBy 6 (some .float) wsX1_warmthBy RX1 D ad ca A)    {r : UInt32} {σ' : wx_St} {mc : Nat}  {x1 : Int32} {x2 : Int32} {x3 : Int32} {σ : wx_St} {k : Nat} (hk : k + wx_n σ'.2.2.2.2 ≤ mc + wx_n σ.2.2.2.2)  (h : f_X1_warmthBy_20 x1 x2 x3 σ = some (r, σ')) {rd : Nat → Nat} {H : Heap} {locs : List Loc} (Z : wx_Z D ad rd ca A σ H) (hS : va_S A s.heap H locs) {ls : Array Slot} (hl : lv_has ls 6 [(0, .ref (ad 13 99)), (1, .int x1), (2, .int x2), (3, .int x3)]) : W p l e ({ frames := 2, cells := mc, slots := 6464 * mc, locals := 56 } : Room) s m args below meth c H locs k (6464 * k) (MQ below (wx_QA D ad ca A (some (.float r)) σ') args s mc (6464 * mc) A) (F0 m 20 ls []) := by
  obtain ⟨hx, hb, hml, hr, hts, hown, hlk, hC, hA⟩ := id B
  have hm := m_X1_warmthBy_20 h
  unfold f_X1_warmthBy_20 at h
  refine lv_aload_n hx hb dX1_warmthBy_20 rfl (lv_at hl 0 rfl) ?_
  refine wx_get (own := RX1) hx hb hts i_X1_warmthBy_1 hown hC.1 Z (o := 13) (ci := 1) rfl (rfl : vwCl[1]? = some (RX1, TX1, 3)) 1 (by decide) (hts _ k_X1_warmthBy_w0) (fun _ h9 => h9) (f := 0) rfl rfl dX1_warmthBy_21 ?_
  refine lv_iload_n hx hb dX1_warmthBy_24 rfl (lv_at hl 1 rfl) ?_
  obtain ⟨v25, ev25, iv25, h⟩ := wx_rA_ok h
  by_cases c25 : v25 = true
  · replace h := wx_ift c25 h
    have hrow := ev25.symm.trans c25
    have hj := wx_in_lt iv25
    refine wx_rald1 hx hb hC.1 Z iv25 (ev25.symm.trans c25) dX1_warmthBy_25 ?_
    refine lv_astore (lv' := [(4, .ref (wx_ad ad rd 13 (100 + x1.toNatClampNeg))), (0, .ref (ad 13 99)), (1, .int x1), (2, .int x2), (3, .int x3)]) hx hb dX1_warmthBy_26 hl (by decide) rfl (fun ls hl => ?_)
    refine lv_aload_n hx hb dX1_warmthBy_28 rfl (lv_at hl 1 rfl) ?_
    refine wx_get (own := RX1) hx hb hts i_X1_warmthBy_1 hown hC.1 Z (o := 13) (ci := 1) rfl (rfl : vwCl[1]? = some (RX1, TX1, 3)) 2 (by decide) (hts _ k_X1_warmthBy_w2) (fun _ h9 => h9) (f := 0) rfl rfl dX1_warmthBy_29 ?_
    refine lv_iload_n hx hb dX1_warmthBy_32 rfl (lv_at hl 2 rfl) ?_
    obtain ⟨v33, ev33, iv33, h⟩ := wx_rI_ok h
    refine wx_iald hx hb hC.1 Z (o := 13) (k := 2) (n := 64) rfl rfl iv33 dX1_warmthBy_33 ev33 ?_
    refine lv_istore (lv' := [(5, .int v33), (4, .ref (wx_ad ad rd 13 (100 + x1.toNatClampNeg))), (0, .ref (ad 13 99)), (1, .int x1), (2, .int x2), (3, .int x3)]) hx hb dX1_warmthBy_34 hl (by decide) rfl (fun ls hl => ?_)
    exact b_X1_warmthBy_36 B (k := k) hk h Z hS (lv_sub hl [2, 3, 4, 5, 1, 0] rfl) hrow hj
  · exact wx_no (wx_iff c25 h)
set_option maxRecDepth 20000 in
set_option maxHeartbeats 4000000 in
theorem m_X1_warmthBy_0  {r : UInt32} {σ' : wx_St}  {x1 : Int32} {x2 : Int32} {x3 : Int32} {σ : wx_St} (h : f_X1_warmthBy x1 x2 x3 σ = some (r, σ')) : wx_n σ.2.2.2.2 ≤ wx_n σ'.2.2.2.2 := by
  unfold f_X1_warmthBy at h
  obtain ⟨v5, ev5, iv5, h⟩ := wx_rA_ok h
  by_cases c5 : v5 = true
  · replace h := wx_ift c5 h
    exact m_X1_warmthBy_20 h
  · replace h := wx_iff c5 h
    obtain ⟨σ17, e17, h⟩ := wx_l_ok h
    refine Nat.le_trans (Nat.le_of_lt (Nat.lt_of_lt_of_eq (Nat.lt_succ_self _) (wx_nA iv5 (fun z => c5 (ev5.trans z)) e17).symm)) ?_
    exact m_X1_warmthBy_20 h
set_option maxRecDepth 20000 in
set_option maxHeartbeats 4000000 in
theorem b_X1_warmthBy_0 (B : wx_B p s m args meth c cX1_warmthBy 6 (some .float) wsX1_warmthBy RX1 D ad ca A)    {r : UInt32} {σ' : wx_St} {mc : Nat}  {x1 : Int32} {x2 : Int32} {x3 : Int32} {σ : wx_St} {k : Nat} (hk : k + wx_n σ'.2.2.2.2 ≤ mc + wx_n σ.2.2.2.2)  (h : f_X1_warmthBy x1 x2 x3 σ = some (r, σ')) {rd : Nat → Nat} {H : Heap} {locs : List Loc} (Z : wx_Z D ad rd ca A σ H) (hS : va_S A s.heap H locs) {ls : Array Slot} (hl : lv_has ls 6 [(0, .ref (ad 13 99)), (1, .int x1), (2, .int x2), (3, .int x3)]) : W p l e ({ frames := 2, cells := mc, slots := 6464 * mc, locals := 56 } : Room) s m args below meth c H locs k (6464 * k) (MQ below (wx_QA D ad ca A (some (.float r)) σ') args s mc (6464 * mc) A) (F0 m 0 ls []) := by
  obtain ⟨hx, hb, hml, hr, hts, hown, hlk, hC, hA⟩ := id B
  have hm := m_X1_warmthBy_0 h
  unfold f_X1_warmthBy at h
  refine lv_aload_n hx hb dX1_warmthBy_0 rfl (lv_at hl 0 rfl) ?_
  refine wx_get (own := RX1) hx hb hts i_X1_warmthBy_1 hown hC.1 Z (o := 13) (ci := 1) rfl (rfl : vwCl[1]? = some (RX1, TX1, 3)) 1 (by decide) (hts _ k_X1_warmthBy_w0) (fun _ h9 => h9) (f := 0) rfl rfl dX1_warmthBy_1 ?_
  refine lv_iload_n hx hb dX1_warmthBy_4 rfl (lv_at hl 1 rfl) ?_
  obtain ⟨v5, ev5, iv5, h⟩ := wx_rA_ok h
  by_cases c5 : v5 = true
  · replace h := wx_ift c5 h
    refine wx_rald1 hx hb hC.1 Z iv5 (ev5.symm.trans c5) dX1_warmthBy_5 ?_
    refine lv_ifnonnull (tgt := 20) hx hb dX1_warmthBy_6 (by decide) ?_
    exact b_X1_warmthBy_20 B (k := k) hk h Z hS (lv_sub hl [0, 1, 2, 3] rfl)
  · replace h := wx_iff c5 h
    refine wx_rald0 hx hb hC.1 Z iv5 (fun z => c5 (ev5.trans z)) dX1_warmthBy_5 ?_
    refine lv_ifnonnullN hx hb dX1_warmthBy_6 ?_
    refine lv_aload_n hx hb dX1_warmthBy_9 rfl (lv_at hl 0 rfl) ?_
    refine wx_get (own := RX1) hx hb hts i_X1_warmthBy_1 hown hC.1 Z (o := 13) (ci := 1) rfl (rfl : vwCl[1]? = some (RX1, TX1, 3)) 1 (by decide) (hts _ k_X1_warmthBy_w0) (fun _ h9 => h9) (f := 0) rfl rfl dX1_warmthBy_10 ?_
    refine lv_iload_n hx hb dX1_warmthBy_13 rfl (lv_at hl 1 rfl) ?_
    refine lv_sipush (v := 6464) hx hb dX1_warmthBy_14 (by decide) ?_
    obtain ⟨σ17, e17, h⟩ := wx_l_ok h
    have m1 := wx_nA iv5 (fun z => c5 (ev5.trans z)) e17
    have m2 := m_X1_warmthBy_20 h
    refine wx_newrow hx hb hC.1 Z hS hA (hts _ k_X1_warmthBy_w1) iv5 (fun z => c5 (ev5.trans z)) (by show k + 1 ≤ mc; omega) (by show 6464 * k + 6464 ≤ 6464 * mc; omega) dX1_warmthBy_17 dX1_warmthBy_19 e17 (fun rd H locs Z hS => ?_)
    refine W.widen (k := k + 1) (n := 6464 * (k + 1)) (Nat.le_refl _) (by omega) ?_
    exact b_X1_warmthBy_20 B (k := k + 1) (by omega) h Z hS (lv_sub hl [0, 1, 2, 3] rfl)
set_option maxRecDepth 20000 in
theorem c_X1_warmthBy (l : Launch) {D : va_G} {ad : Nat → Nat → Nat} {rd : Nat → Nat} {ca : Nat → ClassId} {A : Nat → Prop} {σ : wx_St}    {x1 : Int32} {x2 : Int32} {x3 : Int32} {r : UInt32} {σ' : wx_St} (h : f_X1_warmthBy x1 x2 x3 σ = some (r, σ')) : wx_MA l yX1_warmthBy wsX1_warmthBy 2 56 D ad rd ca A [.ref (ad 13 99), .int x1, .int x2, .int x3] σ (some (.float r)) σ' := by
  refine Met.ofW (cc := cX1_warmthBy) (maxL := 6) (ret := (some .float)) (by decide +kernel) rfl ?_
  intro p e s m args below meth c s₁ B0 hml hv
  obtain ⟨rfl, hC, Z, hA⟩ := hv
  have hl := lv_entry ([.ref (ad 13 99), .int x1, .int x2, .int x3]) (n := 6) (Nat.le_of_ble_eq_true rfl)
  rw [lg_entry_eq]
  generalize (lg_sl ([.ref (ad 13 99), .int x1, .int x2, .int x3]) ++ List.replicate (6 - (lg_sl ([.ref (ad 13 99), .int x1, .int x2, .int x3])).length) Slot.unset).toArray = ls at hl ⊢
  exact b_X1_warmthBy_0 ⟨B0.exec, B0.bytes, hml, B0.returns, atoms_spec (ws := wsX1_warmthBy) B0.pre, findClass_of_methodNamed B0.named, B0.notSynchronized, hC, hA⟩  (k := 0) (by have hm := m_X1_warmthBy_0 h; omega) h Z va_S.rf hl
