def f_J13_bitCount_95d88   (x0 : Int64) : Option Int32 :=
  some ((((((((((x0 - (((x0.toUInt64 >>> ((1 : Int32).toInt64.toUInt64 &&& Int64.toUInt64 63)).toInt64) &&& (6148914691236517205 : Int64))) &&& (3689348814741910323 : Int64)) + ((((x0 - (((x0.toUInt64 >>> ((1 : Int32).toInt64.toUInt64 &&& Int64.toUInt64 63)).toInt64) &&& (6148914691236517205 : Int64))).toUInt64 >>> ((2 : Int32).toInt64.toUInt64 &&& Int64.toUInt64 63)).toInt64) &&& (3689348814741910323 : Int64))) + (((((x0 - (((x0.toUInt64 >>> ((1 : Int32).toInt64.toUInt64 &&& Int64.toUInt64 63)).toInt64) &&& (6148914691236517205 : Int64))) &&& (3689348814741910323 : Int64)) + ((((x0 - (((x0.toUInt64 >>> ((1 : Int32).toInt64.toUInt64 &&& Int64.toUInt64 63)).toInt64) &&& (6148914691236517205 : Int64))).toUInt64 >>> ((2 : Int32).toInt64.toUInt64 &&& Int64.toUInt64 63)).toInt64) &&& (3689348814741910323 : Int64))).toUInt64 >>> ((4 : Int32).toInt64.toUInt64 &&& Int64.toUInt64 63)).toInt64)) &&& (1085102592571150095 : Int64)) + (((((((x0 - (((x0.toUInt64 >>> ((1 : Int32).toInt64.toUInt64 &&& Int64.toUInt64 63)).toInt64) &&& (6148914691236517205 : Int64))) &&& (3689348814741910323 : Int64)) + ((((x0 - (((x0.toUInt64 >>> ((1 : Int32).toInt64.toUInt64 &&& Int64.toUInt64 63)).toInt64) &&& (6148914691236517205 : Int64))).toUInt64 >>> ((2 : Int32).toInt64.toUInt64 &&& Int64.toUInt64 63)).toInt64) &&& (3689348814741910323 : Int64))) + (((((x0 - (((x0.toUInt64 >>> ((1 : Int32).toInt64.toUInt64 &&& Int64.toUInt64 63)).toInt64) &&& (6148914691236517205 : Int64))) &&& (3689348814741910323 : Int64)) + ((((x0 - (((x0.toUInt64 >>> ((1 : Int32).toInt64.toUInt64 &&& Int64.toUInt64 63)).toInt64) &&& (6148914691236517205 : Int64))).toUInt64 >>> ((2 : Int32).toInt64.toUInt64 &&& Int64.toUInt64 63)).toInt64) &&& (3689348814741910323 : Int64))).toUInt64 >>> ((4 : Int32).toInt64.toUInt64 &&& Int64.toUInt64 63)).toInt64)) &&& (1085102592571150095 : Int64)).toUInt64 >>> ((8 : Int32).toInt64.toUInt64 &&& Int64.toUInt64 63)).toInt64)) + ((((((((x0 - (((x0.toUInt64 >>> ((1 : Int32).toInt64.toUInt64 &&& Int64.toUInt64 63)).toInt64) &&& (6148914691236517205 : Int64))) &&& (3689348814741910323 : Int64)) + ((((x0 - (((x0.toUInt64 >>> ((1 : Int32).toInt64.toUInt64 &&& Int64.toUInt64 63)).toInt64) &&& (6148914691236517205 : Int64))).toUInt64 >>> ((2 : Int32).toInt64.toUInt64 &&& Int64.toUInt64 63)).toInt64) &&& (3689348814741910323 : Int64))) + (((((x0 - (((x0.toUInt64 >>> ((1 : Int32).toInt64.toUInt64 &&& Int64.toUInt64 63)).toInt64) &&& (6148914691236517205 : Int64))) &&& (3689348814741910323 : Int64)) + ((((x0 - (((x0.toUInt64 >>> ((1 : Int32).toInt64.toUInt64 &&& Int64.toUInt64 63)).toInt64) &&& (6148914691236517205 : Int64))).toUInt64 >>> ((2 : Int32).toInt64.toUInt64 &&& Int64.toUInt64 63)).toInt64) &&& (3689348814741910323 : Int64))).toUInt64 >>> ((4 : Int32).toInt64.toUInt64 &&& Int64.toUInt64 63)).toInt64)) &&& (1085102592571150095 : Int64)) + (((((((x0 - (((x0.toUInt64 >>> ((1 : Int32).toInt64.toUInt64 &&& Int64.toUInt64 63)).toInt64) &&& (6148914691236517205 : Int64))) &&& (3689348814741910323 : Int64)) + ((((x0 - (((x0.toUInt64 >>> ((1 : Int32).toInt64.toUInt64 &&& Int64.toUInt64 63)).toInt64) &&& (6148914691236517205 : Int64))).toUInt64 >>> ((2 : Int32).toInt64.toUInt64 &&& Int64.toUInt64 63)).toInt64) &&& (3689348814741910323 : Int64))) + (((((x0 - (((x0.toUInt64 >>> ((1 : Int32).toInt64.toUInt64 &&& Int64.toUInt64 63)).toInt64) &&& (6148914691236517205 : Int64))) &&& (3689348814741910323 : Int64)) + ((((x0 - (((x0.toUInt64 >>> ((1 : Int32).toInt64.toUInt64 &&& Int64.toUInt64 63)).toInt64) &&& (6148914691236517205 : Int64))).toUInt64 >>> ((2 : Int32).toInt64.toUInt64 &&& Int64.toUInt64 63)).toInt64) &&& (3689348814741910323 : Int64))).toUInt64 >>> ((4 : Int32).toInt64.toUInt64 &&& Int64.toUInt64 63)).toInt64)) &&& (1085102592571150095 : Int64)).toUInt64 >>> ((8 : Int32).toInt64.toUInt64 &&& Int64.toUInt64 63)).toInt64)).toUInt64 >>> ((16 : Int32).toInt64.toUInt64 &&& Int64.toUInt64 63)).toInt64)) + (((((((((x0 - (((x0.toUInt64 >>> ((1 : Int32).toInt64.toUInt64 &&& Int64.toUInt64 63)).toInt64) &&& (6148914691236517205 : Int64))) &&& (3689348814741910323 : Int64)) + ((((x0 - (((x0.toUInt64 >>> ((1 : Int32).toInt64.toUInt64 &&& Int64.toUInt64 63)).toInt64) &&& (6148914691236517205 : Int64))).toUInt64 >>> ((2 : Int32).toInt64.toUInt64 &&& Int64.toUInt64 63)).toInt64) &&& (3689348814741910323 : Int64))) + (((((x0 - (((x0.toUInt64 >>> ((1 : Int32).toInt64.toUInt64 &&& Int64.toUInt64 63)).toInt64) &&& (6148914691236517205 : Int64))) &&& (3689348814741910323 : Int64)) + ((((x0 - (((x0.toUInt64 >>> ((1 : Int32).toInt64.toUInt64 &&& Int64.toUInt64 63)).toInt64) &&& (6148914691236517205 : Int64))).toUInt64 >>> ((2 : Int32).toInt64.toUInt64 &&& Int64.toUInt64 63)).toInt64) &&& (3689348814741910323 : Int64))).toUInt64 >>> ((4 : Int32).toInt64.toUInt64 &&& Int64.toUInt64 63)).toInt64)) &&& (1085102592571150095 : Int64)) + (((((((x0 - (((x0.toUInt64 >>> ((1 : Int32).toInt64.toUInt64 &&& Int64.toUInt64 63)).toInt64) &&& (6148914691236517205 : Int64))) &&& (3689348814741910323 : Int64)) + ((((x0 - (((x0.toUInt64 >>> ((1 : Int32).toInt64.toUInt64 &&& Int64.toUInt64 63)).toInt64) &&& (6148914691236517205 : Int64))).toUInt64 >>> ((2 : Int32).toInt64.toUInt64 &&& Int64.toUInt64 63)).toInt64) &&& (3689348814741910323 : Int64))) + (((((x0 - (((x0.toUInt64 >>> ((1 : Int32).toInt64.toUInt64 &&& Int64.toUInt64 63)).toInt64) &&& (6148914691236517205 : Int64))) &&& (3689348814741910323 : Int64)) + ((((x0 - (((x0.toUInt64 >>> ((1 : Int32).toInt64.toUInt64 &&& Int64.toUInt64 63)).toInt64) &&& (6148914691236517205 : Int64))).toUInt64 >>> ((2 : Int32).toInt64.toUInt64 &&& Int64.toUInt64 63)).toInt64) &&& (3689348814741910323 : Int64))).toUInt64 >>> ((4 : Int32).toInt64.toUInt64 &&& Int64.toUInt64 63)).toInt64)) &&& (1085102592571150095 : Int64)).toUInt64 >>> ((8 : Int32).toInt64.toUInt64 &&& Int64.toUInt64 63)).toInt64)) + ((((((((x0 - (((x0.toUInt64 >>> ((1 : Int32).toInt64.toUInt64 &&& Int64.toUInt64 63)).toInt64) &&& (6148914691236517205 : Int64))) &&& (3689348814741910323 : Int64)) + ((((x0 - (((x0.toUInt64 >>> ((1 : Int32).toInt64.toUInt64 &&& Int64.toUInt64 63)).toInt64) &&& (6148914691236517205 : Int64))).toUInt64 >>> ((2 : Int32).toInt64.toUInt64 &&& Int64.toUInt64 63)).toInt64) &&& (3689348814741910323 : Int64))) + (((((x0 - (((x0.toUInt64 >>> ((1 : Int32).toInt64.toUInt64 &&& Int64.toUInt64 63)).toInt64) &&& (6148914691236517205 : Int64))) &&& (3689348814741910323 : Int64)) + ((((x0 - (((x0.toUInt64 >>> ((1 : Int32).toInt64.toUInt64 &&& Int64.toUInt64 63)).toInt64) &&& (6148914691236517205 : Int64))).toUInt64 >>> ((2 : Int32).toInt64.toUInt64 &&& Int64.toUInt64 63)).toInt64) &&& (3689348814741910323 : Int64))).toUInt64 >>> ((4 : Int32).toInt64.toUInt64 &&& Int64.toUInt64 63)).toInt64)) &&& (1085102592571150095 : Int64)) + (((((((x0 - (((x0.toUInt64 >>> ((1 : Int32).toInt64.toUInt64 &&& Int64.toUInt64 63)).toInt64) &&& (6148914691236517205 : Int64))) &&& (3689348814741910323 : Int64)) + ((((x0 - (((x0.toUInt64 >>> ((1 : Int32).toInt64.toUInt64 &&& Int64.toUInt64 63)).toInt64) &&& (6148914691236517205 : Int64))).toUInt64 >>> ((2 : Int32).toInt64.toUInt64 &&& Int64.toUInt64 63)).toInt64) &&& (3689348814741910323 : Int64))) + (((((x0 - (((x0.toUInt64 >>> ((1 : Int32).toInt64.toUInt64 &&& Int64.toUInt64 63)).toInt64) &&& (6148914691236517205 : Int64))) &&& (3689348814741910323 : Int64)) + ((((x0 - (((x0.toUInt64 >>> ((1 : Int32).toInt64.toUInt64 &&& Int64.toUInt64 63)).toInt64) &&& (6148914691236517205 : Int64))).toUInt64 >>> ((2 : Int32).toInt64.toUInt64 &&& Int64.toUInt64 63)).toInt64) &&& (3689348814741910323 : Int64))).toUInt64 >>> ((4 : Int32).toInt64.toUInt64 &&& Int64.toUInt64 63)).toInt64)) &&& (1085102592571150095 : Int64)).toUInt64 >>> ((8 : Int32).toInt64.toUInt64 &&& Int64.toUInt64 63)).toInt64)).toUInt64 >>> ((16 : Int32).toInt64.toUInt64 &&& Int64.toUInt64 63)).toInt64)).toUInt64 >>> ((32 : Int32).toInt64.toUInt64 &&& Int64.toUInt64 63)).toInt64)).toInt32) &&& 127)
def f_X0_isFed_18 (o : Nat)  (x1 : Int32) (x2 : Int32) (y0 : Int32) (σ : wx_St) : Option Int32 :=
  wx_z y0 (some y0)
def f_X0_isFed (o : Nat)  (x1 : Int32) (x2 : Int32) (σ : wx_St) : Option Int32 :=
  wx_rI σ o 2 8 x1 (fun v5 => if (((v5.toUInt32 >>> (x2.toUInt32 &&& Int32.toUInt32 31)).toInt32) &&& 1) = 0 then
    f_X0_isFed_18 o x1 x2 0 σ
   else
    f_X0_isFed_18 o x1 x2 1 σ)
def f_X5_neighbourOf_43   (x0 : Int32) (x1 : Int32) (y0 : Int32) : Option Int32 :=
  some y0
def f_X5_neighbourOf_59   (x0 : Int32) (x1 : Int32) (y0 : Int32) : Option Int32 :=
  some y0
def f_X5_neighbourOf_75   (x0 : Int32) (x1 : Int32) (y0 : Int32) : Option Int32 :=
  some y0
def f_X5_neighbourOf_93   (x0 : Int32) (x1 : Int32) (y0 : Int32) : Option Int32 :=
  some y0
def f_X5_neighbourOf   (x0 : Int32) (x1 : Int32) : Option Int32 :=
  if x1 = 0 then
    if x0 < 8 then
      f_X5_neighbourOf_43 x0 x1 (-6)
     else
      f_X5_neighbourOf_43 x0 x1 (x0 - 8)
   else
    if x1 = 1 then
      if 56 ≤ x0 then
        f_X5_neighbourOf_59 x0 x1 (-6)
       else
        f_X5_neighbourOf_59 x0 x1 (x0 + 8)
     else
      if x1 = 2 then
        if (x0 - x0 / 8 * 8) ≤ 0 then
          f_X5_neighbourOf_75 x0 x1 (-6)
         else
          f_X5_neighbourOf_75 x0 x1 (x0 - 1)
       else
        if 7 ≤ (x0 - x0 / 8 * 8) then
          f_X5_neighbourOf_93 x0 x1 (-6)
         else
          f_X5_neighbourOf_93 x0 x1 (x0 + 1)
def f_X0_isSuspect_38 (o : Nat) (K2 : Int32 → Int32 → wx_St → Option Int32) (x1 : Int32) (x2 : Int32) (x3 : Int32) (σ : wx_St) : Option Int32 :=
  K2 x1 (x2 + 1) σ
def f_X0_isSuspect_2 (o : Nat)  : Nat → Int32 → Int32 → wx_St → Option Int32
  | 0, _, _, _ => none
  | n + 1, x1, x2, σ =>
  if 4 ≤ x2 then
    some 0
   else
    wx_o (f_X5_neighbourOf x1 x2) (fun v9 => if v9 < 0 then
      f_X0_isSuspect_38 o (f_X0_isSuspect_2 o n) x1 x2 v9 σ
     else
      wx_rI σ o 1 64 x1 (fun v23 => wx_rI σ o 1 64 v9 (fun v29 => wx_o (f_X0_isFed o v23 v29 σ) (fun v30 => if v30 = 0 then
        f_X0_isSuspect_38 o (f_X0_isSuspect_2 o n) x1 x2 v9 σ
       else
        some 1))))
def f_X0_isSuspect (o : Nat)  (x1 : Int32) (σ : wx_St) : Option Int32 :=
  f_X0_isSuspect_2 o 2000 x1 0 σ
def f_X0_touchAt_2 (o : Nat)  : Nat → Int32 → Int32 → wx_St → Option Int32
  | 0, _, _, _ => none
  | n + 1, x1, x2, σ =>
  if (σ.2.2.1 o 3) ≤ x2 then
    some (-6)
   else
    wx_rI σ o 4 3 x2 (fun v15 => if v15 = x1 then
      some x2
     else
      (f_X0_touchAt_2 o n) x1 (x2 + 1) σ)
def f_X0_touchAt (o : Nat)  (x1 : Int32) (σ : wx_St) : Option Int32 :=
  f_X0_touchAt_2 o 2000 x1 0 σ
def f_X1_follow_50 (o1 : Nat) (k1 : Nat)  : Nat → Int32 → wx_St → Option (Unit × wx_St)
  | 0, _, _ => none
  | n + 1, x2, σ =>
  if 64 ≤ x2 then
    some ((), σ)
   else
    wx_w (wx_sI σ 13 2 (Int32.toNatClampNeg x2) 0) 64 x2 (fun σ62 => (f_X1_follow_50 o1 k1 n) (x2 + 1) σ62)
def f_X1_follow_37 (o1 : Nat) (k1 : Nat)   (σ : wx_St) : Option (Unit × wx_St) :=
  wx_l (wx_cI σ o1 k1 0 13 0 0 4) (fun σ45 => f_X1_follow_50 o1 k1 2000 0 σ45)
def f_X1_follow (o1 : Nat) (k1 : Nat)   (σ : wx_St) : Option (Unit × wx_St) :=
  wx_rI σ 13 0 4 0 (fun v5 => wx_rI σ o1 k1 4 0 (fun v8 => if v5 = v8 then
    wx_rI σ 13 0 4 1 (fun v17 => wx_rI σ o1 k1 4 1 (fun v20 => if v17 = v20 then
      wx_rI σ 13 0 4 2 (fun v29 => wx_rI σ o1 k1 4 2 (fun v32 => if v29 = v32 then
        some ((), σ)
       else
        f_X1_follow_37 o1 k1 σ))
     else
      f_X1_follow_37 o1 k1 σ))
   else
    f_X1_follow_37 o1 k1 σ))
def f_X5_isIn_15   (x0 : Int64) (x2 : Int32) (y0 : Int32) : Option Int32 :=
  wx_z y0 (some y0)
def f_X5_isIn   (x0 : Int64) (x2 : Int32) : Option Int32 :=
  if (lg_cmp (((x0.toUInt64 >>> (x2.toInt64.toUInt64 &&& Int64.toUInt64 63)).toInt64) &&& (1 : Int64)) (0 : Int64)) = 0 then
    f_X5_isIn_15 x0 x2 0
   else
    f_X5_isIn_15 x0 x2 1
def f_X5_step_206 (o0 : Nat) (k0 : Nat) (n0 : Nat) (o2 : Nat) (k2 : Nat) (n2 : Nat) (o6 : Nat) (k6 : Nat) (K27 : Int32 → Int32 → Int64 → UInt32 → UInt32 → UInt32 → Int32 → wx_St → Option (Unit × wx_St)) (x1 : Int32) (x3 : Int32) (x4 : Int64) (x7 : UInt32) (x8 : UInt32) (x9 : UInt32) (x10 : Int32) (x11 : Int32) (x12 : UInt32) (x13 : UInt32) (x14 : UInt32) (y1 : Int32) (y2 : UInt32) (σ : wx_St) : Option (Unit × wx_St) :=
  wx_w (wx_sF σ o2 k2 (Int32.toNatClampNeg y1) y2) n2 y1 (fun σ206 => K27 x1 x3 x4 x7 x8 x9 (x10 + 1) σ206)
def f_X5_step_167 (o0 : Nat) (k0 : Nat) (n0 : Nat) (o2 : Nat) (k2 : Nat) (n2 : Nat) (o6 : Nat) (k6 : Nat) (K27 : Int32 → Int32 → Int64 → UInt32 → UInt32 → UInt32 → Int32 → wx_St → Option (Unit × wx_St)) (x1 : Int32) (x3 : Int32) (x4 : Int64) (x7 : UInt32) (x8 : UInt32) (x9 : UInt32) (x10 : Int32) (x11 : Int32) (x12 : UInt32) (x13 : UInt32) (σ : wx_St) : Option (Unit × wx_St) :=
  wx_f (FP.fadd x12 x13) (fun v171 => wx_f (FP.fmul v171 x8) (fun v174 => wx_f (FP.fdiv v174 (1120403456 : UInt32)) (fun v178 => wx_o (f_X5_isIn x4 x10) (fun v190 => if v190 = 0 then
    f_X5_step_206 o0 k0 n0 o2 k2 n2 o6 k6 K27 x1 x3 x4 x7 x8 x9 x10 x11 x12 x13 v178 (x3 + x10) v178 σ
   else
    wx_f (FP.fadd v178 x9) (fun v200 => f_X5_step_206 o0 k0 n0 o2 k2 n2 o6 k6 K27 x1 x3 x4 x7 x8 x9 x10 x11 x12 x13 v178 (x3 + x10) v200 σ)))))
def f_X5_step_136 (o0 : Nat) (k0 : Nat) (n0 : Nat) (o2 : Nat) (k2 : Nat) (n2 : Nat) (o6 : Nat) (k6 : Nat) (K27 : Int32 → Int32 → Int64 → UInt32 → UInt32 → UInt32 → Int32 → wx_St → Option (Unit × wx_St)) (x1 : Int32) (x3 : Int32) (x4 : Int64) (x7 : UInt32) (x8 : UInt32) (x9 : UInt32) (x10 : Int32) (x11 : Int32) (x12 : UInt32) (x13 : UInt32) (σ : wx_St) : Option (Unit × wx_St) :=
  if 7 ≤ (x10 - x10 / 8 * 8) then
    f_X5_step_167 o0 k0 n0 o2 k2 n2 o6 k6 K27 x1 x3 x4 x7 x8 x9 x10 x11 x12 x13 σ
   else
    wx_rF σ o0 k0 n0 (x11 + 1) (fun v153 => wx_f (FP.fsub v153 x12) (fun v156 => wx_f (FP.fmul v156 x7) (fun v159 => wx_f (FP.fdiv v159 (1120403456 : UInt32)) (fun v163 => wx_f (FP.fadd x13 v163) (fun v164 => f_X5_step_167 o0 k0 n0 o2 k2 n2 o6 k6 K27 x1 x3 x4 x7 x8 x9 x10 x11 x12 v164 σ)))))
def f_X5_step_107 (o0 : Nat) (k0 : Nat) (n0 : Nat) (o2 : Nat) (k2 : Nat) (n2 : Nat) (o6 : Nat) (k6 : Nat) (K27 : Int32 → Int32 → Int64 → UInt32 → UInt32 → UInt32 → Int32 → wx_St → Option (Unit × wx_St)) (x1 : Int32) (x3 : Int32) (x4 : Int64) (x7 : UInt32) (x8 : UInt32) (x9 : UInt32) (x10 : Int32) (x11 : Int32) (x12 : UInt32) (x13 : UInt32) (σ : wx_St) : Option (Unit × wx_St) :=
  if (x10 - x10 / 8 * 8) ≤ 0 then
    f_X5_step_136 o0 k0 n0 o2 k2 n2 o6 k6 K27 x1 x3 x4 x7 x8 x9 x10 x11 x12 x13 σ
   else
    wx_rF σ o0 k0 n0 (x11 - 1) (fun v122 => wx_f (FP.fsub v122 x12) (fun v125 => wx_f (FP.fmul v125 x7) (fun v128 => wx_f (FP.fdiv v128 (1120403456 : UInt32)) (fun v132 => wx_f (FP.fadd x13 v132) (fun v133 => f_X5_step_136 o0 k0 n0 o2 k2 n2 o6 k6 K27 x1 x3 x4 x7 x8 x9 x10 x11 x12 v133 σ)))))
def f_X5_step_78 (o0 : Nat) (k0 : Nat) (n0 : Nat) (o2 : Nat) (k2 : Nat) (n2 : Nat) (o6 : Nat) (k6 : Nat) (K27 : Int32 → Int32 → Int64 → UInt32 → UInt32 → UInt32 → Int32 → wx_St → Option (Unit × wx_St)) (x1 : Int32) (x3 : Int32) (x4 : Int64) (x7 : UInt32) (x8 : UInt32) (x9 : UInt32) (x10 : Int32) (x11 : Int32) (x12 : UInt32) (x13 : UInt32) (σ : wx_St) : Option (Unit × wx_St) :=
  if 56 ≤ x10 then
    f_X5_step_107 o0 k0 n0 o2 k2 n2 o6 k6 K27 x1 x3 x4 x7 x8 x9 x10 x11 x12 x13 σ
   else
    wx_rF σ o0 k0 n0 (x11 + 8) (fun v93 => wx_f (FP.fsub v93 x12) (fun v96 => wx_f (FP.fmul v96 x7) (fun v99 => wx_f (FP.fdiv v99 (1120403456 : UInt32)) (fun v103 => wx_f (FP.fadd x13 v103) (fun v104 => f_X5_step_107 o0 k0 n0 o2 k2 n2 o6 k6 K27 x1 x3 x4 x7 x8 x9 x10 x11 x12 v104 σ)))))
def f_X5_step_27 (o0 : Nat) (k0 : Nat) (n0 : Nat) (o2 : Nat) (k2 : Nat) (n2 : Nat) (o6 : Nat) (k6 : Nat)  : Nat → Int32 → Int32 → Int64 → UInt32 → UInt32 → UInt32 → Int32 → wx_St → Option (Unit × wx_St)
  | 0, _, _, _, _, _, _, _, _ => none
  | n + 1, x1, x3, x4, x7, x8, x9, x10, σ =>
  if 64 ≤ x10 then
    some ((), σ)
   else
    wx_rF σ o0 k0 n0 (x1 + x10) (fun v43 => if x10 < 8 then
      f_X5_step_78 o0 k0 n0 o2 k2 n2 o6 k6 (f_X5_step_27 o0 k0 n0 o2 k2 n2 o6 k6 n) x1 x3 x4 x7 x8 x9 x10 (x1 + x10) v43 FP.fconst0 σ
     else
      wx_rF σ o0 k0 n0 ((x1 + x10) - 8) (fun v64 => wx_f (FP.fsub v64 v43) (fun v67 => wx_f (FP.fmul v67 x7) (fun v70 => wx_f (FP.fdiv v70 (1120403456 : UInt32)) (fun v74 => wx_f (FP.fadd FP.fconst0 v74) (fun v75 => f_X5_step_78 o0 k0 n0 o2 k2 n2 o6 k6 (f_X5_step_27 o0 k0 n0 o2 k2 n2 o6 k6 n) x1 x3 x4 x7 x8 x9 x10 (x1 + x10) v43 v75 σ))))))
def f_X5_step (o0 : Nat) (k0 : Nat) (n0 : Nat) (o2 : Nat) (k2 : Nat) (n2 : Nat) (o6 : Nat) (k6 : Nat)  (x1 : Int32) (x3 : Int32) (x4 : Int64) (σ : wx_St) : Option (Unit × wx_St) :=
  wx_rI σ o6 k6 4 0 (fun v3 => wx_rI σ o6 k6 4 1 (fun v12 => wx_rI σ o6 k6 4 2 (fun v20 => f_X5_step_27 o0 k0 n0 o2 k2 n2 o6 k6 2000 x1 x3 x4 (FP.i2f v3) (FP.i2f (100 - v12)) (FP.i2f v20) 0 σ)))
def f_X1_warmthBy_91   (x1 : Int32) (x2 : Int32) (x3 : Int32) (x5 : Int32) (σ : wx_St) : Option (UInt32 × wx_St) :=
  wx_rF σ 13 (100 + x1.toNatClampNeg) 6464 ((x2 * 64) + x3) (fun v99 => some (v99, σ))
def f_X1_warmthBy_36   : Nat → Int32 → Int32 → Int32 → Int32 → wx_St → Option (UInt32 × wx_St)
  | 0, _, _, _, _, _ => none
  | n + 1, x1, x2, x3, x5, σ =>
  if x2 ≤ x5 then
    f_X1_warmthBy_91 x1 x2 x3 x5 σ
   else
    if 100 ≤ x5 then
      f_X1_warmthBy_91 x1 x2 x3 x5 σ
     else
      wx_b (f_X5_step 13 (100 + x1.toNatClampNeg) 6464 13 (100 + x1.toNatClampNeg) 6464 13 0 (x5 * 64) ((x5 + 1) * 64) ((1 : Int64) <<< (x1.toInt64 &&& 63)) σ) (fun v72 σ72 => wx_w (wx_sI σ72 13 2 (Int32.toNatClampNeg x1) (x5 + 1)) 64 x1 (fun σ84 => (f_X1_warmthBy_36 n) x1 x2 x3 (x5 + 1) σ84))
def f_X1_warmthBy_20   (x1 : Int32) (x2 : Int32) (x3 : Int32) (σ : wx_St) : Option (UInt32 × wx_St) :=
  wx_rA σ x1 (fun v25 => if v25 = true then
    wx_rI σ 13 2 64 x1 (fun v33 => f_X1_warmthBy_36 2000 x1 x2 x3 v33 σ)
   else none)
def f_X1_warmthBy   (x1 : Int32) (x2 : Int32) (x3 : Int32) (σ : wx_St) : Option (UInt32 × wx_St) :=
  wx_rA σ x1 (fun v5 => if v5 = true then
    f_X1_warmthBy_20 x1 x2 x3 σ
   else
    wx_l (wx_sA σ (Int32.toNatClampNeg x1)) (fun σ17 => f_X1_warmthBy_20 x1 x2 x3 σ17))
def f_X5_readOf   (x0 : UInt32) : Option Int32 :=
  wx_f (FP.fmul x0 (1092616192 : UInt32)) (fun v4 => some (FP.f2i v4))
def f_X4_fits_80 (b1 : Nat) (K14 : Int32 → Int32 → Int32 → wx_St → Option (Int32 × wx_St)) (x2 : Int32) (x3 : Int32) (x4 : Int32) (x5 : UInt32) (σ : wx_St) : Option (Int32 × wx_St) :=
  wx_o (f_X5_readOf x5) (fun v82 => wx_rI σ b1 11 8 x4 (fun v91 => wx_rI σ b1 0 4 3 (fun v101 => if (if 0 ≤ (v82 - v91) then (v82 - v91) else 0 - (v82 - v91)) ≤ v101 then
    K14 x2 x3 (x4 + 1) σ
   else
    some (0, σ))))
def f_X4_fits_77 (b1 : Nat) (K14 : Int32 → Int32 → Int32 → wx_St → Option (Int32 × wx_St)) (x2 : Int32) (x3 : Int32) (x4 : Int32) (x5 : UInt32) (y0 : UInt32) (y1 : UInt32) (σ : wx_St) : Option (Int32 × wx_St) :=
  wx_f (FP.fadd y0 y1) (fun v77 => f_X4_fits_80 b1 K14 x2 x3 x4 v77 σ)
def f_X4_fits_45 (b1 : Nat) (K14 : Int32 → Int32 → Int32 → wx_St → Option (Int32 × wx_St)) (x2 : Int32) (x3 : Int32) (x4 : Int32) (y0 : UInt32) (σ : wx_St) : Option (Int32 × wx_St) :=
  if x3 = (-6) then
    f_X4_fits_80 b1 K14 x2 x3 x4 y0 σ
   else
    wx_rI σ b1 12 8 x4 (fun v66 => wx_rI σ b1 10 8 x4 (fun v73 => wx_b (f_X1_warmthBy x3 v66 v73 σ) (fun v74 σ74 => f_X4_fits_77 b1 K14 x2 x3 x4 y0 y0 v74 σ74)))
def f_X4_fits_14 (b1 : Nat)  : Nat → Int32 → Int32 → Int32 → wx_St → Option (Int32 × wx_St)
  | 0, _, _, _, _ => none
  | n + 1, x2, x3, x4, σ =>
  if (σ.2.2.1 b1 9) ≤ x4 then
    some (1, σ)
   else
    wx_rI σ b1 12 8 x4 (fun v34 => wx_rI σ b1 10 8 x4 (fun v41 => wx_b (f_X1_warmthBy x2 v34 v41 σ) (fun v42 σ42 => f_X4_fits_45 b1 (f_X4_fits_14 b1 n) x2 x3 x4 v42 σ42)))
def f_X4_fits (b1 : Nat)  (x2 : Int32) (x3 : Int32) (σ : wx_St) : Option (Int32 × wx_St) :=
  wx_b (f_X1_follow b1 0 σ) (fun v8 σ8 => f_X4_fits_14 b1 2000 x2 x3 0 σ8)
def f_X4_couldBe_24 (b1 : Nat)  (x2 : Int32) (y0 : Int32) (σ : wx_St) : Option (Int32 × wx_St) :=
  wx_z y0 (some (y0, σ))
def f_X4_couldBe_23 (b1 : Nat)  (x2 : Int32) (σ : wx_St) : Option (Int32 × wx_St) :=
  f_X4_couldBe_24 b1 x2 0 σ
def f_X4_couldBe_16 (b1 : Nat)  (x2 : Int32) (y0 : Int32) (σ : wx_St) : Option (Int32 × wx_St) :=
  if y0 = 0 then
    f_X4_couldBe_23 b1 x2 σ
   else
    f_X4_couldBe_24 b1 x2 1 σ
def f_X4_couldBe (b1 : Nat)  (x2 : Int32) (σ : wx_St) : Option (Int32 × wx_St) :=
  wx_o (f_X0_isSuspect b1 x2 σ) (fun v2 => if v2 = 0 then
    f_X4_couldBe_23 b1 x2 σ
   else
    wx_b (f_X4_fits b1 x2 (-6) σ) (fun v13 σ13 => f_X4_couldBe_16 b1 x2 v13 σ13))
def f_X4_couldBeOneOfTwo_51 (b1 : Nat) (K12 : Int32 → Int32 → wx_St → Option (Int32 × wx_St)) (x2 : Int32) (x3 : Int32) (σ : wx_St) : Option (Int32 × wx_St) :=
  K12 x2 (x3 + 1) σ
def f_X4_couldBeOneOfTwo_46 (b1 : Nat) (K12 : Int32 → Int32 → wx_St → Option (Int32 × wx_St)) (x2 : Int32) (x3 : Int32) (y0 : Int32) (σ : wx_St) : Option (Int32 × wx_St) :=
  if y0 = 0 then
    f_X4_couldBeOneOfTwo_51 b1 K12 x2 x3 σ
   else
    some (1, σ)
def f_X4_couldBeOneOfTwo_12 (b1 : Nat)  : Nat → Int32 → Int32 → wx_St → Option (Int32 × wx_St)
  | 0, _, _, _ => none
  | n + 1, x2, x3, σ =>
  if 64 ≤ x3 then
    some (0, σ)
   else
    if x3 = x2 then
      f_X4_couldBeOneOfTwo_51 b1 (f_X4_couldBeOneOfTwo_12 b1 n) x2 x3 σ
     else
      wx_o (f_X0_isSuspect b1 x3 σ) (fun v25 => if v25 = 0 then
        f_X4_couldBeOneOfTwo_51 b1 (f_X4_couldBeOneOfTwo_12 b1 n) x2 x3 σ
       else
        wx_b (f_X4_fits b1 (if x3 < x2 then x3 else x2) (if x2 < x3 then x3 else x2) σ) (fun v43 σ43 => f_X4_couldBeOneOfTwo_46 b1 (f_X4_couldBeOneOfTwo_12 b1 n) x2 x3 v43 σ43))
def f_X4_couldBeOneOfTwo (b1 : Nat)  (x2 : Int32) (σ : wx_St) : Option (Int32 × wx_St) :=
  wx_o (f_X0_isSuspect b1 x2 σ) (fun v2 => if v2 = 0 then
    some (0, σ)
   else
    f_X4_couldBeOneOfTwo_12 b1 2000 x2 0 σ)
def f_X5_bitsOfFloat_53   (x0 : UInt32) (x1 : UInt32) (x2 : Int32) (x3 : Int32) (y0 : Int32) : Option Int32 :=
  some y0
def f_X5_bitsOfFloat_29   (x0 : UInt32) (x1 : UInt32) (x2 : Int32) : Option Int32 :=
  if (8388608 : Int32) ≤ (FP.f2i x1) then
    f_X5_bitsOfFloat_53 x0 x1 x2 (FP.f2i x1) ((x2 <<< (23 &&& 31)) + ((FP.f2i x1) - (8388608 : Int32)))
   else
    f_X5_bitsOfFloat_53 x0 x1 x2 (FP.f2i x1) (FP.f2i x1)
def f_X5_bitsOfFloat_6   : Nat → UInt32 → UInt32 → Int32 → Option Int32
  | 0, _, _, _ => none
  | n + 1, x0, x1, x2 =>
  if x2 ≤ 1 then
    f_X5_bitsOfFloat_29 x0 x1 x2
   else
    if 0 ≤ (Op.cmpValue (FP.fcmp x1 (1258291200 : UInt32)) .g) then
      f_X5_bitsOfFloat_29 x0 x1 x2
     else
      wx_f (FP.fmul x1 FP.fconst2) (fun v21 => (f_X5_bitsOfFloat_6 n) x0 v21 (x2 + (-1)))
def f_X5_bitsOfFloat   (x0 : UInt32) : Option Int32 :=
  f_X5_bitsOfFloat_6 2000 x0 x0 150
def f_X5_placeOf_30   (x0 : Int32) (x1 : Int32) (y0 : Int32) : Option Int32 :=
  some y0
def f_X5_placeOf_20   (x0 : Int32) (x1 : Int32) : Option Int32 :=
  f_X5_placeOf_30 x0 x1 (-1)
def f_X5_placeOf   (x0 : Int32) (x1 : Int32) : Option Int32 :=
  if x0 < 0 then
    f_X5_placeOf_20 x0 x1
   else
    if 8 ≤ x0 then
      f_X5_placeOf_20 x0 x1
     else
      if x1 < 0 then
        f_X5_placeOf_20 x0 x1
       else
        if x1 < 8 then
          f_X5_placeOf_30 x0 x1 ((8 * x0) + x1)
         else
          f_X5_placeOf_20 x0 x1
def f_X5_at_112   (x1 : Int32) (x2 : Int32) (x3 : Int32) (x4 : Int32) (y0 : Int32) (σ : wx_St) : Option (Int32 × wx_St) :=
  some (y0, σ)
def f_X5_at_134   (x1 : Int32) (x2 : Int32) (x3 : Int32) (x4 : Int32) (y0 : Int32) (σ : wx_St) : Option (Int32 × wx_St) :=
  some (y0, σ)
def f_X5_at_126   (x1 : Int32) (x2 : Int32) (x3 : Int32) (x4 : Int32) (y0 : Int32) (σ : wx_St) : Option (Int32 × wx_St) :=
  if y0 = 0 then
    f_X5_at_134 x1 x2 x3 x4 0 σ
   else
    f_X5_at_134 x1 x2 x3 x4 1 σ
def f_X5_at_156   (x1 : Int32) (x2 : Int32) (x3 : Int32) (x4 : Int32) (y0 : Int32) (σ : wx_St) : Option (Int32 × wx_St) :=
  some (y0, σ)
def f_X5_at_148   (x1 : Int32) (x2 : Int32) (x3 : Int32) (x4 : Int32) (y0 : Int32) (σ : wx_St) : Option (Int32 × wx_St) :=
  if y0 = 0 then
    f_X5_at_156 x1 x2 x3 x4 0 σ
   else
    f_X5_at_156 x1 x2 x3 x4 1 σ
def f_X5_at   (x1 : Int32) (x2 : Int32) (x3 : Int32) (σ : wx_St) : Option (Int32 × wx_St) :=
  wx_o (f_X5_placeOf x1 x2) (fun v2 => if 0 ≤ v2 then
    if x3 = 0 then
      wx_rI σ 7 1 64 v2 (fun v65 => some (v65, σ))
     else
      if x3 = 1 then
        wx_rF σ 7 7 64 v2 (fun v76 => wx_o (f_X5_bitsOfFloat v76) (fun v77 => some (v77, σ)))
       else
        if x3 = 2 then
          wx_rF σ 7 7 64 v2 (fun v90 => wx_o (f_X5_readOf v90) (fun v91 => some (v91, σ)))
         else
          if x3 = 3 then
            wx_o (f_X0_isSuspect 7 v2 σ) (fun v101 => if v101 = 0 then
              f_X5_at_112 x1 x2 x3 v2 0 σ
             else
              f_X5_at_112 x1 x2 x3 v2 1 σ)
           else
            if x3 = 4 then
              wx_b (f_X4_couldBe 7 v2 σ) (fun v123 σ123 => f_X5_at_126 x1 x2 x3 v2 v123 σ123)
             else
              if x3 = 5 then
                wx_b (f_X4_couldBeOneOfTwo 7 v2 σ) (fun v145 σ145 => f_X5_at_148 x1 x2 x3 v2 v145 σ145)
               else
                if x3 = 6 then
                  wx_o (f_X0_touchAt 7 v2 σ) (fun v163 => some (v163, σ))
                 else
                  some ((-2), σ)
   else
    some ((-1), σ))
def f_X0_isLive (o : Nat)  (x1 : Int32) (σ : wx_St) : Option Int32 :=
  wx_rI σ o 4 3 x1 (fun v10 => wx_rI σ o 1 64 v10 (fun v11 => wx_rI σ o 5 3 x1 (fun v17 => wx_o (f_X0_isFed o v11 v17 σ) (fun v18 => wx_z v18 (some v18)))))
def f_X0_heated_31 (o : Nat) (K4 : Int64 → Int32 → wx_St → Option Int64) (x1 : Int64) (x3 : Int32) (σ : wx_St) : Option Int64 :=
  K4 x1 (x3 + 1) σ
def f_X0_heated_4 (o : Nat)  : Nat → Int64 → Int32 → wx_St → Option Int64
  | 0, _, _, _ => none
  | n + 1, x1, x3, σ =>
  if (σ.2.2.1 o 3) ≤ x3 then
    some x1
   else
    wx_o (f_X0_isLive o x3 σ) (fun v14 => if v14 = 0 then
      f_X0_heated_31 o (f_X0_heated_4 o n) x1 x3 σ
     else
      wx_rI σ o 4 3 x3 (fun v27 => f_X0_heated_31 o (f_X0_heated_4 o n) (x1 ||| ((1 : Int64) <<< (v27.toInt64 &&& 63))) x3 σ))
def f_X0_heated (o : Nat)   (σ : wx_St) : Option Int64 :=
  f_X0_heated_4 o 2000 (0 : Int64) 0 σ
def f_X0_suspects_24 (o : Nat) (K4 : Int64 → Int32 → wx_St → Option Int64) (x1 : Int64) (x3 : Int32) (σ : wx_St) : Option Int64 :=
  K4 x1 (x3 + 1) σ
def f_X0_suspects_4 (o : Nat)  : Nat → Int64 → Int32 → wx_St → Option Int64
  | 0, _, _, _ => none
  | n + 1, x1, x3, σ =>
  if 64 ≤ x3 then
    some x1
   else
    wx_o (f_X0_isSuspect o x3 σ) (fun v12 => if v12 = 0 then
      f_X0_suspects_24 o (f_X0_suspects_4 o n) x1 x3 σ
     else
      f_X0_suspects_24 o (f_X0_suspects_4 o n) (x1 ||| ((1 : Int64) <<< (x3.toInt64 &&& 63))) x3 σ)
def f_X0_suspects (o : Nat)   (σ : wx_St) : Option Int64 :=
  f_X0_suspects_4 o 2000 (0 : Int64) 0 σ
def f_X0_tracked_25 (o : Nat) (K4 : Int64 → Int32 → wx_St → Option Int64) (x1 : Int64) (x3 : Int32) (σ : wx_St) : Option Int64 :=
  K4 x1 (x3 + 1) σ
def f_X0_tracked_4 (o : Nat)  : Nat → Int64 → Int32 → wx_St → Option Int64
  | 0, _, _, _ => none
  | n + 1, x1, x3, σ =>
  if 64 ≤ x3 then
    some x1
   else
    wx_rI σ o 1 64 x3 (fun v15 => if v15 = 0 then
      f_X0_tracked_25 o (f_X0_tracked_4 o n) x1 x3 σ
     else
      f_X0_tracked_25 o (f_X0_tracked_4 o n) (x1 ||| ((1 : Int64) <<< (x3.toInt64 &&& 63))) x3 σ)
def f_X0_tracked (o : Nat)   (σ : wx_St) : Option Int64 :=
  f_X0_tracked_4 o 2000 (0 : Int64) 0 σ
def f_X0_warmest_28 (o : Nat) (K4 : Int32 → Int32 → wx_St → Option Int32) (x1 : Int32) (x2 : Int32) (σ : wx_St) : Option Int32 :=
  K4 x1 (x2 + 1) σ
def f_X0_warmest_4 (o : Nat)  : Nat → Int32 → Int32 → wx_St → Option Int32
  | 0, _, _, _ => none
  | n + 1, x1, x2, σ =>
  if 64 ≤ x2 then
    some x1
   else
    wx_rF σ o 7 64 x2 (fun v15 => wx_rF σ o 7 64 x1 (fun v21 => if (Op.cmpValue (FP.fcmp v15 v21) .l) ≤ 0 then
      f_X0_warmest_28 o (f_X0_warmest_4 o n) x1 x2 σ
     else
      f_X0_warmest_28 o (f_X0_warmest_4 o n) x2 x2 σ))
def f_X0_warmest (o : Nat)   (σ : wx_St) : Option Int32 :=
  f_X0_warmest_4 o 2000 0 1 σ
def f_X4_fitting_29 (b1 : Nat) (K5 : Int64 → Int32 → wx_St → Option (Int64 × wx_St)) (x2 : Int64) (x4 : Int32) (σ : wx_St) : Option (Int64 × wx_St) :=
  K5 x2 (x4 + 1) σ
def f_X4_fitting_19 (b1 : Nat) (K5 : Int64 → Int32 → wx_St → Option (Int64 × wx_St)) (x2 : Int64) (x4 : Int32) (y0 : Int32) (σ : wx_St) : Option (Int64 × wx_St) :=
  if y0 = 0 then
    f_X4_fitting_29 b1 K5 x2 x4 σ
   else
    f_X4_fitting_29 b1 K5 (x2 ||| ((1 : Int64) <<< (x4.toInt64 &&& 63))) x4 σ
def f_X4_fitting_5 (b1 : Nat)  : Nat → Int64 → Int32 → wx_St → Option (Int64 × wx_St)
  | 0, _, _, _ => none
  | n + 1, x2, x4, σ =>
  if 64 ≤ x4 then
    some (x2, σ)
   else
    wx_b (f_X4_couldBe b1 x4 σ) (fun v16 σ16 => f_X4_fitting_19 b1 (f_X4_fitting_5 b1 n) x2 x4 v16 σ16)
def f_X4_fitting (b1 : Nat)   (σ : wx_St) : Option (Int64 × wx_St) :=
  f_X4_fitting_5 b1 2000 (0 : Int64) 0 σ
def f_X4_pairs_64 (b1 : Nat) (K11 : Int64 → Int32 → Int32 → wx_St → Option (Int32 × wx_St)) (K24 : Int64 → Int32 → Int32 → Int32 → wx_St → Option (Int32 × wx_St)) (x2 : Int64) (x4 : Int32) (x5 : Int32) (x6 : Int32) (σ : wx_St) : Option (Int32 × wx_St) :=
  K24 x2 x4 x5 (x6 + 1) σ
def f_X4_pairs_58 (b1 : Nat) (K11 : Int64 → Int32 → Int32 → wx_St → Option (Int32 × wx_St)) (K24 : Int64 → Int32 → Int32 → Int32 → wx_St → Option (Int32 × wx_St)) (x2 : Int64) (x4 : Int32) (x5 : Int32) (x6 : Int32) (y0 : Int32) (σ : wx_St) : Option (Int32 × wx_St) :=
  if y0 = 0 then
    f_X4_pairs_64 b1 K11 K24 x2 x4 x5 x6 σ
   else
    f_X4_pairs_64 b1 K11 K24 x2 (x4 + 1) x5 x6 σ
def f_X4_pairs_24 (b1 : Nat) (K11 : Int64 → Int32 → Int32 → wx_St → Option (Int32 × wx_St)) : Nat → Int64 → Int32 → Int32 → Int32 → wx_St → Option (Int32 × wx_St)
  | 0, _, _, _, _, _ => none
  | n + 1, x2, x4, x5, x6, σ =>
  if 64 ≤ x6 then
    K11 x2 x4 (x5 + 1) σ
   else
    wx_o (f_X5_isIn x2 x5) (fun v34 => if v34 = 0 then
      f_X4_pairs_64 b1 K11 (f_X4_pairs_24 b1 K11 n) x2 x4 x5 x6 σ
     else
      wx_o (f_X5_isIn x2 x6) (fun v43 => if v43 = 0 then
        f_X4_pairs_64 b1 K11 (f_X4_pairs_24 b1 K11 n) x2 x4 x5 x6 σ
       else
        wx_b (f_X4_fits b1 x5 x6 σ) (fun v55 σ55 => f_X4_pairs_58 b1 K11 (f_X4_pairs_24 b1 K11 n) x2 x4 x5 x6 v55 σ55)))
def f_X4_pairs_11 (b1 : Nat)  : Nat → Int64 → Int32 → Int32 → wx_St → Option (Int32 × wx_St)
  | 0, _, _, _, _ => none
  | n + 1, x2, x4, x5, σ =>
  if 64 ≤ x5 then
    some (x4, σ)
   else
    f_X4_pairs_24 b1 (f_X4_pairs_11 b1 n) 2000 x2 x4 x5 (x5 + 1) σ
def f_X4_pairs (b1 : Nat)   (σ : wx_St) : Option (Int32 × wx_St) :=
  wx_o (f_X0_suspects b1 σ) (fun v1 => f_X4_pairs_11 b1 2000 v1 0 0 σ)
def f_X5_count_144   (x1 : Int32) (y0 : Int64) (σ : wx_St) : Option (Int32 × wx_St) :=
  wx_o (f_J13_bitCount_95d88 y0) (fun v144 => some (v144, σ))
def f_X5_count_159   (x1 : Int32) (y0 : Int32) (σ : wx_St) : Option (Int32 × wx_St) :=
  some (y0, σ)
def f_X5_count   (x1 : Int32) (σ : wx_St) : Option (Int32 × wx_St) :=
  if x1 = 0 then
    some ((σ.2.2.1 7 6), σ)
   else
    if x1 = 1 then
      some ((σ.2.2.1 7 3), σ)
     else
      if x1 = 2 then
        wx_o (f_X0_heated 7 σ) (fun v96 => wx_o (f_J13_bitCount_95d88 v96) (fun v99 => some (v99, σ)))
       else
        if x1 = 3 then
          some ((σ.2.2.1 7 9), σ)
         else
          if x1 = 4 then
            wx_o (f_X0_tracked 7 σ) (fun v115 => wx_o (f_J13_bitCount_95d88 v115) (fun v118 => some (v118, σ)))
           else
            if x1 = 5 then
              wx_o (f_X0_suspects 7 σ) (fun v126 => wx_o (f_J13_bitCount_95d88 v126) (fun v129 => some (v129, σ)))
             else
              if x1 = 6 then
                wx_b (f_X4_fitting 7 σ) (fun v141 σ141 => f_X5_count_144 x1 v141 σ141)
               else
                if x1 = 7 then
                  wx_b (f_X4_pairs 7 σ) (fun v156 σ156 => f_X5_count_159 x1 v156 σ156)
                 else
                  if x1 = 8 then
                    wx_o (f_X0_warmest 7 σ) (fun v164 => some (v164, σ))
                   else
                    if x1 = 9 then
                      wx_rI σ 7 0 4 (x1 - 9) (fun v179 => some (v179, σ))
                     else
                      if x1 = 10 then
                        wx_rI σ 7 0 4 (x1 - 9) (fun v179 => some (v179, σ))
                       else
                        if x1 = 11 then
                          wx_rI σ 7 0 4 (x1 - 9) (fun v179 => some (v179, σ))
                         else
                          if x1 = 12 then
                            wx_rI σ 7 0 4 (x1 - 9) (fun v179 => some (v179, σ))
                           else
                            if x1 = 13 then
                              some ((σ.2.2.1 15 1), σ)
                             else
                              if x1 = 14 then
                                some ((σ.2.2.1 14 1), σ)
                               else
                                some ((-2), σ)
def f_X0_placesOf_23 (o : Nat) (K4 : Int32 → Int32 → Int32 → wx_St → Option Int32) (x1 : Int32) (x2 : Int32) (x3 : Int32) (σ : wx_St) : Option Int32 :=
  K4 x1 x2 (x3 + 1) σ
def f_X0_placesOf_4 (o : Nat)  : Nat → Int32 → Int32 → Int32 → wx_St → Option Int32
  | 0, _, _, _, _ => none
  | n + 1, x1, x2, x3, σ =>
  if 64 ≤ x3 then
    some x2
   else
    wx_rI σ o 1 64 x3 (fun v15 => if v15 = x1 then
      f_X0_placesOf_23 o (f_X0_placesOf_4 o n) x1 (x2 + 1) x3 σ
     else
      f_X0_placesOf_23 o (f_X0_placesOf_4 o n) x1 x2 x3 σ)
def f_X0_placesOf (o : Nat)  (x1 : Int32) (σ : wx_St) : Option Int32 :=
  f_X0_placesOf_4 o 2000 x1 0 0 σ
def f_X0_warmthOf_29 (o : Nat) (K4 : Int32 → UInt32 → Int32 → wx_St → Option UInt32) (x1 : Int32) (x2 : UInt32) (x3 : Int32) (σ : wx_St) : Option UInt32 :=
  K4 x1 x2 (x3 + 1) σ
def f_X0_warmthOf_4 (o : Nat)  : Nat → Int32 → UInt32 → Int32 → wx_St → Option UInt32
  | 0, _, _, _, _ => none
  | n + 1, x1, x2, x3, σ =>
  if 64 ≤ x3 then
    some x2
   else
    wx_rI σ o 1 64 x3 (fun v15 => if v15 = x1 then
      wx_rF σ o 7 64 x3 (fun v26 => wx_f (FP.fadd x2 v26) (fun v27 => f_X0_warmthOf_29 o (f_X0_warmthOf_4 o n) x1 v27 x3 σ))
     else
      f_X0_warmthOf_29 o (f_X0_warmthOf_4 o n) x1 x2 x3 σ)
def f_X0_warmthOf (o : Nat)  (x1 : Int32) (σ : wx_St) : Option UInt32 :=
  f_X0_warmthOf_4 o 2000 x1 FP.fconst0 0 σ
def f_X5_isNet_16   (x0 : Int32) (y0 : Int32) : Option Int32 :=
  wx_z y0 (some y0)
def f_X5_isNet_15   (x0 : Int32) : Option Int32 :=
  f_X5_isNet_16 x0 0
def f_X5_isNet   (x0 : Int32) : Option Int32 :=
  if x0 < 1 then
    f_X5_isNet_15 x0
   else
    if 7 < x0 then
      f_X5_isNet_15 x0
     else
      f_X5_isNet_16 x0 1
def f_X5_ofNet   (x1 : Int32) (x2 : Int32) (σ : wx_St) : Option Int32 :=
  wx_o (f_X5_isNet x1) (fun v1 => if v1 = 0 then
    some (-1)
   else
    if x2 = 0 then
      wx_o (f_X0_placesOf 7 x1 σ) (fun v41 => some v41)
     else
      if x2 = 1 then
        wx_rI σ 7 2 8 x1 (fun v53 => some v53)
       else
        if x2 = 2 then
          wx_o (f_X0_warmthOf 7 x1 σ) (fun v60 => wx_o (f_X5_bitsOfFloat v60) (fun v63 => some v63))
         else
          some (-2))
variable {p : Program} {l : Launch} {e : Env} {s : State} {m : MethodId} {args : Array Value} {below : List Frame} {meth : Method} {c : Code} {D : va_G} {ad : Nat → Nat → Nat} {rd : Nat → Nat} {ca : Nat → ClassId} {A : Nat → Prop}
theorem k_J13_bitCount_95d88_w0 : Cond.constantLong RJ13 314 (6148914691236517205) ∈ wsJ13_bitCount_95d88 := by decide +kernel
theorem k_J13_bitCount_95d88_w1 : Cond.constantLong RJ13 316 (3689348814741910323) ∈ wsJ13_bitCount_95d88 := by decide +kernel
theorem k_J13_bitCount_95d88_w2 : Cond.constantLong RJ13 318 (1085102592571150095) ∈ wsJ13_bitCount_95d88 := by decide +kernel
set_option maxRecDepth 20000 in
set_option maxHeartbeats 4000000 in
theorem b_J13_bitCount_95d88_0 (B : wx_B p s m args meth c cJ13_bitCount_95d88 2 (some .int) wsJ13_bitCount_95d88 RJ13 D ad ca A)    {r : Int32} {σ : wx_St}  {x0 : Int64}   (h : f_J13_bitCount_95d88 x0 = some r) {H : Heap} {locs : List Loc} (Z : wx_Z D ad rd ca A σ H) (hS : va_S A s.heap H locs) {ls : Array Slot} (hl : lv_has ls 2 [(0, .long x0)]) : W p l e ({ frames := 0, cells := 0, slots := 0, locals := 0 } : Room) s m args below meth c H locs 0 0 (MQ below (wx_Q D ad rd ca A (some (.int r)) σ) args s 0 0 A) (F0 m 0 ls []) := by
  obtain ⟨hx, hb, hml, hr, hts, hown, hlk, hC, hA⟩ := id B
  unfold f_J13_bitCount_95d88 at h
  refine lv_lload_n hx hb dJ13_bitCount_95d88_0 rfl (lv_at hl 0 rfl) ?_
  refine lv_lload_n hx hb dJ13_bitCount_95d88_1 rfl (lv_at hl 0 rfl) ?_
  refine lv_iconst (v := 1) hx hb dJ13_bitCount_95d88_2 (by decide) ?_
  refine lv_lushr (v := (x0.toUInt64 >>> ((1 : Int32).toInt64.toUInt64 &&& Int64.toUInt64 63)).toInt64) hx hb dJ13_bitCount_95d88_3 rfl ?_
  refine lv_ldc2 hx hb hown (hts _ k_J13_bitCount_95d88_w0) dJ13_bitCount_95d88_4 ?_
  refine lv_land hx hb dJ13_bitCount_95d88_7 ?_
  refine lv_lsub hx hb dJ13_bitCount_95d88_8 ?_
  refine lv_lstore_n (lv' := [(0, .long (x0 - (((x0.toUInt64 >>> ((1 : Int32).toInt64.toUInt64 &&& Int64.toUInt64 63)).toInt64) &&& (6148914691236517205 : Int64))))]) hx hb dJ13_bitCount_95d88_9 rfl hl (by decide) rfl (fun ls hl => ?_)
  refine lv_lload_n hx hb dJ13_bitCount_95d88_10 rfl (lv_at hl 0 rfl) ?_
  refine lv_ldc2 hx hb hown (hts _ k_J13_bitCount_95d88_w1) dJ13_bitCount_95d88_11 ?_
  refine lv_land hx hb dJ13_bitCount_95d88_14 ?_
  refine lv_lload_n hx hb dJ13_bitCount_95d88_15 rfl (lv_at hl 0 rfl) ?_
  refine lv_iconst (v := 2) hx hb dJ13_bitCount_95d88_16 (by decide) ?_
  refine lv_lushr (v := ((x0 - (((x0.toUInt64 >>> ((1 : Int32).toInt64.toUInt64 &&& Int64.toUInt64 63)).toInt64) &&& (6148914691236517205 : Int64))).toUInt64 >>> ((2 : Int32).toInt64.toUInt64 &&& Int64.toUInt64 63)).toInt64) hx hb dJ13_bitCount_95d88_17 rfl ?_
  refine lv_ldc2 hx hb hown (hts _ k_J13_bitCount_95d88_w1) dJ13_bitCount_95d88_18 ?_
  refine lv_land hx hb dJ13_bitCount_95d88_21 ?_
  refine lv_ladd hx hb dJ13_bitCount_95d88_22 ?_
  refine lv_lstore_n (lv' := [(0, .long (((x0 - (((x0.toUInt64 >>> ((1 : Int32).toInt64.toUInt64 &&& Int64.toUInt64 63)).toInt64) &&& (6148914691236517205 : Int64))) &&& (3689348814741910323 : Int64)) + ((((x0 - (((x0.toUInt64 >>> ((1 : Int32).toInt64.toUInt64 &&& Int64.toUInt64 63)).toInt64) &&& (6148914691236517205 : Int64))).toUInt64 >>> ((2 : Int32).toInt64.toUInt64 &&& Int64.toUInt64 63)).toInt64) &&& (3689348814741910323 : Int64))))]) hx hb dJ13_bitCount_95d88_23 rfl hl (by decide) rfl (fun ls hl => ?_)
  refine lv_lload_n hx hb dJ13_bitCount_95d88_24 rfl (lv_at hl 0 rfl) ?_
  refine lv_lload_n hx hb dJ13_bitCount_95d88_25 rfl (lv_at hl 0 rfl) ?_
  refine lv_iconst (v := 4) hx hb dJ13_bitCount_95d88_26 (by decide) ?_
  refine lv_lushr (v := ((((x0 - (((x0.toUInt64 >>> ((1 : Int32).toInt64.toUInt64 &&& Int64.toUInt64 63)).toInt64) &&& (6148914691236517205 : Int64))) &&& (3689348814741910323 : Int64)) + ((((x0 - (((x0.toUInt64 >>> ((1 : Int32).toInt64.toUInt64 &&& Int64.toUInt64 63)).toInt64) &&& (6148914691236517205 : Int64))).toUInt64 >>> ((2 : Int32).toInt64.toUInt64 &&& Int64.toUInt64 63)).toInt64) &&& (3689348814741910323 : Int64))).toUInt64 >>> ((4 : Int32).toInt64.toUInt64 &&& Int64.toUInt64 63)).toInt64) hx hb dJ13_bitCount_95d88_27 rfl ?_
  refine lv_ladd hx hb dJ13_bitCount_95d88_28 ?_
  refine lv_ldc2 hx hb hown (hts _ k_J13_bitCount_95d88_w2) dJ13_bitCount_95d88_29 ?_
  refine lv_land hx hb dJ13_bitCount_95d88_32 ?_
  refine lv_lstore_n (lv' := [(0, .long (((((x0 - (((x0.toUInt64 >>> ((1 : Int32).toInt64.toUInt64 &&& Int64.toUInt64 63)).toInt64) &&& (6148914691236517205 : Int64))) &&& (3689348814741910323 : Int64)) + ((((x0 - (((x0.toUInt64 >>> ((1 : Int32).toInt64.toUInt64 &&& Int64.toUInt64 63)).toInt64) &&& (6148914691236517205 : Int64))).toUInt64 >>> ((2 : Int32).toInt64.toUInt64 &&& Int64.toUInt64 63)).toInt64) &&& (3689348814741910323 : Int64))) + (((((x0 - (((x0.toUInt64 >>> ((1 : Int32).toInt64.toUInt64 &&& Int64.toUInt64 63)).toInt64) &&& (6148914691236517205 : Int64))) &&& (3689348814741910323 : Int64)) + ((((x0 - (((x0.toUInt64 >>> ((1 : Int32).toInt64.toUInt64 &&& Int64.toUInt64 63)).toInt64) &&& (6148914691236517205 : Int64))).toUInt64 >>> ((2 : Int32).toInt64.toUInt64 &&& Int64.toUInt64 63)).toInt64) &&& (3689348814741910323 : Int64))).toUInt64 >>> ((4 : Int32).toInt64.toUInt64 &&& Int64.toUInt64 63)).toInt64)) &&& (1085102592571150095 : Int64)))]) hx hb dJ13_bitCount_95d88_33 rfl hl (by decide) rfl (fun ls hl => ?_)
  refine lv_lload_n hx hb dJ13_bitCount_95d88_34 rfl (lv_at hl 0 rfl) ?_
  refine lv_lload_n hx hb dJ13_bitCount_95d88_35 rfl (lv_at hl 0 rfl) ?_
  refine lv_bipush (v := 8) hx hb dJ13_bitCount_95d88_36 (by decide) ?_
  refine lv_lushr (v := ((((((x0 - (((x0.toUInt64 >>> ((1 : Int32).toInt64.toUInt64 &&& Int64.toUInt64 63)).toInt64) &&& (6148914691236517205 : Int64))) &&& (3689348814741910323 : Int64)) + ((((x0 - (((x0.toUInt64 >>> ((1 : Int32).toInt64.toUInt64 &&& Int64.toUInt64 63)).toInt64) &&& (6148914691236517205 : Int64))).toUInt64 >>> ((2 : Int32).toInt64.toUInt64 &&& Int64.toUInt64 63)).toInt64) &&& (3689348814741910323 : Int64))) + (((((x0 - (((x0.toUInt64 >>> ((1 : Int32).toInt64.toUInt64 &&& Int64.toUInt64 63)).toInt64) &&& (6148914691236517205 : Int64))) &&& (3689348814741910323 : Int64)) + ((((x0 - (((x0.toUInt64 >>> ((1 : Int32).toInt64.toUInt64 &&& Int64.toUInt64 63)).toInt64) &&& (6148914691236517205 : Int64))).toUInt64 >>> ((2 : Int32).toInt64.toUInt64 &&& Int64.toUInt64 63)).toInt64) &&& (3689348814741910323 : Int64))).toUInt64 >>> ((4 : Int32).toInt64.toUInt64 &&& Int64.toUInt64 63)).toInt64)) &&& (1085102592571150095 : Int64)).toUInt64 >>> ((8 : Int32).toInt64.toUInt64 &&& Int64.toUInt64 63)).toInt64) hx hb dJ13_bitCount_95d88_38 rfl ?_
  refine lv_ladd hx hb dJ13_bitCount_95d88_39 ?_
  refine lv_lstore_n (lv' := [(0, .long ((((((x0 - (((x0.toUInt64 >>> ((1 : Int32).toInt64.toUInt64 &&& Int64.toUInt64 63)).toInt64) &&& (6148914691236517205 : Int64))) &&& (3689348814741910323 : Int64)) + ((((x0 - (((x0.toUInt64 >>> ((1 : Int32).toInt64.toUInt64 &&& Int64.toUInt64 63)).toInt64) &&& (6148914691236517205 : Int64))).toUInt64 >>> ((2 : Int32).toInt64.toUInt64 &&& Int64.toUInt64 63)).toInt64) &&& (3689348814741910323 : Int64))) + (((((x0 - (((x0.toUInt64 >>> ((1 : Int32).toInt64.toUInt64 &&& Int64.toUInt64 63)).toInt64) &&& (6148914691236517205 : Int64))) &&& (3689348814741910323 : Int64)) + ((((x0 - (((x0.toUInt64 >>> ((1 : Int32).toInt64.toUInt64 &&& Int64.toUInt64 63)).toInt64) &&& (6148914691236517205 : Int64))).toUInt64 >>> ((2 : Int32).toInt64.toUInt64 &&& Int64.toUInt64 63)).toInt64) &&& (3689348814741910323 : Int64))).toUInt64 >>> ((4 : Int32).toInt64.toUInt64 &&& Int64.toUInt64 63)).toInt64)) &&& (1085102592571150095 : Int64)) + (((((((x0 - (((x0.toUInt64 >>> ((1 : Int32).toInt64.toUInt64 &&& Int64.toUInt64 63)).toInt64) &&& (6148914691236517205 : Int64))) &&& (3689348814741910323 : Int64)) + ((((x0 - (((x0.toUInt64 >>> ((1 : Int32).toInt64.toUInt64 &&& Int64.toUInt64 63)).toInt64) &&& (6148914691236517205 : Int64))).toUInt64 >>> ((2 : Int32).toInt64.toUInt64 &&& Int64.toUInt64 63)).toInt64) &&& (3689348814741910323 : Int64))) + (((((x0 - (((x0.toUInt64 >>> ((1 : Int32).toInt64.toUInt64 &&& Int64.toUInt64 63)).toInt64) &&& (6148914691236517205 : Int64))) &&& (3689348814741910323 : Int64)) + ((((x0 - (((x0.toUInt64 >>> ((1 : Int32).toInt64.toUInt64 &&& Int64.toUInt64 63)).toInt64) &&& (6148914691236517205 : Int64))).toUInt64 >>> ((2 : Int32).toInt64.toUInt64 &&& Int64.toUInt64 63)).toInt64) &&& (3689348814741910323 : Int64))).toUInt64 >>> ((4 : Int32).toInt64.toUInt64 &&& Int64.toUInt64 63)).toInt64)) &&& (1085102592571150095 : Int64)).toUInt64 >>> ((8 : Int32).toInt64.toUInt64 &&& Int64.toUInt64 63)).toInt64)))]) hx hb dJ13_bitCount_95d88_40 rfl hl (by decide) rfl (fun ls hl => ?_)
  refine lv_lload_n hx hb dJ13_bitCount_95d88_41 rfl (lv_at hl 0 rfl) ?_
  refine lv_lload_n hx hb dJ13_bitCount_95d88_42 rfl (lv_at hl 0 rfl) ?_
  refine lv_bipush (v := 16) hx hb dJ13_bitCount_95d88_43 (by decide) ?_
  refine lv_lushr (v := (((((((x0 - (((x0.toUInt64 >>> ((1 : Int32).toInt64.toUInt64 &&& Int64.toUInt64 63)).toInt64) &&& (6148914691236517205 : Int64))) &&& (3689348814741910323 : Int64)) + ((((x0 - (((x0.toUInt64 >>> ((1 : Int32).toInt64.toUInt64 &&& Int64.toUInt64 63)).toInt64) &&& (6148914691236517205 : Int64))).toUInt64 >>> ((2 : Int32).toInt64.toUInt64 &&& Int64.toUInt64 63)).toInt64) &&& (3689348814741910323 : Int64))) + (((((x0 - (((x0.toUInt64 >>> ((1 : Int32).toInt64.toUInt64 &&& Int64.toUInt64 63)).toInt64) &&& (6148914691236517205 : Int64))) &&& (3689348814741910323 : Int64)) + ((((x0 - (((x0.toUInt64 >>> ((1 : Int32).toInt64.toUInt64 &&& Int64.toUInt64 63)).toInt64) &&& (6148914691236517205 : Int64))).toUInt64 >>> ((2 : Int32).toInt64.toUInt64 &&& Int64.toUInt64 63)).toInt64) &&& (3689348814741910323 : Int64))).toUInt64 >>> ((4 : Int32).toInt64.toUInt64 &&& Int64.toUInt64 63)).toInt64)) &&& (1085102592571150095 : Int64)) + (((((((x0 - (((x0.toUInt64 >>> ((1 : Int32).toInt64.toUInt64 &&& Int64.toUInt64 63)).toInt64) &&& (6148914691236517205 : Int64))) &&& (3689348814741910323 : Int64)) + ((((x0 - (((x0.toUInt64 >>> ((1 : Int32).toInt64.toUInt64 &&& Int64.toUInt64 63)).toInt64) &&& (6148914691236517205 : Int64))).toUInt64 >>> ((2 : Int32).toInt64.toUInt64 &&& Int64.toUInt64 63)).toInt64) &&& (3689348814741910323 : Int64))) + (((((x0 - (((x0.toUInt64 >>> ((1 : Int32).toInt64.toUInt64 &&& Int64.toUInt64 63)).toInt64) &&& (6148914691236517205 : Int64))) &&& (3689348814741910323 : Int64)) + ((((x0 - (((x0.toUInt64 >>> ((1 : Int32).toInt64.toUInt64 &&& Int64.toUInt64 63)).toInt64) &&& (6148914691236517205 : Int64))).toUInt64 >>> ((2 : Int32).toInt64.toUInt64 &&& Int64.toUInt64 63)).toInt64) &&& (3689348814741910323 : Int64))).toUInt64 >>> ((4 : Int32).toInt64.toUInt64 &&& Int64.toUInt64 63)).toInt64)) &&& (1085102592571150095 : Int64)).toUInt64 >>> ((8 : Int32).toInt64.toUInt64 &&& Int64.toUInt64 63)).toInt64)).toUInt64 >>> ((16 : Int32).toInt64.toUInt64 &&& Int64.toUInt64 63)).toInt64) hx hb dJ13_bitCount_95d88_45 rfl ?_
  refine lv_ladd hx hb dJ13_bitCount_95d88_46 ?_
  refine lv_lstore_n (lv' := [(0, .long (((((((x0 - (((x0.toUInt64 >>> ((1 : Int32).toInt64.toUInt64 &&& Int64.toUInt64 63)).toInt64) &&& (6148914691236517205 : Int64))) &&& (3689348814741910323 : Int64)) + ((((x0 - (((x0.toUInt64 >>> ((1 : Int32).toInt64.toUInt64 &&& Int64.toUInt64 63)).toInt64) &&& (6148914691236517205 : Int64))).toUInt64 >>> ((2 : Int32).toInt64.toUInt64 &&& Int64.toUInt64 63)).toInt64) &&& (3689348814741910323 : Int64))) + (((((x0 - (((x0.toUInt64 >>> ((1 : Int32).toInt64.toUInt64 &&& Int64.toUInt64 63)).toInt64) &&& (6148914691236517205 : Int64))) &&& (3689348814741910323 : Int64)) + ((((x0 - (((x0.toUInt64 >>> ((1 : Int32).toInt64.toUInt64 &&& Int64.toUInt64 63)).toInt64) &&& (6148914691236517205 : Int64))).toUInt64 >>> ((2 : Int32).toInt64.toUInt64 &&& Int64.toUInt64 63)).toInt64) &&& (3689348814741910323 : Int64))).toUInt64 >>> ((4 : Int32).toInt64.toUInt64 &&& Int64.toUInt64 63)).toInt64)) &&& (1085102592571150095 : Int64)) + (((((((x0 - (((x0.toUInt64 >>> ((1 : Int32).toInt64.toUInt64 &&& Int64.toUInt64 63)).toInt64) &&& (6148914691236517205 : Int64))) &&& (3689348814741910323 : Int64)) + ((((x0 - (((x0.toUInt64 >>> ((1 : Int32).toInt64.toUInt64 &&& Int64.toUInt64 63)).toInt64) &&& (6148914691236517205 : Int64))).toUInt64 >>> ((2 : Int32).toInt64.toUInt64 &&& Int64.toUInt64 63)).toInt64) &&& (3689348814741910323 : Int64))) + (((((x0 - (((x0.toUInt64 >>> ((1 : Int32).toInt64.toUInt64 &&& Int64.toUInt64 63)).toInt64) &&& (6148914691236517205 : Int64))) &&& (3689348814741910323 : Int64)) + ((((x0 - (((x0.toUInt64 >>> ((1 : Int32).toInt64.toUInt64 &&& Int64.toUInt64 63)).toInt64) &&& (6148914691236517205 : Int64))).toUInt64 >>> ((2 : Int32).toInt64.toUInt64 &&& Int64.toUInt64 63)).toInt64) &&& (3689348814741910323 : Int64))).toUInt64 >>> ((4 : Int32).toInt64.toUInt64 &&& Int64.toUInt64 63)).toInt64)) &&& (1085102592571150095 : Int64)).toUInt64 >>> ((8 : Int32).toInt64.toUInt64 &&& Int64.toUInt64 63)).toInt64)) + ((((((((x0 - (((x0.toUInt64 >>> ((1 : Int32).toInt64.toUInt64 &&& Int64.toUInt64 63)).toInt64) &&& (6148914691236517205 : Int64))) &&& (3689348814741910323 : Int64)) + ((((x0 - (((x0.toUInt64 >>> ((1 : Int32).toInt64.toUInt64 &&& Int64.toUInt64 63)).toInt64) &&& (6148914691236517205 : Int64))).toUInt64 >>> ((2 : Int32).toInt64.toUInt64 &&& Int64.toUInt64 63)).toInt64) &&& (3689348814741910323 : Int64))) + (((((x0 - (((x0.toUInt64 >>> ((1 : Int32).toInt64.toUInt64 &&& Int64.toUInt64 63)).toInt64) &&& (6148914691236517205 : Int64))) &&& (3689348814741910323 : Int64)) + ((((x0 - (((x0.toUInt64 >>> ((1 : Int32).toInt64.toUInt64 &&& Int64.toUInt64 63)).toInt64) &&& (6148914691236517205 : Int64))).toUInt64 >>> ((2 : Int32).toInt64.toUInt64 &&& Int64.toUInt64 63)).toInt64) &&& (3689348814741910323 : Int64))).toUInt64 >>> ((4 : Int32).toInt64.toUInt64 &&& Int64.toUInt64 63)).toInt64)) &&& (1085102592571150095 : Int64)) + (((((((x0 - (((x0.toUInt64 >>> ((1 : Int32).toInt64.toUInt64 &&& Int64.toUInt64 63)).toInt64) &&& (6148914691236517205 : Int64))) &&& (3689348814741910323 : Int64)) + ((((x0 - (((x0.toUInt64 >>> ((1 : Int32).toInt64.toUInt64 &&& Int64.toUInt64 63)).toInt64) &&& (6148914691236517205 : Int64))).toUInt64 >>> ((2 : Int32).toInt64.toUInt64 &&& Int64.toUInt64 63)).toInt64) &&& (3689348814741910323 : Int64))) + (((((x0 - (((x0.toUInt64 >>> ((1 : Int32).toInt64.toUInt64 &&& Int64.toUInt64 63)).toInt64) &&& (6148914691236517205 : Int64))) &&& (3689348814741910323 : Int64)) + ((((x0 - (((x0.toUInt64 >>> ((1 : Int32).toInt64.toUInt64 &&& Int64.toUInt64 63)).toInt64) &&& (6148914691236517205 : Int64))).toUInt64 >>> ((2 : Int32).toInt64.toUInt64 &&& Int64.toUInt64 63)).toInt64) &&& (3689348814741910323 : Int64))).toUInt64 >>> ((4 : Int32).toInt64.toUInt64 &&& Int64.toUInt64 63)).toInt64)) &&& (1085102592571150095 : Int64)).toUInt64 >>> ((8 : Int32).toInt64.toUInt64 &&& Int64.toUInt64 63)).toInt64)).toUInt64 >>> ((16 : Int32).toInt64.toUInt64 &&& Int64.toUInt64 63)).toInt64)))]) hx hb dJ13_bitCount_95d88_47 rfl hl (by decide) rfl (fun ls hl => ?_)
  refine lv_lload_n hx hb dJ13_bitCount_95d88_48 rfl (lv_at hl 0 rfl) ?_
  refine lv_lload_n hx hb dJ13_bitCount_95d88_49 rfl (lv_at hl 0 rfl) ?_
  refine lv_bipush (v := 32) hx hb dJ13_bitCount_95d88_50 (by decide) ?_
  refine lv_lushr (v := ((((((((x0 - (((x0.toUInt64 >>> ((1 : Int32).toInt64.toUInt64 &&& Int64.toUInt64 63)).toInt64) &&& (6148914691236517205 : Int64))) &&& (3689348814741910323 : Int64)) + ((((x0 - (((x0.toUInt64 >>> ((1 : Int32).toInt64.toUInt64 &&& Int64.toUInt64 63)).toInt64) &&& (6148914691236517205 : Int64))).toUInt64 >>> ((2 : Int32).toInt64.toUInt64 &&& Int64.toUInt64 63)).toInt64) &&& (3689348814741910323 : Int64))) + (((((x0 - (((x0.toUInt64 >>> ((1 : Int32).toInt64.toUInt64 &&& Int64.toUInt64 63)).toInt64) &&& (6148914691236517205 : Int64))) &&& (3689348814741910323 : Int64)) + ((((x0 - (((x0.toUInt64 >>> ((1 : Int32).toInt64.toUInt64 &&& Int64.toUInt64 63)).toInt64) &&& (6148914691236517205 : Int64))).toUInt64 >>> ((2 : Int32).toInt64.toUInt64 &&& Int64.toUInt64 63)).toInt64) &&& (3689348814741910323 : Int64))).toUInt64 >>> ((4 : Int32).toInt64.toUInt64 &&& Int64.toUInt64 63)).toInt64)) &&& (1085102592571150095 : Int64)) + (((((((x0 - (((x0.toUInt64 >>> ((1 : Int32).toInt64.toUInt64 &&& Int64.toUInt64 63)).toInt64) &&& (6148914691236517205 : Int64))) &&& (3689348814741910323 : Int64)) + ((((x0 - (((x0.toUInt64 >>> ((1 : Int32).toInt64.toUInt64 &&& Int64.toUInt64 63)).toInt64) &&& (6148914691236517205 : Int64))).toUInt64 >>> ((2 : Int32).toInt64.toUInt64 &&& Int64.toUInt64 63)).toInt64) &&& (3689348814741910323 : Int64))) + (((((x0 - (((x0.toUInt64 >>> ((1 : Int32).toInt64.toUInt64 &&& Int64.toUInt64 63)).toInt64) &&& (6148914691236517205 : Int64))) &&& (3689348814741910323 : Int64)) + ((((x0 - (((x0.toUInt64 >>> ((1 : Int32).toInt64.toUInt64 &&& Int64.toUInt64 63)).toInt64) &&& (6148914691236517205 : Int64))).toUInt64 >>> ((2 : Int32).toInt64.toUInt64 &&& Int64.toUInt64 63)).toInt64) &&& (3689348814741910323 : Int64))).toUInt64 >>> ((4 : Int32).toInt64.toUInt64 &&& Int64.toUInt64 63)).toInt64)) &&& (1085102592571150095 : Int64)).toUInt64 >>> ((8 : Int32).toInt64.toUInt64 &&& Int64.toUInt64 63)).toInt64)) + ((((((((x0 - (((x0.toUInt64 >>> ((1 : Int32).toInt64.toUInt64 &&& Int64.toUInt64 63)).toInt64) &&& (6148914691236517205 : Int64))) &&& (3689348814741910323 : Int64)) + ((((x0 - (((x0.toUInt64 >>> ((1 : Int32).toInt64.toUInt64 &&& Int64.toUInt64 63)).toInt64) &&& (6148914691236517205 : Int64))).toUInt64 >>> ((2 : Int32).toInt64.toUInt64 &&& Int64.toUInt64 63)).toInt64) &&& (3689348814741910323 : Int64))) + (((((x0 - (((x0.toUInt64 >>> ((1 : Int32).toInt64.toUInt64 &&& Int64.toUInt64 63)).toInt64) &&& (6148914691236517205 : Int64))) &&& (3689348814741910323 : Int64)) + ((((x0 - (((x0.toUInt64 >>> ((1 : Int32).toInt64.toUInt64 &&& Int64.toUInt64 63)).toInt64) &&& (6148914691236517205 : Int64))).toUInt64 >>> ((2 : Int32).toInt64.toUInt64 &&& Int64.toUInt64 63)).toInt64) &&& (3689348814741910323 : Int64))).toUInt64 >>> ((4 : Int32).toInt64.toUInt64 &&& Int64.toUInt64 63)).toInt64)) &&& (1085102592571150095 : Int64)) + (((((((x0 - (((x0.toUInt64 >>> ((1 : Int32).toInt64.toUInt64 &&& Int64.toUInt64 63)).toInt64) &&& (6148914691236517205 : Int64))) &&& (3689348814741910323 : Int64)) + ((((x0 - (((x0.toUInt64 >>> ((1 : Int32).toInt64.toUInt64 &&& Int64.toUInt64 63)).toInt64) &&& (6148914691236517205 : Int64))).toUInt64 >>> ((2 : Int32).toInt64.toUInt64 &&& Int64.toUInt64 63)).toInt64) &&& (3689348814741910323 : Int64))) + (((((x0 - (((x0.toUInt64 >>> ((1 : Int32).toInt64.toUInt64 &&& Int64.toUInt64 63)).toInt64) &&& (6148914691236517205 : Int64))) &&& (3689348814741910323 : Int64)) + ((((x0 - (((x0.toUInt64 >>> ((1 : Int32).toInt64.toUInt64 &&& Int64.toUInt64 63)).toInt64) &&& (6148914691236517205 : Int64))).toUInt64 >>> ((2 : Int32).toInt64.toUInt64 &&& Int64.toUInt64 63)).toInt64) &&& (3689348814741910323 : Int64))).toUInt64 >>> ((4 : Int32).toInt64.toUInt64 &&& Int64.toUInt64 63)).toInt64)) &&& (1085102592571150095 : Int64)).toUInt64 >>> ((8 : Int32).toInt64.toUInt64 &&& Int64.toUInt64 63)).toInt64)).toUInt64 >>> ((16 : Int32).toInt64.toUInt64 &&& Int64.toUInt64 63)).toInt64)).toUInt64 >>> ((32 : Int32).toInt64.toUInt64 &&& Int64.toUInt64 63)).toInt64) hx hb dJ13_bitCount_95d88_52 rfl ?_
  refine lv_ladd hx hb dJ13_bitCount_95d88_53 ?_
  refine lv_lstore_n (lv' := [(0, .long ((((((((x0 - (((x0.toUInt64 >>> ((1 : Int32).toInt64.toUInt64 &&& Int64.toUInt64 63)).toInt64) &&& (6148914691236517205 : Int64))) &&& (3689348814741910323 : Int64)) + ((((x0 - (((x0.toUInt64 >>> ((1 : Int32).toInt64.toUInt64 &&& Int64.toUInt64 63)).toInt64) &&& (6148914691236517205 : Int64))).toUInt64 >>> ((2 : Int32).toInt64.toUInt64 &&& Int64.toUInt64 63)).toInt64) &&& (3689348814741910323 : Int64))) + (((((x0 - (((x0.toUInt64 >>> ((1 : Int32).toInt64.toUInt64 &&& Int64.toUInt64 63)).toInt64) &&& (6148914691236517205 : Int64))) &&& (3689348814741910323 : Int64)) + ((((x0 - (((x0.toUInt64 >>> ((1 : Int32).toInt64.toUInt64 &&& Int64.toUInt64 63)).toInt64) &&& (6148914691236517205 : Int64))).toUInt64 >>> ((2 : Int32).toInt64.toUInt64 &&& Int64.toUInt64 63)).toInt64) &&& (3689348814741910323 : Int64))).toUInt64 >>> ((4 : Int32).toInt64.toUInt64 &&& Int64.toUInt64 63)).toInt64)) &&& (1085102592571150095 : Int64)) + (((((((x0 - (((x0.toUInt64 >>> ((1 : Int32).toInt64.toUInt64 &&& Int64.toUInt64 63)).toInt64) &&& (6148914691236517205 : Int64))) &&& (3689348814741910323 : Int64)) + ((((x0 - (((x0.toUInt64 >>> ((1 : Int32).toInt64.toUInt64 &&& Int64.toUInt64 63)).toInt64) &&& (6148914691236517205 : Int64))).toUInt64 >>> ((2 : Int32).toInt64.toUInt64 &&& Int64.toUInt64 63)).toInt64) &&& (3689348814741910323 : Int64))) + (((((x0 - (((x0.toUInt64 >>> ((1 : Int32).toInt64.toUInt64 &&& Int64.toUInt64 63)).toInt64) &&& (6148914691236517205 : Int64))) &&& (3689348814741910323 : Int64)) + ((((x0 - (((x0.toUInt64 >>> ((1 : Int32).toInt64.toUInt64 &&& Int64.toUInt64 63)).toInt64) &&& (6148914691236517205 : Int64))).toUInt64 >>> ((2 : Int32).toInt64.toUInt64 &&& Int64.toUInt64 63)).toInt64) &&& (3689348814741910323 : Int64))).toUInt64 >>> ((4 : Int32).toInt64.toUInt64 &&& Int64.toUInt64 63)).toInt64)) &&& (1085102592571150095 : Int64)).toUInt64 >>> ((8 : Int32).toInt64.toUInt64 &&& Int64.toUInt64 63)).toInt64)) + ((((((((x0 - (((x0.toUInt64 >>> ((1 : Int32).toInt64.toUInt64 &&& Int64.toUInt64 63)).toInt64) &&& (6148914691236517205 : Int64))) &&& (3689348814741910323 : Int64)) + ((((x0 - (((x0.toUInt64 >>> ((1 : Int32).toInt64.toUInt64 &&& Int64.toUInt64 63)).toInt64) &&& (6148914691236517205 : Int64))).toUInt64 >>> ((2 : Int32).toInt64.toUInt64 &&& Int64.toUInt64 63)).toInt64) &&& (3689348814741910323 : Int64))) + (((((x0 - (((x0.toUInt64 >>> ((1 : Int32).toInt64.toUInt64 &&& Int64.toUInt64 63)).toInt64) &&& (6148914691236517205 : Int64))) &&& (3689348814741910323 : Int64)) + ((((x0 - (((x0.toUInt64 >>> ((1 : Int32).toInt64.toUInt64 &&& Int64.toUInt64 63)).toInt64) &&& (6148914691236517205 : Int64))).toUInt64 >>> ((2 : Int32).toInt64.toUInt64 &&& Int64.toUInt64 63)).toInt64) &&& (3689348814741910323 : Int64))).toUInt64 >>> ((4 : Int32).toInt64.toUInt64 &&& Int64.toUInt64 63)).toInt64)) &&& (1085102592571150095 : Int64)) + (((((((x0 - (((x0.toUInt64 >>> ((1 : Int32).toInt64.toUInt64 &&& Int64.toUInt64 63)).toInt64) &&& (6148914691236517205 : Int64))) &&& (3689348814741910323 : Int64)) + ((((x0 - (((x0.toUInt64 >>> ((1 : Int32).toInt64.toUInt64 &&& Int64.toUInt64 63)).toInt64) &&& (6148914691236517205 : Int64))).toUInt64 >>> ((2 : Int32).toInt64.toUInt64 &&& Int64.toUInt64 63)).toInt64) &&& (3689348814741910323 : Int64))) + (((((x0 - (((x0.toUInt64 >>> ((1 : Int32).toInt64.toUInt64 &&& Int64.toUInt64 63)).toInt64) &&& (6148914691236517205 : Int64))) &&& (3689348814741910323 : Int64)) + ((((x0 - (((x0.toUInt64 >>> ((1 : Int32).toInt64.toUInt64 &&& Int64.toUInt64 63)).toInt64) &&& (6148914691236517205 : Int64))).toUInt64 >>> ((2 : Int32).toInt64.toUInt64 &&& Int64.toUInt64 63)).toInt64) &&& (3689348814741910323 : Int64))).toUInt64 >>> ((4 : Int32).toInt64.toUInt64 &&& Int64.toUInt64 63)).toInt64)) &&& (1085102592571150095 : Int64)).toUInt64 >>> ((8 : Int32).toInt64.toUInt64 &&& Int64.toUInt64 63)).toInt64)).toUInt64 >>> ((16 : Int32).toInt64.toUInt64 &&& Int64.toUInt64 63)).toInt64)) + (((((((((x0 - (((x0.toUInt64 >>> ((1 : Int32).toInt64.toUInt64 &&& Int64.toUInt64 63)).toInt64) &&& (6148914691236517205 : Int64))) &&& (3689348814741910323 : Int64)) + ((((x0 - (((x0.toUInt64 >>> ((1 : Int32).toInt64.toUInt64 &&& Int64.toUInt64 63)).toInt64) &&& (6148914691236517205 : Int64))).toUInt64 >>> ((2 : Int32).toInt64.toUInt64 &&& Int64.toUInt64 63)).toInt64) &&& (3689348814741910323 : Int64))) + (((((x0 - (((x0.toUInt64 >>> ((1 : Int32).toInt64.toUInt64 &&& Int64.toUInt64 63)).toInt64) &&& (6148914691236517205 : Int64))) &&& (3689348814741910323 : Int64)) + ((((x0 - (((x0.toUInt64 >>> ((1 : Int32).toInt64.toUInt64 &&& Int64.toUInt64 63)).toInt64) &&& (6148914691236517205 : Int64))).toUInt64 >>> ((2 : Int32).toInt64.toUInt64 &&& Int64.toUInt64 63)).toInt64) &&& (3689348814741910323 : Int64))).toUInt64 >>> ((4 : Int32).toInt64.toUInt64 &&& Int64.toUInt64 63)).toInt64)) &&& (1085102592571150095 : Int64)) + (((((((x0 - (((x0.toUInt64 >>> ((1 : Int32).toInt64.toUInt64 &&& Int64.toUInt64 63)).toInt64) &&& (6148914691236517205 : Int64))) &&& (3689348814741910323 : Int64)) + ((((x0 - (((x0.toUInt64 >>> ((1 : Int32).toInt64.toUInt64 &&& Int64.toUInt64 63)).toInt64) &&& (6148914691236517205 : Int64))).toUInt64 >>> ((2 : Int32).toInt64.toUInt64 &&& Int64.toUInt64 63)).toInt64) &&& (3689348814741910323 : Int64))) + (((((x0 - (((x0.toUInt64 >>> ((1 : Int32).toInt64.toUInt64 &&& Int64.toUInt64 63)).toInt64) &&& (6148914691236517205 : Int64))) &&& (3689348814741910323 : Int64)) + ((((x0 - (((x0.toUInt64 >>> ((1 : Int32).toInt64.toUInt64 &&& Int64.toUInt64 63)).toInt64) &&& (6148914691236517205 : Int64))).toUInt64 >>> ((2 : Int32).toInt64.toUInt64 &&& Int64.toUInt64 63)).toInt64) &&& (3689348814741910323 : Int64))).toUInt64 >>> ((4 : Int32).toInt64.toUInt64 &&& Int64.toUInt64 63)).toInt64)) &&& (1085102592571150095 : Int64)).toUInt64 >>> ((8 : Int32).toInt64.toUInt64 &&& Int64.toUInt64 63)).toInt64)) + ((((((((x0 - (((x0.toUInt64 >>> ((1 : Int32).toInt64.toUInt64 &&& Int64.toUInt64 63)).toInt64) &&& (6148914691236517205 : Int64))) &&& (3689348814741910323 : Int64)) + ((((x0 - (((x0.toUInt64 >>> ((1 : Int32).toInt64.toUInt64 &&& Int64.toUInt64 63)).toInt64) &&& (6148914691236517205 : Int64))).toUInt64 >>> ((2 : Int32).toInt64.toUInt64 &&& Int64.toUInt64 63)).toInt64) &&& (3689348814741910323 : Int64))) + (((((x0 - (((x0.toUInt64 >>> ((1 : Int32).toInt64.toUInt64 &&& Int64.toUInt64 63)).toInt64) &&& (6148914691236517205 : Int64))) &&& (3689348814741910323 : Int64)) + ((((x0 - (((x0.toUInt64 >>> ((1 : Int32).toInt64.toUInt64 &&& Int64.toUInt64 63)).toInt64) &&& (6148914691236517205 : Int64))).toUInt64 >>> ((2 : Int32).toInt64.toUInt64 &&& Int64.toUInt64 63)).toInt64) &&& (3689348814741910323 : Int64))).toUInt64 >>> ((4 : Int32).toInt64.toUInt64 &&& Int64.toUInt64 63)).toInt64)) &&& (1085102592571150095 : Int64)) + (((((((x0 - (((x0.toUInt64 >>> ((1 : Int32).toInt64.toUInt64 &&& Int64.toUInt64 63)).toInt64) &&& (6148914691236517205 : Int64))) &&& (3689348814741910323 : Int64)) + ((((x0 - (((x0.toUInt64 >>> ((1 : Int32).toInt64.toUInt64 &&& Int64.toUInt64 63)).toInt64) &&& (6148914691236517205 : Int64))).toUInt64 >>> ((2 : Int32).toInt64.toUInt64 &&& Int64.toUInt64 63)).toInt64) &&& (3689348814741910323 : Int64))) + (((((x0 - (((x0.toUInt64 >>> ((1 : Int32).toInt64.toUInt64 &&& Int64.toUInt64 63)).toInt64) &&& (6148914691236517205 : Int64))) &&& (3689348814741910323 : Int64)) + ((((x0 - (((x0.toUInt64 >>> ((1 : Int32).toInt64.toUInt64 &&& Int64.toUInt64 63)).toInt64) &&& (6148914691236517205 : Int64))).toUInt64 >>> ((2 : Int32).toInt64.toUInt64 &&& Int64.toUInt64 63)).toInt64) &&& (3689348814741910323 : Int64))).toUInt64 >>> ((4 : Int32).toInt64.toUInt64 &&& Int64.toUInt64 63)).toInt64)) &&& (1085102592571150095 : Int64)).toUInt64 >>> ((8 : Int32).toInt64.toUInt64 &&& Int64.toUInt64 63)).toInt64)).toUInt64 >>> ((16 : Int32).toInt64.toUInt64 &&& Int64.toUInt64 63)).toInt64)).toUInt64 >>> ((32 : Int32).toInt64.toUInt64 &&& Int64.toUInt64 63)).toInt64)))]) hx hb dJ13_bitCount_95d88_54 rfl hl (by decide) rfl (fun ls hl => ?_)
  refine lv_lload_n hx hb dJ13_bitCount_95d88_55 rfl (lv_at hl 0 rfl) ?_
  refine lv_l2i (v := ((((((((x0 - (((x0.toUInt64 >>> ((1 : Int32).toInt64.toUInt64 &&& Int64.toUInt64 63)).toInt64) &&& (6148914691236517205 : Int64))) &&& (3689348814741910323 : Int64)) + ((((x0 - (((x0.toUInt64 >>> ((1 : Int32).toInt64.toUInt64 &&& Int64.toUInt64 63)).toInt64) &&& (6148914691236517205 : Int64))).toUInt64 >>> ((2 : Int32).toInt64.toUInt64 &&& Int64.toUInt64 63)).toInt64) &&& (3689348814741910323 : Int64))) + (((((x0 - (((x0.toUInt64 >>> ((1 : Int32).toInt64.toUInt64 &&& Int64.toUInt64 63)).toInt64) &&& (6148914691236517205 : Int64))) &&& (3689348814741910323 : Int64)) + ((((x0 - (((x0.toUInt64 >>> ((1 : Int32).toInt64.toUInt64 &&& Int64.toUInt64 63)).toInt64) &&& (6148914691236517205 : Int64))).toUInt64 >>> ((2 : Int32).toInt64.toUInt64 &&& Int64.toUInt64 63)).toInt64) &&& (3689348814741910323 : Int64))).toUInt64 >>> ((4 : Int32).toInt64.toUInt64 &&& Int64.toUInt64 63)).toInt64)) &&& (1085102592571150095 : Int64)) + (((((((x0 - (((x0.toUInt64 >>> ((1 : Int32).toInt64.toUInt64 &&& Int64.toUInt64 63)).toInt64) &&& (6148914691236517205 : Int64))) &&& (3689348814741910323 : Int64)) + ((((x0 - (((x0.toUInt64 >>> ((1 : Int32).toInt64.toUInt64 &&& Int64.toUInt64 63)).toInt64) &&& (6148914691236517205 : Int64))).toUInt64 >>> ((2 : Int32).toInt64.toUInt64 &&& Int64.toUInt64 63)).toInt64) &&& (3689348814741910323 : Int64))) + (((((x0 - (((x0.toUInt64 >>> ((1 : Int32).toInt64.toUInt64 &&& Int64.toUInt64 63)).toInt64) &&& (6148914691236517205 : Int64))) &&& (3689348814741910323 : Int64)) + ((((x0 - (((x0.toUInt64 >>> ((1 : Int32).toInt64.toUInt64 &&& Int64.toUInt64 63)).toInt64) &&& (6148914691236517205 : Int64))).toUInt64 >>> ((2 : Int32).toInt64.toUInt64 &&& Int64.toUInt64 63)).toInt64) &&& (3689348814741910323 : Int64))).toUInt64 >>> ((4 : Int32).toInt64.toUInt64 &&& Int64.toUInt64 63)).toInt64)) &&& (1085102592571150095 : Int64)).toUInt64 >>> ((8 : Int32).toInt64.toUInt64 &&& Int64.toUInt64 63)).toInt64)) + ((((((((x0 - (((x0.toUInt64 >>> ((1 : Int32).toInt64.toUInt64 &&& Int64.toUInt64 63)).toInt64) &&& (6148914691236517205 : Int64))) &&& (3689348814741910323 : Int64)) + ((((x0 - (((x0.toUInt64 >>> ((1 : Int32).toInt64.toUInt64 &&& Int64.toUInt64 63)).toInt64) &&& (6148914691236517205 : Int64))).toUInt64 >>> ((2 : Int32).toInt64.toUInt64 &&& Int64.toUInt64 63)).toInt64) &&& (3689348814741910323 : Int64))) + (((((x0 - (((x0.toUInt64 >>> ((1 : Int32).toInt64.toUInt64 &&& Int64.toUInt64 63)).toInt64) &&& (6148914691236517205 : Int64))) &&& (3689348814741910323 : Int64)) + ((((x0 - (((x0.toUInt64 >>> ((1 : Int32).toInt64.toUInt64 &&& Int64.toUInt64 63)).toInt64) &&& (6148914691236517205 : Int64))).toUInt64 >>> ((2 : Int32).toInt64.toUInt64 &&& Int64.toUInt64 63)).toInt64) &&& (3689348814741910323 : Int64))).toUInt64 >>> ((4 : Int32).toInt64.toUInt64 &&& Int64.toUInt64 63)).toInt64)) &&& (1085102592571150095 : Int64)) + (((((((x0 - (((x0.toUInt64 >>> ((1 : Int32).toInt64.toUInt64 &&& Int64.toUInt64 63)).toInt64) &&& (6148914691236517205 : Int64))) &&& (3689348814741910323 : Int64)) + ((((x0 - (((x0.toUInt64 >>> ((1 : Int32).toInt64.toUInt64 &&& Int64.toUInt64 63)).toInt64) &&& (6148914691236517205 : Int64))).toUInt64 >>> ((2 : Int32).toInt64.toUInt64 &&& Int64.toUInt64 63)).toInt64) &&& (3689348814741910323 : Int64))) + (((((x0 - (((x0.toUInt64 >>> ((1 : Int32).toInt64.toUInt64 &&& Int64.toUInt64 63)).toInt64) &&& (6148914691236517205 : Int64))) &&& (3689348814741910323 : Int64)) + ((((x0 - (((x0.toUInt64 >>> ((1 : Int32).toInt64.toUInt64 &&& Int64.toUInt64 63)).toInt64) &&& (6148914691236517205 : Int64))).toUInt64 >>> ((2 : Int32).toInt64.toUInt64 &&& Int64.toUInt64 63)).toInt64) &&& (3689348814741910323 : Int64))).toUInt64 >>> ((4 : Int32).toInt64.toUInt64 &&& Int64.toUInt64 63)).toInt64)) &&& (1085102592571150095 : Int64)).toUInt64 >>> ((8 : Int32).toInt64.toUInt64 &&& Int64.toUInt64 63)).toInt64)).toUInt64 >>> ((16 : Int32).toInt64.toUInt64 &&& Int64.toUInt64 63)).toInt64)) + (((((((((x0 - (((x0.toUInt64 >>> ((1 : Int32).toInt64.toUInt64 &&& Int64.toUInt64 63)).toInt64) &&& (6148914691236517205 : Int64))) &&& (3689348814741910323 : Int64)) + ((((x0 - (((x0.toUInt64 >>> ((1 : Int32).toInt64.toUInt64 &&& Int64.toUInt64 63)).toInt64) &&& (6148914691236517205 : Int64))).toUInt64 >>> ((2 : Int32).toInt64.toUInt64 &&& Int64.toUInt64 63)).toInt64) &&& (3689348814741910323 : Int64))) + (((((x0 - (((x0.toUInt64 >>> ((1 : Int32).toInt64.toUInt64 &&& Int64.toUInt64 63)).toInt64) &&& (6148914691236517205 : Int64))) &&& (3689348814741910323 : Int64)) + ((((x0 - (((x0.toUInt64 >>> ((1 : Int32).toInt64.toUInt64 &&& Int64.toUInt64 63)).toInt64) &&& (6148914691236517205 : Int64))).toUInt64 >>> ((2 : Int32).toInt64.toUInt64 &&& Int64.toUInt64 63)).toInt64) &&& (3689348814741910323 : Int64))).toUInt64 >>> ((4 : Int32).toInt64.toUInt64 &&& Int64.toUInt64 63)).toInt64)) &&& (1085102592571150095 : Int64)) + (((((((x0 - (((x0.toUInt64 >>> ((1 : Int32).toInt64.toUInt64 &&& Int64.toUInt64 63)).toInt64) &&& (6148914691236517205 : Int64))) &&& (3689348814741910323 : Int64)) + ((((x0 - (((x0.toUInt64 >>> ((1 : Int32).toInt64.toUInt64 &&& Int64.toUInt64 63)).toInt64) &&& (6148914691236517205 : Int64))).toUInt64 >>> ((2 : Int32).toInt64.toUInt64 &&& Int64.toUInt64 63)).toInt64) &&& (3689348814741910323 : Int64))) + (((((x0 - (((x0.toUInt64 >>> ((1 : Int32).toInt64.toUInt64 &&& Int64.toUInt64 63)).toInt64) &&& (6148914691236517205 : Int64))) &&& (3689348814741910323 : Int64)) + ((((x0 - (((x0.toUInt64 >>> ((1 : Int32).toInt64.toUInt64 &&& Int64.toUInt64 63)).toInt64) &&& (6148914691236517205 : Int64))).toUInt64 >>> ((2 : Int32).toInt64.toUInt64 &&& Int64.toUInt64 63)).toInt64) &&& (3689348814741910323 : Int64))).toUInt64 >>> ((4 : Int32).toInt64.toUInt64 &&& Int64.toUInt64 63)).toInt64)) &&& (1085102592571150095 : Int64)).toUInt64 >>> ((8 : Int32).toInt64.toUInt64 &&& Int64.toUInt64 63)).toInt64)) + ((((((((x0 - (((x0.toUInt64 >>> ((1 : Int32).toInt64.toUInt64 &&& Int64.toUInt64 63)).toInt64) &&& (6148914691236517205 : Int64))) &&& (3689348814741910323 : Int64)) + ((((x0 - (((x0.toUInt64 >>> ((1 : Int32).toInt64.toUInt64 &&& Int64.toUInt64 63)).toInt64) &&& (6148914691236517205 : Int64))).toUInt64 >>> ((2 : Int32).toInt64.toUInt64 &&& Int64.toUInt64 63)).toInt64) &&& (3689348814741910323 : Int64))) + (((((x0 - (((x0.toUInt64 >>> ((1 : Int32).toInt64.toUInt64 &&& Int64.toUInt64 63)).toInt64) &&& (6148914691236517205 : Int64))) &&& (3689348814741910323 : Int64)) + ((((x0 - (((x0.toUInt64 >>> ((1 : Int32).toInt64.toUInt64 &&& Int64.toUInt64 63)).toInt64) &&& (6148914691236517205 : Int64))).toUInt64 >>> ((2 : Int32).toInt64.toUInt64 &&& Int64.toUInt64 63)).toInt64) &&& (3689348814741910323 : Int64))).toUInt64 >>> ((4 : Int32).toInt64.toUInt64 &&& Int64.toUInt64 63)).toInt64)) &&& (1085102592571150095 : Int64)) + (((((((x0 - (((x0.toUInt64 >>> ((1 : Int32).toInt64.toUInt64 &&& Int64.toUInt64 63)).toInt64) &&& (6148914691236517205 : Int64))) &&& (3689348814741910323 : Int64)) + ((((x0 - (((x0.toUInt64 >>> ((1 : Int32).toInt64.toUInt64 &&& Int64.toUInt64 63)).toInt64) &&& (6148914691236517205 : Int64))).toUInt64 >>> ((2 : Int32).toInt64.toUInt64 &&& Int64.toUInt64 63)).toInt64) &&& (3689348814741910323 : Int64))) + (((((x0 - (((x0.toUInt64 >>> ((1 : Int32).toInt64.toUInt64 &&& Int64.toUInt64 63)).toInt64) &&& (6148914691236517205 : Int64))) &&& (3689348814741910323 : Int64)) + ((((x0 - (((x0.toUInt64 >>> ((1 : Int32).toInt64.toUInt64 &&& Int64.toUInt64 63)).toInt64) &&& (6148914691236517205 : Int64))).toUInt64 >>> ((2 : Int32).toInt64.toUInt64 &&& Int64.toUInt64 63)).toInt64) &&& (3689348814741910323 : Int64))).toUInt64 >>> ((4 : Int32).toInt64.toUInt64 &&& Int64.toUInt64 63)).toInt64)) &&& (1085102592571150095 : Int64)).toUInt64 >>> ((8 : Int32).toInt64.toUInt64 &&& Int64.toUInt64 63)).toInt64)).toUInt64 >>> ((16 : Int32).toInt64.toUInt64 &&& Int64.toUInt64 63)).toInt64)).toUInt64 >>> ((32 : Int32).toInt64.toUInt64 &&& Int64.toUInt64 63)).toInt64)).toInt32) hx hb dJ13_bitCount_95d88_56 rfl ?_
  refine lv_bipush (v := 127) hx hb dJ13_bitCount_95d88_57 (by decide) ?_
  refine lv_iand hx hb dJ13_bitCount_95d88_59 ?_
  obtain rfl := Option.some.inj h
  exact W.iret hx hb hr (fun t ht hW => ⟨rfl, by rw [ht]; exact Z, hS.F ht⟩) hS.2.2 dJ13_bitCount_95d88_60
set_option maxRecDepth 20000 in
theorem c_J13_bitCount_95d88 (l : Launch) {D : va_G} {ad : Nat → Nat → Nat} {rd : Nat → Nat} {ca : Nat → ClassId} {A : Nat → Prop} {σ : wx_St}    {x0 : Int64} {r : Int32} (h : f_J13_bitCount_95d88 x0 = some r) : wx_M l yJ13_bitCount_95d88 wsJ13_bitCount_95d88 0 0 D ad rd ca A [.long x0] σ (some (.int r)) σ := by
  refine va_MetF (cc := cJ13_bitCount_95d88) (maxL := 2) (ret := (some .int)) (by decide +kernel) rfl ?_
  intro p e s m args below meth c s₁ B0 hml hv
  obtain ⟨rfl, hC, Z, hA⟩ := hv
  have hl := lv_entry ([.long x0]) (n := 2) (Nat.le_of_ble_eq_true rfl)
  rw [lg_entry_eq]
  generalize (lg_sl ([.long x0]) ++ List.replicate (2 - (lg_sl ([.long x0])).length) Slot.unset).toArray = ls at hl ⊢
  exact b_J13_bitCount_95d88_0 ⟨B0.exec, B0.bytes, hml, B0.returns, atoms_spec (ws := wsJ13_bitCount_95d88) B0.pre, findClass_of_methodNamed B0.named, B0.notSynchronized, hC, hA⟩   h Z va_S.rf hl
theorem i_X0_isFed_0 : ∀ w ∈ wsX00, w ∈ wsX0_isFed := by decide +kernel
theorem k_X0_isFed_w0 : Cond.fieldLink RX0 18 "WarmProbes$Board" "fed" "[I" ∈ wsX0_isFed := by decide +kernel
set_option maxRecDepth 20000 in
set_option maxHeartbeats 4000000 in
theorem b_X0_isFed_18 (B : wx_B p s m args meth c cX0_isFed 3 (some .boolean) wsX0_isFed RX0 D ad ca A) {o : Nat}  (ho : o < 11) {r : Int32} {σ : wx_St}  {x1 : Int32} {x2 : Int32} {y0 : Int32}   (h : f_X0_isFed_18 o x1 x2 y0 σ = some r) {H : Heap} {locs : List Loc} (Z : wx_Z D ad rd ca A σ H) (hS : va_S A s.heap H locs) {ls : Array Slot} (hl : lv_has ls 3 [(0, .ref (ad o 99)), (1, .int x1), (2, .int x2)]) : W p l e ({ frames := 0, cells := 0, slots := 0, locals := 0 } : Room) s m args below meth c H locs 0 0 (MQ below (wx_Q D ad rd ca A (some (.int r)) σ) args s 0 0 A) (F0 m 18 ls [.int y0]) := by
  obtain ⟨hx, hb, hml, hr, hts, hown, hlk, hC, hA⟩ := id B
  unfold f_X0_isFed_18 at h
  obtain ⟨hz, h⟩ := wx_z_ok h
  obtain rfl := Option.some.inj h
  exact W.zret hx hb hr (wx_nb hz) (fun t ht hW => ⟨rfl, by rw [ht]; exact Z, hS.F ht⟩) hS.2.2 dX0_isFed_18
set_option maxRecDepth 20000 in
set_option maxHeartbeats 4000000 in
theorem b_X0_isFed_0 (B : wx_B p s m args meth c cX0_isFed 3 (some .boolean) wsX0_isFed RX0 D ad ca A) {o : Nat}  (ho : o < 11) {r : Int32} {σ : wx_St}  {x1 : Int32} {x2 : Int32}   (h : f_X0_isFed o x1 x2 σ = some r) {H : Heap} {locs : List Loc} (Z : wx_Z D ad rd ca A σ H) (hS : va_S A s.heap H locs) {ls : Array Slot} (hl : lv_has ls 3 [(0, .ref (ad o 99)), (1, .int x1), (2, .int x2)]) : W p l e ({ frames := 0, cells := 0, slots := 0, locals := 0 } : Room) s m args below meth c H locs 0 0 (MQ below (wx_Q D ad rd ca A (some (.int r)) σ) args s 0 0 A) (F0 m 0 ls []) := by
  obtain ⟨hx, hb, hml, hr, hts, hown, hlk, hC, hA⟩ := id B
  unfold f_X0_isFed at h
  refine lv_aload_n hx hb dX0_isFed_0 rfl (lv_at hl 0 rfl) ?_
  refine wx_get (own := RX0) hx hb hts i_X0_isFed_0 hown hC.1 Z (o := o) (ci := 0) (wx_sbo ho 99) (rfl : vwCl[0]? = some (RX0, TX0, 13)) 2 (by decide) (hts _ k_X0_isFed_w0) (fun _ h9 => h9) (f := 0) rfl rfl dX0_isFed_1 ?_
  refine lv_iload_n hx hb dX0_isFed_4 rfl (lv_at hl 1 rfl) ?_
  obtain ⟨v5, ev5, iv5, h⟩ := wx_rI_ok h
  refine wx_iald hx hb hC.1 Z (o := o) (k := 2) (n := 8) (wx_sbo ho 2) rfl iv5 dX0_isFed_5 ev5 ?_
  refine lv_iload_n hx hb dX0_isFed_6 rfl (lv_at hl 2 rfl) ?_
  refine lv_iushr (v := (v5.toUInt32 >>> (x2.toUInt32 &&& Int32.toUInt32 31)).toInt32) hx hb dX0_isFed_7 rfl ?_
  refine lv_iconst (v := 1) hx hb dX0_isFed_8 (by decide) ?_
  refine lv_iand hx hb dX0_isFed_9 ?_
  refine lv_if_eq (tgt := 17) hx hb dX0_isFed_10 (by decide) (fun c10 => ?_) (fun c10 => ?_)
  · replace h := wx_ift c10 h
    refine lv_iconst (v := 0) hx hb dX0_isFed_17 (by decide) ?_
    exact b_X0_isFed_18 B ho h Z hS (lv_sub hl [0, 1, 2] rfl)
  · replace h := wx_iff c10 h
    refine lv_iconst (v := 1) hx hb dX0_isFed_13 (by decide) ?_
    refine lv_goto (tgt := 18) hx hb dX0_isFed_14 (by decide) ?_
    exact b_X0_isFed_18 B ho h Z hS (lv_sub hl [0, 1, 2] rfl)
set_option maxRecDepth 20000 in
theorem c_X0_isFed (l : Launch) {D : va_G} {ad : Nat → Nat → Nat} {rd : Nat → Nat} {ca : Nat → ClassId} {A : Nat → Prop} {σ : wx_St} {o : Nat}  (ho : o < 11) {x1 : Int32} {x2 : Int32} {r : Int32} (h : f_X0_isFed o x1 x2 σ = some r) : wx_M l yX0_isFed wsX0_isFed 0 0 D ad rd ca A [.ref (ad o 99), .int x1, .int x2] σ (some (.int r)) σ := by
  refine Met.ofW (cc := cX0_isFed) (maxL := 3) (ret := (some .boolean)) (by decide +kernel) rfl ?_
  intro p e s m args below meth c s₁ B0 hml hv
  obtain ⟨rfl, hC, Z, hA⟩ := hv
  have hl := lv_entry ([.ref (ad o 99), .int x1, .int x2]) (n := 3) (Nat.le_of_ble_eq_true rfl)
  rw [lg_entry_eq]
  generalize (lg_sl ([.ref (ad o 99), .int x1, .int x2]) ++ List.replicate (3 - (lg_sl ([.ref (ad o 99), .int x1, .int x2])).length) Slot.unset).toArray = ls at hl ⊢
  exact b_X0_isFed_0 ⟨B0.exec, B0.bytes, hml, B0.returns, atoms_spec (ws := wsX0_isFed) B0.pre, findClass_of_methodNamed B0.named, B0.notSynchronized, hC, hA⟩ ho  h Z va_S.rf hl
set_option maxRecDepth 20000 in
set_option maxHeartbeats 4000000 in
theorem b_X5_neighbourOf_43 (B : wx_B p s m args meth c cX5_neighbourOf 2 (some .int) wsX5_neighbourOf RX5 D ad ca A)    {r : Int32} {σ : wx_St}  {x0 : Int32} {x1 : Int32} {y0 : Int32}   (h : f_X5_neighbourOf_43 x0 x1 y0 = some r) {H : Heap} {locs : List Loc} (Z : wx_Z D ad rd ca A σ H) (hS : va_S A s.heap H locs) {ls : Array Slot} (hl : lv_has ls 2 [(0, .int x0), (1, .int x1)]) : W p l e ({ frames := 0, cells := 0, slots := 0, locals := 0 } : Room) s m args below meth c H locs 0 0 (MQ below (wx_Q D ad rd ca A (some (.int r)) σ) args s 0 0 A) (F0 m 43 ls [.int y0]) := by
  obtain ⟨hx, hb, hml, hr, hts, hown, hlk, hC, hA⟩ := id B
  unfold f_X5_neighbourOf_43 at h
  obtain rfl := Option.some.inj h
  exact W.iret hx hb hr (fun t ht hW => ⟨rfl, by rw [ht]; exact Z, hS.F ht⟩) hS.2.2 dX5_neighbourOf_43
set_option maxRecDepth 20000 in
set_option maxHeartbeats 4000000 in
theorem b_X5_neighbourOf_59 (B : wx_B p s m args meth c cX5_neighbourOf 2 (some .int) wsX5_neighbourOf RX5 D ad ca A)    {r : Int32} {σ : wx_St}  {x0 : Int32} {x1 : Int32} {y0 : Int32}   (h : f_X5_neighbourOf_59 x0 x1 y0 = some r) {H : Heap} {locs : List Loc} (Z : wx_Z D ad rd ca A σ H) (hS : va_S A s.heap H locs) {ls : Array Slot} (hl : lv_has ls 2 [(0, .int x0), (1, .int x1)]) : W p l e ({ frames := 0, cells := 0, slots := 0, locals := 0 } : Room) s m args below meth c H locs 0 0 (MQ below (wx_Q D ad rd ca A (some (.int r)) σ) args s 0 0 A) (F0 m 59 ls [.int y0]) := by
  obtain ⟨hx, hb, hml, hr, hts, hown, hlk, hC, hA⟩ := id B
  unfold f_X5_neighbourOf_59 at h
  obtain rfl := Option.some.inj h
  exact W.iret hx hb hr (fun t ht hW => ⟨rfl, by rw [ht]; exact Z, hS.F ht⟩) hS.2.2 dX5_neighbourOf_59
set_option maxRecDepth 20000 in
set_option maxHeartbeats 4000000 in
theorem b_X5_neighbourOf_75 (B : wx_B p s m args meth c cX5_neighbourOf 2 (some .int) wsX5_neighbourOf RX5 D ad ca A)    {r : Int32} {σ : wx_St}  {x0 : Int32} {x1 : Int32} {y0 : Int32}   (h : f_X5_neighbourOf_75 x0 x1 y0 = some r) {H : Heap} {locs : List Loc} (Z : wx_Z D ad rd ca A σ H) (hS : va_S A s.heap H locs) {ls : Array Slot} (hl : lv_has ls 2 [(0, .int x0), (1, .int x1)]) : W p l e ({ frames := 0, cells := 0, slots := 0, locals := 0 } : Room) s m args below meth c H locs 0 0 (MQ below (wx_Q D ad rd ca A (some (.int r)) σ) args s 0 0 A) (F0 m 75 ls [.int y0]) := by
  obtain ⟨hx, hb, hml, hr, hts, hown, hlk, hC, hA⟩ := id B
  unfold f_X5_neighbourOf_75 at h
  obtain rfl := Option.some.inj h
  exact W.iret hx hb hr (fun t ht hW => ⟨rfl, by rw [ht]; exact Z, hS.F ht⟩) hS.2.2 dX5_neighbourOf_75
set_option maxRecDepth 20000 in
set_option maxHeartbeats 4000000 in
theorem b_X5_neighbourOf_93 (B : wx_B p s m args meth c cX5_neighbourOf 2 (some .int) wsX5_neighbourOf RX5 D ad ca A)    {r : Int32} {σ : wx_St}  {x0 : Int32} {x1 : Int32} {y0 : Int32}   (h : f_X5_neighbourOf_93 x0 x1 y0 = some r) {H : Heap} {locs : List Loc} (Z : wx_Z D ad rd ca A σ H) (hS : va_S A s.heap H locs) {ls : Array Slot} (hl : lv_has ls 2 [(0, .int x0), (1, .int x1)]) : W p l e ({ frames := 0, cells := 0, slots := 0, locals := 0 } : Room) s m args below meth c H locs 0 0 (MQ below (wx_Q D ad rd ca A (some (.int r)) σ) args s 0 0 A) (F0 m 93 ls [.int y0]) := by
  obtain ⟨hx, hb, hml, hr, hts, hown, hlk, hC, hA⟩ := id B
  unfold f_X5_neighbourOf_93 at h
  obtain rfl := Option.some.inj h
  exact W.iret hx hb hr (fun t ht hW => ⟨rfl, by rw [ht]; exact Z, hS.F ht⟩) hS.2.2 dX5_neighbourOf_93
set_option maxRecDepth 20000 in
set_option maxHeartbeats 4000000 in
theorem b_X5_neighbourOf_0 (B : wx_B p s m args meth c cX5_neighbourOf 2 (some .int) wsX5_neighbourOf RX5 D ad ca A)    {r : Int32} {σ : wx_St}  {x0 : Int32} {x1 : Int32}   (h : f_X5_neighbourOf x0 x1 = some r) {H : Heap} {locs : List Loc} (Z : wx_Z D ad rd ca A σ H) (hS : va_S A s.heap H locs) {ls : Array Slot} (hl : lv_has ls 2 [(0, .int x0), (1, .int x1)]) : W p l e ({ frames := 0, cells := 0, slots := 0, locals := 0 } : Room) s m args below meth c H locs 0 0 (MQ below (wx_Q D ad rd ca A (some (.int r)) σ) args s 0 0 A) (F0 m 0 ls []) := by
  obtain ⟨hx, hb, hml, hr, hts, hown, hlk, hC, hA⟩ := id B
  unfold f_X5_neighbourOf at h
  refine lv_iload_n hx hb dX5_neighbourOf_0 rfl (lv_at hl 1 rfl) ?_
  by_cases c1_0 : x1 = 0
  · replace h := wx_ift c1_0 h
    refine lv_tableIn (off := 27) (tgt := 28) hx hb dX5_neighbourOf_1 (by rw [c1_0]; decide) (by rw [c1_0]; decide) (by rw [c1_0]; rfl) (by decide) ?_
    refine lv_iload_n hx hb dX5_neighbourOf_28 rfl (lv_at hl 0 rfl) ?_
    refine lv_bipush (v := 8) hx hb dX5_neighbourOf_29 (by decide) ?_
    refine lv_icmp_lt (tgt := 41) hx hb dX5_neighbourOf_31 (by decide) (fun c31 => ?_) (fun c31 => ?_)
    · replace h := wx_ift c31 h
      refine lv_bipush (v := (-6)) hx hb dX5_neighbourOf_41 (by decide) ?_
      exact b_X5_neighbourOf_43 B h Z hS (lv_sub hl [0, 1] rfl)
    · replace h := wx_iff c31 h
      refine lv_iload_n hx hb dX5_neighbourOf_34 rfl (lv_at hl 0 rfl) ?_
      refine lv_bipush (v := 8) hx hb dX5_neighbourOf_35 (by decide) ?_
      refine lv_isub hx hb dX5_neighbourOf_37 ?_
      refine lv_goto (tgt := 43) hx hb dX5_neighbourOf_38 (by decide) ?_
      exact b_X5_neighbourOf_43 B h Z hS (lv_sub hl [0, 1] rfl)
  · replace h := wx_iff c1_0 h
    by_cases c1_1 : x1 = 1
    · replace h := wx_ift c1_1 h
      refine lv_tableIn (off := 43) (tgt := 44) hx hb dX5_neighbourOf_1 (by rw [c1_1]; decide) (by rw [c1_1]; decide) (by rw [c1_1]; rfl) (by decide) ?_
      refine lv_iload_n hx hb dX5_neighbourOf_44 rfl (lv_at hl 0 rfl) ?_
      refine lv_bipush (v := 56) hx hb dX5_neighbourOf_45 (by decide) ?_
      refine lv_icmp_ge (tgt := 57) hx hb dX5_neighbourOf_47 (by decide) (fun c47 => ?_) (fun c47 => ?_)
      · replace h := wx_ift c47 h
        refine lv_bipush (v := (-6)) hx hb dX5_neighbourOf_57 (by decide) ?_
        exact b_X5_neighbourOf_59 B h Z hS (lv_sub hl [0, 1] rfl)
      · replace h := wx_iff c47 h
        refine lv_iload_n hx hb dX5_neighbourOf_50 rfl (lv_at hl 0 rfl) ?_
        refine lv_bipush (v := 8) hx hb dX5_neighbourOf_51 (by decide) ?_
        refine lv_iadd hx hb dX5_neighbourOf_53 ?_
        refine lv_goto (tgt := 59) hx hb dX5_neighbourOf_54 (by decide) ?_
        exact b_X5_neighbourOf_59 B h Z hS (lv_sub hl [0, 1] rfl)
    · replace h := wx_iff c1_1 h
      by_cases c1_2 : x1 = 2
      · replace h := wx_ift c1_2 h
        refine lv_tableIn (off := 59) (tgt := 60) hx hb dX5_neighbourOf_1 (by rw [c1_2]; decide) (by rw [c1_2]; decide) (by rw [c1_2]; rfl) (by decide) ?_
        refine lv_iload_n hx hb dX5_neighbourOf_60 rfl (lv_at hl 0 rfl) ?_
        refine lv_bipush (v := 8) hx hb dX5_neighbourOf_61 (by decide) ?_
        refine lv_irem hx hb dX5_neighbourOf_63 (by decide) ?_
        refine lv_if_le (tgt := 73) hx hb dX5_neighbourOf_64 (by decide) (fun c64 => ?_) (fun c64 => ?_)
        · replace h := wx_ift c64 h
          refine lv_bipush (v := (-6)) hx hb dX5_neighbourOf_73 (by decide) ?_
          exact b_X5_neighbourOf_75 B h Z hS (lv_sub hl [0, 1] rfl)
        · replace h := wx_iff c64 h
          refine lv_iload_n hx hb dX5_neighbourOf_67 rfl (lv_at hl 0 rfl) ?_
          refine lv_iconst (v := 1) hx hb dX5_neighbourOf_68 (by decide) ?_
          refine lv_isub hx hb dX5_neighbourOf_69 ?_
          refine lv_goto (tgt := 75) hx hb dX5_neighbourOf_70 (by decide) ?_
          exact b_X5_neighbourOf_75 B h Z hS (lv_sub hl [0, 1] rfl)
      · replace h := wx_iff c1_2 h
        have n1_0 := wx_ni c1_0
        have n1_1 := wx_ni c1_1
        have n1_2 := wx_ni c1_2
        rw [show (0 : Int32).toInt = 0 from by decide] at n1_0
        rw [show (1 : Int32).toInt = 1 from by decide] at n1_1
        rw [show (2 : Int32).toInt = 2 from by decide] at n1_2
        refine lv_tableOut (tgt := 76) hx hb dX5_neighbourOf_1 (by omega) (by decide) ?_
        refine lv_iload_n hx hb dX5_neighbourOf_76 rfl (lv_at hl 0 rfl) ?_
        refine lv_bipush (v := 8) hx hb dX5_neighbourOf_77 (by decide) ?_
        refine lv_irem hx hb dX5_neighbourOf_79 (by decide) ?_
        refine lv_bipush (v := 7) hx hb dX5_neighbourOf_80 (by decide) ?_
        refine lv_icmp_ge (tgt := 91) hx hb dX5_neighbourOf_82 (by decide) (fun c82 => ?_) (fun c82 => ?_)
        · replace h := wx_ift c82 h
          refine lv_bipush (v := (-6)) hx hb dX5_neighbourOf_91 (by decide) ?_
          exact b_X5_neighbourOf_93 B h Z hS (lv_sub hl [0, 1] rfl)
        · replace h := wx_iff c82 h
          refine lv_iload_n hx hb dX5_neighbourOf_85 rfl (lv_at hl 0 rfl) ?_
          refine lv_iconst (v := 1) hx hb dX5_neighbourOf_86 (by decide) ?_
          refine lv_iadd hx hb dX5_neighbourOf_87 ?_
          refine lv_goto (tgt := 93) hx hb dX5_neighbourOf_88 (by decide) ?_
          exact b_X5_neighbourOf_93 B h Z hS (lv_sub hl [0, 1] rfl)
set_option maxRecDepth 20000 in
theorem c_X5_neighbourOf (l : Launch) {D : va_G} {ad : Nat → Nat → Nat} {rd : Nat → Nat} {ca : Nat → ClassId} {A : Nat → Prop} {σ : wx_St}    {x0 : Int32} {x1 : Int32} {r : Int32} (h : f_X5_neighbourOf x0 x1 = some r) : wx_M l yX5_neighbourOf wsX5_neighbourOf 0 0 D ad rd ca A [.int x0, .int x1] σ (some (.int r)) σ := by
  refine Met.ofW (cc := cX5_neighbourOf) (maxL := 2) (ret := (some .int)) (by decide +kernel) rfl ?_
  intro p e s m args below meth c s₁ B0 hml hv
  obtain ⟨rfl, hC, Z, hA⟩ := hv
  have hl := lv_entry ([.int x0, .int x1]) (n := 2) (Nat.le_of_ble_eq_true rfl)
  rw [lg_entry_eq]
  generalize (lg_sl ([.int x0, .int x1]) ++ List.replicate (2 - (lg_sl ([.int x0, .int x1])).length) Slot.unset).toArray = ls at hl ⊢
  exact b_X5_neighbourOf_0 ⟨B0.exec, B0.bytes, hml, B0.returns, atoms_spec (ws := wsX5_neighbourOf) B0.pre, findClass_of_methodNamed B0.named, B0.notSynchronized, hC, hA⟩   h Z va_S.rf hl
theorem i_X0_isSuspect_0 : ∀ w ∈ wsX00, w ∈ wsX0_isSuspect := by decide +kernel
theorem k_X0_isSuspect_w0 : Cond.initialized RX5 ∈ wsX0_isSuspect := by decide +kernel
theorem k_X0_isSuspect_w1 : Cond.static yX5_neighbourOf ∈ wsX0_isSuspect := by decide +kernel
theorem k_X0_isSuspect_w2 : Cond.fieldLink RX0 15 "WarmProbes$Board" "nets" "[I" ∈ wsX0_isSuspect := by decide +kernel
set_option maxRecDepth 20000 in
set_option maxHeartbeats 4000000 in
theorem b_X0_isSuspect_38 (B : wx_B p s m args meth c cX0_isSuspect 4 (some .boolean) wsX0_isSuspect RX0 D ad ca A) {o : Nat}  (ho : o < 11) {r : Int32} {σ : wx_St} {K2 : Int32 → Int32 → wx_St → Option Int32} (hK2 : ∀ {x1 : Int32} {x2 : Int32}   (h : K2 x1 x2 σ = some r) {H : Heap} {locs : List Loc} (Z : wx_Z D ad rd ca A σ H) (hS : va_S A s.heap H locs) {ls : Array Slot} (hl : lv_has ls 4 [(0, .ref (ad o 99)), (1, .int x1), (2, .int x2)]), W p l e ({ frames := 1, cells := 0, slots := 0, locals := 22 } : Room) s m args below meth c H locs 0 0 (MQ below (wx_Q D ad rd ca A (some (.int r)) σ) args s 0 0 A) (F0 m 2 ls [])) {x1 : Int32} {x2 : Int32} {x3 : Int32}   (h : f_X0_isSuspect_38 o K2 x1 x2 x3 σ = some r) {H : Heap} {locs : List Loc} (Z : wx_Z D ad rd ca A σ H) (hS : va_S A s.heap H locs) {ls : Array Slot} (hl : lv_has ls 4 [(0, .ref (ad o 99)), (1, .int x1), (2, .int x2), (3, .int x3)]) : W p l e ({ frames := 1, cells := 0, slots := 0, locals := 22 } : Room) s m args below meth c H locs 0 0 (MQ below (wx_Q D ad rd ca A (some (.int r)) σ) args s 0 0 A) (F0 m 38 ls []) := by
  obtain ⟨hx, hb, hml, hr, hts, hown, hlk, hC, hA⟩ := id B
  unfold f_X0_isSuspect_38 at h
  refine lv_iinc (v := x2 + 1) (lv' := [(2, .int (x2 + 1)), (0, .ref (ad o 99)), (1, .int x1), (3, .int x3)]) hx hb dX0_isSuspect_38 hl (k := 2) rfl rfl (by decide) rfl (fun ls hl => ?_)
  refine lv_goto (tgt := 2) hx hb dX0_isSuspect_41 (by decide) ?_
  exact hK2 h Z hS (lv_sub hl [1, 2, 0] rfl)
set_option maxRecDepth 20000 in
set_option maxHeartbeats 4000000 in
theorem b_X0_isSuspect_2 (B : wx_B p s m args meth c cX0_isSuspect 4 (some .boolean) wsX0_isSuspect RX0 D ad ca A) {o : Nat}  (ho : o < 11) {r : Int32} {σ : wx_St}   :
    ∀ {n : Nat} {x1 : Int32} {x2 : Int32}   (h : f_X0_isSuspect_2 o n x1 x2 σ = some r) {H : Heap} {locs : List Loc} (Z : wx_Z D ad rd ca A σ H) (hS : va_S A s.heap H locs) {ls : Array Slot} (hl : lv_has ls 4 [(0, .ref (ad o 99)), (1, .int x1), (2, .int x2)]), W p l e ({ frames := 1, cells := 0, slots := 0, locals := 22 } : Room) s m args below meth c H locs 0 0 (MQ below (wx_Q D ad rd ca A (some (.int r)) σ) args s 0 0 A) (F0 m 2 ls []) := by
  obtain ⟨hx, hb, hml, hr, hts, hown, hlk, hC, hA⟩ := id B
  intro n
  induction n with
  | zero => intro x1 x2   h H locs Z hS ls hl; exact wx_no h
  | succ n ih =>
    intro x1 x2   h H locs Z hS ls hl
    rw [f_X0_isSuspect_2] at h
    refine lv_iload_n hx hb dX0_isSuspect_2 rfl (lv_at hl 2 rfl) ?_
    refine lv_iconst (v := 4) hx hb dX0_isSuspect_3 (by decide) ?_
    refine lv_icmp_ge (tgt := 44) hx hb dX0_isSuspect_4 (by decide) (fun c4 => ?_) (fun c4 => ?_)
    · replace h := wx_ift c4 h
      refine lv_iconst (v := 0) hx hb dX0_isSuspect_44 (by decide) ?_
      obtain rfl := Option.some.inj h
      exact W.zret hx hb hr rfl (fun t ht hW => ⟨rfl, by rw [ht]; exact Z, hS.F ht⟩) hS.2.2 dX0_isSuspect_45
    · replace h := wx_iff c4 h
      refine lv_iload_n hx hb dX0_isSuspect_7 rfl (lv_at hl 1 rfl) ?_
      refine lv_iload_n hx hb dX0_isSuspect_8 rfl (lv_at hl 2 rfl) ?_
      obtain ⟨v9, hc9, h⟩ := wx_o_ok h
      refine wx_call (va_runSN (As := [.int x1, .int x2]) (rest := []) ⟨hx, hb, hml, hown, hts⟩ (c_X5_neighbourOf l (D := D) (ad := ad) (rd := rd) (ca := ca) (A := A) (σ := σ) hc9) ⟨va_cnB 2 hts gX0_isSuspect_X5_neighbourOf_n93 rfl rfl rfl (hC.1.2.1 _ (List.mem_of_getElem? (i := 38) rfl)) (hts _ k_X0_isSuspect_w0) (by decide +kernel) ⟨Nat.le_of_ble_eq_true rfl, Nat.le_of_ble_eq_true rfl⟩, hts _ k_X0_isSuspect_w1, trivial⟩ (wx_preS hC Z hS hA) rfl rfl hl.1 rfl (lv_room (Nat.le_of_ble_eq_true rfl)) dX0_isSuspect_9 ⟨Nat.zero_le _, Nat.zero_le _⟩) hS (fun H locs Z hS => ?_)
      refine lv_istore_n (lv' := [(3, .int v9), (0, .ref (ad o 99)), (1, .int x1), (2, .int x2)]) hx hb dX0_isSuspect_12 rfl hl (by decide) rfl (fun ls hl => ?_)
      refine lv_iload_n hx hb dX0_isSuspect_13 rfl (lv_at hl 0 rfl) ?_
      refine lv_if_lt (tgt := 38) hx hb dX0_isSuspect_14 (by decide) (fun c14 => ?_) (fun c14 => ?_)
      · replace h := wx_ift c14 h
        exact b_X0_isSuspect_38 B ho (K2 := (f_X0_isSuspect_2 o n)) @ih h Z hS (lv_sub hl [1, 2, 3, 0] rfl)
      · replace h := wx_iff c14 h
        refine lv_aload_n hx hb dX0_isSuspect_17 rfl (lv_at hl 1 rfl) ?_
        refine lv_aload_n hx hb dX0_isSuspect_18 rfl (lv_at hl 1 rfl) ?_
        refine wx_get (own := RX0) hx hb hts i_X0_isSuspect_0 hown hC.1 Z (o := o) (ci := 0) (wx_sbo ho 99) (rfl : vwCl[0]? = some (RX0, TX0, 13)) 1 (by decide) (hts _ k_X0_isSuspect_w2) (fun _ h9 => h9) (f := 0) rfl rfl dX0_isSuspect_19 ?_
        refine lv_iload_n hx hb dX0_isSuspect_22 rfl (lv_at hl 2 rfl) ?_
        obtain ⟨v23, ev23, iv23, h⟩ := wx_rI_ok h
        refine wx_iald hx hb hC.1 Z (o := o) (k := 1) (n := 64) (wx_sbo ho 1) rfl iv23 dX0_isSuspect_23 ev23 ?_
        refine lv_aload_n hx hb dX0_isSuspect_24 rfl (lv_at hl 1 rfl) ?_
        refine wx_get (own := RX0) hx hb hts i_X0_isSuspect_0 hown hC.1 Z (o := o) (ci := 0) (wx_sbo ho 99) (rfl : vwCl[0]? = some (RX0, TX0, 13)) 1 (by decide) (hts _ k_X0_isSuspect_w2) (fun _ h9 => h9) (f := 0) rfl rfl dX0_isSuspect_25 ?_
        refine lv_iload_n hx hb dX0_isSuspect_28 rfl (lv_at hl 0 rfl) ?_
        obtain ⟨v29, ev29, iv29, h⟩ := wx_rI_ok h
        refine wx_iald hx hb hC.1 Z (o := o) (k := 1) (n := 64) (wx_sbo ho 1) rfl iv29 dX0_isSuspect_29 ev29 ?_
        obtain ⟨v30, hc30, h⟩ := wx_o_ok h
        refine wx_call (va_runV (As := [.int v23, .int v29]) (rest := []) ⟨hx, hb, hml, hown, hts⟩ (c_X0_isFed l (D := D) (ad := ad) (rd := rd) (ca := ca) (A := A) (σ := σ) (o := o) ho hc30) (cwV 2 hts gX0_isSuspect_X0_isFed rfl rfl rfl (by decide +kernel) ⟨Nat.le_of_ble_eq_true rfl, Nat.le_of_ble_eq_true rfl⟩) (wx_preV hC Z hS hA (wx_sbo ho 99) (rfl : vwCl[0]? = some (RX0, TX0, 13))) rfl rfl hl.1 rfl (lv_room (Nat.le_of_ble_eq_true rfl)) dX0_isSuspect_30 ⟨Nat.zero_le _, Nat.zero_le _⟩) hS (fun H locs Z hS => ?_)
        refine lv_if_eq (tgt := 38) hx hb dX0_isSuspect_33 (by decide) (fun c33 => ?_) (fun c33 => ?_)
        · replace h := wx_ift c33 h
          exact b_X0_isSuspect_38 B ho (K2 := (f_X0_isSuspect_2 o n)) @ih h Z hS (lv_sub hl [1, 2, 3, 0] rfl)
        · replace h := wx_iff c33 h
          refine lv_iconst (v := 1) hx hb dX0_isSuspect_36 (by decide) ?_
          obtain rfl := Option.some.inj h
          exact W.zret hx hb hr rfl (fun t ht hW => ⟨rfl, by rw [ht]; exact Z, hS.F ht⟩) hS.2.2 dX0_isSuspect_37
set_option maxRecDepth 20000 in
set_option maxHeartbeats 4000000 in
theorem b_X0_isSuspect_0 (B : wx_B p s m args meth c cX0_isSuspect 4 (some .boolean) wsX0_isSuspect RX0 D ad ca A) {o : Nat}  (ho : o < 11) {r : Int32} {σ : wx_St}  {x1 : Int32}   (h : f_X0_isSuspect o x1 σ = some r) {H : Heap} {locs : List Loc} (Z : wx_Z D ad rd ca A σ H) (hS : va_S A s.heap H locs) {ls : Array Slot} (hl : lv_has ls 4 [(0, .ref (ad o 99)), (1, .int x1)]) : W p l e ({ frames := 1, cells := 0, slots := 0, locals := 22 } : Room) s m args below meth c H locs 0 0 (MQ below (wx_Q D ad rd ca A (some (.int r)) σ) args s 0 0 A) (F0 m 0 ls []) := by
  obtain ⟨hx, hb, hml, hr, hts, hown, hlk, hC, hA⟩ := id B
  unfold f_X0_isSuspect at h
  refine lv_iconst (v := 0) hx hb dX0_isSuspect_0 (by decide) ?_
  refine lv_istore_n (lv' := [(2, .int 0), (0, .ref (ad o 99)), (1, .int x1)]) hx hb dX0_isSuspect_1 rfl hl (by decide) rfl (fun ls hl => ?_)
  exact b_X0_isSuspect_2 B ho h Z hS (lv_sub hl [1, 2, 0] rfl)
set_option maxRecDepth 20000 in
theorem c_X0_isSuspect (l : Launch) {D : va_G} {ad : Nat → Nat → Nat} {rd : Nat → Nat} {ca : Nat → ClassId} {A : Nat → Prop} {σ : wx_St} {o : Nat}  (ho : o < 11) {x1 : Int32} {r : Int32} (h : f_X0_isSuspect o x1 σ = some r) : wx_M l yX0_isSuspect wsX0_isSuspect 1 22 D ad rd ca A [.ref (ad o 99), .int x1] σ (some (.int r)) σ := by
  refine Met.ofW (cc := cX0_isSuspect) (maxL := 4) (ret := (some .boolean)) (by decide +kernel) rfl ?_
  intro p e s m args below meth c s₁ B0 hml hv
  obtain ⟨rfl, hC, Z, hA⟩ := hv
  have hl := lv_entry ([.ref (ad o 99), .int x1]) (n := 4) (Nat.le_of_ble_eq_true rfl)
  rw [lg_entry_eq]
  generalize (lg_sl ([.ref (ad o 99), .int x1]) ++ List.replicate (4 - (lg_sl ([.ref (ad o 99), .int x1])).length) Slot.unset).toArray = ls at hl ⊢
  exact b_X0_isSuspect_0 ⟨B0.exec, B0.bytes, hml, B0.returns, atoms_spec (ws := wsX0_isSuspect) B0.pre, findClass_of_methodNamed B0.named, B0.notSynchronized, hC, hA⟩ ho  h Z va_S.rf hl
theorem i_X0_touchAt_0 : ∀ w ∈ wsX00, w ∈ wsX0_touchAt := by decide +kernel
theorem k_X0_touchAt_w0 : Cond.fieldLink RX0 21 "WarmProbes$Board" "touches" "I" ∈ wsX0_touchAt := by decide +kernel
theorem k_X0_touchAt_w1 : Cond.fieldLink RX0 25 "WarmProbes$Board" "touchPlaces" "[I" ∈ wsX0_touchAt := by decide +kernel
set_option maxRecDepth 20000 in
set_option maxHeartbeats 4000000 in
theorem b_X0_touchAt_2 (B : wx_B p s m args meth c cX0_touchAt 3 (some .int) wsX0_touchAt RX0 D ad ca A) {o : Nat}  (ho : o < 11) {r : Int32} {σ : wx_St}   :
    ∀ {n : Nat} {x1 : Int32} {x2 : Int32}   (h : f_X0_touchAt_2 o n x1 x2 σ = some r) {H : Heap} {locs : List Loc} (Z : wx_Z D ad rd ca A σ H) (hS : va_S A s.heap H locs) {ls : Array Slot} (hl : lv_has ls 3 [(0, .ref (ad o 99)), (1, .int x1), (2, .int x2)]), W p l e ({ frames := 0, cells := 0, slots := 0, locals := 0 } : Room) s m args below meth c H locs 0 0 (MQ below (wx_Q D ad rd ca A (some (.int r)) σ) args s 0 0 A) (F0 m 2 ls []) := by
  obtain ⟨hx, hb, hml, hr, hts, hown, hlk, hC, hA⟩ := id B
  intro n
  induction n with
  | zero => intro x1 x2   h H locs Z hS ls hl; exact wx_no h
  | succ n ih =>
    intro x1 x2   h H locs Z hS ls hl
    rw [f_X0_touchAt_2] at h
    refine lv_iload_n hx hb dX0_touchAt_2 rfl (lv_at hl 2 rfl) ?_
    refine lv_aload_n hx hb dX0_touchAt_3 rfl (lv_at hl 0 rfl) ?_
    refine wx_get (own := RX0) hx hb hts i_X0_touchAt_0 hown hC.1 Z (o := o) (ci := 0) (wx_sbo ho 99) (rfl : vwCl[0]? = some (RX0, TX0, 13)) 3 (by decide) (hts _ k_X0_touchAt_w0) (fun _ h9 => h9) (f := 1) rfl rfl dX0_touchAt_4 ?_
    refine lv_icmp_ge (tgt := 28) hx hb dX0_touchAt_7 (by decide) (fun c7 => ?_) (fun c7 => ?_)
    · replace h := wx_ift c7 h
      refine lv_bipush (v := (-6)) hx hb dX0_touchAt_28 (by decide) ?_
      obtain rfl := Option.some.inj h
      exact W.iret hx hb hr (fun t ht hW => ⟨rfl, by rw [ht]; exact Z, hS.F ht⟩) hS.2.2 dX0_touchAt_30
    · replace h := wx_iff c7 h
      refine lv_aload_n hx hb dX0_touchAt_10 rfl (lv_at hl 0 rfl) ?_
      refine wx_get (own := RX0) hx hb hts i_X0_touchAt_0 hown hC.1 Z (o := o) (ci := 0) (wx_sbo ho 99) (rfl : vwCl[0]? = some (RX0, TX0, 13)) 4 (by decide) (hts _ k_X0_touchAt_w1) (fun _ h9 => h9) (f := 0) rfl rfl dX0_touchAt_11 ?_
      refine lv_iload_n hx hb dX0_touchAt_14 rfl (lv_at hl 2 rfl) ?_
      obtain ⟨v15, ev15, iv15, h⟩ := wx_rI_ok h
      refine wx_iald hx hb hC.1 Z (o := o) (k := 4) (n := 3) (wx_sbo ho 4) rfl iv15 dX0_touchAt_15 ev15 ?_
      refine lv_iload_n hx hb dX0_touchAt_16 rfl (lv_at hl 1 rfl) ?_
      refine lv_icmp_ne (tgt := 22) hx hb dX0_touchAt_17 (by decide) (fun c17 => ?_) (fun c17 => ?_)
      · replace h := wx_iff c17 h
        refine lv_iinc (v := x2 + 1) (lv' := [(2, .int (x2 + 1)), (0, .ref (ad o 99)), (1, .int x1)]) hx hb dX0_touchAt_22 hl (k := 2) rfl rfl (by decide) rfl (fun ls hl => ?_)
        refine lv_goto (tgt := 2) hx hb dX0_touchAt_25 (by decide) ?_
        exact ih h Z hS (lv_sub hl [1, 2, 0] rfl)
      · replace h := wx_ift c17 h
        refine lv_iload_n hx hb dX0_touchAt_20 rfl (lv_at hl 2 rfl) ?_
        obtain rfl := Option.some.inj h
        exact W.iret hx hb hr (fun t ht hW => ⟨rfl, by rw [ht]; exact Z, hS.F ht⟩) hS.2.2 dX0_touchAt_21
set_option maxRecDepth 20000 in
set_option maxHeartbeats 4000000 in
theorem b_X0_touchAt_0 (B : wx_B p s m args meth c cX0_touchAt 3 (some .int) wsX0_touchAt RX0 D ad ca A) {o : Nat}  (ho : o < 11) {r : Int32} {σ : wx_St}  {x1 : Int32}   (h : f_X0_touchAt o x1 σ = some r) {H : Heap} {locs : List Loc} (Z : wx_Z D ad rd ca A σ H) (hS : va_S A s.heap H locs) {ls : Array Slot} (hl : lv_has ls 3 [(0, .ref (ad o 99)), (1, .int x1)]) : W p l e ({ frames := 0, cells := 0, slots := 0, locals := 0 } : Room) s m args below meth c H locs 0 0 (MQ below (wx_Q D ad rd ca A (some (.int r)) σ) args s 0 0 A) (F0 m 0 ls []) := by
  obtain ⟨hx, hb, hml, hr, hts, hown, hlk, hC, hA⟩ := id B
  unfold f_X0_touchAt at h
  refine lv_iconst (v := 0) hx hb dX0_touchAt_0 (by decide) ?_
  refine lv_istore_n (lv' := [(2, .int 0), (0, .ref (ad o 99)), (1, .int x1)]) hx hb dX0_touchAt_1 rfl hl (by decide) rfl (fun ls hl => ?_)
  exact b_X0_touchAt_2 B ho h Z hS (lv_sub hl [1, 2, 0] rfl)
set_option maxRecDepth 20000 in
theorem c_X0_touchAt (l : Launch) {D : va_G} {ad : Nat → Nat → Nat} {rd : Nat → Nat} {ca : Nat → ClassId} {A : Nat → Prop} {σ : wx_St} {o : Nat}  (ho : o < 11) {x1 : Int32} {r : Int32} (h : f_X0_touchAt o x1 σ = some r) : wx_M l yX0_touchAt wsX0_touchAt 0 0 D ad rd ca A [.ref (ad o 99), .int x1] σ (some (.int r)) σ := by
  refine Met.ofW (cc := cX0_touchAt) (maxL := 3) (ret := (some .int)) (by decide +kernel) rfl ?_
  intro p e s m args below meth c s₁ B0 hml hv
  obtain ⟨rfl, hC, Z, hA⟩ := hv
  have hl := lv_entry ([.ref (ad o 99), .int x1]) (n := 3) (Nat.le_of_ble_eq_true rfl)
  rw [lg_entry_eq]
  generalize (lg_sl ([.ref (ad o 99), .int x1]) ++ List.replicate (3 - (lg_sl ([.ref (ad o 99), .int x1])).length) Slot.unset).toArray = ls at hl ⊢
  exact b_X0_touchAt_0 ⟨B0.exec, B0.bytes, hml, B0.returns, atoms_spec (ws := wsX0_touchAt) B0.pre, findClass_of_methodNamed B0.named, B0.notSynchronized, hC, hA⟩ ho  h Z va_S.rf hl
theorem i_X1_follow_1 : ∀ w ∈ wsX10, w ∈ wsX1_follow := by decide +kernel
theorem k_X1_follow_w0 : Cond.fieldLink RX1 9 "WarmProbes$Lone" "settings" "[I" ∈ wsX1_follow := by decide +kernel
theorem k_X1_follow_w1 : Cond.methodLink RX1 24 arraycopyName ∈ wsX1_follow := by decide +kernel
theorem k_X1_follow_w2 : Cond.native arraycopyName ∈ wsX1_follow := by decide +kernel
theorem k_X1_follow_w3 : Cond.static arraycopyName ∈ wsX1_follow := by decide +kernel
theorem k_X1_follow_w4 : Cond.initialized "java/lang/System" ∈ wsX1_follow := by decide +kernel
theorem k_X1_follow_w5 : Cond.fieldLink RX1 21 "WarmProbes$Lone" "steps" "[I" ∈ wsX1_follow := by decide +kernel
set_option maxRecDepth 20000 in
set_option maxHeartbeats 4000000 in
theorem m_X1_follow_50 {o1 : Nat} {k1 : Nat}  {σ' : wx_St}  :
    ∀ {n : Nat} {x2 : Int32} {σ : wx_St} (h : f_X1_follow_50 o1 k1 n x2 σ = some ((), σ')), σ'.2.2.2.2 = σ.2.2.2.2 := by
  intro n
  induction n with
  | zero => intro x2 σ h; exact wx_no h
  | succ n ih =>
    intro x2 σ h
    rw [f_X1_follow_50] at h
    by_cases c53 : 64 ≤ x2
    · replace h := wx_ift c53 h
      obtain ⟨-, rfl⟩ := wx_ret_ok h
      rfl
    · replace h := wx_iff c53 h
      obtain ⟨σ62, e62, i62, h⟩ := wx_w_ok h
      refine Eq.trans ?_ (show σ62.2.2.2.2 = σ.2.2.2.2 from (congrArg (fun z : wx_St => z.2.2.2.2) e62).trans rfl)
      exact ih h
set_option maxRecDepth 20000 in
set_option maxHeartbeats 4000000 in
theorem b_X1_follow_50 (B : wx_B p s m args meth c cX1_follow 3 none wsX1_follow RX1 D ad ca A) {o1 : Nat} {k1 : Nat} {al : Nat → Bool} (hs1 : wx_sh al o1 k1 = (1, 4))  {σ' : wx_St}   :
    ∀ {n : Nat} {x2 : Int32} {σ : wx_St}  (h : f_X1_follow_50 o1 k1 n x2 σ = some ((), σ')) {H : Heap} {locs : List Loc} (Z : wx_Z D ad rd ca A σ H) (hS : va_S A s.heap H locs) {ls : Array Slot} (hl : lv_has ls 3 [(0, .ref (ad 13 99)), (1, .ref (wx_ad ad rd o1 k1)), (2, .int x2)]) (hal : σ.2.2.2.2 = al), W p l e ({ frames := 1, cells := 0, slots := 0, locals := 26 } : Room) s m args below meth c H locs 0 0 (MQ below (wx_Q D ad rd ca A none σ') args s 0 0 A) (F0 m 50 ls []) := by
  obtain ⟨hx, hb, hml, hr, hts, hown, hlk, hC, hA⟩ := id B
  intro n
  induction n with
  | zero => intro x2 σ  h H locs Z hS ls hl hal; exact wx_no h
  | succ n ih =>
    intro x2 σ  h H locs Z hS ls hl hal
    rw [f_X1_follow_50] at h
    refine lv_iload_n hx hb dX1_follow_50 rfl (lv_at hl 2 rfl) ?_
    refine lv_bipush (v := 64) hx hb dX1_follow_51 (by decide) ?_
    refine lv_icmp_ge (tgt := 69) hx hb dX1_follow_53 (by decide) (fun c53 => ?_) (fun c53 => ?_)
    · replace h := wx_ift c53 h
      obtain ⟨-, rfl⟩ := wx_ret_ok h
      exact W.vret hx hb hr (fun t ht hW => ⟨rfl, by rw [ht]; exact Z, hS.F ht⟩) hS.2.2 dX1_follow_69
    · replace h := wx_iff c53 h
      refine lv_aload_n hx hb dX1_follow_56 rfl (lv_at hl 0 rfl) ?_
      refine wx_get (own := RX1) hx hb hts i_X1_follow_1 hown hC.1 Z (o := 13) (ci := 1) rfl (rfl : vwCl[1]? = some (RX1, TX1, 3)) 2 (by decide) (hts _ k_X1_follow_w5) (fun _ h9 => h9) (f := 0) rfl rfl dX1_follow_57 ?_
      refine lv_iload_n hx hb dX1_follow_60 rfl (lv_at hl 2 rfl) ?_
      refine lv_iconst (v := 0) hx hb dX1_follow_61 (by decide) ?_
      obtain ⟨σ62, e62, i62, h⟩ := wx_w_ok h
      refine wx_iast hx hb hC.1 Z hS (o := 13) (k := 2) (n := 64) rfl rfl i62 dX1_follow_62 e62 (fun H locs Z hS => ?_)
      replace hal := (show σ62.2.2.2.2 = σ.2.2.2.2 from (congrArg (fun z : wx_St => z.2.2.2.2) e62).trans rfl).trans hal
      refine lv_iinc (v := x2 + 1) (lv' := [(2, .int (x2 + 1)), (0, .ref (ad 13 99)), (1, .ref (wx_ad ad rd o1 k1))]) hx hb dX1_follow_63 hl (k := 2) rfl rfl (by decide) rfl (fun ls hl => ?_)
      refine lv_goto (tgt := 50) hx hb dX1_follow_66 (by decide) ?_
      exact ih h Z hS (lv_sub hl [1, 2, 0] rfl) hal
set_option maxRecDepth 20000 in
set_option maxHeartbeats 4000000 in
theorem m_X1_follow_37 {o1 : Nat} {k1 : Nat}  {σ' : wx_St}   {σ : wx_St} (h : f_X1_follow_37 o1 k1 σ = some ((), σ')) : σ'.2.2.2.2 = σ.2.2.2.2 := by
  unfold f_X1_follow_37 at h
  obtain ⟨σ45, e45, h⟩ := wx_l_ok h
  refine Eq.trans ?_ (show σ45.2.2.2.2 = σ.2.2.2.2 from (congrArg (fun z : wx_St => z.2.2.2.2) e45).trans rfl)
  exact m_X1_follow_50 h
set_option maxRecDepth 20000 in
set_option maxHeartbeats 4000000 in
theorem b_X1_follow_37 (B : wx_B p s m args meth c cX1_follow 3 none wsX1_follow RX1 D ad ca A) {o1 : Nat} {k1 : Nat} {al : Nat → Bool} (hs1 : wx_sh al o1 k1 = (1, 4))  {σ' : wx_St}   {σ : wx_St}  (h : f_X1_follow_37 o1 k1 σ = some ((), σ')) {H : Heap} {locs : List Loc} (Z : wx_Z D ad rd ca A σ H) (hS : va_S A s.heap H locs) {ls : Array Slot} (hl : lv_has ls 3 [(0, .ref (ad 13 99)), (1, .ref (wx_ad ad rd o1 k1))]) (hal : σ.2.2.2.2 = al) : W p l e ({ frames := 1, cells := 0, slots := 0, locals := 26 } : Room) s m args below meth c H locs 0 0 (MQ below (wx_Q D ad rd ca A none σ') args s 0 0 A) (F0 m 37 ls []) := by
  obtain ⟨hx, hb, hml, hr, hts, hown, hlk, hC, hA⟩ := id B
  unfold f_X1_follow_37 at h
  refine lv_aload_n hx hb dX1_follow_37 rfl (lv_at hl 1 rfl) ?_
  refine lv_iconst (v := 0) hx hb dX1_follow_38 (by decide) ?_
  refine lv_aload_n hx hb dX1_follow_39 rfl (lv_at hl 0 rfl) ?_
  refine wx_get (own := RX1) hx hb hts i_X1_follow_1 hown hC.1 Z (o := 13) (ci := 1) rfl (rfl : vwCl[1]? = some (RX1, TX1, 3)) 0 (by decide) (hts _ k_X1_follow_w0) (fun _ h9 => h9) (f := 0) rfl rfl dX1_follow_40 ?_
  refine lv_iconst (v := 0) hx hb dX1_follow_43 (by decide) ?_
  refine lv_iconst (v := 4) hx hb dX1_follow_44 (by decide) ?_
  obtain ⟨σ45, e45, h⟩ := wx_l_ok h
  refine wx_copyi (own := RX1) hx hb (hml.trans hl.1.symm) hown (hts _ k_X1_follow_w1) (hts _ k_X1_follow_w2) (hts _ k_X1_follow_w3) (hts _ k_X1_follow_w4) hC.1 Z hS (o := o1) (k := k1) (n := 4) (o' := 13) (k' := 0) (n' := 4) (wx_hal hal hs1) rfl rfl rfl (by decide) (by decide) (by decide) (by decide) (by decide) (Nat.le_of_ble_eq_true rfl) (Nat.le_of_ble_eq_true rfl) dX1_follow_45 e45 (fun H locs Z hS => ?_)
  replace hal := (show σ45.2.2.2.2 = σ.2.2.2.2 from (congrArg (fun z : wx_St => z.2.2.2.2) e45).trans rfl).trans hal
  refine lv_iconst (v := 0) hx hb dX1_follow_48 (by decide) ?_
  refine lv_istore_n (lv' := [(2, .int 0), (0, .ref (ad 13 99)), (1, .ref (wx_ad ad rd o1 k1))]) hx hb dX1_follow_49 rfl hl (by decide) rfl (fun ls hl => ?_)
  exact b_X1_follow_50 B hs1 h Z hS (lv_sub hl [1, 2, 0] rfl) hal
set_option maxRecDepth 20000 in
set_option maxHeartbeats 4000000 in
theorem m_X1_follow_0 {o1 : Nat} {k1 : Nat}  {σ' : wx_St}   {σ : wx_St} (h : f_X1_follow o1 k1 σ = some ((), σ')) : σ'.2.2.2.2 = σ.2.2.2.2 := by
  unfold f_X1_follow at h
  obtain ⟨v5, ev5, iv5, h⟩ := wx_rI_ok h
  obtain ⟨v8, ev8, iv8, h⟩ := wx_rI_ok h
  by_cases c9 : v5 = v8
  · replace h := wx_ift c9 h
    obtain ⟨v17, ev17, iv17, h⟩ := wx_rI_ok h
    obtain ⟨v20, ev20, iv20, h⟩ := wx_rI_ok h
    by_cases c21 : v17 = v20
    · replace h := wx_ift c21 h
      obtain ⟨v29, ev29, iv29, h⟩ := wx_rI_ok h
      obtain ⟨v32, ev32, iv32, h⟩ := wx_rI_ok h
      by_cases c33 : v29 = v32
      · replace h := wx_ift c33 h
        obtain ⟨-, rfl⟩ := wx_ret_ok h
        rfl
      · replace h := wx_iff c33 h
        exact m_X1_follow_37 h
    · replace h := wx_iff c21 h
      exact m_X1_follow_37 h
  · replace h := wx_iff c9 h
    exact m_X1_follow_37 h
set_option maxRecDepth 20000 in
set_option maxHeartbeats 4000000 in
theorem b_X1_follow_0 (B : wx_B p s m args meth c cX1_follow 3 none wsX1_follow RX1 D ad ca A) {o1 : Nat} {k1 : Nat} {al : Nat → Bool} (hs1 : wx_sh al o1 k1 = (1, 4))  {σ' : wx_St}   {σ : wx_St}  (h : f_X1_follow o1 k1 σ = some ((), σ')) {H : Heap} {locs : List Loc} (Z : wx_Z D ad rd ca A σ H) (hS : va_S A s.heap H locs) {ls : Array Slot} (hl : lv_has ls 3 [(0, .ref (ad 13 99)), (1, .ref (wx_ad ad rd o1 k1))]) (hal : σ.2.2.2.2 = al) : W p l e ({ frames := 1, cells := 0, slots := 0, locals := 26 } : Room) s m args below meth c H locs 0 0 (MQ below (wx_Q D ad rd ca A none σ') args s 0 0 A) (F0 m 0 ls []) := by
  obtain ⟨hx, hb, hml, hr, hts, hown, hlk, hC, hA⟩ := id B
  unfold f_X1_follow at h
  refine lv_aload_n hx hb dX1_follow_0 rfl (lv_at hl 0 rfl) ?_
  refine wx_get (own := RX1) hx hb hts i_X1_follow_1 hown hC.1 Z (o := 13) (ci := 1) rfl (rfl : vwCl[1]? = some (RX1, TX1, 3)) 0 (by decide) (hts _ k_X1_follow_w0) (fun _ h9 => h9) (f := 0) rfl rfl dX1_follow_1 ?_
  refine lv_iconst (v := 0) hx hb dX1_follow_4 (by decide) ?_
  obtain ⟨v5, ev5, iv5, h⟩ := wx_rI_ok h
  refine wx_iald hx hb hC.1 Z (o := 13) (k := 0) (n := 4) rfl rfl iv5 dX1_follow_5 ev5 ?_
  refine lv_aload_n hx hb dX1_follow_6 rfl (lv_at hl 1 rfl) ?_
  refine lv_iconst (v := 0) hx hb dX1_follow_7 (by decide) ?_
  obtain ⟨v8, ev8, iv8, h⟩ := wx_rI_ok h
  refine wx_iald hx hb hC.1 Z (o := o1) (k := k1) (n := 4) (wx_hal hal hs1) rfl iv8 dX1_follow_8 ev8 ?_
  refine lv_icmp_ne (tgt := 37) hx hb dX1_follow_9 (by decide) (fun c9 => ?_) (fun c9 => ?_)
  · replace h := wx_iff c9 h
    exact b_X1_follow_37 B hs1 h Z hS (lv_sub hl [0, 1] rfl) hal
  · replace h := wx_ift c9 h
    refine lv_aload_n hx hb dX1_follow_12 rfl (lv_at hl 0 rfl) ?_
    refine wx_get (own := RX1) hx hb hts i_X1_follow_1 hown hC.1 Z (o := 13) (ci := 1) rfl (rfl : vwCl[1]? = some (RX1, TX1, 3)) 0 (by decide) (hts _ k_X1_follow_w0) (fun _ h9 => h9) (f := 0) rfl rfl dX1_follow_13 ?_
    refine lv_iconst (v := 1) hx hb dX1_follow_16 (by decide) ?_
    obtain ⟨v17, ev17, iv17, h⟩ := wx_rI_ok h
    refine wx_iald hx hb hC.1 Z (o := 13) (k := 0) (n := 4) rfl rfl iv17 dX1_follow_17 ev17 ?_
    refine lv_aload_n hx hb dX1_follow_18 rfl (lv_at hl 1 rfl) ?_
    refine lv_iconst (v := 1) hx hb dX1_follow_19 (by decide) ?_
    obtain ⟨v20, ev20, iv20, h⟩ := wx_rI_ok h
    refine wx_iald hx hb hC.1 Z (o := o1) (k := k1) (n := 4) (wx_hal hal hs1) rfl iv20 dX1_follow_20 ev20 ?_
    refine lv_icmp_ne (tgt := 37) hx hb dX1_follow_21 (by decide) (fun c21 => ?_) (fun c21 => ?_)
    · replace h := wx_iff c21 h
      exact b_X1_follow_37 B hs1 h Z hS (lv_sub hl [0, 1] rfl) hal
    · replace h := wx_ift c21 h
      refine lv_aload_n hx hb dX1_follow_24 rfl (lv_at hl 0 rfl) ?_
      refine wx_get (own := RX1) hx hb hts i_X1_follow_1 hown hC.1 Z (o := 13) (ci := 1) rfl (rfl : vwCl[1]? = some (RX1, TX1, 3)) 0 (by decide) (hts _ k_X1_follow_w0) (fun _ h9 => h9) (f := 0) rfl rfl dX1_follow_25 ?_
      refine lv_iconst (v := 2) hx hb dX1_follow_28 (by decide) ?_
      obtain ⟨v29, ev29, iv29, h⟩ := wx_rI_ok h
      refine wx_iald hx hb hC.1 Z (o := 13) (k := 0) (n := 4) rfl rfl iv29 dX1_follow_29 ev29 ?_
      refine lv_aload_n hx hb dX1_follow_30 rfl (lv_at hl 1 rfl) ?_
      refine lv_iconst (v := 2) hx hb dX1_follow_31 (by decide) ?_
      obtain ⟨v32, ev32, iv32, h⟩ := wx_rI_ok h
      refine wx_iald hx hb hC.1 Z (o := o1) (k := k1) (n := 4) (wx_hal hal hs1) rfl iv32 dX1_follow_32 ev32 ?_
      refine lv_icmp_ne (tgt := 37) hx hb dX1_follow_33 (by decide) (fun c33 => ?_) (fun c33 => ?_)
      · replace h := wx_iff c33 h
        exact b_X1_follow_37 B hs1 h Z hS (lv_sub hl [0, 1] rfl) hal
      · replace h := wx_ift c33 h
        obtain ⟨-, rfl⟩ := wx_ret_ok h
        exact W.vret hx hb hr (fun t ht hW => ⟨rfl, by rw [ht]; exact Z, hS.F ht⟩) hS.2.2 dX1_follow_36
set_option maxRecDepth 20000 in
theorem c_X1_follow (l : Launch) {D : va_G} {ad : Nat → Nat → Nat} {rd : Nat → Nat} {ca : Nat → ClassId} {A : Nat → Prop} {σ : wx_St} {o1 : Nat} {k1 : Nat} {al : Nat → Bool} (hs1 : wx_sh al o1 k1 = (1, 4)) (hal : σ.2.2.2.2 = al)   {σ' : wx_St} (h : f_X1_follow o1 k1 σ = some ((), σ')) : wx_M l yX1_follow wsX1_follow 1 26 D ad rd ca A [.ref (ad 13 99), .ref (wx_ad ad rd o1 k1)] σ none σ' := by
  refine Met.ofW (cc := cX1_follow) (maxL := 3) (ret := none) (by decide +kernel) rfl ?_
  intro p e s m args below meth c s₁ B0 hml hv
  obtain ⟨rfl, hC, Z, hA⟩ := hv
  have hl := lv_entry ([.ref (ad 13 99), .ref (wx_ad ad rd o1 k1)]) (n := 3) (Nat.le_of_ble_eq_true rfl)
  rw [lg_entry_eq]
  generalize (lg_sl ([.ref (ad 13 99), .ref (wx_ad ad rd o1 k1)]) ++ List.replicate (3 - (lg_sl ([.ref (ad 13 99), .ref (wx_ad ad rd o1 k1)])).length) Slot.unset).toArray = ls at hl ⊢
  exact b_X1_follow_0 ⟨B0.exec, B0.bytes, hml, B0.returns, atoms_spec (ws := wsX1_follow) B0.pre, findClass_of_methodNamed B0.named, B0.notSynchronized, hC, hA⟩ hs1  h Z va_S.rf hl hal
set_option maxRecDepth 20000 in
set_option maxHeartbeats 4000000 in
theorem b_X5_isIn_15 (B : wx_B p s m args meth c cX5_isIn 3 (some .boolean) wsX5_isIn RX5 D ad ca A)    {r : Int32} {σ : wx_St}  {x0 : Int64} {x2 : Int32} {y0 : Int32}   (h : f_X5_isIn_15 x0 x2 y0 = some r) {H : Heap} {locs : List Loc} (Z : wx_Z D ad rd ca A σ H) (hS : va_S A s.heap H locs) {ls : Array Slot} (hl : lv_has ls 3 [(0, .long x0), (2, .int x2)]) : W p l e ({ frames := 0, cells := 0, slots := 0, locals := 0 } : Room) s m args below meth c H locs 0 0 (MQ below (wx_Q D ad rd ca A (some (.int r)) σ) args s 0 0 A) (F0 m 15 ls [.int y0]) := by
  obtain ⟨hx, hb, hml, hr, hts, hown, hlk, hC, hA⟩ := id B
  unfold f_X5_isIn_15 at h
  obtain ⟨hz, h⟩ := wx_z_ok h
  obtain rfl := Option.some.inj h
  exact W.zret hx hb hr (wx_nb hz) (fun t ht hW => ⟨rfl, by rw [ht]; exact Z, hS.F ht⟩) hS.2.2 dX5_isIn_15
set_option maxRecDepth 20000 in
set_option maxHeartbeats 4000000 in
theorem b_X5_isIn_0 (B : wx_B p s m args meth c cX5_isIn 3 (some .boolean) wsX5_isIn RX5 D ad ca A)    {r : Int32} {σ : wx_St}  {x0 : Int64} {x2 : Int32}   (h : f_X5_isIn x0 x2 = some r) {H : Heap} {locs : List Loc} (Z : wx_Z D ad rd ca A σ H) (hS : va_S A s.heap H locs) {ls : Array Slot} (hl : lv_has ls 3 [(0, .long x0), (2, .int x2)]) : W p l e ({ frames := 0, cells := 0, slots := 0, locals := 0 } : Room) s m args below meth c H locs 0 0 (MQ below (wx_Q D ad rd ca A (some (.int r)) σ) args s 0 0 A) (F0 m 0 ls []) := by
  obtain ⟨hx, hb, hml, hr, hts, hown, hlk, hC, hA⟩ := id B
  unfold f_X5_isIn at h
  refine lv_lload_n hx hb dX5_isIn_0 rfl (lv_at hl 0 rfl) ?_
  refine lv_iload_n hx hb dX5_isIn_1 rfl (lv_at hl 1 rfl) ?_
  refine lv_lushr (v := (x0.toUInt64 >>> (x2.toInt64.toUInt64 &&& Int64.toUInt64 63)).toInt64) hx hb dX5_isIn_2 rfl ?_
  refine lv_lconst (v := 1) hx hb dX5_isIn_3 (by decide) ?_
  refine lv_land hx hb dX5_isIn_4 ?_
  refine lv_lconst (v := 0) hx hb dX5_isIn_5 (by decide) ?_
  refine W.lcmp hx hb dX5_isIn_6 ?_
  refine lv_if_eq (tgt := 14) hx hb dX5_isIn_7 (by decide) (fun c7 => ?_) (fun c7 => ?_)
  · replace h := wx_ift c7 h
    refine lv_iconst (v := 0) hx hb dX5_isIn_14 (by decide) ?_
    exact b_X5_isIn_15 B h Z hS (lv_sub hl [0, 1] rfl)
  · replace h := wx_iff c7 h
    refine lv_iconst (v := 1) hx hb dX5_isIn_10 (by decide) ?_
    refine lv_goto (tgt := 15) hx hb dX5_isIn_11 (by decide) ?_
    exact b_X5_isIn_15 B h Z hS (lv_sub hl [0, 1] rfl)
set_option maxRecDepth 20000 in
theorem c_X5_isIn (l : Launch) {D : va_G} {ad : Nat → Nat → Nat} {rd : Nat → Nat} {ca : Nat → ClassId} {A : Nat → Prop} {σ : wx_St}    {x0 : Int64} {x2 : Int32} {r : Int32} (h : f_X5_isIn x0 x2 = some r) : wx_M l yX5_isIn wsX5_isIn 0 0 D ad rd ca A [.long x0, .int x2] σ (some (.int r)) σ := by
  refine Met.ofW (cc := cX5_isIn) (maxL := 3) (ret := (some .boolean)) (by decide +kernel) rfl ?_
  intro p e s m args below meth c s₁ B0 hml hv
  obtain ⟨rfl, hC, Z, hA⟩ := hv
  have hl := lv_entry ([.long x0, .int x2]) (n := 3) (Nat.le_of_ble_eq_true rfl)
  rw [lg_entry_eq]
  generalize (lg_sl ([.long x0, .int x2]) ++ List.replicate (3 - (lg_sl ([.long x0, .int x2])).length) Slot.unset).toArray = ls at hl ⊢
  exact b_X5_isIn_0 ⟨B0.exec, B0.bytes, hml, B0.returns, atoms_spec (ws := wsX5_isIn) B0.pre, findClass_of_methodNamed B0.named, B0.notSynchronized, hC, hA⟩   h Z va_S.rf hl
theorem k_X5_step_w0 : Cond.constantFloat RX5 259 (1120403456) ∈ wsX5_step := by decide +kernel
set_option maxRecDepth 20000 in
set_option maxHeartbeats 4000000 in
theorem m_X5_step_206 {o0 : Nat} {k0 : Nat} {n0 : Nat} {o2 : Nat} {k2 : Nat} {n2 : Nat} {o6 : Nat} {k6 : Nat}  {σ' : wx_St} {K27 : Int32 → Int32 → Int64 → UInt32 → UInt32 → UInt32 → Int32 → wx_St → Option (Unit × wx_St)} (mK27 : ∀ {x1 : Int32} {x3 : Int32} {x4 : Int64} {x7 : UInt32} {x8 : UInt32} {x9 : UInt32} {x10 : Int32} {σ : wx_St}, K27 x1 x3 x4 x7 x8 x9 x10 σ = some ((), σ') → σ'.2.2.2.2 = σ.2.2.2.2) {x1 : Int32} {x3 : Int32} {x4 : Int64} {x7 : UInt32} {x8 : UInt32} {x9 : UInt32} {x10 : Int32} {x11 : Int32} {x12 : UInt32} {x13 : UInt32} {x14 : UInt32} {y1 : Int32} {y2 : UInt32} {σ : wx_St} (h : f_X5_step_206 o0 k0 n0 o2 k2 n2 o6 k6 K27 x1 x3 x4 x7 x8 x9 x10 x11 x12 x13 x14 y1 y2 σ = some ((), σ')) : σ'.2.2.2.2 = σ.2.2.2.2 := by
  unfold f_X5_step_206 at h
  obtain ⟨σ206, e206, i206, h⟩ := wx_w_ok h
  refine Eq.trans ?_ (show σ206.2.2.2.2 = σ.2.2.2.2 from (congrArg (fun z : wx_St => z.2.2.2.2) e206).trans rfl)
  exact mK27 h
set_option maxRecDepth 20000 in
set_option maxHeartbeats 4000000 in
theorem b_X5_step_206 (B : wx_B p s m args meth c cX5_step 15 none wsX5_step RX5 D ad ca A) {o0 : Nat} {k0 : Nat} {n0 : Nat} {o2 : Nat} {k2 : Nat} {n2 : Nat} {o6 : Nat} {k6 : Nat} {al : Nat → Bool} (hs0 : wx_sh al o0 k0 = (2, n0)) (hs2 : wx_sh al o2 k2 = (2, n2)) (hs6 : wx_sh al o6 k6 = (1, 4))  {σ' : wx_St} {K27 : Int32 → Int32 → Int64 → UInt32 → UInt32 → UInt32 → Int32 → wx_St → Option (Unit × wx_St)} (hK27 : ∀ {x1 : Int32} {x3 : Int32} {x4 : Int64} {x7 : UInt32} {x8 : UInt32} {x9 : UInt32} {x10 : Int32} {σ : wx_St}  (h : K27 x1 x3 x4 x7 x8 x9 x10 σ = some ((), σ')) {H : Heap} {locs : List Loc} (Z : wx_Z D ad rd ca A σ H) (hS : va_S A s.heap H locs) {ls : Array Slot} (hl : lv_has ls 15 [(0, .ref (wx_ad ad rd o0 k0)), (1, .int x1), (2, .ref (wx_ad ad rd o2 k2)), (3, .int x3), (4, .long x4), (6, .ref (wx_ad ad rd o6 k6)), (7, .float x7), (8, .float x8), (9, .float x9), (10, .int x10)]) (hal : σ.2.2.2.2 = al), W p l e ({ frames := 1, cells := 0, slots := 0, locals := 22 } : Room) s m args below meth c H locs 0 0 (MQ below (wx_Q D ad rd ca A none σ') args s 0 0 A) (F0 m 27 ls [])) {x1 : Int32} {x3 : Int32} {x4 : Int64} {x7 : UInt32} {x8 : UInt32} {x9 : UInt32} {x10 : Int32} {x11 : Int32} {x12 : UInt32} {x13 : UInt32} {x14 : UInt32} {y1 : Int32} {y2 : UInt32} {σ : wx_St}  (h : f_X5_step_206 o0 k0 n0 o2 k2 n2 o6 k6 K27 x1 x3 x4 x7 x8 x9 x10 x11 x12 x13 x14 y1 y2 σ = some ((), σ')) {H : Heap} {locs : List Loc} (Z : wx_Z D ad rd ca A σ H) (hS : va_S A s.heap H locs) {ls : Array Slot} (hl : lv_has ls 15 [(0, .ref (wx_ad ad rd o0 k0)), (1, .int x1), (2, .ref (wx_ad ad rd o2 k2)), (3, .int x3), (4, .long x4), (6, .ref (wx_ad ad rd o6 k6)), (7, .float x7), (8, .float x8), (9, .float x9), (10, .int x10), (11, .int x11), (12, .float x12), (13, .float x13), (14, .float x14)]) (hal : σ.2.2.2.2 = al) : W p l e ({ frames := 1, cells := 0, slots := 0, locals := 22 } : Room) s m args below meth c H locs 0 0 (MQ below (wx_Q D ad rd ca A none σ') args s 0 0 A) (F0 m 206 ls [.float y2, .int y1, .ref (wx_ad ad rd o2 k2)]) := by
  obtain ⟨hx, hb, hml, hr, hts, hown, hlk, hC, hA⟩ := id B
  unfold f_X5_step_206 at h
  obtain ⟨σ206, e206, i206, h⟩ := wx_w_ok h
  refine wx_fast hx hb hC.1 Z hS (o := o2) (k := k2) (n := n2) (wx_hal hal hs2) rfl i206 dX5_step_206 e206 (fun H locs Z hS => ?_)
  replace hal := (show σ206.2.2.2.2 = σ.2.2.2.2 from (congrArg (fun z : wx_St => z.2.2.2.2) e206).trans rfl).trans hal
  refine lv_iinc (v := x10 + 1) (lv' := [(10, .int (x10 + 1)), (0, .ref (wx_ad ad rd o0 k0)), (1, .int x1), (2, .ref (wx_ad ad rd o2 k2)), (3, .int x3), (4, .long x4), (6, .ref (wx_ad ad rd o6 k6)), (7, .float x7), (8, .float x8), (9, .float x9), (11, .int x11), (12, .float x12), (13, .float x13), (14, .float x14)]) hx hb dX5_step_207 hl (k := 9) rfl rfl (by decide) rfl (fun ls hl => ?_)
  refine lv_goto (tgt := 27) hx hb dX5_step_210 (by decide) ?_
  exact hK27 h Z hS (lv_sub hl [1, 2, 3, 4, 5, 6, 7, 8, 9, 0] rfl) hal
set_option maxRecDepth 20000 in
set_option maxHeartbeats 4000000 in
theorem m_X5_step_167 {o0 : Nat} {k0 : Nat} {n0 : Nat} {o2 : Nat} {k2 : Nat} {n2 : Nat} {o6 : Nat} {k6 : Nat}  {σ' : wx_St} {K27 : Int32 → Int32 → Int64 → UInt32 → UInt32 → UInt32 → Int32 → wx_St → Option (Unit × wx_St)} (mK27 : ∀ {x1 : Int32} {x3 : Int32} {x4 : Int64} {x7 : UInt32} {x8 : UInt32} {x9 : UInt32} {x10 : Int32} {σ : wx_St}, K27 x1 x3 x4 x7 x8 x9 x10 σ = some ((), σ') → σ'.2.2.2.2 = σ.2.2.2.2) {x1 : Int32} {x3 : Int32} {x4 : Int64} {x7 : UInt32} {x8 : UInt32} {x9 : UInt32} {x10 : Int32} {x11 : Int32} {x12 : UInt32} {x13 : UInt32} {σ : wx_St} (h : f_X5_step_167 o0 k0 n0 o2 k2 n2 o6 k6 K27 x1 x3 x4 x7 x8 x9 x10 x11 x12 x13 σ = some ((), σ')) : σ'.2.2.2.2 = σ.2.2.2.2 := by
  unfold f_X5_step_167 at h
  obtain ⟨v171, ev171, nv171, h⟩ := wx_f_ok h
  obtain ⟨v174, ev174, nv174, h⟩ := wx_f_ok h
  obtain ⟨v178, ev178, nv178, h⟩ := wx_f_ok h
  obtain ⟨v190, hc190, h⟩ := wx_o_ok h
  by_cases c193 : v190 = 0
  · replace h := wx_ift c193 h
    exact m_X5_step_206 (K27 := K27) @mK27 h
  · replace h := wx_iff c193 h
    obtain ⟨v200, ev200, nv200, h⟩ := wx_f_ok h
    exact m_X5_step_206 (K27 := K27) @mK27 h
set_option maxRecDepth 20000 in
set_option maxHeartbeats 4000000 in
theorem b_X5_step_167 (B : wx_B p s m args meth c cX5_step 15 none wsX5_step RX5 D ad ca A) {o0 : Nat} {k0 : Nat} {n0 : Nat} {o2 : Nat} {k2 : Nat} {n2 : Nat} {o6 : Nat} {k6 : Nat} {al : Nat → Bool} (hs0 : wx_sh al o0 k0 = (2, n0)) (hs2 : wx_sh al o2 k2 = (2, n2)) (hs6 : wx_sh al o6 k6 = (1, 4))  {σ' : wx_St} {K27 : Int32 → Int32 → Int64 → UInt32 → UInt32 → UInt32 → Int32 → wx_St → Option (Unit × wx_St)} (hK27 : ∀ {x1 : Int32} {x3 : Int32} {x4 : Int64} {x7 : UInt32} {x8 : UInt32} {x9 : UInt32} {x10 : Int32} {σ : wx_St}  (h : K27 x1 x3 x4 x7 x8 x9 x10 σ = some ((), σ')) {H : Heap} {locs : List Loc} (Z : wx_Z D ad rd ca A σ H) (hS : va_S A s.heap H locs) {ls : Array Slot} (hl : lv_has ls 15 [(0, .ref (wx_ad ad rd o0 k0)), (1, .int x1), (2, .ref (wx_ad ad rd o2 k2)), (3, .int x3), (4, .long x4), (6, .ref (wx_ad ad rd o6 k6)), (7, .float x7), (8, .float x8), (9, .float x9), (10, .int x10)]) (hal : σ.2.2.2.2 = al), W p l e ({ frames := 1, cells := 0, slots := 0, locals := 22 } : Room) s m args below meth c H locs 0 0 (MQ below (wx_Q D ad rd ca A none σ') args s 0 0 A) (F0 m 27 ls [])) {x1 : Int32} {x3 : Int32} {x4 : Int64} {x7 : UInt32} {x8 : UInt32} {x9 : UInt32} {x10 : Int32} {x11 : Int32} {x12 : UInt32} {x13 : UInt32} {σ : wx_St}  (h : f_X5_step_167 o0 k0 n0 o2 k2 n2 o6 k6 K27 x1 x3 x4 x7 x8 x9 x10 x11 x12 x13 σ = some ((), σ')) {H : Heap} {locs : List Loc} (Z : wx_Z D ad rd ca A σ H) (hS : va_S A s.heap H locs) {ls : Array Slot} (hl : lv_has ls 15 [(0, .ref (wx_ad ad rd o0 k0)), (1, .int x1), (2, .ref (wx_ad ad rd o2 k2)), (3, .int x3), (4, .long x4), (6, .ref (wx_ad ad rd o6 k6)), (7, .float x7), (8, .float x8), (9, .float x9), (10, .int x10), (11, .int x11), (12, .float x12), (13, .float x13)]) (hal : σ.2.2.2.2 = al) : W p l e ({ frames := 1, cells := 0, slots := 0, locals := 22 } : Room) s m args below meth c H locs 0 0 (MQ below (wx_Q D ad rd ca A none σ') args s 0 0 A) (F0 m 167 ls []) := by
  obtain ⟨hx, hb, hml, hr, hts, hown, hlk, hC, hA⟩ := id B
  unfold f_X5_step_167 at h
  refine lv_fload hx hb dX5_step_167 (lv_at hl 11 rfl) ?_
  refine lv_fload hx hb dX5_step_169 (lv_at hl 12 rfl) ?_
  obtain ⟨v171, ev171, nv171, h⟩ := wx_f_ok h
  refine wx_fadd hx hb dX5_step_171 ev171 nv171 ?_
  refine lv_fload hx hb dX5_step_172 (lv_at hl 7 rfl) ?_
  obtain ⟨v174, ev174, nv174, h⟩ := wx_f_ok h
  refine wx_fmul hx hb dX5_step_174 ev174 nv174 ?_
  refine wx_ldcwF hx hb hown (hts _ k_X5_step_w0) dX5_step_175 ?_
  obtain ⟨v178, ev178, nv178, h⟩ := wx_f_ok h
  refine wx_fdiv hx hb dX5_step_178 ev178 nv178 ?_
  refine lv_fstore (lv' := [(14, .float v178), (0, .ref (wx_ad ad rd o0 k0)), (1, .int x1), (2, .ref (wx_ad ad rd o2 k2)), (3, .int x3), (4, .long x4), (6, .ref (wx_ad ad rd o6 k6)), (7, .float x7), (8, .float x8), (9, .float x9), (10, .int x10), (11, .int x11), (12, .float x12), (13, .float x13)]) hx hb dX5_step_179 hl (by decide) rfl (fun ls hl => ?_)
  refine lv_aload_n hx hb dX5_step_181 rfl (lv_at hl 3 rfl) ?_
  refine lv_iload_n hx hb dX5_step_182 rfl (lv_at hl 4 rfl) ?_
  refine lv_iload hx hb dX5_step_183 (lv_at hl 10 rfl) ?_
  refine lv_iadd hx hb dX5_step_185 ?_
  refine lv_lload hx hb dX5_step_186 (lv_at hl 5 rfl) ?_
  refine lv_iload hx hb dX5_step_188 (lv_at hl 10 rfl) ?_
  obtain ⟨v190, hc190, h⟩ := wx_o_ok h
  refine wx_call (va_runS (As := [.long x4, .int x10]) (rest := [.int (x3 + x10), .ref (wx_ad ad rd o2 k2)]) ⟨hx, hb, hml, hown, hts⟩ (c_X5_isIn l (D := D) (ad := ad) (rd := rd) (ca := ca) (A := A) (σ := σ) hc190) (va_cwS 2 hts gX5_step_X5_isIn rfl rfl rfl (by decide +kernel) ⟨Nat.le_of_ble_eq_true rfl, Nat.le_of_ble_eq_true rfl⟩) (wx_preS hC Z hS hA) rfl rfl hl.1 rfl (lv_room (Nat.le_of_ble_eq_true rfl)) dX5_step_190 ⟨Nat.zero_le _, Nat.zero_le _⟩) hS (fun H locs Z hS => ?_)
  refine lv_if_eq (tgt := 204) hx hb dX5_step_193 (by decide) (fun c193 => ?_) (fun c193 => ?_)
  · replace h := wx_ift c193 h
    refine lv_fload hx hb dX5_step_204 (lv_at hl 0 rfl) ?_
    exact b_X5_step_206 B hs0 hs2 hs6 (K27 := K27) @hK27 h Z hS (lv_sub hl [1, 2, 3, 4, 5, 6, 7, 8, 9, 10, 11, 12, 13, 0] rfl) hal
  · replace h := wx_iff c193 h
    refine lv_fload hx hb dX5_step_196 (lv_at hl 0 rfl) ?_
    refine lv_fload hx hb dX5_step_198 (lv_at hl 9 rfl) ?_
    obtain ⟨v200, ev200, nv200, h⟩ := wx_f_ok h
    refine wx_fadd hx hb dX5_step_200 ev200 nv200 ?_
    refine lv_goto (tgt := 206) hx hb dX5_step_201 (by decide) ?_
    exact b_X5_step_206 B hs0 hs2 hs6 (K27 := K27) @hK27 h Z hS (lv_sub hl [1, 2, 3, 4, 5, 6, 7, 8, 9, 10, 11, 12, 13, 0] rfl) hal
set_option maxRecDepth 20000 in
set_option maxHeartbeats 4000000 in
theorem m_X5_step_136 {o0 : Nat} {k0 : Nat} {n0 : Nat} {o2 : Nat} {k2 : Nat} {n2 : Nat} {o6 : Nat} {k6 : Nat}  {σ' : wx_St} {K27 : Int32 → Int32 → Int64 → UInt32 → UInt32 → UInt32 → Int32 → wx_St → Option (Unit × wx_St)} (mK27 : ∀ {x1 : Int32} {x3 : Int32} {x4 : Int64} {x7 : UInt32} {x8 : UInt32} {x9 : UInt32} {x10 : Int32} {σ : wx_St}, K27 x1 x3 x4 x7 x8 x9 x10 σ = some ((), σ') → σ'.2.2.2.2 = σ.2.2.2.2) {x1 : Int32} {x3 : Int32} {x4 : Int64} {x7 : UInt32} {x8 : UInt32} {x9 : UInt32} {x10 : Int32} {x11 : Int32} {x12 : UInt32} {x13 : UInt32} {σ : wx_St} (h : f_X5_step_136 o0 k0 n0 o2 k2 n2 o6 k6 K27 x1 x3 x4 x7 x8 x9 x10 x11 x12 x13 σ = some ((), σ')) : σ'.2.2.2.2 = σ.2.2.2.2 := by
  unfold f_X5_step_136 at h
  by_cases c143 : 7 ≤ (x10 - x10 / 8 * 8)
  · replace h := wx_ift c143 h
    exact m_X5_step_167 (K27 := K27) @mK27 h
  · replace h := wx_iff c143 h
    obtain ⟨v153, ev153, iv153, h⟩ := wx_rF_ok h
    obtain ⟨v156, ev156, nv156, h⟩ := wx_f_ok h
    obtain ⟨v159, ev159, nv159, h⟩ := wx_f_ok h
    obtain ⟨v163, ev163, nv163, h⟩ := wx_f_ok h
    obtain ⟨v164, ev164, nv164, h⟩ := wx_f_ok h
    exact m_X5_step_167 (K27 := K27) @mK27 h
set_option maxRecDepth 20000 in
set_option maxHeartbeats 4000000 in
theorem b_X5_step_136 (B : wx_B p s m args meth c cX5_step 15 none wsX5_step RX5 D ad ca A) {o0 : Nat} {k0 : Nat} {n0 : Nat} {o2 : Nat} {k2 : Nat} {n2 : Nat} {o6 : Nat} {k6 : Nat} {al : Nat → Bool} (hs0 : wx_sh al o0 k0 = (2, n0)) (hs2 : wx_sh al o2 k2 = (2, n2)) (hs6 : wx_sh al o6 k6 = (1, 4))  {σ' : wx_St} {K27 : Int32 → Int32 → Int64 → UInt32 → UInt32 → UInt32 → Int32 → wx_St → Option (Unit × wx_St)} (hK27 : ∀ {x1 : Int32} {x3 : Int32} {x4 : Int64} {x7 : UInt32} {x8 : UInt32} {x9 : UInt32} {x10 : Int32} {σ : wx_St}  (h : K27 x1 x3 x4 x7 x8 x9 x10 σ = some ((), σ')) {H : Heap} {locs : List Loc} (Z : wx_Z D ad rd ca A σ H) (hS : va_S A s.heap H locs) {ls : Array Slot} (hl : lv_has ls 15 [(0, .ref (wx_ad ad rd o0 k0)), (1, .int x1), (2, .ref (wx_ad ad rd o2 k2)), (3, .int x3), (4, .long x4), (6, .ref (wx_ad ad rd o6 k6)), (7, .float x7), (8, .float x8), (9, .float x9), (10, .int x10)]) (hal : σ.2.2.2.2 = al), W p l e ({ frames := 1, cells := 0, slots := 0, locals := 22 } : Room) s m args below meth c H locs 0 0 (MQ below (wx_Q D ad rd ca A none σ') args s 0 0 A) (F0 m 27 ls [])) {x1 : Int32} {x3 : Int32} {x4 : Int64} {x7 : UInt32} {x8 : UInt32} {x9 : UInt32} {x10 : Int32} {x11 : Int32} {x12 : UInt32} {x13 : UInt32} {σ : wx_St}  (h : f_X5_step_136 o0 k0 n0 o2 k2 n2 o6 k6 K27 x1 x3 x4 x7 x8 x9 x10 x11 x12 x13 σ = some ((), σ')) {H : Heap} {locs : List Loc} (Z : wx_Z D ad rd ca A σ H) (hS : va_S A s.heap H locs) {ls : Array Slot} (hl : lv_has ls 15 [(0, .ref (wx_ad ad rd o0 k0)), (1, .int x1), (2, .ref (wx_ad ad rd o2 k2)), (3, .int x3), (4, .long x4), (6, .ref (wx_ad ad rd o6 k6)), (7, .float x7), (8, .float x8), (9, .float x9), (10, .int x10), (11, .int x11), (12, .float x12), (13, .float x13)]) (hal : σ.2.2.2.2 = al) : W p l e ({ frames := 1, cells := 0, slots := 0, locals := 22 } : Room) s m args below meth c H locs 0 0 (MQ below (wx_Q D ad rd ca A none σ') args s 0 0 A) (F0 m 136 ls []) := by
  obtain ⟨hx, hb, hml, hr, hts, hown, hlk, hC, hA⟩ := id B
  unfold f_X5_step_136 at h
  refine lv_iload hx hb dX5_step_136 (lv_at hl 9 rfl) ?_
  refine lv_bipush (v := 8) hx hb dX5_step_138 (by decide) ?_
  refine lv_irem hx hb dX5_step_140 (by decide) ?_
  refine lv_bipush (v := 7) hx hb dX5_step_141 (by decide) ?_
  refine lv_icmp_ge (tgt := 167) hx hb dX5_step_143 (by decide) (fun c143 => ?_) (fun c143 => ?_)
  · replace h := wx_ift c143 h
    exact b_X5_step_167 B hs0 hs2 hs6 (K27 := K27) @hK27 h Z hS (lv_sub hl [0, 1, 2, 3, 4, 5, 6, 7, 8, 9, 10, 11, 12] rfl) hal
  · replace h := wx_iff c143 h
    refine lv_fload hx hb dX5_step_146 (lv_at hl 12 rfl) ?_
    refine lv_aload_n hx hb dX5_step_148 rfl (lv_at hl 0 rfl) ?_
    refine lv_iload hx hb dX5_step_149 (lv_at hl 10 rfl) ?_
    refine lv_iconst (v := 1) hx hb dX5_step_151 (by decide) ?_
    refine lv_iadd hx hb dX5_step_152 ?_
    obtain ⟨v153, ev153, iv153, h⟩ := wx_rF_ok h
    refine wx_fald hx hb hC.1 Z (o := o0) (k := k0) (n := n0) (wx_hal hal hs0) rfl iv153 dX5_step_153 ev153 ?_
    refine lv_fload hx hb dX5_step_154 (lv_at hl 11 rfl) ?_
    obtain ⟨v156, ev156, nv156, h⟩ := wx_f_ok h
    refine wx_fsub hx hb dX5_step_156 ev156 nv156 ?_
    refine lv_fload hx hb dX5_step_157 (lv_at hl 6 rfl) ?_
    obtain ⟨v159, ev159, nv159, h⟩ := wx_f_ok h
    refine wx_fmul hx hb dX5_step_159 ev159 nv159 ?_
    refine wx_ldcwF hx hb hown (hts _ k_X5_step_w0) dX5_step_160 ?_
    obtain ⟨v163, ev163, nv163, h⟩ := wx_f_ok h
    refine wx_fdiv hx hb dX5_step_163 ev163 nv163 ?_
    obtain ⟨v164, ev164, nv164, h⟩ := wx_f_ok h
    refine wx_fadd hx hb dX5_step_164 ev164 nv164 ?_
    refine lv_fstore (lv' := [(13, .float v164), (0, .ref (wx_ad ad rd o0 k0)), (1, .int x1), (2, .ref (wx_ad ad rd o2 k2)), (3, .int x3), (4, .long x4), (6, .ref (wx_ad ad rd o6 k6)), (7, .float x7), (8, .float x8), (9, .float x9), (10, .int x10), (11, .int x11), (12, .float x12)]) hx hb dX5_step_165 hl (by decide) rfl (fun ls hl => ?_)
    exact b_X5_step_167 B hs0 hs2 hs6 (K27 := K27) @hK27 h Z hS (lv_sub hl [1, 2, 3, 4, 5, 6, 7, 8, 9, 10, 11, 12, 0] rfl) hal
set_option maxRecDepth 20000 in
set_option maxHeartbeats 4000000 in
theorem m_X5_step_107 {o0 : Nat} {k0 : Nat} {n0 : Nat} {o2 : Nat} {k2 : Nat} {n2 : Nat} {o6 : Nat} {k6 : Nat}  {σ' : wx_St} {K27 : Int32 → Int32 → Int64 → UInt32 → UInt32 → UInt32 → Int32 → wx_St → Option (Unit × wx_St)} (mK27 : ∀ {x1 : Int32} {x3 : Int32} {x4 : Int64} {x7 : UInt32} {x8 : UInt32} {x9 : UInt32} {x10 : Int32} {σ : wx_St}, K27 x1 x3 x4 x7 x8 x9 x10 σ = some ((), σ') → σ'.2.2.2.2 = σ.2.2.2.2) {x1 : Int32} {x3 : Int32} {x4 : Int64} {x7 : UInt32} {x8 : UInt32} {x9 : UInt32} {x10 : Int32} {x11 : Int32} {x12 : UInt32} {x13 : UInt32} {σ : wx_St} (h : f_X5_step_107 o0 k0 n0 o2 k2 n2 o6 k6 K27 x1 x3 x4 x7 x8 x9 x10 x11 x12 x13 σ = some ((), σ')) : σ'.2.2.2.2 = σ.2.2.2.2 := by
  unfold f_X5_step_107 at h
  by_cases c112 : (x10 - x10 / 8 * 8) ≤ 0
  · replace h := wx_ift c112 h
    exact m_X5_step_136 (K27 := K27) @mK27 h
  · replace h := wx_iff c112 h
    obtain ⟨v122, ev122, iv122, h⟩ := wx_rF_ok h
    obtain ⟨v125, ev125, nv125, h⟩ := wx_f_ok h
    obtain ⟨v128, ev128, nv128, h⟩ := wx_f_ok h
    obtain ⟨v132, ev132, nv132, h⟩ := wx_f_ok h
    obtain ⟨v133, ev133, nv133, h⟩ := wx_f_ok h
    exact m_X5_step_136 (K27 := K27) @mK27 h
set_option maxRecDepth 20000 in
set_option maxHeartbeats 4000000 in
theorem b_X5_step_107 (B : wx_B p s m args meth c cX5_step 15 none wsX5_step RX5 D ad ca A) {o0 : Nat} {k0 : Nat} {n0 : Nat} {o2 : Nat} {k2 : Nat} {n2 : Nat} {o6 : Nat} {k6 : Nat} {al : Nat → Bool} (hs0 : wx_sh al o0 k0 = (2, n0)) (hs2 : wx_sh al o2 k2 = (2, n2)) (hs6 : wx_sh al o6 k6 = (1, 4))  {σ' : wx_St} {K27 : Int32 → Int32 → Int64 → UInt32 → UInt32 → UInt32 → Int32 → wx_St → Option (Unit × wx_St)} (hK27 : ∀ {x1 : Int32} {x3 : Int32} {x4 : Int64} {x7 : UInt32} {x8 : UInt32} {x9 : UInt32} {x10 : Int32} {σ : wx_St}  (h : K27 x1 x3 x4 x7 x8 x9 x10 σ = some ((), σ')) {H : Heap} {locs : List Loc} (Z : wx_Z D ad rd ca A σ H) (hS : va_S A s.heap H locs) {ls : Array Slot} (hl : lv_has ls 15 [(0, .ref (wx_ad ad rd o0 k0)), (1, .int x1), (2, .ref (wx_ad ad rd o2 k2)), (3, .int x3), (4, .long x4), (6, .ref (wx_ad ad rd o6 k6)), (7, .float x7), (8, .float x8), (9, .float x9), (10, .int x10)]) (hal : σ.2.2.2.2 = al), W p l e ({ frames := 1, cells := 0, slots := 0, locals := 22 } : Room) s m args below meth c H locs 0 0 (MQ below (wx_Q D ad rd ca A none σ') args s 0 0 A) (F0 m 27 ls [])) {x1 : Int32} {x3 : Int32} {x4 : Int64} {x7 : UInt32} {x8 : UInt32} {x9 : UInt32} {x10 : Int32} {x11 : Int32} {x12 : UInt32} {x13 : UInt32} {σ : wx_St}  (h : f_X5_step_107 o0 k0 n0 o2 k2 n2 o6 k6 K27 x1 x3 x4 x7 x8 x9 x10 x11 x12 x13 σ = some ((), σ')) {H : Heap} {locs : List Loc} (Z : wx_Z D ad rd ca A σ H) (hS : va_S A s.heap H locs) {ls : Array Slot} (hl : lv_has ls 15 [(0, .ref (wx_ad ad rd o0 k0)), (1, .int x1), (2, .ref (wx_ad ad rd o2 k2)), (3, .int x3), (4, .long x4), (6, .ref (wx_ad ad rd o6 k6)), (7, .float x7), (8, .float x8), (9, .float x9), (10, .int x10), (11, .int x11), (12, .float x12), (13, .float x13)]) (hal : σ.2.2.2.2 = al) : W p l e ({ frames := 1, cells := 0, slots := 0, locals := 22 } : Room) s m args below meth c H locs 0 0 (MQ below (wx_Q D ad rd ca A none σ') args s 0 0 A) (F0 m 107 ls []) := by
  obtain ⟨hx, hb, hml, hr, hts, hown, hlk, hC, hA⟩ := id B
  unfold f_X5_step_107 at h
  refine lv_iload hx hb dX5_step_107 (lv_at hl 9 rfl) ?_
  refine lv_bipush (v := 8) hx hb dX5_step_109 (by decide) ?_
  refine lv_irem hx hb dX5_step_111 (by decide) ?_
  refine lv_if_le (tgt := 136) hx hb dX5_step_112 (by decide) (fun c112 => ?_) (fun c112 => ?_)
  · replace h := wx_ift c112 h
    exact b_X5_step_136 B hs0 hs2 hs6 (K27 := K27) @hK27 h Z hS (lv_sub hl [0, 1, 2, 3, 4, 5, 6, 7, 8, 9, 10, 11, 12] rfl) hal
  · replace h := wx_iff c112 h
    refine lv_fload hx hb dX5_step_115 (lv_at hl 12 rfl) ?_
    refine lv_aload_n hx hb dX5_step_117 rfl (lv_at hl 0 rfl) ?_
    refine lv_iload hx hb dX5_step_118 (lv_at hl 10 rfl) ?_
    refine lv_iconst (v := 1) hx hb dX5_step_120 (by decide) ?_
    refine lv_isub hx hb dX5_step_121 ?_
    obtain ⟨v122, ev122, iv122, h⟩ := wx_rF_ok h
    refine wx_fald hx hb hC.1 Z (o := o0) (k := k0) (n := n0) (wx_hal hal hs0) rfl iv122 dX5_step_122 ev122 ?_
    refine lv_fload hx hb dX5_step_123 (lv_at hl 11 rfl) ?_
    obtain ⟨v125, ev125, nv125, h⟩ := wx_f_ok h
    refine wx_fsub hx hb dX5_step_125 ev125 nv125 ?_
    refine lv_fload hx hb dX5_step_126 (lv_at hl 6 rfl) ?_
    obtain ⟨v128, ev128, nv128, h⟩ := wx_f_ok h
    refine wx_fmul hx hb dX5_step_128 ev128 nv128 ?_
    refine wx_ldcwF hx hb hown (hts _ k_X5_step_w0) dX5_step_129 ?_
    obtain ⟨v132, ev132, nv132, h⟩ := wx_f_ok h
    refine wx_fdiv hx hb dX5_step_132 ev132 nv132 ?_
    obtain ⟨v133, ev133, nv133, h⟩ := wx_f_ok h
    refine wx_fadd hx hb dX5_step_133 ev133 nv133 ?_
    refine lv_fstore (lv' := [(13, .float v133), (0, .ref (wx_ad ad rd o0 k0)), (1, .int x1), (2, .ref (wx_ad ad rd o2 k2)), (3, .int x3), (4, .long x4), (6, .ref (wx_ad ad rd o6 k6)), (7, .float x7), (8, .float x8), (9, .float x9), (10, .int x10), (11, .int x11), (12, .float x12)]) hx hb dX5_step_134 hl (by decide) rfl (fun ls hl => ?_)
    exact b_X5_step_136 B hs0 hs2 hs6 (K27 := K27) @hK27 h Z hS (lv_sub hl [1, 2, 3, 4, 5, 6, 7, 8, 9, 10, 11, 12, 0] rfl) hal
set_option maxRecDepth 20000 in
set_option maxHeartbeats 4000000 in
theorem m_X5_step_78 {o0 : Nat} {k0 : Nat} {n0 : Nat} {o2 : Nat} {k2 : Nat} {n2 : Nat} {o6 : Nat} {k6 : Nat}  {σ' : wx_St} {K27 : Int32 → Int32 → Int64 → UInt32 → UInt32 → UInt32 → Int32 → wx_St → Option (Unit × wx_St)} (mK27 : ∀ {x1 : Int32} {x3 : Int32} {x4 : Int64} {x7 : UInt32} {x8 : UInt32} {x9 : UInt32} {x10 : Int32} {σ : wx_St}, K27 x1 x3 x4 x7 x8 x9 x10 σ = some ((), σ') → σ'.2.2.2.2 = σ.2.2.2.2) {x1 : Int32} {x3 : Int32} {x4 : Int64} {x7 : UInt32} {x8 : UInt32} {x9 : UInt32} {x10 : Int32} {x11 : Int32} {x12 : UInt32} {x13 : UInt32} {σ : wx_St} (h : f_X5_step_78 o0 k0 n0 o2 k2 n2 o6 k6 K27 x1 x3 x4 x7 x8 x9 x10 x11 x12 x13 σ = some ((), σ')) : σ'.2.2.2.2 = σ.2.2.2.2 := by
  unfold f_X5_step_78 at h
  by_cases c82 : 56 ≤ x10
  · replace h := wx_ift c82 h
    exact m_X5_step_107 (K27 := K27) @mK27 h
  · replace h := wx_iff c82 h
    obtain ⟨v93, ev93, iv93, h⟩ := wx_rF_ok h
    obtain ⟨v96, ev96, nv96, h⟩ := wx_f_ok h
    obtain ⟨v99, ev99, nv99, h⟩ := wx_f_ok h
    obtain ⟨v103, ev103, nv103, h⟩ := wx_f_ok h
    obtain ⟨v104, ev104, nv104, h⟩ := wx_f_ok h
    exact m_X5_step_107 (K27 := K27) @mK27 h
set_option maxRecDepth 20000 in
set_option maxHeartbeats 4000000 in
theorem b_X5_step_78 (B : wx_B p s m args meth c cX5_step 15 none wsX5_step RX5 D ad ca A) {o0 : Nat} {k0 : Nat} {n0 : Nat} {o2 : Nat} {k2 : Nat} {n2 : Nat} {o6 : Nat} {k6 : Nat} {al : Nat → Bool} (hs0 : wx_sh al o0 k0 = (2, n0)) (hs2 : wx_sh al o2 k2 = (2, n2)) (hs6 : wx_sh al o6 k6 = (1, 4))  {σ' : wx_St} {K27 : Int32 → Int32 → Int64 → UInt32 → UInt32 → UInt32 → Int32 → wx_St → Option (Unit × wx_St)} (hK27 : ∀ {x1 : Int32} {x3 : Int32} {x4 : Int64} {x7 : UInt32} {x8 : UInt32} {x9 : UInt32} {x10 : Int32} {σ : wx_St}  (h : K27 x1 x3 x4 x7 x8 x9 x10 σ = some ((), σ')) {H : Heap} {locs : List Loc} (Z : wx_Z D ad rd ca A σ H) (hS : va_S A s.heap H locs) {ls : Array Slot} (hl : lv_has ls 15 [(0, .ref (wx_ad ad rd o0 k0)), (1, .int x1), (2, .ref (wx_ad ad rd o2 k2)), (3, .int x3), (4, .long x4), (6, .ref (wx_ad ad rd o6 k6)), (7, .float x7), (8, .float x8), (9, .float x9), (10, .int x10)]) (hal : σ.2.2.2.2 = al), W p l e ({ frames := 1, cells := 0, slots := 0, locals := 22 } : Room) s m args below meth c H locs 0 0 (MQ below (wx_Q D ad rd ca A none σ') args s 0 0 A) (F0 m 27 ls [])) {x1 : Int32} {x3 : Int32} {x4 : Int64} {x7 : UInt32} {x8 : UInt32} {x9 : UInt32} {x10 : Int32} {x11 : Int32} {x12 : UInt32} {x13 : UInt32} {σ : wx_St}  (h : f_X5_step_78 o0 k0 n0 o2 k2 n2 o6 k6 K27 x1 x3 x4 x7 x8 x9 x10 x11 x12 x13 σ = some ((), σ')) {H : Heap} {locs : List Loc} (Z : wx_Z D ad rd ca A σ H) (hS : va_S A s.heap H locs) {ls : Array Slot} (hl : lv_has ls 15 [(0, .ref (wx_ad ad rd o0 k0)), (1, .int x1), (2, .ref (wx_ad ad rd o2 k2)), (3, .int x3), (4, .long x4), (6, .ref (wx_ad ad rd o6 k6)), (7, .float x7), (8, .float x8), (9, .float x9), (10, .int x10), (11, .int x11), (12, .float x12), (13, .float x13)]) (hal : σ.2.2.2.2 = al) : W p l e ({ frames := 1, cells := 0, slots := 0, locals := 22 } : Room) s m args below meth c H locs 0 0 (MQ below (wx_Q D ad rd ca A none σ') args s 0 0 A) (F0 m 78 ls []) := by
  obtain ⟨hx, hb, hml, hr, hts, hown, hlk, hC, hA⟩ := id B
  unfold f_X5_step_78 at h
  refine lv_iload hx hb dX5_step_78 (lv_at hl 9 rfl) ?_
  refine lv_bipush (v := 56) hx hb dX5_step_80 (by decide) ?_
  refine lv_icmp_ge (tgt := 107) hx hb dX5_step_82 (by decide) (fun c82 => ?_) (fun c82 => ?_)
  · replace h := wx_ift c82 h
    exact b_X5_step_107 B hs0 hs2 hs6 (K27 := K27) @hK27 h Z hS (lv_sub hl [0, 1, 2, 3, 4, 5, 6, 7, 8, 9, 10, 11, 12] rfl) hal
  · replace h := wx_iff c82 h
    refine lv_fload hx hb dX5_step_85 (lv_at hl 12 rfl) ?_
    refine lv_aload_n hx hb dX5_step_87 rfl (lv_at hl 0 rfl) ?_
    refine lv_iload hx hb dX5_step_88 (lv_at hl 10 rfl) ?_
    refine lv_bipush (v := 8) hx hb dX5_step_90 (by decide) ?_
    refine lv_iadd hx hb dX5_step_92 ?_
    obtain ⟨v93, ev93, iv93, h⟩ := wx_rF_ok h
    refine wx_fald hx hb hC.1 Z (o := o0) (k := k0) (n := n0) (wx_hal hal hs0) rfl iv93 dX5_step_93 ev93 ?_
    refine lv_fload hx hb dX5_step_94 (lv_at hl 11 rfl) ?_
    obtain ⟨v96, ev96, nv96, h⟩ := wx_f_ok h
    refine wx_fsub hx hb dX5_step_96 ev96 nv96 ?_
    refine lv_fload hx hb dX5_step_97 (lv_at hl 6 rfl) ?_
    obtain ⟨v99, ev99, nv99, h⟩ := wx_f_ok h
    refine wx_fmul hx hb dX5_step_99 ev99 nv99 ?_
    refine wx_ldcwF hx hb hown (hts _ k_X5_step_w0) dX5_step_100 ?_
    obtain ⟨v103, ev103, nv103, h⟩ := wx_f_ok h
    refine wx_fdiv hx hb dX5_step_103 ev103 nv103 ?_
    obtain ⟨v104, ev104, nv104, h⟩ := wx_f_ok h
    refine wx_fadd hx hb dX5_step_104 ev104 nv104 ?_
    refine lv_fstore (lv' := [(13, .float v104), (0, .ref (wx_ad ad rd o0 k0)), (1, .int x1), (2, .ref (wx_ad ad rd o2 k2)), (3, .int x3), (4, .long x4), (6, .ref (wx_ad ad rd o6 k6)), (7, .float x7), (8, .float x8), (9, .float x9), (10, .int x10), (11, .int x11), (12, .float x12)]) hx hb dX5_step_105 hl (by decide) rfl (fun ls hl => ?_)
    exact b_X5_step_107 B hs0 hs2 hs6 (K27 := K27) @hK27 h Z hS (lv_sub hl [1, 2, 3, 4, 5, 6, 7, 8, 9, 10, 11, 12, 0] rfl) hal
set_option maxRecDepth 20000 in
set_option maxHeartbeats 4000000 in
theorem m_X5_step_27 {o0 : Nat} {k0 : Nat} {n0 : Nat} {o2 : Nat} {k2 : Nat} {n2 : Nat} {o6 : Nat} {k6 : Nat}  {σ' : wx_St}  :
    ∀ {n : Nat} {x1 : Int32} {x3 : Int32} {x4 : Int64} {x7 : UInt32} {x8 : UInt32} {x9 : UInt32} {x10 : Int32} {σ : wx_St} (h : f_X5_step_27 o0 k0 n0 o2 k2 n2 o6 k6 n x1 x3 x4 x7 x8 x9 x10 σ = some ((), σ')), σ'.2.2.2.2 = σ.2.2.2.2 := by
  intro n
  induction n with
  | zero => intro x1 x3 x4 x7 x8 x9 x10 σ h; exact wx_no h
  | succ n ih =>
    intro x1 x3 x4 x7 x8 x9 x10 σ h
    rw [f_X5_step_27] at h
    by_cases c31 : 64 ≤ x10
    · replace h := wx_ift c31 h
      obtain ⟨-, rfl⟩ := wx_ret_ok h
      rfl
    · replace h := wx_iff c31 h
      obtain ⟨v43, ev43, iv43, h⟩ := wx_rF_ok h
      by_cases c53 : x10 < 8
      · replace h := wx_ift c53 h
        exact m_X5_step_78 (K27 := (f_X5_step_27 o0 k0 n0 o2 k2 n2 o6 k6 n)) @ih h
      · replace h := wx_iff c53 h
        obtain ⟨v64, ev64, iv64, h⟩ := wx_rF_ok h
        obtain ⟨v67, ev67, nv67, h⟩ := wx_f_ok h
        obtain ⟨v70, ev70, nv70, h⟩ := wx_f_ok h
        obtain ⟨v74, ev74, nv74, h⟩ := wx_f_ok h
        obtain ⟨v75, ev75, nv75, h⟩ := wx_f_ok h
        exact m_X5_step_78 (K27 := (f_X5_step_27 o0 k0 n0 o2 k2 n2 o6 k6 n)) @ih h
set_option maxRecDepth 20000 in
set_option maxHeartbeats 4000000 in
theorem b_X5_step_27 (B : wx_B p s m args meth c cX5_step 15 none wsX5_step RX5 D ad ca A) {o0 : Nat} {k0 : Nat} {n0 : Nat} {o2 : Nat} {k2 : Nat} {n2 : Nat} {o6 : Nat} {k6 : Nat} {al : Nat → Bool} (hs0 : wx_sh al o0 k0 = (2, n0)) (hs2 : wx_sh al o2 k2 = (2, n2)) (hs6 : wx_sh al o6 k6 = (1, 4))  {σ' : wx_St}   :
    ∀ {n : Nat} {x1 : Int32} {x3 : Int32} {x4 : Int64} {x7 : UInt32} {x8 : UInt32} {x9 : UInt32} {x10 : Int32} {σ : wx_St}  (h : f_X5_step_27 o0 k0 n0 o2 k2 n2 o6 k6 n x1 x3 x4 x7 x8 x9 x10 σ = some ((), σ')) {H : Heap} {locs : List Loc} (Z : wx_Z D ad rd ca A σ H) (hS : va_S A s.heap H locs) {ls : Array Slot} (hl : lv_has ls 15 [(0, .ref (wx_ad ad rd o0 k0)), (1, .int x1), (2, .ref (wx_ad ad rd o2 k2)), (3, .int x3), (4, .long x4), (6, .ref (wx_ad ad rd o6 k6)), (7, .float x7), (8, .float x8), (9, .float x9), (10, .int x10)]) (hal : σ.2.2.2.2 = al), W p l e ({ frames := 1, cells := 0, slots := 0, locals := 22 } : Room) s m args below meth c H locs 0 0 (MQ below (wx_Q D ad rd ca A none σ') args s 0 0 A) (F0 m 27 ls []) := by
  obtain ⟨hx, hb, hml, hr, hts, hown, hlk, hC, hA⟩ := id B
  intro n
  induction n with
  | zero => intro x1 x3 x4 x7 x8 x9 x10 σ  h H locs Z hS ls hl hal; exact wx_no h
  | succ n ih =>
    intro x1 x3 x4 x7 x8 x9 x10 σ  h H locs Z hS ls hl hal
    rw [f_X5_step_27] at h
    refine lv_iload hx hb dX5_step_27 (lv_at hl 9 rfl) ?_
    refine lv_bipush (v := 64) hx hb dX5_step_29 (by decide) ?_
    refine lv_icmp_ge (tgt := 213) hx hb dX5_step_31 (by decide) (fun c31 => ?_) (fun c31 => ?_)
    · replace h := wx_ift c31 h
      obtain ⟨-, rfl⟩ := wx_ret_ok h
      exact W.vret hx hb hr (fun t ht hW => ⟨rfl, by rw [ht]; exact Z, hS.F ht⟩) hS.2.2 dX5_step_213
    · replace h := wx_iff c31 h
      refine lv_iload_n hx hb dX5_step_34 rfl (lv_at hl 1 rfl) ?_
      refine lv_iload hx hb dX5_step_35 (lv_at hl 9 rfl) ?_
      refine lv_iadd hx hb dX5_step_37 ?_
      refine lv_istore (lv' := [(11, .int (x1 + x10)), (0, .ref (wx_ad ad rd o0 k0)), (1, .int x1), (2, .ref (wx_ad ad rd o2 k2)), (3, .int x3), (4, .long x4), (6, .ref (wx_ad ad rd o6 k6)), (7, .float x7), (8, .float x8), (9, .float x9), (10, .int x10)]) hx hb dX5_step_38 hl (by decide) rfl (fun ls hl => ?_)
      refine lv_aload_n hx hb dX5_step_40 rfl (lv_at hl 1 rfl) ?_
      refine lv_iload hx hb dX5_step_41 (lv_at hl 0 rfl) ?_
      obtain ⟨v43, ev43, iv43, h⟩ := wx_rF_ok h
      refine wx_fald hx hb hC.1 Z (o := o0) (k := k0) (n := n0) (wx_hal hal hs0) rfl iv43 dX5_step_43 ev43 ?_
      refine lv_fstore (lv' := [(12, .float v43), (11, .int (x1 + x10)), (0, .ref (wx_ad ad rd o0 k0)), (1, .int x1), (2, .ref (wx_ad ad rd o2 k2)), (3, .int x3), (4, .long x4), (6, .ref (wx_ad ad rd o6 k6)), (7, .float x7), (8, .float x8), (9, .float x9), (10, .int x10)]) hx hb dX5_step_44 hl (by decide) rfl (fun ls hl => ?_)
      refine lv_fconst0 hx hb dX5_step_46 ?_
      refine lv_fstore (lv' := [(13, .float FP.fconst0), (12, .float v43), (11, .int (x1 + x10)), (0, .ref (wx_ad ad rd o0 k0)), (1, .int x1), (2, .ref (wx_ad ad rd o2 k2)), (3, .int x3), (4, .long x4), (6, .ref (wx_ad ad rd o6 k6)), (7, .float x7), (8, .float x8), (9, .float x9), (10, .int x10)]) hx hb dX5_step_47 hl (by decide) rfl (fun ls hl => ?_)
      refine lv_iload hx hb dX5_step_49 (lv_at hl 12 rfl) ?_
      refine lv_bipush (v := 8) hx hb dX5_step_51 (by decide) ?_
      refine lv_icmp_lt (tgt := 78) hx hb dX5_step_53 (by decide) (fun c53 => ?_) (fun c53 => ?_)
      · replace h := wx_ift c53 h
        exact b_X5_step_78 B hs0 hs2 hs6 (K27 := (f_X5_step_27 o0 k0 n0 o2 k2 n2 o6 k6 n)) @ih h Z hS (lv_sub hl [3, 4, 5, 6, 7, 8, 9, 10, 11, 12, 2, 1, 0] rfl) hal
      · replace h := wx_iff c53 h
        refine lv_fload hx hb dX5_step_56 (lv_at hl 0 rfl) ?_
        refine lv_aload_n hx hb dX5_step_58 rfl (lv_at hl 3 rfl) ?_
        refine lv_iload hx hb dX5_step_59 (lv_at hl 2 rfl) ?_
        refine lv_bipush (v := 8) hx hb dX5_step_61 (by decide) ?_
        refine lv_isub hx hb dX5_step_63 ?_
        obtain ⟨v64, ev64, iv64, h⟩ := wx_rF_ok h
        refine wx_fald hx hb hC.1 Z (o := o0) (k := k0) (n := n0) (wx_hal hal hs0) rfl iv64 dX5_step_64 ev64 ?_
        refine lv_fload hx hb dX5_step_65 (lv_at hl 1 rfl) ?_
        obtain ⟨v67, ev67, nv67, h⟩ := wx_f_ok h
        refine wx_fsub hx hb dX5_step_67 ev67 nv67 ?_
        refine lv_fload hx hb dX5_step_68 (lv_at hl 9 rfl) ?_
        obtain ⟨v70, ev70, nv70, h⟩ := wx_f_ok h
        refine wx_fmul hx hb dX5_step_70 ev70 nv70 ?_
        refine wx_ldcwF hx hb hown (hts _ k_X5_step_w0) dX5_step_71 ?_
        obtain ⟨v74, ev74, nv74, h⟩ := wx_f_ok h
        refine wx_fdiv hx hb dX5_step_74 ev74 nv74 ?_
        obtain ⟨v75, ev75, nv75, h⟩ := wx_f_ok h
        refine wx_fadd hx hb dX5_step_75 ev75 nv75 ?_
        refine lv_fstore (lv' := [(13, .float v75), (12, .float v43), (11, .int (x1 + x10)), (0, .ref (wx_ad ad rd o0 k0)), (1, .int x1), (2, .ref (wx_ad ad rd o2 k2)), (3, .int x3), (4, .long x4), (6, .ref (wx_ad ad rd o6 k6)), (7, .float x7), (8, .float x8), (9, .float x9), (10, .int x10)]) hx hb dX5_step_76 hl (by decide) rfl (fun ls hl => ?_)
        exact b_X5_step_78 B hs0 hs2 hs6 (K27 := (f_X5_step_27 o0 k0 n0 o2 k2 n2 o6 k6 n)) @ih h Z hS (lv_sub hl [3, 4, 5, 6, 7, 8, 9, 10, 11, 12, 2, 1, 0] rfl) hal
set_option maxRecDepth 20000 in
set_option maxHeartbeats 4000000 in
theorem m_X5_step_0 {o0 : Nat} {k0 : Nat} {n0 : Nat} {o2 : Nat} {k2 : Nat} {n2 : Nat} {o6 : Nat} {k6 : Nat}  {σ' : wx_St}  {x1 : Int32} {x3 : Int32} {x4 : Int64} {σ : wx_St} (h : f_X5_step o0 k0 n0 o2 k2 n2 o6 k6 x1 x3 x4 σ = some ((), σ')) : σ'.2.2.2.2 = σ.2.2.2.2 := by
  unfold f_X5_step at h
  obtain ⟨v3, ev3, iv3, h⟩ := wx_rI_ok h
  obtain ⟨v12, ev12, iv12, h⟩ := wx_rI_ok h
  obtain ⟨v20, ev20, iv20, h⟩ := wx_rI_ok h
  exact m_X5_step_27 h
set_option maxRecDepth 20000 in
set_option maxHeartbeats 4000000 in
theorem b_X5_step_0 (B : wx_B p s m args meth c cX5_step 15 none wsX5_step RX5 D ad ca A) {o0 : Nat} {k0 : Nat} {n0 : Nat} {o2 : Nat} {k2 : Nat} {n2 : Nat} {o6 : Nat} {k6 : Nat} {al : Nat → Bool} (hs0 : wx_sh al o0 k0 = (2, n0)) (hs2 : wx_sh al o2 k2 = (2, n2)) (hs6 : wx_sh al o6 k6 = (1, 4))  {σ' : wx_St}  {x1 : Int32} {x3 : Int32} {x4 : Int64} {σ : wx_St}  (h : f_X5_step o0 k0 n0 o2 k2 n2 o6 k6 x1 x3 x4 σ = some ((), σ')) {H : Heap} {locs : List Loc} (Z : wx_Z D ad rd ca A σ H) (hS : va_S A s.heap H locs) {ls : Array Slot} (hl : lv_has ls 15 [(0, .ref (wx_ad ad rd o0 k0)), (1, .int x1), (2, .ref (wx_ad ad rd o2 k2)), (3, .int x3), (4, .long x4), (6, .ref (wx_ad ad rd o6 k6))]) (hal : σ.2.2.2.2 = al) : W p l e ({ frames := 1, cells := 0, slots := 0, locals := 22 } : Room) s m args below meth c H locs 0 0 (MQ below (wx_Q D ad rd ca A none σ') args s 0 0 A) (F0 m 0 ls []) := by
  obtain ⟨hx, hb, hml, hr, hts, hown, hlk, hC, hA⟩ := id B
  unfold f_X5_step at h
  refine lv_aload hx hb dX5_step_0 (lv_at hl 5 rfl) ?_
  refine lv_iconst (v := 0) hx hb dX5_step_2 (by decide) ?_
  obtain ⟨v3, ev3, iv3, h⟩ := wx_rI_ok h
  refine wx_iald hx hb hC.1 Z (o := o6) (k := k6) (n := 4) (wx_hal hal hs6) rfl iv3 dX5_step_3 ev3 ?_
  refine lv_i2f hx hb dX5_step_4 ?_
  refine lv_fstore (lv' := [(7, .float (FP.i2f v3)), (0, .ref (wx_ad ad rd o0 k0)), (1, .int x1), (2, .ref (wx_ad ad rd o2 k2)), (3, .int x3), (4, .long x4), (6, .ref (wx_ad ad rd o6 k6))]) hx hb dX5_step_5 hl (by decide) rfl (fun ls hl => ?_)
  refine lv_bipush (v := 100) hx hb dX5_step_7 (by decide) ?_
  refine lv_aload hx hb dX5_step_9 (lv_at hl 6 rfl) ?_
  refine lv_iconst (v := 1) hx hb dX5_step_11 (by decide) ?_
  obtain ⟨v12, ev12, iv12, h⟩ := wx_rI_ok h
  refine wx_iald hx hb hC.1 Z (o := o6) (k := k6) (n := 4) (wx_hal hal hs6) rfl iv12 dX5_step_12 ev12 ?_
  refine lv_isub hx hb dX5_step_13 ?_
  refine lv_i2f hx hb dX5_step_14 ?_
  refine lv_fstore (lv' := [(8, .float (FP.i2f (100 - v12))), (7, .float (FP.i2f v3)), (0, .ref (wx_ad ad rd o0 k0)), (1, .int x1), (2, .ref (wx_ad ad rd o2 k2)), (3, .int x3), (4, .long x4), (6, .ref (wx_ad ad rd o6 k6))]) hx hb dX5_step_15 hl (by decide) rfl (fun ls hl => ?_)
  refine lv_aload hx hb dX5_step_17 (lv_at hl 7 rfl) ?_
  refine lv_iconst (v := 2) hx hb dX5_step_19 (by decide) ?_
  obtain ⟨v20, ev20, iv20, h⟩ := wx_rI_ok h
  refine wx_iald hx hb hC.1 Z (o := o6) (k := k6) (n := 4) (wx_hal hal hs6) rfl iv20 dX5_step_20 ev20 ?_
  refine lv_i2f hx hb dX5_step_21 ?_
  refine lv_fstore (lv' := [(9, .float (FP.i2f v20)), (8, .float (FP.i2f (100 - v12))), (7, .float (FP.i2f v3)), (0, .ref (wx_ad ad rd o0 k0)), (1, .int x1), (2, .ref (wx_ad ad rd o2 k2)), (3, .int x3), (4, .long x4), (6, .ref (wx_ad ad rd o6 k6))]) hx hb dX5_step_22 hl (by decide) rfl (fun ls hl => ?_)
  refine lv_iconst (v := 0) hx hb dX5_step_24 (by decide) ?_
  refine lv_istore (lv' := [(10, .int 0), (9, .float (FP.i2f v20)), (8, .float (FP.i2f (100 - v12))), (7, .float (FP.i2f v3)), (0, .ref (wx_ad ad rd o0 k0)), (1, .int x1), (2, .ref (wx_ad ad rd o2 k2)), (3, .int x3), (4, .long x4), (6, .ref (wx_ad ad rd o6 k6))]) hx hb dX5_step_25 hl (by decide) rfl (fun ls hl => ?_)
  exact b_X5_step_27 B hs0 hs2 hs6 h Z hS (lv_sub hl [4, 5, 6, 7, 8, 9, 3, 2, 1, 0] rfl) hal
set_option maxRecDepth 20000 in
theorem c_X5_step (l : Launch) {D : va_G} {ad : Nat → Nat → Nat} {rd : Nat → Nat} {ca : Nat → ClassId} {A : Nat → Prop} {σ : wx_St} {o0 : Nat} {k0 : Nat} {n0 : Nat} {o2 : Nat} {k2 : Nat} {n2 : Nat} {o6 : Nat} {k6 : Nat} {al : Nat → Bool} (hs0 : wx_sh al o0 k0 = (2, n0)) (hs2 : wx_sh al o2 k2 = (2, n2)) (hs6 : wx_sh al o6 k6 = (1, 4)) (hal : σ.2.2.2.2 = al) {x1 : Int32} {x3 : Int32} {x4 : Int64}  {σ' : wx_St} (h : f_X5_step o0 k0 n0 o2 k2 n2 o6 k6 x1 x3 x4 σ = some ((), σ')) : wx_M l yX5_step wsX5_step 1 22 D ad rd ca A [.ref (wx_ad ad rd o0 k0), .int x1, .ref (wx_ad ad rd o2 k2), .int x3, .long x4, .ref (wx_ad ad rd o6 k6)] σ none σ' := by
  refine Met.ofW (cc := cX5_step) (maxL := 15) (ret := none) (by decide +kernel) rfl ?_
  intro p e s m args below meth c s₁ B0 hml hv
  obtain ⟨rfl, hC, Z, hA⟩ := hv
  have hl := lv_entry ([.ref (wx_ad ad rd o0 k0), .int x1, .ref (wx_ad ad rd o2 k2), .int x3, .long x4, .ref (wx_ad ad rd o6 k6)]) (n := 15) (Nat.le_of_ble_eq_true rfl)
  rw [lg_entry_eq]
  generalize (lg_sl ([.ref (wx_ad ad rd o0 k0), .int x1, .ref (wx_ad ad rd o2 k2), .int x3, .long x4, .ref (wx_ad ad rd o6 k6)]) ++ List.replicate (15 - (lg_sl ([.ref (wx_ad ad rd o0 k0), .int x1, .ref (wx_ad ad rd o2 k2), .int x3, .long x4, .ref (wx_ad ad rd o6 k6)])).length) Slot.unset).toArray = ls at hl ⊢
  exact b_X5_step_0 ⟨B0.exec, B0.bytes, hml, B0.returns, atoms_spec (ws := wsX5_step) B0.pre, findClass_of_methodNamed B0.named, B0.notSynchronized, hC, hA⟩ hs0 hs2 hs6  h Z va_S.rf hl hal
theorem i_X1_warmthBy_1 : ∀ w ∈ wsX10, w ∈ wsX1_warmthBy := by decide +kernel
theorem k_X1_warmthBy_w0 : Cond.fieldLink RX1 17 "WarmProbes$Lone" "fields" "[[F" ∈ wsX1_warmthBy := by decide +kernel
theorem k_X1_warmthBy_w1 : Cond.arrayClass .float ∈ wsX1_warmthBy := by decide +kernel
theorem k_X1_warmthBy_w2 : Cond.fieldLink RX1 21 "WarmProbes$Lone" "steps" "[I" ∈ wsX1_warmthBy := by decide +kernel
theorem k_X1_warmthBy_w3 : Cond.fieldLink RX1 9 "WarmProbes$Lone" "settings" "[I" ∈ wsX1_warmthBy := by decide +kernel
theorem k_X1_warmthBy_w4 : Cond.initialized RX5 ∈ wsX1_warmthBy := by decide +kernel
theorem k_X1_warmthBy_w5 : Cond.static yX5_step ∈ wsX1_warmthBy := by decide +kernel
set_option maxRecDepth 20000 in
set_option maxHeartbeats 4000000 in
theorem m_X1_warmthBy_91  {r : UInt32} {σ' : wx_St}  {x1 : Int32} {x2 : Int32} {x3 : Int32} {x5 : Int32} {σ : wx_St} (h : f_X1_warmthBy_91 x1 x2 x3 x5 σ = some (r, σ')) : wx_n σ.2.2.2.2 ≤ wx_n σ'.2.2.2.2 := by
  unfold f_X1_warmthBy_91 at h
  obtain ⟨v99, ev99, iv99, h⟩ := wx_rF_ok h
  obtain ⟨rfl, rfl⟩ := wx_ret_ok h
  exact Nat.le_refl _
set_option maxRecDepth 20000 in
set_option maxHeartbeats 4000000 in
theorem b_X1_warmthBy_91 (B : wx_B p s m args meth c cX1_warmthBy 6 (some .float) wsX1_warmthBy RX1 D ad ca A)    {r : UInt32} {σ' : wx_St} {mc : Nat}  {x1 : Int32} {x2 : Int32} {x3 : Int32} {x5 : Int32} {σ : wx_St} {k : Nat} (hk : k + wx_n σ'.2.2.2.2 ≤ mc + wx_n σ.2.2.2.2)  (h : f_X1_warmthBy_91 x1 x2 x3 x5 σ = some (r, σ')) {rd : Nat → Nat} {H : Heap} {locs : List Loc} (Z : wx_Z D ad rd ca A σ H) (hS : va_S A s.heap H locs) {ls : Array Slot} (hl : lv_has ls 6 [(0, .ref (ad 13 99)), (1, .int x1), (2, .int x2), (3, .int x3), (4, .ref (wx_ad ad rd 13 (100 + x1.toNatClampNeg))), (5, .int x5)]) (hrow : σ.2.2.2.2 (x1).toNatClampNeg = true) (hj : (x1).toNatClampNeg < 64) : W p l e ({ frames := 2, cells := mc, slots := 6464 * mc, locals := 56 } : Room) s m args below meth c H locs k (6464 * k) (MQ below (wx_QA D ad ca A (some (.float r)) σ') args s mc (6464 * mc) A) (F0 m 91 ls []) := by
  obtain ⟨hx, hb, hml, hr, hts, hown, hlk, hC, hA⟩ := id B
  have hm := m_X1_warmthBy_91 h
  unfold f_X1_warmthBy_91 at h
  refine lv_aload hx hb dX1_warmthBy_91 (lv_at hl 4 rfl) ?_
  refine lv_iload_n hx hb dX1_warmthBy_93 rfl (lv_at hl 2 rfl) ?_
  refine lv_bipush (v := 64) hx hb dX1_warmthBy_94 (by decide) ?_
  refine lv_imul hx hb dX1_warmthBy_96 ?_
  refine lv_iload_n hx hb dX1_warmthBy_97 rfl (lv_at hl 3 rfl) ?_
  refine lv_iadd hx hb dX1_warmthBy_98 ?_
  obtain ⟨v99, ev99, iv99, h⟩ := wx_rF_ok h
  refine wx_fald hx hb hC.1 Z (o := 13) (k := (100 + x1.toNatClampNeg)) (n := 6464) (wx_shr hrow hj) rfl iv99 dX1_warmthBy_99 ev99 ?_
  obtain ⟨rfl, rfl⟩ := wx_ret_ok h
  refine W.widen (k := mc) (n := 6464 * mc) (by omega) (by omega) ?_
  exact W.fret hx hb hr (fun t ht hW => ⟨rfl, ⟨_, by rw [ht]; exact Z⟩, hS.F ht⟩) hS.2.2 dX1_warmthBy_100
set_option maxRecDepth 20000 in
set_option maxHeartbeats 4000000 in
theorem m_X1_warmthBy_36  {r : UInt32} {σ' : wx_St}  :
    ∀ {n : Nat} {x1 : Int32} {x2 : Int32} {x3 : Int32} {x5 : Int32} {σ : wx_St} (h : f_X1_warmthBy_36 n x1 x2 x3 x5 σ = some (r, σ')), wx_n σ.2.2.2.2 ≤ wx_n σ'.2.2.2.2 := by
  intro n
  induction n with
  | zero => intro x1 x2 x3 x5 σ h; exact wx_no h
  | succ n ih =>
    intro x1 x2 x3 x5 σ h
    rw [f_X1_warmthBy_36] at h
    by_cases c39 : x2 ≤ x5
    · replace h := wx_ift c39 h
      exact m_X1_warmthBy_91 h
    · replace h := wx_iff c39 h
      by_cases c46 : 100 ≤ x5
      · replace h := wx_ift c46 h
        exact m_X1_warmthBy_91 h
      · replace h := wx_iff c46 h
        obtain ⟨v72, σ72, hc72, h⟩ := wx_b_ok h
        refine Nat.le_trans (Nat.le_of_eq (congrArg wx_n (show σ72.2.2.2.2 = σ.2.2.2.2 from m_X5_step_0 hc72)).symm) ?_
        obtain ⟨σ84, e84, i84, h⟩ := wx_w_ok h
        refine Nat.le_trans (Nat.le_of_eq (congrArg wx_n (show σ84.2.2.2.2 = σ72.2.2.2.2 from (congrArg (fun z : wx_St => z.2.2.2.2) e84).trans rfl)).symm) ?_
        exact ih h
set_option maxRecDepth 20000 in
set_option maxHeartbeats 4000000 in
theorem b_X1_warmthBy_36 (B : wx_B p s m args meth c cX1_warmthBy 6 (some .float) wsX1_warmthBy RX1 D ad ca A)    {r : UInt32} {σ' : wx_St} {mc : Nat}   :
    ∀ {n : Nat} {x1 : Int32} {x2 : Int32} {x3 : Int32} {x5 : Int32} {σ : wx_St} {k : Nat} (hk : k + wx_n σ'.2.2.2.2 ≤ mc + wx_n σ.2.2.2.2)  (h : f_X1_warmthBy_36 n x1 x2 x3 x5 σ = some (r, σ')) {rd : Nat → Nat} {H : Heap} {locs : List Loc} (Z : wx_Z D ad rd ca A σ H) (hS : va_S A s.heap H locs) {ls : Array Slot} (hl : lv_has ls 6 [(0, .ref (ad 13 99)), (1, .int x1), (2, .int x2), (3, .int x3), (4, .ref (wx_ad ad rd 13 (100 + x1.toNatClampNeg))), (5, .int x5)]) (hrow : σ.2.2.2.2 (x1).toNatClampNeg = true) (hj : (x1).toNatClampNeg < 64), W p l e ({ frames := 2, cells := mc, slots := 6464 * mc, locals := 56 } : Room) s m args below meth c H locs k (6464 * k) (MQ below (wx_QA D ad ca A (some (.float r)) σ') args s mc (6464 * mc) A) (F0 m 36 ls []) := by
  obtain ⟨hx, hb, hml, hr, hts, hown, hlk, hC, hA⟩ := id B
  intro n
  induction n with
  | zero => intro x1 x2 x3 x5 σ k hk  h rd H locs Z hS ls hl hrow hj; exact wx_no h
  | succ n ih =>
    intro x1 x2 x3 x5 σ k hk  h rd H locs Z hS ls hl hrow hj
    have hm := m_X1_warmthBy_36 h
    have mih : ∀ {x1 : Int32} {x2 : Int32} {x3 : Int32} {x5 : Int32} {σ : wx_St}, f_X1_warmthBy_36 n x1 x2 x3 x5 σ = some (r, σ') → wx_n σ.2.2.2.2 ≤ wx_n σ'.2.2.2.2 := fun h => m_X1_warmthBy_36 h
    rw [f_X1_warmthBy_36] at h
    refine lv_iload hx hb dX1_warmthBy_36 (lv_at hl 5 rfl) ?_
    refine lv_iload_n hx hb dX1_warmthBy_38 rfl (lv_at hl 2 rfl) ?_
    refine lv_icmp_ge (tgt := 91) hx hb dX1_warmthBy_39 (by decide) (fun c39 => ?_) (fun c39 => ?_)
    · replace h := wx_ift c39 h
      exact b_X1_warmthBy_91 B (k := k) hk h Z hS (lv_sub hl [0, 1, 2, 3, 4, 5] rfl) hrow hj
    · replace h := wx_iff c39 h
      refine lv_iload hx hb dX1_warmthBy_42 (lv_at hl 5 rfl) ?_
      refine lv_bipush (v := 100) hx hb dX1_warmthBy_44 (by decide) ?_
      refine lv_icmp_ge (tgt := 91) hx hb dX1_warmthBy_46 (by decide) (fun c46 => ?_) (fun c46 => ?_)
      · replace h := wx_ift c46 h
        exact b_X1_warmthBy_91 B (k := k) hk h Z hS (lv_sub hl [0, 1, 2, 3, 4, 5] rfl) hrow hj
      · replace h := wx_iff c46 h
        refine lv_aload hx hb dX1_warmthBy_49 (lv_at hl 4 rfl) ?_
        refine lv_iload hx hb dX1_warmthBy_51 (lv_at hl 5 rfl) ?_
        refine lv_bipush (v := 64) hx hb dX1_warmthBy_53 (by decide) ?_
        refine lv_imul hx hb dX1_warmthBy_55 ?_
        refine lv_aload hx hb dX1_warmthBy_56 (lv_at hl 4 rfl) ?_
        refine lv_iload hx hb dX1_warmthBy_58 (lv_at hl 5 rfl) ?_
        refine lv_iconst (v := 1) hx hb dX1_warmthBy_60 (by decide) ?_
        refine lv_iadd hx hb dX1_warmthBy_61 ?_
        refine lv_bipush (v := 64) hx hb dX1_warmthBy_62 (by decide) ?_
        refine lv_imul hx hb dX1_warmthBy_64 ?_
        refine lv_lconst (v := 1) hx hb dX1_warmthBy_65 (by decide) ?_
        refine lv_iload_n hx hb dX1_warmthBy_66 rfl (lv_at hl 1 rfl) ?_
        refine lv_lshl (v := ((1 : Int64) <<< (x1.toInt64 &&& 63))) hx hb dX1_warmthBy_67 rfl ?_
        refine lv_aload_n hx hb dX1_warmthBy_68 rfl (lv_at hl 0 rfl) ?_
        refine wx_get (own := RX1) hx hb hts i_X1_warmthBy_1 hown hC.1 Z (o := 13) (ci := 1) rfl (rfl : vwCl[1]? = some (RX1, TX1, 3)) 0 (by decide) (hts _ k_X1_warmthBy_w3) (fun _ h9 => h9) (f := 0) rfl rfl dX1_warmthBy_69 ?_
        obtain ⟨v72, σ72, hc72, h⟩ := wx_b_ok h
        refine wx_call (va_runSN (As := [.ref (wx_ad ad rd 13 (100 + x1.toNatClampNeg)), .int (x5 * 64), .ref (wx_ad ad rd 13 (100 + x1.toNatClampNeg)), .int ((x5 + 1) * 64), .long ((1 : Int64) <<< (x1.toInt64 &&& 63)), .ref (ad 13 0)]) (rest := []) ⟨hx, hb, hml, hown, hts⟩ (c_X5_step l (D := D) (ad := ad) (rd := rd) (ca := ca) (A := A) (σ := σ) (o0 := 13) (k0 := (100 + x1.toNatClampNeg)) (n0 := 6464) (o2 := 13) (k2 := (100 + x1.toNatClampNeg)) (n2 := 6464) (o6 := 13) (k6 := 0) (al := σ.2.2.2.2) (wx_shr hrow hj) (wx_shr hrow hj) rfl rfl hc72) ⟨va_cnB 6 hts gX1_warmthBy_X5_step_n30 rfl rfl rfl (hC.1.2.1 _ (List.mem_of_getElem? (i := 51) rfl)) (hts _ k_X1_warmthBy_w4) (by decide +kernel) ⟨Nat.le_of_ble_eq_true rfl, Nat.le_of_ble_eq_true rfl⟩, hts _ k_X1_warmthBy_w5, trivial⟩ (wx_preS hC Z hS hA) rfl rfl hl.1 rfl (lv_room (Nat.le_of_ble_eq_true rfl)) dX1_warmthBy_72 ⟨(by show k + 0 ≤ mc; omega), (by show 6464 * k + 0 ≤ 6464 * mc; omega)⟩) hS (fun H locs Z hS => ?_)
        have hqσ72 := congrArg wx_n (show σ72.2.2.2.2 = σ.2.2.2.2 from m_X5_step_0 hc72)
        rw [← hqσ72] at hk hm
        replace hrow := (congrFun (show σ72.2.2.2.2 = σ.2.2.2.2 from m_X5_step_0 hc72) _).trans hrow
        refine lv_aload_n hx hb dX1_warmthBy_75 rfl (lv_at hl 0 rfl) ?_
        refine wx_get (own := RX1) hx hb hts i_X1_warmthBy_1 hown hC.1 Z (o := 13) (ci := 1) rfl (rfl : vwCl[1]? = some (RX1, TX1, 3)) 2 (by decide) (hts _ k_X1_warmthBy_w2) (fun _ h9 => h9) (f := 0) rfl rfl dX1_warmthBy_76 ?_
        refine lv_iload_n hx hb dX1_warmthBy_79 rfl (lv_at hl 1 rfl) ?_
        refine lv_iload hx hb dX1_warmthBy_80 (lv_at hl 5 rfl) ?_
        refine lv_iconst (v := 1) hx hb dX1_warmthBy_82 (by decide) ?_
        refine lv_iadd hx hb dX1_warmthBy_83 ?_
        obtain ⟨σ84, e84, i84, h⟩ := wx_w_ok h
        refine wx_iast hx hb hC.1 Z hS (o := 13) (k := 2) (n := 64) rfl rfl i84 dX1_warmthBy_84 e84 (fun H locs Z hS => ?_)
        have hqσ84 := congrArg wx_n (show σ84.2.2.2.2 = σ72.2.2.2.2 from (congrArg (fun z : wx_St => z.2.2.2.2) e84).trans rfl)
        rw [← hqσ84] at hk hm
        replace hrow := (congrFun (show σ84.2.2.2.2 = σ72.2.2.2.2 from (congrArg (fun z : wx_St => z.2.2.2.2) e84).trans rfl) _).trans hrow
        refine lv_iinc (v := x5 + 1) (lv' := [(5, .int (x5 + 1)), (0, .ref (ad 13 99)), (1, .int x1), (2, .int x2), (3, .int x3), (4, .ref (wx_ad ad rd 13 (100 + x1.toNatClampNeg)))]) hx hb dX1_warmthBy_85 hl (k := 5) rfl rfl (by decide) rfl (fun ls hl => ?_)
        refine lv_goto (tgt := 36) hx hb dX1_warmthBy_88 (by decide) ?_
        exact ih (k := k) hk h Z hS (lv_sub hl [1, 2, 3, 4, 5, 0] rfl) hrow hj
set_option maxRecDepth 20000 in
set_option maxHeartbeats 4000000 in
theorem m_X1_warmthBy_20  {r : UInt32} {σ' : wx_St}  {x1 : Int32} {x2 : Int32} {x3 : Int32} {σ : wx_St} (h : f_X1_warmthBy_20 x1 x2 x3 σ = some (r, σ')) : wx_n σ.2.2.2.2 ≤ wx_n σ'.2.2.2.2 := by
  unfold f_X1_warmthBy_20 at h
  obtain ⟨v25, ev25, iv25, h⟩ := wx_rA_ok h
  by_cases c25 : v25 = true
  · replace h := wx_ift c25 h
    obtain ⟨v33, ev33, iv33, h⟩ := wx_rI_ok h
    exact m_X1_warmthBy_36 h
  · exact wx_no (wx_iff c25 h)
set_option maxRecDepth 20000 in
set_option maxHeartbeats 4000000 in
theorem b_X1_warmthBy_20 (B : wx_B p s m args meth c cX1_warmthBy 6 (some .float) wsX1_warmthBy RX1 D ad ca A)    {r : UInt32} {σ' : wx_St} {mc : Nat}  {x1 : Int32} {x2 : Int32} {x3 : Int32} {σ : wx_St} {k : Nat} (hk : k + wx_n σ'.2.2.2.2 ≤ mc + wx_n σ.2.2.2.2)  (h : f_X1_warmthBy_20 x1 x2 x3 σ = some (r, σ')) {rd : Nat → Nat} {H : Heap} {locs : List Loc} (Z : wx_Z D ad rd ca A σ H) (hS : va_S A s.heap H locs) {ls : Array Slot} (hl : lv_has ls 6 [(0, .ref (ad 13 99)), (1, .int x1), (2, .int x2), (3, .int x3)]) : W p l e ({ frames := 2, cells := mc, slots := 6464 * mc, locals := 56 } : Room) s m args below meth c H locs k (6464 * k) (MQ below (wx_QA D ad ca A (some (.float r)) σ') args s mc (6464 * mc) A) (F0 m 20 ls []) := by
  obtain ⟨hx, hb, hml, hr, hts, hown, hlk, hC, hA⟩ := id B
  have hm := m_X1_warmthBy_20 h
  unfold f_X1_warmthBy_20 at h
  refine lv_aload_n hx hb dX1_warmthBy_20 rfl (lv_at hl 0 rfl) ?_
  refine wx_get (own := RX1) hx hb hts i_X1_warmthBy_1 hown hC.1 Z (o := 13) (ci := 1) rfl (rfl : vwCl[1]? = some (RX1, TX1, 3)) 1 (by decide) (hts _ k_X1_warmthBy_w0) (fun _ h9 => h9) (f := 0) rfl rfl dX1_warmthBy_21 ?_
  refine lv_iload_n hx hb dX1_warmthBy_24 rfl (lv_at hl 1 rfl) ?_
  obtain ⟨v25, ev25, iv25, h⟩ := wx_rA_ok h
  by_cases c25 : v25 = true
  · replace h := wx_ift c25 h
    have hrow := ev25.symm.trans c25
    have hj := wx_in_lt iv25
    refine wx_rald1 hx hb hC.1 Z iv25 (ev25.symm.trans c25) dX1_warmthBy_25 ?_
    refine lv_astore (lv' := [(4, .ref (wx_ad ad rd 13 (100 + x1.toNatClampNeg))), (0, .ref (ad 13 99)), (1, .int x1), (2, .int x2), (3, .int x3)]) hx hb dX1_warmthBy_26 hl (by decide) rfl (fun ls hl => ?_)
    refine lv_aload_n hx hb dX1_warmthBy_28 rfl (lv_at hl 1 rfl) ?_
    refine wx_get (own := RX1) hx hb hts i_X1_warmthBy_1 hown hC.1 Z (o := 13) (ci := 1) rfl (rfl : vwCl[1]? = some (RX1, TX1, 3)) 2 (by decide) (hts _ k_X1_warmthBy_w2) (fun _ h9 => h9) (f := 0) rfl rfl dX1_warmthBy_29 ?_
    refine lv_iload_n hx hb dX1_warmthBy_32 rfl (lv_at hl 2 rfl) ?_
    obtain ⟨v33, ev33, iv33, h⟩ := wx_rI_ok h
    refine wx_iald hx hb hC.1 Z (o := 13) (k := 2) (n := 64) rfl rfl iv33 dX1_warmthBy_33 ev33 ?_
    refine lv_istore (lv' := [(5, .int v33), (4, .ref (wx_ad ad rd 13 (100 + x1.toNatClampNeg))), (0, .ref (ad 13 99)), (1, .int x1), (2, .int x2), (3, .int x3)]) hx hb dX1_warmthBy_34 hl (by decide) rfl (fun ls hl => ?_)
    exact b_X1_warmthBy_36 B (k := k) hk h Z hS (lv_sub hl [2, 3, 4, 5, 1, 0] rfl) hrow hj
  · exact wx_no (wx_iff c25 h)
set_option maxRecDepth 20000 in
set_option maxHeartbeats 4000000 in
theorem m_X1_warmthBy_0  {r : UInt32} {σ' : wx_St}  {x1 : Int32} {x2 : Int32} {x3 : Int32} {σ : wx_St} (h : f_X1_warmthBy x1 x2 x3 σ = some (r, σ')) : wx_n σ.2.2.2.2 ≤ wx_n σ'.2.2.2.2 := by
  unfold f_X1_warmthBy at h
  obtain ⟨v5, ev5, iv5, h⟩ := wx_rA_ok h
  by_cases c5 : v5 = true
  · replace h := wx_ift c5 h
    exact m_X1_warmthBy_20 h
  · replace h := wx_iff c5 h
    obtain ⟨σ17, e17, h⟩ := wx_l_ok h
    refine Nat.le_trans (Nat.le_of_lt (Nat.lt_of_lt_of_eq (Nat.lt_succ_self _) (wx_nA iv5 (fun z => c5 (ev5.trans z)) e17).symm)) ?_
    exact m_X1_warmthBy_20 h
set_option maxRecDepth 20000 in
set_option maxHeartbeats 4000000 in
theorem b_X1_warmthBy_0 (B : wx_B p s m args meth c cX1_warmthBy 6 (some .float) wsX1_warmthBy RX1 D ad ca A)    {r : UInt32} {σ' : wx_St} {mc : Nat}  {x1 : Int32} {x2 : Int32} {x3 : Int32} {σ : wx_St} {k : Nat} (hk : k + wx_n σ'.2.2.2.2 ≤ mc + wx_n σ.2.2.2.2)  (h : f_X1_warmthBy x1 x2 x3 σ = some (r, σ')) {rd : Nat → Nat} {H : Heap} {locs : List Loc} (Z : wx_Z D ad rd ca A σ H) (hS : va_S A s.heap H locs) {ls : Array Slot} (hl : lv_has ls 6 [(0, .ref (ad 13 99)), (1, .int x1), (2, .int x2), (3, .int x3)]) : W p l e ({ frames := 2, cells := mc, slots := 6464 * mc, locals := 56 } : Room) s m args below meth c H locs k (6464 * k) (MQ below (wx_QA D ad ca A (some (.float r)) σ') args s mc (6464 * mc) A) (F0 m 0 ls []) := by
  obtain ⟨hx, hb, hml, hr, hts, hown, hlk, hC, hA⟩ := id B
  have hm := m_X1_warmthBy_0 h
  unfold f_X1_warmthBy at h
  refine lv_aload_n hx hb dX1_warmthBy_0 rfl (lv_at hl 0 rfl) ?_
  refine wx_get (own := RX1) hx hb hts i_X1_warmthBy_1 hown hC.1 Z (o := 13) (ci := 1) rfl (rfl : vwCl[1]? = some (RX1, TX1, 3)) 1 (by decide) (hts _ k_X1_warmthBy_w0) (fun _ h9 => h9) (f := 0) rfl rfl dX1_warmthBy_1 ?_
  refine lv_iload_n hx hb dX1_warmthBy_4 rfl (lv_at hl 1 rfl) ?_
  obtain ⟨v5, ev5, iv5, h⟩ := wx_rA_ok h
  by_cases c5 : v5 = true
  · replace h := wx_ift c5 h
    refine wx_rald1 hx hb hC.1 Z iv5 (ev5.symm.trans c5) dX1_warmthBy_5 ?_
    refine lv_ifnonnull (tgt := 20) hx hb dX1_warmthBy_6 (by decide) ?_
    exact b_X1_warmthBy_20 B (k := k) hk h Z hS (lv_sub hl [0, 1, 2, 3] rfl)
  · replace h := wx_iff c5 h
    refine wx_rald0 hx hb hC.1 Z iv5 (fun z => c5 (ev5.trans z)) dX1_warmthBy_5 ?_
    refine lv_ifnonnullN hx hb dX1_warmthBy_6 ?_
    refine lv_aload_n hx hb dX1_warmthBy_9 rfl (lv_at hl 0 rfl) ?_
    refine wx_get (own := RX1) hx hb hts i_X1_warmthBy_1 hown hC.1 Z (o := 13) (ci := 1) rfl (rfl : vwCl[1]? = some (RX1, TX1, 3)) 1 (by decide) (hts _ k_X1_warmthBy_w0) (fun _ h9 => h9) (f := 0) rfl rfl dX1_warmthBy_10 ?_
    refine lv_iload_n hx hb dX1_warmthBy_13 rfl (lv_at hl 1 rfl) ?_
    refine lv_sipush (v := 6464) hx hb dX1_warmthBy_14 (by decide) ?_
    obtain ⟨σ17, e17, h⟩ := wx_l_ok h
    have m1 := wx_nA iv5 (fun z => c5 (ev5.trans z)) e17
    have m2 := m_X1_warmthBy_20 h
    refine wx_newrow hx hb hC.1 Z hS hA (hts _ k_X1_warmthBy_w1) iv5 (fun z => c5 (ev5.trans z)) (by show k + 1 ≤ mc; omega) (by show 6464 * k + 6464 ≤ 6464 * mc; omega) dX1_warmthBy_17 dX1_warmthBy_19 e17 (fun rd H locs Z hS => ?_)
    refine W.widen (k := k + 1) (n := 6464 * (k + 1)) (Nat.le_refl _) (by omega) ?_
    exact b_X1_warmthBy_20 B (k := k + 1) (by omega) h Z hS (lv_sub hl [0, 1, 2, 3] rfl)
set_option maxRecDepth 20000 in
theorem c_X1_warmthBy (l : Launch) {D : va_G} {ad : Nat → Nat → Nat} {rd : Nat → Nat} {ca : Nat → ClassId} {A : Nat → Prop} {σ : wx_St}    {x1 : Int32} {x2 : Int32} {x3 : Int32} {r : UInt32} {σ' : wx_St} (h : f_X1_warmthBy x1 x2 x3 σ = some (r, σ')) : wx_MA l yX1_warmthBy wsX1_warmthBy 2 56 D ad rd ca A [.ref (ad 13 99), .int x1, .int x2, .int x3] σ (some (.float r)) σ' := by
  refine Met.ofW (cc := cX1_warmthBy) (maxL := 6) (ret := (some .float)) (by decide +kernel) rfl ?_
  intro p e s m args below meth c s₁ B0 hml hv
  obtain ⟨rfl, hC, Z, hA⟩ := hv
  have hl := lv_entry ([.ref (ad 13 99), .int x1, .int x2, .int x3]) (n := 6) (Nat.le_of_ble_eq_true rfl)
  rw [lg_entry_eq]
  generalize (lg_sl ([.ref (ad 13 99), .int x1, .int x2, .int x3]) ++ List.replicate (6 - (lg_sl ([.ref (ad 13 99), .int x1, .int x2, .int x3])).length) Slot.unset).toArray = ls at hl ⊢
  exact b_X1_warmthBy_0 ⟨B0.exec, B0.bytes, hml, B0.returns, atoms_spec (ws := wsX1_warmthBy) B0.pre, findClass_of_methodNamed B0.named, B0.notSynchronized, hC, hA⟩  (k := 0) (by have hm := m_X1_warmthBy_0 h; omega) h Z va_S.rf hl
theorem k_X5_readOf_w0 : Cond.constantFloat RX5 258 (1092616192) ∈ wsX5_readOf := by decide +kernel
set_option maxRecDepth 20000 in
set_option maxHeartbeats 4000000 in
theorem b_X5_readOf_0 (B : wx_B p s m args meth c cX5_readOf 1 (some .int) wsX5_readOf RX5 D ad ca A)    {r : Int32} {σ : wx_St}  {x0 : UInt32}   (h : f_X5_readOf x0 = some r) {H : Heap} {locs : List Loc} (Z : wx_Z D ad rd ca A σ H) (hS : va_S A s.heap H locs) {ls : Array Slot} (hl : lv_has ls 1 [(0, .float x0)]) : W p l e ({ frames := 0, cells := 0, slots := 0, locals := 0 } : Room) s m args below meth c H locs 0 0 (MQ below (wx_Q D ad rd ca A (some (.int r)) σ) args s 0 0 A) (F0 m 0 ls []) := by
  obtain ⟨hx, hb, hml, hr, hts, hown, hlk, hC, hA⟩ := id B
  unfold f_X5_readOf at h
  refine lv_fload_n hx hb dX5_readOf_0 rfl (lv_at hl 0 rfl) ?_
  refine wx_ldcwF hx hb hown (hts _ k_X5_readOf_w0) dX5_readOf_1 ?_
  obtain ⟨v4, ev4, nv4, h⟩ := wx_f_ok h
  refine wx_fmul hx hb dX5_readOf_4 ev4 nv4 ?_
  refine lv_f2i hx hb dX5_readOf_5 ?_
  obtain rfl := Option.some.inj h
  exact W.iret hx hb hr (fun t ht hW => ⟨rfl, by rw [ht]; exact Z, hS.F ht⟩) hS.2.2 dX5_readOf_6
set_option maxRecDepth 20000 in
theorem c_X5_readOf (l : Launch) {D : va_G} {ad : Nat → Nat → Nat} {rd : Nat → Nat} {ca : Nat → ClassId} {A : Nat → Prop} {σ : wx_St}    {x0 : UInt32} {r : Int32} (h : f_X5_readOf x0 = some r) : wx_M l yX5_readOf wsX5_readOf 0 0 D ad rd ca A [.float x0] σ (some (.int r)) σ := by
  refine Met.ofW (cc := cX5_readOf) (maxL := 1) (ret := (some .int)) (by decide +kernel) rfl ?_
  intro p e s m args below meth c s₁ B0 hml hv
  obtain ⟨rfl, hC, Z, hA⟩ := hv
  have hl := lv_entry ([.float x0]) (n := 1) (Nat.le_of_ble_eq_true rfl)
  rw [lg_entry_eq]
  generalize (lg_sl ([.float x0]) ++ List.replicate (1 - (lg_sl ([.float x0])).length) Slot.unset).toArray = ls at hl ⊢
  exact b_X5_readOf_0 ⟨B0.exec, B0.bytes, hml, B0.returns, atoms_spec (ws := wsX5_readOf) B0.pre, findClass_of_methodNamed B0.named, B0.notSynchronized, hC, hA⟩   h Z va_S.rf hl
theorem i_X4_fits_0 : ∀ w ∈ wsX00, w ∈ wsX4_fits := by decide +kernel
theorem i_X4_fits_4 : ∀ w ∈ wsX40, w ∈ wsX4_fits := by decide +kernel
theorem k_X4_fits_w0 : Cond.fieldLink RX4 12 "WarmProbes$Suspicion" "lone" "LWarmProbes$Lone;" ∈ wsX4_fits := by decide +kernel
theorem k_X4_fits_w1 : Cond.initialized RX1 ∈ wsX4_fits := by decide +kernel
theorem k_X4_fits_w2 : Cond.instanceMethod yX1_follow ∈ wsX4_fits := by decide +kernel
theorem k_X4_fits_w3 : Cond.selects RX1 yX1_follow yX1_follow ∈ wsX4_fits := by decide +kernel
theorem k_X4_fits_w4 : Cond.instanceMethod yX1_warmthBy ∈ wsX4_fits := by decide +kernel
theorem k_X4_fits_w5 : Cond.selects RX1 yX1_warmthBy yX1_warmthBy ∈ wsX4_fits := by decide +kernel
theorem k_X4_fits_w6 : Cond.initialized RX5 ∈ wsX4_fits := by decide +kernel
theorem k_X4_fits_w7 : Cond.static yX5_readOf ∈ wsX4_fits := by decide +kernel
theorem k_X4_fits_w8 : Cond.methodLink RX4 81 Lib.Math.abs.name ∈ wsX4_fits := by decide +kernel
theorem k_X4_fits_w9 : Cond.static Lib.Math.abs.name ∈ wsX4_fits := by decide +kernel
theorem k_X4_fits_w10 : Cond.initialized "java/lang/Math" ∈ wsX4_fits := by decide +kernel
theorem k_X4_fits_w11 : Cond.code Lib.Math.abs.name Lib.Math.abs.code 1 (some .int) ∈ wsX4_fits := by decide +kernel
set_option maxRecDepth 20000 in
set_option maxHeartbeats 4000000 in
theorem m_X4_fits_80 {b1 : Nat} {r : Int32} {σ' : wx_St} {K14 : Int32 → Int32 → Int32 → wx_St → Option (Int32 × wx_St)} (mK14 : ∀ {x2 : Int32} {x3 : Int32} {x4 : Int32} {σ : wx_St}, K14 x2 x3 x4 σ = some (r, σ') → wx_n σ.2.2.2.2 ≤ wx_n σ'.2.2.2.2) {x2 : Int32} {x3 : Int32} {x4 : Int32} {x5 : UInt32} {σ : wx_St} (h : f_X4_fits_80 b1 K14 x2 x3 x4 x5 σ = some (r, σ')) : wx_n σ.2.2.2.2 ≤ wx_n σ'.2.2.2.2 := by
  unfold f_X4_fits_80 at h
  obtain ⟨v82, hc82, h⟩ := wx_o_ok h
  obtain ⟨v91, ev91, iv91, h⟩ := wx_rI_ok h
  obtain ⟨v101, ev101, iv101, h⟩ := wx_rI_ok h
  by_cases c102 : (if 0 ≤ (v82 - v91) then (v82 - v91) else 0 - (v82 - v91)) ≤ v101
  · replace h := wx_ift c102 h
    exact mK14 h
  · replace h := wx_iff c102 h
    obtain ⟨rfl, rfl⟩ := wx_ret_ok h
    exact Nat.le_refl _
set_option maxRecDepth 20000 in
set_option maxHeartbeats 4000000 in
theorem b_X4_fits_80 (B : wx_B p s m args meth c cX4_fits 6 (some .boolean) wsX4_fits RX4 D ad ca A) {b1 : Nat}  (hb1 : b1 < 11) {r : Int32} {σ' : wx_St} {mc : Nat} {K14 : Int32 → Int32 → Int32 → wx_St → Option (Int32 × wx_St)} (hK14 : ∀ {x2 : Int32} {x3 : Int32} {x4 : Int32} {σ : wx_St} {k : Nat} (hk : k + wx_n σ'.2.2.2.2 ≤ mc + wx_n σ.2.2.2.2)  (h : K14 x2 x3 x4 σ = some (r, σ')) {rd : Nat → Nat} {H : Heap} {locs : List Loc} (Z : wx_Z D ad rd ca A σ H) (hS : va_S A s.heap H locs) {ls : Array Slot} (hl : lv_has ls 6 [(0, .ref (ad 12 99)), (1, .ref (ad b1 99)), (2, .int x2), (3, .int x3), (4, .int x4)]), W p l e ({ frames := 3, cells := mc, slots := 6464 * mc, locals := 81 } : Room) s m args below meth c H locs k (6464 * k) (MQ below (wx_QA D ad ca A (some (.int r)) σ') args s mc (6464 * mc) A) (F0 m 14 ls [])) (mK14 : ∀ {x2 : Int32} {x3 : Int32} {x4 : Int32} {σ : wx_St}, K14 x2 x3 x4 σ = some (r, σ') → wx_n σ.2.2.2.2 ≤ wx_n σ'.2.2.2.2) {x2 : Int32} {x3 : Int32} {x4 : Int32} {x5 : UInt32} {σ : wx_St} {k : Nat} (hk : k + wx_n σ'.2.2.2.2 ≤ mc + wx_n σ.2.2.2.2)  (h : f_X4_fits_80 b1 K14 x2 x3 x4 x5 σ = some (r, σ')) {rd : Nat → Nat} {H : Heap} {locs : List Loc} (Z : wx_Z D ad rd ca A σ H) (hS : va_S A s.heap H locs) {ls : Array Slot} (hl : lv_has ls 6 [(0, .ref (ad 12 99)), (1, .ref (ad b1 99)), (2, .int x2), (3, .int x3), (4, .int x4), (5, .float x5)]) : W p l e ({ frames := 3, cells := mc, slots := 6464 * mc, locals := 81 } : Room) s m args below meth c H locs k (6464 * k) (MQ below (wx_QA D ad ca A (some (.int r)) σ') args s mc (6464 * mc) A) (F0 m 80 ls []) := by
  obtain ⟨hx, hb, hml, hr, hts, hown, hlk, hC, hA⟩ := id B
  have hm := m_X4_fits_80 (K14 := K14) @mK14 h
  unfold f_X4_fits_80 at h
  refine lv_fload hx hb dX4_fits_80 (lv_at hl 5 rfl) ?_
  obtain ⟨v82, hc82, h⟩ := wx_o_ok h
  refine wx_call (va_runSN (As := [.float x5]) (rest := []) ⟨hx, hb, hml, hown, hts⟩ (c_X5_readOf l (D := D) (ad := ad) (rd := rd) (ca := ca) (A := A) (σ := σ) hc82) ⟨va_cnB 1 hts gX4_fits_X5_readOf_n74 rfl rfl rfl (hC.1.2.1 _ (List.mem_of_getElem? (i := 52) rfl)) (hts _ k_X4_fits_w6) (by decide +kernel) ⟨Nat.le_of_ble_eq_true rfl, Nat.le_of_ble_eq_true rfl⟩, hts _ k_X4_fits_w7, trivial⟩ (wx_preS hC Z hS hA) rfl rfl hl.1 rfl (lv_room (Nat.le_of_ble_eq_true rfl)) dX4_fits_82 ⟨(by show k + 0 ≤ mc; omega), (by show 6464 * k + 0 ≤ 6464 * mc; omega)⟩) hS (fun H locs Z hS => ?_)
  refine lv_aload_n hx hb dX4_fits_85 rfl (lv_at hl 1 rfl) ?_
  refine wx_getN (own := RX4) hx hb hts i_X4_fits_0 hown hC.1 Z (o := b1) (ci := 0) (wx_sbo hb1 99) (rfl : vwCl[0]? = some (RX0, TX0, 13)) 11 (by decide) (wx_nst hC 16 rfl rfl) (fun _ h9 => h9) (f := 0) rfl rfl dX4_fits_86 ?_
  refine lv_iload hx hb dX4_fits_89 (lv_at hl 4 rfl) ?_
  obtain ⟨v91, ev91, iv91, h⟩ := wx_rI_ok h
  refine wx_iald hx hb hC.1 Z (o := b1) (k := 11) (n := 8) (wx_sbo hb1 11) rfl iv91 dX4_fits_91 ev91 ?_
  refine lv_isub hx hb dX4_fits_92 ?_
  refine va_mabs (own := RX4) hx hb (hml.trans hl.1.symm) hown (hts _ k_X4_fits_w8) (hts _ k_X4_fits_w9) (hts _ k_X4_fits_w10) (hts _ k_X4_fits_w11) (Nat.le_of_ble_eq_true rfl) (Nat.le_of_ble_eq_true rfl) (by show k ≤ mc; omega) (by show 6464 * k ≤ 6464 * mc; omega) dX4_fits_93 ?_
  refine lv_aload_n hx hb dX4_fits_96 rfl (lv_at hl 1 rfl) ?_
  refine wx_getN (own := RX4) hx hb hts i_X4_fits_0 hown hC.1 Z (o := b1) (ci := 0) (wx_sbo hb1 99) (rfl : vwCl[0]? = some (RX0, TX0, 13)) 0 (by decide) (wx_nst hC 2 rfl rfl) (fun _ h9 => h9) (f := 0) rfl rfl dX4_fits_97 ?_
  refine lv_iconst (v := 3) hx hb dX4_fits_100 (by decide) ?_
  obtain ⟨v101, ev101, iv101, h⟩ := wx_rI_ok h
  refine wx_iald hx hb hC.1 Z (o := b1) (k := 0) (n := 4) (wx_sbo hb1 0) rfl iv101 dX4_fits_101 ev101 ?_
  refine lv_icmp_le (tgt := 107) hx hb dX4_fits_102 (by decide) (fun c102 => ?_) (fun c102 => ?_)
  · replace h := wx_ift c102 h
    refine lv_iinc (v := x4 + 1) (lv' := [(4, .int (x4 + 1)), (0, .ref (ad 12 99)), (1, .ref (ad b1 99)), (2, .int x2), (3, .int x3), (5, .float x5)]) hx hb dX4_fits_107 hl (k := 4) rfl rfl (by decide) rfl (fun ls hl => ?_)
    refine lv_goto (tgt := 14) hx hb dX4_fits_110 (by decide) ?_
    exact hK14 (k := k) hk h Z hS (lv_sub hl [1, 2, 3, 4, 0] rfl)
  · replace h := wx_iff c102 h
    refine lv_iconst (v := 0) hx hb dX4_fits_105 (by decide) ?_
    obtain ⟨rfl, rfl⟩ := wx_ret_ok h
    refine W.widen (k := mc) (n := 6464 * mc) (by omega) (by omega) ?_
    exact W.zret hx hb hr rfl (fun t ht hW => ⟨rfl, ⟨_, by rw [ht]; exact Z⟩, hS.F ht⟩) hS.2.2 dX4_fits_106
set_option maxRecDepth 20000 in
set_option maxHeartbeats 4000000 in
theorem m_X4_fits_77 {b1 : Nat} {r : Int32} {σ' : wx_St} {K14 : Int32 → Int32 → Int32 → wx_St → Option (Int32 × wx_St)} (mK14 : ∀ {x2 : Int32} {x3 : Int32} {x4 : Int32} {σ : wx_St}, K14 x2 x3 x4 σ = some (r, σ') → wx_n σ.2.2.2.2 ≤ wx_n σ'.2.2.2.2) {x2 : Int32} {x3 : Int32} {x4 : Int32} {x5 : UInt32} {y0 : UInt32} {y1 : UInt32} {σ : wx_St} (h : f_X4_fits_77 b1 K14 x2 x3 x4 x5 y0 y1 σ = some (r, σ')) : wx_n σ.2.2.2.2 ≤ wx_n σ'.2.2.2.2 := by
  unfold f_X4_fits_77 at h
  obtain ⟨v77, ev77, nv77, h⟩ := wx_f_ok h
  exact m_X4_fits_80 (K14 := K14) @mK14 h
set_option maxRecDepth 20000 in
set_option maxHeartbeats 4000000 in
theorem b_X4_fits_77 (B : wx_B p s m args meth c cX4_fits 6 (some .boolean) wsX4_fits RX4 D ad ca A) {b1 : Nat}  (hb1 : b1 < 11) {r : Int32} {σ' : wx_St} {mc : Nat} {K14 : Int32 → Int32 → Int32 → wx_St → Option (Int32 × wx_St)} (hK14 : ∀ {x2 : Int32} {x3 : Int32} {x4 : Int32} {σ : wx_St} {k : Nat} (hk : k + wx_n σ'.2.2.2.2 ≤ mc + wx_n σ.2.2.2.2)  (h : K14 x2 x3 x4 σ = some (r, σ')) {rd : Nat → Nat} {H : Heap} {locs : List Loc} (Z : wx_Z D ad rd ca A σ H) (hS : va_S A s.heap H locs) {ls : Array Slot} (hl : lv_has ls 6 [(0, .ref (ad 12 99)), (1, .ref (ad b1 99)), (2, .int x2), (3, .int x3), (4, .int x4)]), W p l e ({ frames := 3, cells := mc, slots := 6464 * mc, locals := 81 } : Room) s m args below meth c H locs k (6464 * k) (MQ below (wx_QA D ad ca A (some (.int r)) σ') args s mc (6464 * mc) A) (F0 m 14 ls [])) (mK14 : ∀ {x2 : Int32} {x3 : Int32} {x4 : Int32} {σ : wx_St}, K14 x2 x3 x4 σ = some (r, σ') → wx_n σ.2.2.2.2 ≤ wx_n σ'.2.2.2.2) {x2 : Int32} {x3 : Int32} {x4 : Int32} {x5 : UInt32} {y0 : UInt32} {y1 : UInt32} {σ : wx_St} {k : Nat} (hk : k + wx_n σ'.2.2.2.2 ≤ mc + wx_n σ.2.2.2.2)  (h : f_X4_fits_77 b1 K14 x2 x3 x4 x5 y0 y1 σ = some (r, σ')) {rd : Nat → Nat} {H : Heap} {locs : List Loc} (Z : wx_Z D ad rd ca A σ H) (hS : va_S A s.heap H locs) {ls : Array Slot} (hl : lv_has ls 6 [(0, .ref (ad 12 99)), (1, .ref (ad b1 99)), (2, .int x2), (3, .int x3), (4, .int x4), (5, .float x5)]) : W p l e ({ frames := 3, cells := mc, slots := 6464 * mc, locals := 81 } : Room) s m args below meth c H locs k (6464 * k) (MQ below (wx_QA D ad ca A (some (.int r)) σ') args s mc (6464 * mc) A) (F0 m 77 ls [.float y1, .float y0]) := by
  obtain ⟨hx, hb, hml, hr, hts, hown, hlk, hC, hA⟩ := id B
  have hm := m_X4_fits_77 (K14 := K14) @mK14 h
  unfold f_X4_fits_77 at h
  obtain ⟨v77, ev77, nv77, h⟩ := wx_f_ok h
  refine wx_fadd hx hb dX4_fits_77 ev77 nv77 ?_
  refine lv_fstore (lv' := [(5, .float v77), (0, .ref (ad 12 99)), (1, .ref (ad b1 99)), (2, .int x2), (3, .int x3), (4, .int x4)]) hx hb dX4_fits_78 hl (by decide) rfl (fun ls hl => ?_)
  exact b_X4_fits_80 B hb1 (K14 := K14) @hK14 @mK14 (k := k) hk h Z hS (lv_sub hl [1, 2, 3, 4, 5, 0] rfl)
set_option maxRecDepth 20000 in
set_option maxHeartbeats 4000000 in
theorem m_X4_fits_45 {b1 : Nat} {r : Int32} {σ' : wx_St} {K14 : Int32 → Int32 → Int32 → wx_St → Option (Int32 × wx_St)} (mK14 : ∀ {x2 : Int32} {x3 : Int32} {x4 : Int32} {σ : wx_St}, K14 x2 x3 x4 σ = some (r, σ') → wx_n σ.2.2.2.2 ≤ wx_n σ'.2.2.2.2) {x2 : Int32} {x3 : Int32} {x4 : Int32} {y0 : UInt32} {σ : wx_St} (h : f_X4_fits_45 b1 K14 x2 x3 x4 y0 σ = some (r, σ')) : wx_n σ.2.2.2.2 ≤ wx_n σ'.2.2.2.2 := by
  unfold f_X4_fits_45 at h
  by_cases c50 : x3 = (-6)
  · replace h := wx_ift c50 h
    exact m_X4_fits_80 (K14 := K14) @mK14 h
  · replace h := wx_iff c50 h
    obtain ⟨v66, ev66, iv66, h⟩ := wx_rI_ok h
    obtain ⟨v73, ev73, iv73, h⟩ := wx_rI_ok h
    obtain ⟨v74, σ74, hc74, h⟩ := wx_b_ok h
    refine Nat.le_trans (m_X1_warmthBy_0 hc74) ?_
    exact m_X4_fits_77 (K14 := K14) @mK14 h
set_option maxRecDepth 20000 in
set_option maxHeartbeats 4000000 in
theorem b_X4_fits_45 (B : wx_B p s m args meth c cX4_fits 6 (some .boolean) wsX4_fits RX4 D ad ca A) {b1 : Nat}  (hb1 : b1 < 11) {r : Int32} {σ' : wx_St} {mc : Nat} {K14 : Int32 → Int32 → Int32 → wx_St → Option (Int32 × wx_St)} (hK14 : ∀ {x2 : Int32} {x3 : Int32} {x4 : Int32} {σ : wx_St} {k : Nat} (hk : k + wx_n σ'.2.2.2.2 ≤ mc + wx_n σ.2.2.2.2)  (h : K14 x2 x3 x4 σ = some (r, σ')) {rd : Nat → Nat} {H : Heap} {locs : List Loc} (Z : wx_Z D ad rd ca A σ H) (hS : va_S A s.heap H locs) {ls : Array Slot} (hl : lv_has ls 6 [(0, .ref (ad 12 99)), (1, .ref (ad b1 99)), (2, .int x2), (3, .int x3), (4, .int x4)]), W p l e ({ frames := 3, cells := mc, slots := 6464 * mc, locals := 81 } : Room) s m args below meth c H locs k (6464 * k) (MQ below (wx_QA D ad ca A (some (.int r)) σ') args s mc (6464 * mc) A) (F0 m 14 ls [])) (mK14 : ∀ {x2 : Int32} {x3 : Int32} {x4 : Int32} {σ : wx_St}, K14 x2 x3 x4 σ = some (r, σ') → wx_n σ.2.2.2.2 ≤ wx_n σ'.2.2.2.2) {x2 : Int32} {x3 : Int32} {x4 : Int32} {y0 : UInt32} {σ : wx_St} {k : Nat} (hk : k + wx_n σ'.2.2.2.2 ≤ mc + wx_n σ.2.2.2.2)  (h : f_X4_fits_45 b1 K14 x2 x3 x4 y0 σ = some (r, σ')) {rd : Nat → Nat} {H : Heap} {locs : List Loc} (Z : wx_Z D ad rd ca A σ H) (hS : va_S A s.heap H locs) {ls : Array Slot} (hl : lv_has ls 6 [(0, .ref (ad 12 99)), (1, .ref (ad b1 99)), (2, .int x2), (3, .int x3), (4, .int x4)]) : W p l e ({ frames := 3, cells := mc, slots := 6464 * mc, locals := 81 } : Room) s m args below meth c H locs k (6464 * k) (MQ below (wx_QA D ad ca A (some (.int r)) σ') args s mc (6464 * mc) A) (F0 m 45 ls [.float y0]) := by
  obtain ⟨hx, hb, hml, hr, hts, hown, hlk, hC, hA⟩ := id B
  have hm := m_X4_fits_45 (K14 := K14) @mK14 h
  unfold f_X4_fits_45 at h
  refine lv_fstore (lv' := [(5, .float y0), (0, .ref (ad 12 99)), (1, .ref (ad b1 99)), (2, .int x2), (3, .int x3), (4, .int x4)]) hx hb dX4_fits_45 hl (by decide) rfl (fun ls hl => ?_)
  refine lv_iload_n hx hb dX4_fits_47 rfl (lv_at hl 4 rfl) ?_
  refine lv_bipush (v := (-6)) hx hb dX4_fits_48 (by decide) ?_
  refine lv_icmp_eq (tgt := 80) hx hb dX4_fits_50 (by decide) (fun c50 => ?_) (fun c50 => ?_)
  · replace h := wx_ift c50 h
    exact b_X4_fits_80 B hb1 (K14 := K14) @hK14 @mK14 (k := k) hk h Z hS (lv_sub hl [1, 2, 3, 4, 5, 0] rfl)
  · replace h := wx_iff c50 h
    refine lv_fload hx hb dX4_fits_53 (lv_at hl 0 rfl) ?_
    refine lv_aload_n hx hb dX4_fits_55 rfl (lv_at hl 1 rfl) ?_
    refine wx_get (own := RX4) hx hb hts i_X4_fits_4 hown hC.1 Z (o := 12) (ci := 4) rfl (rfl : vwCl[4]? = some (RX4, TX4, 2)) 0 (by decide) (hts _ k_X4_fits_w0) (fun _ h9 => h9) (f := 113) rfl rfl dX4_fits_56 ?_
    refine lv_iload_n hx hb dX4_fits_59 rfl (lv_at hl 4 rfl) ?_
    refine lv_aload_n hx hb dX4_fits_60 rfl (lv_at hl 2 rfl) ?_
    refine wx_getN (own := RX4) hx hb hts i_X4_fits_0 hown hC.1 Z (o := b1) (ci := 0) (wx_sbo hb1 99) (rfl : vwCl[0]? = some (RX0, TX0, 13)) 12 (by decide) (wx_nst hC 18 rfl rfl) (fun _ h9 => h9) (f := 0) rfl rfl dX4_fits_61 ?_
    refine lv_iload hx hb dX4_fits_64 (lv_at hl 5 rfl) ?_
    obtain ⟨v66, ev66, iv66, h⟩ := wx_rI_ok h
    refine wx_iald hx hb hC.1 Z (o := b1) (k := 12) (n := 8) (wx_sbo hb1 12) rfl iv66 dX4_fits_66 ev66 ?_
    refine lv_aload_n hx hb dX4_fits_67 rfl (lv_at hl 2 rfl) ?_
    refine wx_getN (own := RX4) hx hb hts i_X4_fits_0 hown hC.1 Z (o := b1) (ci := 0) (wx_sbo hb1 99) (rfl : vwCl[0]? = some (RX0, TX0, 13)) 10 (by decide) (wx_nst hC 14 rfl rfl) (fun _ h9 => h9) (f := 0) rfl rfl dX4_fits_68 ?_
    refine lv_iload hx hb dX4_fits_71 (lv_at hl 5 rfl) ?_
    obtain ⟨v73, ev73, iv73, h⟩ := wx_rI_ok h
    refine wx_iald hx hb hC.1 Z (o := b1) (k := 10) (n := 8) (wx_sbo hb1 10) rfl iv73 dX4_fits_73 ev73 ?_
    obtain ⟨v74, σ74, hc74, h⟩ := wx_b_ok h
    have m1 := m_X1_warmthBy_0 hc74
    have m2 := m_X4_fits_77 (K14 := K14) @mK14 h
    refine wx_callA (va_runVN (As := [.int x3, .int v66, .int v73]) (rest := [.float y0]) ⟨hx, hb, hml, hown, hts⟩ (c_X1_warmthBy l (D := D) (ad := ad) (rd := rd) (ca := ca) (A := A) (σ := σ) hc74) ⟨va_cnB 3 hts gX4_fits_X1_warmthBy_n70 rfl rfl rfl (hC.1.2.1 _ (List.mem_of_getElem? (i := 50) rfl)) (hts _ k_X4_fits_w1) (by decide +kernel) ⟨Nat.le_of_ble_eq_true rfl, Nat.le_of_ble_eq_true rfl⟩, hts _ k_X4_fits_w4, hts _ k_X4_fits_w5⟩ (wx_preV hC Z hS hA rfl (rfl : vwCl[1]? = some (RX1, TX1, 3))) rfl rfl hl.1 rfl (lv_room (Nat.le_of_ble_eq_true rfl)) dX4_fits_74 ⟨(by show k + (wx_n σ74.2.2.2.2 - wx_n σ.2.2.2.2) ≤ mc; omega), (by show 6464 * k + 6464 * (wx_n σ74.2.2.2.2 - wx_n σ.2.2.2.2) ≤ 6464 * mc; omega)⟩) hS (fun rd H locs Z hS => ?_)
    refine W.widen (k := k + (wx_n σ74.2.2.2.2 - wx_n σ.2.2.2.2)) (n := 6464 * (k + (wx_n σ74.2.2.2.2 - wx_n σ.2.2.2.2))) (Nat.le_refl _) (by omega) ?_
    exact b_X4_fits_77 B hb1 (K14 := K14) @hK14 @mK14 (k := k + (wx_n σ74.2.2.2.2 - wx_n σ.2.2.2.2)) (by omega) h Z hS (lv_sub hl [1, 2, 3, 4, 5, 0] rfl)
set_option maxRecDepth 20000 in
set_option maxHeartbeats 4000000 in
theorem m_X4_fits_14 {b1 : Nat} {r : Int32} {σ' : wx_St}  :
    ∀ {n : Nat} {x2 : Int32} {x3 : Int32} {x4 : Int32} {σ : wx_St} (h : f_X4_fits_14 b1 n x2 x3 x4 σ = some (r, σ')), wx_n σ.2.2.2.2 ≤ wx_n σ'.2.2.2.2 := by
  intro n
  induction n with
  | zero => intro x2 x3 x4 σ h; exact wx_no h
  | succ n ih =>
    intro x2 x3 x4 σ h
    rw [f_X4_fits_14] at h
    by_cases c20 : (σ.2.2.1 b1 9) ≤ x4
    · replace h := wx_ift c20 h
      obtain ⟨rfl, rfl⟩ := wx_ret_ok h
      exact Nat.le_refl _
    · replace h := wx_iff c20 h
      obtain ⟨v34, ev34, iv34, h⟩ := wx_rI_ok h
      obtain ⟨v41, ev41, iv41, h⟩ := wx_rI_ok h
      obtain ⟨v42, σ42, hc42, h⟩ := wx_b_ok h
      refine Nat.le_trans (m_X1_warmthBy_0 hc42) ?_
      exact m_X4_fits_45 (K14 := (f_X4_fits_14 b1 n)) @ih h
set_option maxRecDepth 20000 in
set_option maxHeartbeats 4000000 in
theorem b_X4_fits_14 (B : wx_B p s m args meth c cX4_fits 6 (some .boolean) wsX4_fits RX4 D ad ca A) {b1 : Nat}  (hb1 : b1 < 11) {r : Int32} {σ' : wx_St} {mc : Nat}   :
    ∀ {n : Nat} {x2 : Int32} {x3 : Int32} {x4 : Int32} {σ : wx_St} {k : Nat} (hk : k + wx_n σ'.2.2.2.2 ≤ mc + wx_n σ.2.2.2.2)  (h : f_X4_fits_14 b1 n x2 x3 x4 σ = some (r, σ')) {rd : Nat → Nat} {H : Heap} {locs : List Loc} (Z : wx_Z D ad rd ca A σ H) (hS : va_S A s.heap H locs) {ls : Array Slot} (hl : lv_has ls 6 [(0, .ref (ad 12 99)), (1, .ref (ad b1 99)), (2, .int x2), (3, .int x3), (4, .int x4)]), W p l e ({ frames := 3, cells := mc, slots := 6464 * mc, locals := 81 } : Room) s m args below meth c H locs k (6464 * k) (MQ below (wx_QA D ad ca A (some (.int r)) σ') args s mc (6464 * mc) A) (F0 m 14 ls []) := by
  obtain ⟨hx, hb, hml, hr, hts, hown, hlk, hC, hA⟩ := id B
  intro n
  induction n with
  | zero => intro x2 x3 x4 σ k hk  h rd H locs Z hS ls hl; exact wx_no h
  | succ n ih =>
    intro x2 x3 x4 σ k hk  h rd H locs Z hS ls hl
    have hm := m_X4_fits_14 h
    have mih : ∀ {x2 : Int32} {x3 : Int32} {x4 : Int32} {σ : wx_St}, f_X4_fits_14 b1 n x2 x3 x4 σ = some (r, σ') → wx_n σ.2.2.2.2 ≤ wx_n σ'.2.2.2.2 := fun h => m_X4_fits_14 h
    rw [f_X4_fits_14] at h
    refine lv_iload hx hb dX4_fits_14 (lv_at hl 4 rfl) ?_
    refine lv_aload_n hx hb dX4_fits_16 rfl (lv_at hl 1 rfl) ?_
    refine wx_getN (own := RX4) hx hb hts i_X4_fits_0 hown hC.1 Z (o := b1) (ci := 0) (wx_sbo hb1 99) (rfl : vwCl[0]? = some (RX0, TX0, 13)) 9 (by decide) (wx_nst hC 12 rfl rfl) (fun _ h9 => h9) (f := 1) rfl rfl dX4_fits_17 ?_
    refine lv_icmp_ge (tgt := 113) hx hb dX4_fits_20 (by decide) (fun c20 => ?_) (fun c20 => ?_)
    · replace h := wx_ift c20 h
      refine lv_iconst (v := 1) hx hb dX4_fits_113 (by decide) ?_
      obtain ⟨rfl, rfl⟩ := wx_ret_ok h
      refine W.widen (k := mc) (n := 6464 * mc) (by omega) (by omega) ?_
      exact W.zret hx hb hr rfl (fun t ht hW => ⟨rfl, ⟨_, by rw [ht]; exact Z⟩, hS.F ht⟩) hS.2.2 dX4_fits_114
    · replace h := wx_iff c20 h
      refine lv_aload_n hx hb dX4_fits_23 rfl (lv_at hl 0 rfl) ?_
      refine wx_get (own := RX4) hx hb hts i_X4_fits_4 hown hC.1 Z (o := 12) (ci := 4) rfl (rfl : vwCl[4]? = some (RX4, TX4, 2)) 0 (by decide) (hts _ k_X4_fits_w0) (fun _ h9 => h9) (f := 113) rfl rfl dX4_fits_24 ?_
      refine lv_iload_n hx hb dX4_fits_27 rfl (lv_at hl 2 rfl) ?_
      refine lv_aload_n hx hb dX4_fits_28 rfl (lv_at hl 1 rfl) ?_
      refine wx_getN (own := RX4) hx hb hts i_X4_fits_0 hown hC.1 Z (o := b1) (ci := 0) (wx_sbo hb1 99) (rfl : vwCl[0]? = some (RX0, TX0, 13)) 12 (by decide) (wx_nst hC 18 rfl rfl) (fun _ h9 => h9) (f := 0) rfl rfl dX4_fits_29 ?_
      refine lv_iload hx hb dX4_fits_32 (lv_at hl 4 rfl) ?_
      obtain ⟨v34, ev34, iv34, h⟩ := wx_rI_ok h
      refine wx_iald hx hb hC.1 Z (o := b1) (k := 12) (n := 8) (wx_sbo hb1 12) rfl iv34 dX4_fits_34 ev34 ?_
      refine lv_aload_n hx hb dX4_fits_35 rfl (lv_at hl 1 rfl) ?_
      refine wx_getN (own := RX4) hx hb hts i_X4_fits_0 hown hC.1 Z (o := b1) (ci := 0) (wx_sbo hb1 99) (rfl : vwCl[0]? = some (RX0, TX0, 13)) 10 (by decide) (wx_nst hC 14 rfl rfl) (fun _ h9 => h9) (f := 0) rfl rfl dX4_fits_36 ?_
      refine lv_iload hx hb dX4_fits_39 (lv_at hl 4 rfl) ?_
      obtain ⟨v41, ev41, iv41, h⟩ := wx_rI_ok h
      refine wx_iald hx hb hC.1 Z (o := b1) (k := 10) (n := 8) (wx_sbo hb1 10) rfl iv41 dX4_fits_41 ev41 ?_
      obtain ⟨v42, σ42, hc42, h⟩ := wx_b_ok h
      have m1 := m_X1_warmthBy_0 hc42
      have m2 := m_X4_fits_45 (K14 := (f_X4_fits_14 b1 n)) mih h
      refine wx_callA (va_runVN (As := [.int x2, .int v34, .int v41]) (rest := []) ⟨hx, hb, hml, hown, hts⟩ (c_X1_warmthBy l (D := D) (ad := ad) (rd := rd) (ca := ca) (A := A) (σ := σ) hc42) ⟨va_cnB 3 hts gX4_fits_X1_warmthBy_n70 rfl rfl rfl (hC.1.2.1 _ (List.mem_of_getElem? (i := 50) rfl)) (hts _ k_X4_fits_w1) (by decide +kernel) ⟨Nat.le_of_ble_eq_true rfl, Nat.le_of_ble_eq_true rfl⟩, hts _ k_X4_fits_w4, hts _ k_X4_fits_w5⟩ (wx_preV hC Z hS hA rfl (rfl : vwCl[1]? = some (RX1, TX1, 3))) rfl rfl hl.1 rfl (lv_room (Nat.le_of_ble_eq_true rfl)) dX4_fits_42 ⟨(by show k + (wx_n σ42.2.2.2.2 - wx_n σ.2.2.2.2) ≤ mc; omega), (by show 6464 * k + 6464 * (wx_n σ42.2.2.2.2 - wx_n σ.2.2.2.2) ≤ 6464 * mc; omega)⟩) hS (fun rd H locs Z hS => ?_)
      refine W.widen (k := k + (wx_n σ42.2.2.2.2 - wx_n σ.2.2.2.2)) (n := 6464 * (k + (wx_n σ42.2.2.2.2 - wx_n σ.2.2.2.2))) (Nat.le_refl _) (by omega) ?_
      exact b_X4_fits_45 B hb1 (K14 := (f_X4_fits_14 b1 n)) @ih mih (k := k + (wx_n σ42.2.2.2.2 - wx_n σ.2.2.2.2)) (by omega) h Z hS (lv_sub hl [0, 1, 2, 3, 4] rfl)
set_option maxRecDepth 20000 in
set_option maxHeartbeats 4000000 in
theorem m_X4_fits_0 {b1 : Nat} {r : Int32} {σ' : wx_St}  {x2 : Int32} {x3 : Int32} {σ : wx_St} (h : f_X4_fits b1 x2 x3 σ = some (r, σ')) : wx_n σ.2.2.2.2 ≤ wx_n σ'.2.2.2.2 := by
  unfold f_X4_fits at h
  obtain ⟨v8, σ8, hc8, h⟩ := wx_b_ok h
  refine Nat.le_trans (Nat.le_of_eq (congrArg wx_n (show σ8.2.2.2.2 = σ.2.2.2.2 from m_X1_follow_0 hc8)).symm) ?_
  exact m_X4_fits_14 h
set_option maxRecDepth 20000 in
set_option maxHeartbeats 4000000 in
theorem b_X4_fits_0 (B : wx_B p s m args meth c cX4_fits 6 (some .boolean) wsX4_fits RX4 D ad ca A) {b1 : Nat}  (hb1 : b1 < 11) {r : Int32} {σ' : wx_St} {mc : Nat}  {x2 : Int32} {x3 : Int32} {σ : wx_St} {k : Nat} (hk : k + wx_n σ'.2.2.2.2 ≤ mc + wx_n σ.2.2.2.2)  (h : f_X4_fits b1 x2 x3 σ = some (r, σ')) {rd : Nat → Nat} {H : Heap} {locs : List Loc} (Z : wx_Z D ad rd ca A σ H) (hS : va_S A s.heap H locs) {ls : Array Slot} (hl : lv_has ls 6 [(0, .ref (ad 12 99)), (1, .ref (ad b1 99)), (2, .int x2), (3, .int x3)]) : W p l e ({ frames := 3, cells := mc, slots := 6464 * mc, locals := 81 } : Room) s m args below meth c H locs k (6464 * k) (MQ below (wx_QA D ad ca A (some (.int r)) σ') args s mc (6464 * mc) A) (F0 m 0 ls []) := by
  obtain ⟨hx, hb, hml, hr, hts, hown, hlk, hC, hA⟩ := id B
  have hm := m_X4_fits_0 h
  unfold f_X4_fits at h
  refine lv_aload_n hx hb dX4_fits_0 rfl (lv_at hl 0 rfl) ?_
  refine wx_get (own := RX4) hx hb hts i_X4_fits_4 hown hC.1 Z (o := 12) (ci := 4) rfl (rfl : vwCl[4]? = some (RX4, TX4, 2)) 0 (by decide) (hts _ k_X4_fits_w0) (fun _ h9 => h9) (f := 113) rfl rfl dX4_fits_1 ?_
  refine lv_aload_n hx hb dX4_fits_4 rfl (lv_at hl 1 rfl) ?_
  refine wx_getN (own := RX4) hx hb hts i_X4_fits_0 hown hC.1 Z (o := b1) (ci := 0) (wx_sbo hb1 99) (rfl : vwCl[0]? = some (RX0, TX0, 13)) 0 (by decide) (wx_nst hC 2 rfl rfl) (fun _ h9 => h9) (f := 0) rfl rfl dX4_fits_5 ?_
  obtain ⟨v8, σ8, hc8, h⟩ := wx_b_ok h
  refine wx_call (va_runVN (As := [.ref (ad b1 0)]) (rest := []) ⟨hx, hb, hml, hown, hts⟩ (c_X1_follow l (D := D) (ad := ad) (rd := rd) (ca := ca) (A := A) (σ := σ) (o1 := b1) (k1 := 0) (al := σ.2.2.2.2) (wx_sbo hb1 0) rfl hc8) ⟨va_cnB 1 hts gX4_fits_X1_follow_n56 rfl rfl rfl (hC.1.2.1 _ (List.mem_of_getElem? (i := 49) rfl)) (hts _ k_X4_fits_w1) (by decide +kernel) ⟨Nat.le_of_ble_eq_true rfl, Nat.le_of_ble_eq_true rfl⟩, hts _ k_X4_fits_w2, hts _ k_X4_fits_w3⟩ (wx_preV hC Z hS hA rfl (rfl : vwCl[1]? = some (RX1, TX1, 3))) rfl rfl hl.1 rfl (lv_room (Nat.le_of_ble_eq_true rfl)) dX4_fits_8 ⟨(by show k + 0 ≤ mc; omega), (by show 6464 * k + 0 ≤ 6464 * mc; omega)⟩) hS (fun H locs Z hS => ?_)
  have hqσ8 := congrArg wx_n (show σ8.2.2.2.2 = σ.2.2.2.2 from m_X1_follow_0 hc8)
  rw [← hqσ8] at hk hm
  refine lv_iconst (v := 0) hx hb dX4_fits_11 (by decide) ?_
  refine lv_istore (lv' := [(4, .int 0), (0, .ref (ad 12 99)), (1, .ref (ad b1 99)), (2, .int x2), (3, .int x3)]) hx hb dX4_fits_12 hl (by decide) rfl (fun ls hl => ?_)
  exact b_X4_fits_14 B hb1 (k := k) hk h Z hS (lv_sub hl [1, 2, 3, 4, 0] rfl)
set_option maxRecDepth 20000 in
theorem c_X4_fits (l : Launch) {D : va_G} {ad : Nat → Nat → Nat} {rd : Nat → Nat} {ca : Nat → ClassId} {A : Nat → Prop} {σ : wx_St} {b1 : Nat}  (hb1 : b1 < 11) {x2 : Int32} {x3 : Int32} {r : Int32} {σ' : wx_St} (h : f_X4_fits b1 x2 x3 σ = some (r, σ')) : wx_MA l yX4_fits wsX4_fits 3 81 D ad rd ca A [.ref (ad 12 99), .ref (ad b1 99), .int x2, .int x3] σ (some (.int r)) σ' := by
  refine Met.ofW (cc := cX4_fits) (maxL := 6) (ret := (some .boolean)) (by decide +kernel) rfl ?_
  intro p e s m args below meth c s₁ B0 hml hv
  obtain ⟨rfl, hC, Z, hA⟩ := hv
  have hl := lv_entry ([.ref (ad 12 99), .ref (ad b1 99), .int x2, .int x3]) (n := 6) (Nat.le_of_ble_eq_true rfl)
  rw [lg_entry_eq]
  generalize (lg_sl ([.ref (ad 12 99), .ref (ad b1 99), .int x2, .int x3]) ++ List.replicate (6 - (lg_sl ([.ref (ad 12 99), .ref (ad b1 99), .int x2, .int x3])).length) Slot.unset).toArray = ls at hl ⊢
  exact b_X4_fits_0 ⟨B0.exec, B0.bytes, hml, B0.returns, atoms_spec (ws := wsX4_fits) B0.pre, findClass_of_methodNamed B0.named, B0.notSynchronized, hC, hA⟩ hb1 (k := 0) (by have hm := m_X4_fits_0 h; omega) h Z va_S.rf hl
theorem k_X4_couldBe_w0 : Cond.initialized RX0 ∈ wsX4_couldBe := by decide +kernel
theorem k_X4_couldBe_w1 : Cond.instanceMethod yX0_isSuspect ∈ wsX4_couldBe := by decide +kernel
theorem k_X4_couldBe_w2 : Cond.selects RX0 yX0_isSuspect yX0_isSuspect ∈ wsX4_couldBe := by decide +kernel
set_option maxRecDepth 20000 in
set_option maxHeartbeats 4000000 in
theorem m_X4_couldBe_24 {b1 : Nat} {r : Int32} {σ' : wx_St}  {x2 : Int32} {y0 : Int32} {σ : wx_St} (h : f_X4_couldBe_24 b1 x2 y0 σ = some (r, σ')) : wx_n σ.2.2.2.2 ≤ wx_n σ'.2.2.2.2 := by
  unfold f_X4_couldBe_24 at h
  obtain ⟨hz, h⟩ := wx_z_ok h
  obtain ⟨rfl, rfl⟩ := wx_ret_ok h
  exact Nat.le_refl _
set_option maxRecDepth 20000 in
set_option maxHeartbeats 4000000 in
theorem b_X4_couldBe_24 (B : wx_B p s m args meth c cX4_couldBe 3 (some .boolean) wsX4_couldBe RX4 D ad ca A) {b1 : Nat}  (hb1 : b1 < 11) {r : Int32} {σ' : wx_St} {mc : Nat}  {x2 : Int32} {y0 : Int32} {σ : wx_St} {k : Nat} (hk : k + wx_n σ'.2.2.2.2 ≤ mc + wx_n σ.2.2.2.2)  (h : f_X4_couldBe_24 b1 x2 y0 σ = some (r, σ')) {rd : Nat → Nat} {H : Heap} {locs : List Loc} (Z : wx_Z D ad rd ca A σ H) (hS : va_S A s.heap H locs) {ls : Array Slot} (hl : lv_has ls 3 [(0, .ref (ad 12 99)), (1, .ref (ad b1 99)), (2, .int x2)]) : W p l e ({ frames := 4, cells := mc, slots := 6464 * mc, locals := 106 } : Room) s m args below meth c H locs k (6464 * k) (MQ below (wx_QA D ad ca A (some (.int r)) σ') args s mc (6464 * mc) A) (F0 m 24 ls [.int y0]) := by
  obtain ⟨hx, hb, hml, hr, hts, hown, hlk, hC, hA⟩ := id B
  have hm := m_X4_couldBe_24 h
  unfold f_X4_couldBe_24 at h
  obtain ⟨hz, h⟩ := wx_z_ok h
  obtain ⟨rfl, rfl⟩ := wx_ret_ok h
  refine W.widen (k := mc) (n := 6464 * mc) (by omega) (by omega) ?_
  exact W.zret hx hb hr (wx_nb hz) (fun t ht hW => ⟨rfl, ⟨_, by rw [ht]; exact Z⟩, hS.F ht⟩) hS.2.2 dX4_couldBe_24
set_option maxRecDepth 20000 in
set_option maxHeartbeats 4000000 in
theorem m_X4_couldBe_23 {b1 : Nat} {r : Int32} {σ' : wx_St}  {x2 : Int32} {σ : wx_St} (h : f_X4_couldBe_23 b1 x2 σ = some (r, σ')) : wx_n σ.2.2.2.2 ≤ wx_n σ'.2.2.2.2 := by
  unfold f_X4_couldBe_23 at h
  exact m_X4_couldBe_24 h
set_option maxRecDepth 20000 in
set_option maxHeartbeats 4000000 in
theorem b_X4_couldBe_23 (B : wx_B p s m args meth c cX4_couldBe 3 (some .boolean) wsX4_couldBe RX4 D ad ca A) {b1 : Nat}  (hb1 : b1 < 11) {r : Int32} {σ' : wx_St} {mc : Nat}  {x2 : Int32} {σ : wx_St} {k : Nat} (hk : k + wx_n σ'.2.2.2.2 ≤ mc + wx_n σ.2.2.2.2)  (h : f_X4_couldBe_23 b1 x2 σ = some (r, σ')) {rd : Nat → Nat} {H : Heap} {locs : List Loc} (Z : wx_Z D ad rd ca A σ H) (hS : va_S A s.heap H locs) {ls : Array Slot} (hl : lv_has ls 3 [(0, .ref (ad 12 99)), (1, .ref (ad b1 99)), (2, .int x2)]) : W p l e ({ frames := 4, cells := mc, slots := 6464 * mc, locals := 106 } : Room) s m args below meth c H locs k (6464 * k) (MQ below (wx_QA D ad ca A (some (.int r)) σ') args s mc (6464 * mc) A) (F0 m 23 ls []) := by
  obtain ⟨hx, hb, hml, hr, hts, hown, hlk, hC, hA⟩ := id B
  have hm := m_X4_couldBe_23 h
  unfold f_X4_couldBe_23 at h
  refine lv_iconst (v := 0) hx hb dX4_couldBe_23 (by decide) ?_
  exact b_X4_couldBe_24 B hb1 (k := k) hk h Z hS (lv_sub hl [0, 1, 2] rfl)
set_option maxRecDepth 20000 in
set_option maxHeartbeats 4000000 in
theorem m_X4_couldBe_16 {b1 : Nat} {r : Int32} {σ' : wx_St}  {x2 : Int32} {y0 : Int32} {σ : wx_St} (h : f_X4_couldBe_16 b1 x2 y0 σ = some (r, σ')) : wx_n σ.2.2.2.2 ≤ wx_n σ'.2.2.2.2 := by
  unfold f_X4_couldBe_16 at h
  by_cases c16 : y0 = 0
  · replace h := wx_ift c16 h
    exact m_X4_couldBe_23 h
  · replace h := wx_iff c16 h
    exact m_X4_couldBe_24 h
set_option maxRecDepth 20000 in
set_option maxHeartbeats 4000000 in
theorem b_X4_couldBe_16 (B : wx_B p s m args meth c cX4_couldBe 3 (some .boolean) wsX4_couldBe RX4 D ad ca A) {b1 : Nat}  (hb1 : b1 < 11) {r : Int32} {σ' : wx_St} {mc : Nat}  {x2 : Int32} {y0 : Int32} {σ : wx_St} {k : Nat} (hk : k + wx_n σ'.2.2.2.2 ≤ mc + wx_n σ.2.2.2.2)  (h : f_X4_couldBe_16 b1 x2 y0 σ = some (r, σ')) {rd : Nat → Nat} {H : Heap} {locs : List Loc} (Z : wx_Z D ad rd ca A σ H) (hS : va_S A s.heap H locs) {ls : Array Slot} (hl : lv_has ls 3 [(0, .ref (ad 12 99)), (1, .ref (ad b1 99)), (2, .int x2)]) : W p l e ({ frames := 4, cells := mc, slots := 6464 * mc, locals := 106 } : Room) s m args below meth c H locs k (6464 * k) (MQ below (wx_QA D ad ca A (some (.int r)) σ') args s mc (6464 * mc) A) (F0 m 16 ls [.int y0]) := by
  obtain ⟨hx, hb, hml, hr, hts, hown, hlk, hC, hA⟩ := id B
  have hm := m_X4_couldBe_16 h
  unfold f_X4_couldBe_16 at h
  refine lv_if_eq (tgt := 23) hx hb dX4_couldBe_16 (by decide) (fun c16 => ?_) (fun c16 => ?_)
  · replace h := wx_ift c16 h
    exact b_X4_couldBe_23 B hb1 (k := k) hk h Z hS (lv_sub hl [0, 1, 2] rfl)
  · replace h := wx_iff c16 h
    refine lv_iconst (v := 1) hx hb dX4_couldBe_19 (by decide) ?_
    refine lv_goto (tgt := 24) hx hb dX4_couldBe_20 (by decide) ?_
    exact b_X4_couldBe_24 B hb1 (k := k) hk h Z hS (lv_sub hl [0, 1, 2] rfl)
set_option maxRecDepth 20000 in
set_option maxHeartbeats 4000000 in
theorem m_X4_couldBe_0 {b1 : Nat} {r : Int32} {σ' : wx_St}  {x2 : Int32} {σ : wx_St} (h : f_X4_couldBe b1 x2 σ = some (r, σ')) : wx_n σ.2.2.2.2 ≤ wx_n σ'.2.2.2.2 := by
  unfold f_X4_couldBe at h
  obtain ⟨v2, hc2, h⟩ := wx_o_ok h
  by_cases c5 : v2 = 0
  · replace h := wx_ift c5 h
    exact m_X4_couldBe_23 h
  · replace h := wx_iff c5 h
    obtain ⟨v13, σ13, hc13, h⟩ := wx_b_ok h
    refine Nat.le_trans (m_X4_fits_0 hc13) ?_
    exact m_X4_couldBe_16 h
set_option maxRecDepth 20000 in
set_option maxHeartbeats 4000000 in
theorem b_X4_couldBe_0 (B : wx_B p s m args meth c cX4_couldBe 3 (some .boolean) wsX4_couldBe RX4 D ad ca A) {b1 : Nat}  (hb1 : b1 < 11) {r : Int32} {σ' : wx_St} {mc : Nat}  {x2 : Int32} {σ : wx_St} {k : Nat} (hk : k + wx_n σ'.2.2.2.2 ≤ mc + wx_n σ.2.2.2.2)  (h : f_X4_couldBe b1 x2 σ = some (r, σ')) {rd : Nat → Nat} {H : Heap} {locs : List Loc} (Z : wx_Z D ad rd ca A σ H) (hS : va_S A s.heap H locs) {ls : Array Slot} (hl : lv_has ls 3 [(0, .ref (ad 12 99)), (1, .ref (ad b1 99)), (2, .int x2)]) : W p l e ({ frames := 4, cells := mc, slots := 6464 * mc, locals := 106 } : Room) s m args below meth c H locs k (6464 * k) (MQ below (wx_QA D ad ca A (some (.int r)) σ') args s mc (6464 * mc) A) (F0 m 0 ls []) := by
  obtain ⟨hx, hb, hml, hr, hts, hown, hlk, hC, hA⟩ := id B
  have hm := m_X4_couldBe_0 h
  unfold f_X4_couldBe at h
  refine lv_aload_n hx hb dX4_couldBe_0 rfl (lv_at hl 1 rfl) ?_
  refine lv_iload_n hx hb dX4_couldBe_1 rfl (lv_at hl 2 rfl) ?_
  obtain ⟨v2, hc2, h⟩ := wx_o_ok h
  refine wx_call (va_runVN (As := [.int x2]) (rest := []) ⟨hx, hb, hml, hown, hts⟩ (c_X0_isSuspect l (D := D) (ad := ad) (rd := rd) (ca := ca) (A := A) (σ := σ) (o := b1) hb1 hc2) ⟨va_cnB 1 hts gX4_couldBe_X0_isSuspect_n22 rfl rfl rfl (hC.1.2.1 _ (List.mem_of_getElem? (i := 48) rfl)) (hts _ k_X4_couldBe_w0) (by decide +kernel) ⟨Nat.le_of_ble_eq_true rfl, Nat.le_of_ble_eq_true rfl⟩, hts _ k_X4_couldBe_w1, hts _ k_X4_couldBe_w2⟩ (wx_preV hC Z hS hA (wx_sbo hb1 99) (rfl : vwCl[0]? = some (RX0, TX0, 13))) rfl rfl hl.1 rfl (lv_room (Nat.le_of_ble_eq_true rfl)) dX4_couldBe_2 ⟨(by show k + 0 ≤ mc; omega), (by show 6464 * k + 0 ≤ 6464 * mc; omega)⟩) hS (fun H locs Z hS => ?_)
  refine lv_if_eq (tgt := 23) hx hb dX4_couldBe_5 (by decide) (fun c5 => ?_) (fun c5 => ?_)
  · replace h := wx_ift c5 h
    exact b_X4_couldBe_23 B hb1 (k := k) hk h Z hS (lv_sub hl [0, 1, 2] rfl)
  · replace h := wx_iff c5 h
    refine lv_aload_n hx hb dX4_couldBe_8 rfl (lv_at hl 0 rfl) ?_
    refine lv_aload_n hx hb dX4_couldBe_9 rfl (lv_at hl 1 rfl) ?_
    refine lv_iload_n hx hb dX4_couldBe_10 rfl (lv_at hl 2 rfl) ?_
    refine lv_bipush (v := (-6)) hx hb dX4_couldBe_11 (by decide) ?_
    obtain ⟨v13, σ13, hc13, h⟩ := wx_b_ok h
    have m1 := m_X4_fits_0 hc13
    have m2 := m_X4_couldBe_16 h
    refine wx_callA (va_runV (As := [.ref (ad b1 99), .int x2, .int (-6)]) (rest := []) ⟨hx, hb, hml, hown, hts⟩ (c_X4_fits l (D := D) (ad := ad) (rd := rd) (ca := ca) (A := A) (σ := σ) (b1 := b1) hb1 hc13) (cwV 3 hts gX4_couldBe_X4_fits rfl rfl rfl (by decide +kernel) ⟨Nat.le_of_ble_eq_true rfl, Nat.le_of_ble_eq_true rfl⟩) (wx_preV hC Z hS hA rfl (rfl : vwCl[4]? = some (RX4, TX4, 2))) rfl rfl hl.1 rfl (lv_room (Nat.le_of_ble_eq_true rfl)) dX4_couldBe_13 ⟨(by show k + (wx_n σ13.2.2.2.2 - wx_n σ.2.2.2.2) ≤ mc; omega), (by show 6464 * k + 6464 * (wx_n σ13.2.2.2.2 - wx_n σ.2.2.2.2) ≤ 6464 * mc; omega)⟩) hS (fun rd H locs Z hS => ?_)
    refine W.widen (k := k + (wx_n σ13.2.2.2.2 - wx_n σ.2.2.2.2)) (n := 6464 * (k + (wx_n σ13.2.2.2.2 - wx_n σ.2.2.2.2))) (Nat.le_refl _) (by omega) ?_
    exact b_X4_couldBe_16 B hb1 (k := k + (wx_n σ13.2.2.2.2 - wx_n σ.2.2.2.2)) (by omega) h Z hS (lv_sub hl [0, 1, 2] rfl)
set_option maxRecDepth 20000 in
theorem c_X4_couldBe (l : Launch) {D : va_G} {ad : Nat → Nat → Nat} {rd : Nat → Nat} {ca : Nat → ClassId} {A : Nat → Prop} {σ : wx_St} {b1 : Nat}  (hb1 : b1 < 11) {x2 : Int32} {r : Int32} {σ' : wx_St} (h : f_X4_couldBe b1 x2 σ = some (r, σ')) : wx_MA l yX4_couldBe wsX4_couldBe 4 106 D ad rd ca A [.ref (ad 12 99), .ref (ad b1 99), .int x2] σ (some (.int r)) σ' := by
  refine Met.ofW (cc := cX4_couldBe) (maxL := 3) (ret := (some .boolean)) (by decide +kernel) rfl ?_
  intro p e s m args below meth c s₁ B0 hml hv
  obtain ⟨rfl, hC, Z, hA⟩ := hv
  have hl := lv_entry ([.ref (ad 12 99), .ref (ad b1 99), .int x2]) (n := 3) (Nat.le_of_ble_eq_true rfl)
  rw [lg_entry_eq]
  generalize (lg_sl ([.ref (ad 12 99), .ref (ad b1 99), .int x2]) ++ List.replicate (3 - (lg_sl ([.ref (ad 12 99), .ref (ad b1 99), .int x2])).length) Slot.unset).toArray = ls at hl ⊢
  exact b_X4_couldBe_0 ⟨B0.exec, B0.bytes, hml, B0.returns, atoms_spec (ws := wsX4_couldBe) B0.pre, findClass_of_methodNamed B0.named, B0.notSynchronized, hC, hA⟩ hb1 (k := 0) (by have hm := m_X4_couldBe_0 h; omega) h Z va_S.rf hl
theorem k_X4_couldBeOneOfTwo_w0 : Cond.initialized RX0 ∈ wsX4_couldBeOneOfTwo := by decide +kernel
theorem k_X4_couldBeOneOfTwo_w1 : Cond.instanceMethod yX0_isSuspect ∈ wsX4_couldBeOneOfTwo := by decide +kernel
theorem k_X4_couldBeOneOfTwo_w2 : Cond.selects RX0 yX0_isSuspect yX0_isSuspect ∈ wsX4_couldBeOneOfTwo := by decide +kernel
theorem k_X4_couldBeOneOfTwo_w3 : Cond.methodLink RX4 44 Lib.Math.min.name ∈ wsX4_couldBeOneOfTwo := by decide +kernel
theorem k_X4_couldBeOneOfTwo_w4 : Cond.static Lib.Math.min.name ∈ wsX4_couldBeOneOfTwo := by decide +kernel
theorem k_X4_couldBeOneOfTwo_w5 : Cond.initialized "java/lang/Math" ∈ wsX4_couldBeOneOfTwo := by decide +kernel
theorem k_X4_couldBeOneOfTwo_w6 : Cond.code Lib.Math.min.name Lib.Math.min.code 2 (some .int) ∈ wsX4_couldBeOneOfTwo := by decide +kernel
theorem k_X4_couldBeOneOfTwo_w7 : Cond.methodLink RX4 50 Lib.Math.max.name ∈ wsX4_couldBeOneOfTwo := by decide +kernel
theorem k_X4_couldBeOneOfTwo_w8 : Cond.static Lib.Math.max.name ∈ wsX4_couldBeOneOfTwo := by decide +kernel
theorem k_X4_couldBeOneOfTwo_w9 : Cond.code Lib.Math.max.name Lib.Math.max.code 2 (some .int) ∈ wsX4_couldBeOneOfTwo := by decide +kernel
set_option maxRecDepth 20000 in
set_option maxHeartbeats 4000000 in
theorem m_X4_couldBeOneOfTwo_51 {b1 : Nat} {r : Int32} {σ' : wx_St} {K12 : Int32 → Int32 → wx_St → Option (Int32 × wx_St)} (mK12 : ∀ {x2 : Int32} {x3 : Int32} {σ : wx_St}, K12 x2 x3 σ = some (r, σ') → wx_n σ.2.2.2.2 ≤ wx_n σ'.2.2.2.2) {x2 : Int32} {x3 : Int32} {σ : wx_St} (h : f_X4_couldBeOneOfTwo_51 b1 K12 x2 x3 σ = some (r, σ')) : wx_n σ.2.2.2.2 ≤ wx_n σ'.2.2.2.2 := by
  unfold f_X4_couldBeOneOfTwo_51 at h
  exact mK12 h
set_option maxRecDepth 20000 in
set_option maxHeartbeats 4000000 in
theorem b_X4_couldBeOneOfTwo_51 (B : wx_B p s m args meth c cX4_couldBeOneOfTwo 4 (some .boolean) wsX4_couldBeOneOfTwo RX4 D ad ca A) {b1 : Nat}  (hb1 : b1 < 11) {r : Int32} {σ' : wx_St} {mc : Nat} {K12 : Int32 → Int32 → wx_St → Option (Int32 × wx_St)} (hK12 : ∀ {x2 : Int32} {x3 : Int32} {σ : wx_St} {k : Nat} (hk : k + wx_n σ'.2.2.2.2 ≤ mc + wx_n σ.2.2.2.2)  (h : K12 x2 x3 σ = some (r, σ')) {rd : Nat → Nat} {H : Heap} {locs : List Loc} (Z : wx_Z D ad rd ca A σ H) (hS : va_S A s.heap H locs) {ls : Array Slot} (hl : lv_has ls 4 [(0, .ref (ad 12 99)), (1, .ref (ad b1 99)), (2, .int x2), (3, .int x3)]), W p l e ({ frames := 4, cells := mc, slots := 6464 * mc, locals := 106 } : Room) s m args below meth c H locs k (6464 * k) (MQ below (wx_QA D ad ca A (some (.int r)) σ') args s mc (6464 * mc) A) (F0 m 12 ls [])) (mK12 : ∀ {x2 : Int32} {x3 : Int32} {σ : wx_St}, K12 x2 x3 σ = some (r, σ') → wx_n σ.2.2.2.2 ≤ wx_n σ'.2.2.2.2) {x2 : Int32} {x3 : Int32} {σ : wx_St} {k : Nat} (hk : k + wx_n σ'.2.2.2.2 ≤ mc + wx_n σ.2.2.2.2)  (h : f_X4_couldBeOneOfTwo_51 b1 K12 x2 x3 σ = some (r, σ')) {rd : Nat → Nat} {H : Heap} {locs : List Loc} (Z : wx_Z D ad rd ca A σ H) (hS : va_S A s.heap H locs) {ls : Array Slot} (hl : lv_has ls 4 [(0, .ref (ad 12 99)), (1, .ref (ad b1 99)), (2, .int x2), (3, .int x3)]) : W p l e ({ frames := 4, cells := mc, slots := 6464 * mc, locals := 106 } : Room) s m args below meth c H locs k (6464 * k) (MQ below (wx_QA D ad ca A (some (.int r)) σ') args s mc (6464 * mc) A) (F0 m 51 ls []) := by
  obtain ⟨hx, hb, hml, hr, hts, hown, hlk, hC, hA⟩ := id B
  have hm := m_X4_couldBeOneOfTwo_51 (K12 := K12) @mK12 h
  unfold f_X4_couldBeOneOfTwo_51 at h
  refine lv_iinc (v := x3 + 1) (lv' := [(3, .int (x3 + 1)), (0, .ref (ad 12 99)), (1, .ref (ad b1 99)), (2, .int x2)]) hx hb dX4_couldBeOneOfTwo_51 hl (k := 3) rfl rfl (by decide) rfl (fun ls hl => ?_)
  refine lv_goto (tgt := 12) hx hb dX4_couldBeOneOfTwo_54 (by decide) ?_
  exact hK12 (k := k) hk h Z hS (lv_sub hl [1, 2, 3, 0] rfl)
set_option maxRecDepth 20000 in
set_option maxHeartbeats 4000000 in
theorem m_X4_couldBeOneOfTwo_46 {b1 : Nat} {r : Int32} {σ' : wx_St} {K12 : Int32 → Int32 → wx_St → Option (Int32 × wx_St)} (mK12 : ∀ {x2 : Int32} {x3 : Int32} {σ : wx_St}, K12 x2 x3 σ = some (r, σ') → wx_n σ.2.2.2.2 ≤ wx_n σ'.2.2.2.2) {x2 : Int32} {x3 : Int32} {y0 : Int32} {σ : wx_St} (h : f_X4_couldBeOneOfTwo_46 b1 K12 x2 x3 y0 σ = some (r, σ')) : wx_n σ.2.2.2.2 ≤ wx_n σ'.2.2.2.2 := by
  unfold f_X4_couldBeOneOfTwo_46 at h
  by_cases c46 : y0 = 0
  · replace h := wx_ift c46 h
    exact m_X4_couldBeOneOfTwo_51 (K12 := K12) @mK12 h
  · replace h := wx_iff c46 h
    obtain ⟨rfl, rfl⟩ := wx_ret_ok h
    exact Nat.le_refl _
set_option maxRecDepth 20000 in
set_option maxHeartbeats 4000000 in
theorem b_X4_couldBeOneOfTwo_46 (B : wx_B p s m args meth c cX4_couldBeOneOfTwo 4 (some .boolean) wsX4_couldBeOneOfTwo RX4 D ad ca A) {b1 : Nat}  (hb1 : b1 < 11) {r : Int32} {σ' : wx_St} {mc : Nat} {K12 : Int32 → Int32 → wx_St → Option (Int32 × wx_St)} (hK12 : ∀ {x2 : Int32} {x3 : Int32} {σ : wx_St} {k : Nat} (hk : k + wx_n σ'.2.2.2.2 ≤ mc + wx_n σ.2.2.2.2)  (h : K12 x2 x3 σ = some (r, σ')) {rd : Nat → Nat} {H : Heap} {locs : List Loc} (Z : wx_Z D ad rd ca A σ H) (hS : va_S A s.heap H locs) {ls : Array Slot} (hl : lv_has ls 4 [(0, .ref (ad 12 99)), (1, .ref (ad b1 99)), (2, .int x2), (3, .int x3)]), W p l e ({ frames := 4, cells := mc, slots := 6464 * mc, locals := 106 } : Room) s m args below meth c H locs k (6464 * k) (MQ below (wx_QA D ad ca A (some (.int r)) σ') args s mc (6464 * mc) A) (F0 m 12 ls [])) (mK12 : ∀ {x2 : Int32} {x3 : Int32} {σ : wx_St}, K12 x2 x3 σ = some (r, σ') → wx_n σ.2.2.2.2 ≤ wx_n σ'.2.2.2.2) {x2 : Int32} {x3 : Int32} {y0 : Int32} {σ : wx_St} {k : Nat} (hk : k + wx_n σ'.2.2.2.2 ≤ mc + wx_n σ.2.2.2.2)  (h : f_X4_couldBeOneOfTwo_46 b1 K12 x2 x3 y0 σ = some (r, σ')) {rd : Nat → Nat} {H : Heap} {locs : List Loc} (Z : wx_Z D ad rd ca A σ H) (hS : va_S A s.heap H locs) {ls : Array Slot} (hl : lv_has ls 4 [(0, .ref (ad 12 99)), (1, .ref (ad b1 99)), (2, .int x2), (3, .int x3)]) : W p l e ({ frames := 4, cells := mc, slots := 6464 * mc, locals := 106 } : Room) s m args below meth c H locs k (6464 * k) (MQ below (wx_QA D ad ca A (some (.int r)) σ') args s mc (6464 * mc) A) (F0 m 46 ls [.int y0]) := by
  obtain ⟨hx, hb, hml, hr, hts, hown, hlk, hC, hA⟩ := id B
  have hm := m_X4_couldBeOneOfTwo_46 (K12 := K12) @mK12 h
  unfold f_X4_couldBeOneOfTwo_46 at h
  refine lv_if_eq (tgt := 51) hx hb dX4_couldBeOneOfTwo_46 (by decide) (fun c46 => ?_) (fun c46 => ?_)
  · replace h := wx_ift c46 h
    exact b_X4_couldBeOneOfTwo_51 B hb1 (K12 := K12) @hK12 @mK12 (k := k) hk h Z hS (lv_sub hl [0, 1, 2, 3] rfl)
  · replace h := wx_iff c46 h
    refine lv_iconst (v := 1) hx hb dX4_couldBeOneOfTwo_49 (by decide) ?_
    obtain ⟨rfl, rfl⟩ := wx_ret_ok h
    refine W.widen (k := mc) (n := 6464 * mc) (by omega) (by omega) ?_
    exact W.zret hx hb hr rfl (fun t ht hW => ⟨rfl, ⟨_, by rw [ht]; exact Z⟩, hS.F ht⟩) hS.2.2 dX4_couldBeOneOfTwo_50
set_option maxRecDepth 20000 in
set_option maxHeartbeats 4000000 in
theorem m_X4_couldBeOneOfTwo_12 {b1 : Nat} {r : Int32} {σ' : wx_St}  :
    ∀ {n : Nat} {x2 : Int32} {x3 : Int32} {σ : wx_St} (h : f_X4_couldBeOneOfTwo_12 b1 n x2 x3 σ = some (r, σ')), wx_n σ.2.2.2.2 ≤ wx_n σ'.2.2.2.2 := by
  intro n
  induction n with
  | zero => intro x2 x3 σ h; exact wx_no h
  | succ n ih =>
    intro x2 x3 σ h
    rw [f_X4_couldBeOneOfTwo_12] at h
    by_cases c15 : 64 ≤ x3
    · replace h := wx_ift c15 h
      obtain ⟨rfl, rfl⟩ := wx_ret_ok h
      exact Nat.le_refl _
    · replace h := wx_iff c15 h
      by_cases c20 : x3 = x2
      · replace h := wx_ift c20 h
        exact m_X4_couldBeOneOfTwo_51 (K12 := (f_X4_couldBeOneOfTwo_12 b1 n)) @ih h
      · replace h := wx_iff c20 h
        obtain ⟨v25, hc25, h⟩ := wx_o_ok h
        by_cases c28 : v25 = 0
        · replace h := wx_ift c28 h
          exact m_X4_couldBeOneOfTwo_51 (K12 := (f_X4_couldBeOneOfTwo_12 b1 n)) @ih h
        · replace h := wx_iff c28 h
          obtain ⟨v43, σ43, hc43, h⟩ := wx_b_ok h
          refine Nat.le_trans (m_X4_fits_0 hc43) ?_
          exact m_X4_couldBeOneOfTwo_46 (K12 := (f_X4_couldBeOneOfTwo_12 b1 n)) @ih h
set_option maxRecDepth 20000 in
set_option maxHeartbeats 4000000 in
theorem b_X4_couldBeOneOfTwo_12 (B : wx_B p s m args meth c cX4_couldBeOneOfTwo 4 (some .boolean) wsX4_couldBeOneOfTwo RX4 D ad ca A) {b1 : Nat}  (hb1 : b1 < 11) {r : Int32} {σ' : wx_St} {mc : Nat}   :
    ∀ {n : Nat} {x2 : Int32} {x3 : Int32} {σ : wx_St} {k : Nat} (hk : k + wx_n σ'.2.2.2.2 ≤ mc + wx_n σ.2.2.2.2)  (h : f_X4_couldBeOneOfTwo_12 b1 n x2 x3 σ = some (r, σ')) {rd : Nat → Nat} {H : Heap} {locs : List Loc} (Z : wx_Z D ad rd ca A σ H) (hS : va_S A s.heap H locs) {ls : Array Slot} (hl : lv_has ls 4 [(0, .ref (ad 12 99)), (1, .ref (ad b1 99)), (2, .int x2), (3, .int x3)]), W p l e ({ frames := 4, cells := mc, slots := 6464 * mc, locals := 106 } : Room) s m args below meth c H locs k (6464 * k) (MQ below (wx_QA D ad ca A (some (.int r)) σ') args s mc (6464 * mc) A) (F0 m 12 ls []) := by
  obtain ⟨hx, hb, hml, hr, hts, hown, hlk, hC, hA⟩ := id B
  intro n
  induction n with
  | zero => intro x2 x3 σ k hk  h rd H locs Z hS ls hl; exact wx_no h
  | succ n ih =>
    intro x2 x3 σ k hk  h rd H locs Z hS ls hl
    have hm := m_X4_couldBeOneOfTwo_12 h
    have mih : ∀ {x2 : Int32} {x3 : Int32} {σ : wx_St}, f_X4_couldBeOneOfTwo_12 b1 n x2 x3 σ = some (r, σ') → wx_n σ.2.2.2.2 ≤ wx_n σ'.2.2.2.2 := fun h => m_X4_couldBeOneOfTwo_12 h
    rw [f_X4_couldBeOneOfTwo_12] at h
    refine lv_iload_n hx hb dX4_couldBeOneOfTwo_12 rfl (lv_at hl 3 rfl) ?_
    refine lv_bipush (v := 64) hx hb dX4_couldBeOneOfTwo_13 (by decide) ?_
    refine lv_icmp_ge (tgt := 57) hx hb dX4_couldBeOneOfTwo_15 (by decide) (fun c15 => ?_) (fun c15 => ?_)
    · replace h := wx_ift c15 h
      refine lv_iconst (v := 0) hx hb dX4_couldBeOneOfTwo_57 (by decide) ?_
      obtain ⟨rfl, rfl⟩ := wx_ret_ok h
      refine W.widen (k := mc) (n := 6464 * mc) (by omega) (by omega) ?_
      exact W.zret hx hb hr rfl (fun t ht hW => ⟨rfl, ⟨_, by rw [ht]; exact Z⟩, hS.F ht⟩) hS.2.2 dX4_couldBeOneOfTwo_58
    · replace h := wx_iff c15 h
      refine lv_iload_n hx hb dX4_couldBeOneOfTwo_18 rfl (lv_at hl 3 rfl) ?_
      refine lv_iload_n hx hb dX4_couldBeOneOfTwo_19 rfl (lv_at hl 2 rfl) ?_
      refine lv_icmp_eq (tgt := 51) hx hb dX4_couldBeOneOfTwo_20 (by decide) (fun c20 => ?_) (fun c20 => ?_)
      · replace h := wx_ift c20 h
        exact b_X4_couldBeOneOfTwo_51 B hb1 (K12 := (f_X4_couldBeOneOfTwo_12 b1 n)) @ih mih (k := k) hk h Z hS (lv_sub hl [0, 1, 2, 3] rfl)
      · replace h := wx_iff c20 h
        refine lv_aload_n hx hb dX4_couldBeOneOfTwo_23 rfl (lv_at hl 1 rfl) ?_
        refine lv_iload_n hx hb dX4_couldBeOneOfTwo_24 rfl (lv_at hl 3 rfl) ?_
        obtain ⟨v25, hc25, h⟩ := wx_o_ok h
        refine wx_call (va_runVN (As := [.int x3]) (rest := []) ⟨hx, hb, hml, hown, hts⟩ (c_X0_isSuspect l (D := D) (ad := ad) (rd := rd) (ca := ca) (A := A) (σ := σ) (o := b1) hb1 hc25) ⟨va_cnB 1 hts gX4_couldBeOneOfTwo_X0_isSuspect_n22 rfl rfl rfl (hC.1.2.1 _ (List.mem_of_getElem? (i := 48) rfl)) (hts _ k_X4_couldBeOneOfTwo_w0) (by decide +kernel) ⟨Nat.le_of_ble_eq_true rfl, Nat.le_of_ble_eq_true rfl⟩, hts _ k_X4_couldBeOneOfTwo_w1, hts _ k_X4_couldBeOneOfTwo_w2⟩ (wx_preV hC Z hS hA (wx_sbo hb1 99) (rfl : vwCl[0]? = some (RX0, TX0, 13))) rfl rfl hl.1 rfl (lv_room (Nat.le_of_ble_eq_true rfl)) dX4_couldBeOneOfTwo_25 ⟨(by show k + 0 ≤ mc; omega), (by show 6464 * k + 0 ≤ 6464 * mc; omega)⟩) hS (fun H locs Z hS => ?_)
        refine lv_if_eq (tgt := 51) hx hb dX4_couldBeOneOfTwo_28 (by decide) (fun c28 => ?_) (fun c28 => ?_)
        · replace h := wx_ift c28 h
          exact b_X4_couldBeOneOfTwo_51 B hb1 (K12 := (f_X4_couldBeOneOfTwo_12 b1 n)) @ih mih (k := k) hk h Z hS (lv_sub hl [0, 1, 2, 3] rfl)
        · replace h := wx_iff c28 h
          refine lv_aload_n hx hb dX4_couldBeOneOfTwo_31 rfl (lv_at hl 0 rfl) ?_
          refine lv_aload_n hx hb dX4_couldBeOneOfTwo_32 rfl (lv_at hl 1 rfl) ?_
          refine lv_iload_n hx hb dX4_couldBeOneOfTwo_33 rfl (lv_at hl 2 rfl) ?_
          refine lv_iload_n hx hb dX4_couldBeOneOfTwo_34 rfl (lv_at hl 3 rfl) ?_
          refine va_mmin (own := RX4) hx hb (hml.trans hl.1.symm) hown (hts _ k_X4_couldBeOneOfTwo_w3) (hts _ k_X4_couldBeOneOfTwo_w4) (hts _ k_X4_couldBeOneOfTwo_w5) (hts _ k_X4_couldBeOneOfTwo_w6) (Nat.le_of_ble_eq_true rfl) (Nat.le_of_ble_eq_true rfl) (by show k ≤ mc; omega) (by show 6464 * k ≤ 6464 * mc; omega) dX4_couldBeOneOfTwo_35 ?_
          refine lv_iload_n hx hb dX4_couldBeOneOfTwo_38 rfl (lv_at hl 2 rfl) ?_
          refine lv_iload_n hx hb dX4_couldBeOneOfTwo_39 rfl (lv_at hl 3 rfl) ?_
          refine va_mmax (own := RX4) hx hb (hml.trans hl.1.symm) hown (hts _ k_X4_couldBeOneOfTwo_w7) (hts _ k_X4_couldBeOneOfTwo_w8) (hts _ k_X4_couldBeOneOfTwo_w5) (hts _ k_X4_couldBeOneOfTwo_w9) (Nat.le_of_ble_eq_true rfl) (Nat.le_of_ble_eq_true rfl) (by show k ≤ mc; omega) (by show 6464 * k ≤ 6464 * mc; omega) dX4_couldBeOneOfTwo_40 ?_
          obtain ⟨v43, σ43, hc43, h⟩ := wx_b_ok h
          have m1 := m_X4_fits_0 hc43
          have m2 := m_X4_couldBeOneOfTwo_46 (K12 := (f_X4_couldBeOneOfTwo_12 b1 n)) mih h
          refine wx_callA (va_runV (As := [.ref (ad b1 99), .int (if x3 < x2 then x3 else x2), .int (if x2 < x3 then x3 else x2)]) (rest := []) ⟨hx, hb, hml, hown, hts⟩ (c_X4_fits l (D := D) (ad := ad) (rd := rd) (ca := ca) (A := A) (σ := σ) (b1 := b1) hb1 hc43) (cwV 3 hts gX4_couldBeOneOfTwo_X4_fits rfl rfl rfl (by decide +kernel) ⟨Nat.le_of_ble_eq_true rfl, Nat.le_of_ble_eq_true rfl⟩) (wx_preV hC Z hS hA rfl (rfl : vwCl[4]? = some (RX4, TX4, 2))) rfl rfl hl.1 rfl (lv_room (Nat.le_of_ble_eq_true rfl)) dX4_couldBeOneOfTwo_43 ⟨(by show k + (wx_n σ43.2.2.2.2 - wx_n σ.2.2.2.2) ≤ mc; omega), (by show 6464 * k + 6464 * (wx_n σ43.2.2.2.2 - wx_n σ.2.2.2.2) ≤ 6464 * mc; omega)⟩) hS (fun rd H locs Z hS => ?_)
          refine W.widen (k := k + (wx_n σ43.2.2.2.2 - wx_n σ.2.2.2.2)) (n := 6464 * (k + (wx_n σ43.2.2.2.2 - wx_n σ.2.2.2.2))) (Nat.le_refl _) (by omega) ?_
          exact b_X4_couldBeOneOfTwo_46 B hb1 (K12 := (f_X4_couldBeOneOfTwo_12 b1 n)) @ih mih (k := k + (wx_n σ43.2.2.2.2 - wx_n σ.2.2.2.2)) (by omega) h Z hS (lv_sub hl [0, 1, 2, 3] rfl)
set_option maxRecDepth 20000 in
set_option maxHeartbeats 4000000 in
theorem m_X4_couldBeOneOfTwo_0 {b1 : Nat} {r : Int32} {σ' : wx_St}  {x2 : Int32} {σ : wx_St} (h : f_X4_couldBeOneOfTwo b1 x2 σ = some (r, σ')) : wx_n σ.2.2.2.2 ≤ wx_n σ'.2.2.2.2 := by
  unfold f_X4_couldBeOneOfTwo at h
  obtain ⟨v2, hc2, h⟩ := wx_o_ok h
  by_cases c5 : v2 = 0
  · replace h := wx_ift c5 h
    obtain ⟨rfl, rfl⟩ := wx_ret_ok h
    exact Nat.le_refl _
  · replace h := wx_iff c5 h
    exact m_X4_couldBeOneOfTwo_12 h
set_option maxRecDepth 20000 in
set_option maxHeartbeats 4000000 in
theorem b_X4_couldBeOneOfTwo_0 (B : wx_B p s m args meth c cX4_couldBeOneOfTwo 4 (some .boolean) wsX4_couldBeOneOfTwo RX4 D ad ca A) {b1 : Nat}  (hb1 : b1 < 11) {r : Int32} {σ' : wx_St} {mc : Nat}  {x2 : Int32} {σ : wx_St} {k : Nat} (hk : k + wx_n σ'.2.2.2.2 ≤ mc + wx_n σ.2.2.2.2)  (h : f_X4_couldBeOneOfTwo b1 x2 σ = some (r, σ')) {rd : Nat → Nat} {H : Heap} {locs : List Loc} (Z : wx_Z D ad rd ca A σ H) (hS : va_S A s.heap H locs) {ls : Array Slot} (hl : lv_has ls 4 [(0, .ref (ad 12 99)), (1, .ref (ad b1 99)), (2, .int x2)]) : W p l e ({ frames := 4, cells := mc, slots := 6464 * mc, locals := 106 } : Room) s m args below meth c H locs k (6464 * k) (MQ below (wx_QA D ad ca A (some (.int r)) σ') args s mc (6464 * mc) A) (F0 m 0 ls []) := by
  obtain ⟨hx, hb, hml, hr, hts, hown, hlk, hC, hA⟩ := id B
  have hm := m_X4_couldBeOneOfTwo_0 h
  unfold f_X4_couldBeOneOfTwo at h
  refine lv_aload_n hx hb dX4_couldBeOneOfTwo_0 rfl (lv_at hl 1 rfl) ?_
  refine lv_iload_n hx hb dX4_couldBeOneOfTwo_1 rfl (lv_at hl 2 rfl) ?_
  obtain ⟨v2, hc2, h⟩ := wx_o_ok h
  refine wx_call (va_runVN (As := [.int x2]) (rest := []) ⟨hx, hb, hml, hown, hts⟩ (c_X0_isSuspect l (D := D) (ad := ad) (rd := rd) (ca := ca) (A := A) (σ := σ) (o := b1) hb1 hc2) ⟨va_cnB 1 hts gX4_couldBeOneOfTwo_X0_isSuspect_n22 rfl rfl rfl (hC.1.2.1 _ (List.mem_of_getElem? (i := 48) rfl)) (hts _ k_X4_couldBeOneOfTwo_w0) (by decide +kernel) ⟨Nat.le_of_ble_eq_true rfl, Nat.le_of_ble_eq_true rfl⟩, hts _ k_X4_couldBeOneOfTwo_w1, hts _ k_X4_couldBeOneOfTwo_w2⟩ (wx_preV hC Z hS hA (wx_sbo hb1 99) (rfl : vwCl[0]? = some (RX0, TX0, 13))) rfl rfl hl.1 rfl (lv_room (Nat.le_of_ble_eq_true rfl)) dX4_couldBeOneOfTwo_2 ⟨(by show k + 0 ≤ mc; omega), (by show 6464 * k + 0 ≤ 6464 * mc; omega)⟩) hS (fun H locs Z hS => ?_)
  refine lv_if_ne (tgt := 10) hx hb dX4_couldBeOneOfTwo_5 (by decide) (fun c5 => ?_) (fun c5 => ?_)
  · replace h := wx_iff c5 h
    refine lv_iconst (v := 0) hx hb dX4_couldBeOneOfTwo_10 (by decide) ?_
    refine lv_istore_n (lv' := [(3, .int 0), (0, .ref (ad 12 99)), (1, .ref (ad b1 99)), (2, .int x2)]) hx hb dX4_couldBeOneOfTwo_11 rfl hl (by decide) rfl (fun ls hl => ?_)
    exact b_X4_couldBeOneOfTwo_12 B hb1 (k := k) hk h Z hS (lv_sub hl [1, 2, 3, 0] rfl)
  · replace h := wx_ift c5 h
    refine lv_iconst (v := 0) hx hb dX4_couldBeOneOfTwo_8 (by decide) ?_
    obtain ⟨rfl, rfl⟩ := wx_ret_ok h
    refine W.widen (k := mc) (n := 6464 * mc) (by omega) (by omega) ?_
    exact W.zret hx hb hr rfl (fun t ht hW => ⟨rfl, ⟨_, by rw [ht]; exact Z⟩, hS.F ht⟩) hS.2.2 dX4_couldBeOneOfTwo_9
set_option maxRecDepth 20000 in
theorem c_X4_couldBeOneOfTwo (l : Launch) {D : va_G} {ad : Nat → Nat → Nat} {rd : Nat → Nat} {ca : Nat → ClassId} {A : Nat → Prop} {σ : wx_St} {b1 : Nat}  (hb1 : b1 < 11) {x2 : Int32} {r : Int32} {σ' : wx_St} (h : f_X4_couldBeOneOfTwo b1 x2 σ = some (r, σ')) : wx_MA l yX4_couldBeOneOfTwo wsX4_couldBeOneOfTwo 4 106 D ad rd ca A [.ref (ad 12 99), .ref (ad b1 99), .int x2] σ (some (.int r)) σ' := by
  refine Met.ofW (cc := cX4_couldBeOneOfTwo) (maxL := 4) (ret := (some .boolean)) (by decide +kernel) rfl ?_
  intro p e s m args below meth c s₁ B0 hml hv
  obtain ⟨rfl, hC, Z, hA⟩ := hv
  have hl := lv_entry ([.ref (ad 12 99), .ref (ad b1 99), .int x2]) (n := 4) (Nat.le_of_ble_eq_true rfl)
  rw [lg_entry_eq]
  generalize (lg_sl ([.ref (ad 12 99), .ref (ad b1 99), .int x2]) ++ List.replicate (4 - (lg_sl ([.ref (ad 12 99), .ref (ad b1 99), .int x2])).length) Slot.unset).toArray = ls at hl ⊢
  exact b_X4_couldBeOneOfTwo_0 ⟨B0.exec, B0.bytes, hml, B0.returns, atoms_spec (ws := wsX4_couldBeOneOfTwo) B0.pre, findClass_of_methodNamed B0.named, B0.notSynchronized, hC, hA⟩ hb1 (k := 0) (by have hm := m_X4_couldBeOneOfTwo_0 h; omega) h Z va_S.rf hl
theorem k_X5_bitsOfFloat_w0 : Cond.constantFloat RX5 264 (1258291200) ∈ wsX5_bitsOfFloat := by decide +kernel
theorem k_X5_bitsOfFloat_w1 : Cond.constant RX5 265 (8388608) ∈ wsX5_bitsOfFloat := by decide +kernel
set_option maxRecDepth 20000 in
set_option maxHeartbeats 4000000 in
theorem b_X5_bitsOfFloat_53 (B : wx_B p s m args meth c cX5_bitsOfFloat 4 (some .int) wsX5_bitsOfFloat RX5 D ad ca A)    {r : Int32} {σ : wx_St}  {x0 : UInt32} {x1 : UInt32} {x2 : Int32} {x3 : Int32} {y0 : Int32}   (h : f_X5_bitsOfFloat_53 x0 x1 x2 x3 y0 = some r) {H : Heap} {locs : List Loc} (Z : wx_Z D ad rd ca A σ H) (hS : va_S A s.heap H locs) {ls : Array Slot} (hl : lv_has ls 4 [(0, .float x0), (1, .float x1), (2, .int x2), (3, .int x3)]) : W p l e ({ frames := 0, cells := 0, slots := 0, locals := 0 } : Room) s m args below meth c H locs 0 0 (MQ below (wx_Q D ad rd ca A (some (.int r)) σ) args s 0 0 A) (F0 m 53 ls [.int y0]) := by
  obtain ⟨hx, hb, hml, hr, hts, hown, hlk, hC, hA⟩ := id B
  unfold f_X5_bitsOfFloat_53 at h
  obtain rfl := Option.some.inj h
  exact W.iret hx hb hr (fun t ht hW => ⟨rfl, by rw [ht]; exact Z, hS.F ht⟩) hS.2.2 dX5_bitsOfFloat_53
set_option maxRecDepth 20000 in
set_option maxHeartbeats 4000000 in
theorem b_X5_bitsOfFloat_29 (B : wx_B p s m args meth c cX5_bitsOfFloat 4 (some .int) wsX5_bitsOfFloat RX5 D ad ca A)    {r : Int32} {σ : wx_St}  {x0 : UInt32} {x1 : UInt32} {x2 : Int32}   (h : f_X5_bitsOfFloat_29 x0 x1 x2 = some r) {H : Heap} {locs : List Loc} (Z : wx_Z D ad rd ca A σ H) (hS : va_S A s.heap H locs) {ls : Array Slot} (hl : lv_has ls 4 [(0, .float x0), (1, .float x1), (2, .int x2)]) : W p l e ({ frames := 0, cells := 0, slots := 0, locals := 0 } : Room) s m args below meth c H locs 0 0 (MQ below (wx_Q D ad rd ca A (some (.int r)) σ) args s 0 0 A) (F0 m 29 ls []) := by
  obtain ⟨hx, hb, hml, hr, hts, hown, hlk, hC, hA⟩ := id B
  unfold f_X5_bitsOfFloat_29 at h
  refine lv_fload_n hx hb dX5_bitsOfFloat_29 rfl (lv_at hl 1 rfl) ?_
  refine lv_f2i hx hb dX5_bitsOfFloat_30 ?_
  refine lv_istore_n (lv' := [(3, .int (FP.f2i x1)), (0, .float x0), (1, .float x1), (2, .int x2)]) hx hb dX5_bitsOfFloat_31 rfl hl (by decide) rfl (fun ls hl => ?_)
  refine lv_iload_n hx hb dX5_bitsOfFloat_32 rfl (lv_at hl 0 rfl) ?_
  refine lv_ldcw hx hb hown (hts _ k_X5_bitsOfFloat_w1) dX5_bitsOfFloat_33 ?_
  refine lv_icmp_ge (tgt := 43) hx hb dX5_bitsOfFloat_36 (by decide) (fun c36 => ?_) (fun c36 => ?_)
  · replace h := wx_ift c36 h
    refine lv_iload_n hx hb dX5_bitsOfFloat_43 rfl (lv_at hl 3 rfl) ?_
    refine lv_bipush (v := 23) hx hb dX5_bitsOfFloat_44 (by decide) ?_
    refine lv_ishl hx hb dX5_bitsOfFloat_46 ?_
    refine lv_iload_n hx hb dX5_bitsOfFloat_47 rfl (lv_at hl 0 rfl) ?_
    refine lv_ldcw hx hb hown (hts _ k_X5_bitsOfFloat_w1) dX5_bitsOfFloat_48 ?_
    refine lv_isub hx hb dX5_bitsOfFloat_51 ?_
    refine lv_iadd hx hb dX5_bitsOfFloat_52 ?_
    exact b_X5_bitsOfFloat_53 B h Z hS (lv_sub hl [1, 2, 3, 0] rfl)
  · replace h := wx_iff c36 h
    refine lv_iload_n hx hb dX5_bitsOfFloat_39 rfl (lv_at hl 0 rfl) ?_
    refine lv_goto (tgt := 53) hx hb dX5_bitsOfFloat_40 (by decide) ?_
    exact b_X5_bitsOfFloat_53 B h Z hS (lv_sub hl [1, 2, 3, 0] rfl)
set_option maxRecDepth 20000 in
set_option maxHeartbeats 4000000 in
theorem b_X5_bitsOfFloat_6 (B : wx_B p s m args meth c cX5_bitsOfFloat 4 (some .int) wsX5_bitsOfFloat RX5 D ad ca A)    {r : Int32} {σ : wx_St}   :
    ∀ {n : Nat} {x0 : UInt32} {x1 : UInt32} {x2 : Int32}   (h : f_X5_bitsOfFloat_6 n x0 x1 x2 = some r) {H : Heap} {locs : List Loc} (Z : wx_Z D ad rd ca A σ H) (hS : va_S A s.heap H locs) {ls : Array Slot} (hl : lv_has ls 4 [(0, .float x0), (1, .float x1), (2, .int x2)]), W p l e ({ frames := 0, cells := 0, slots := 0, locals := 0 } : Room) s m args below meth c H locs 0 0 (MQ below (wx_Q D ad rd ca A (some (.int r)) σ) args s 0 0 A) (F0 m 6 ls []) := by
  obtain ⟨hx, hb, hml, hr, hts, hown, hlk, hC, hA⟩ := id B
  intro n
  induction n with
  | zero => intro x0 x1 x2   h H locs Z hS ls hl; exact wx_no h
  | succ n ih =>
    intro x0 x1 x2   h H locs Z hS ls hl
    rw [f_X5_bitsOfFloat_6] at h
    refine lv_iload_n hx hb dX5_bitsOfFloat_6 rfl (lv_at hl 2 rfl) ?_
    refine lv_iconst (v := 1) hx hb dX5_bitsOfFloat_7 (by decide) ?_
    refine lv_icmp_le (tgt := 29) hx hb dX5_bitsOfFloat_8 (by decide) (fun c8 => ?_) (fun c8 => ?_)
    · replace h := wx_ift c8 h
      exact b_X5_bitsOfFloat_29 B h Z hS (lv_sub hl [0, 1, 2] rfl)
    · replace h := wx_iff c8 h
      refine lv_fload_n hx hb dX5_bitsOfFloat_11 rfl (lv_at hl 1 rfl) ?_
      refine wx_ldcwF hx hb hown (hts _ k_X5_bitsOfFloat_w0) dX5_bitsOfFloat_12 ?_
      refine lv_fcmp hx hb dX5_bitsOfFloat_15 ?_
      refine lv_if_ge (tgt := 29) hx hb dX5_bitsOfFloat_16 (by decide) (fun c16 => ?_) (fun c16 => ?_)
      · replace h := wx_ift c16 h
        exact b_X5_bitsOfFloat_29 B h Z hS (lv_sub hl [0, 1, 2] rfl)
      · replace h := wx_iff c16 h
        refine lv_fload_n hx hb dX5_bitsOfFloat_19 rfl (lv_at hl 1 rfl) ?_
        refine lv_fconst2 hx hb dX5_bitsOfFloat_20 ?_
        obtain ⟨v21, ev21, nv21, h⟩ := wx_f_ok h
        refine wx_fmul hx hb dX5_bitsOfFloat_21 ev21 nv21 ?_
        refine lv_fstore_n (lv' := [(1, .float v21), (0, .float x0), (2, .int x2)]) hx hb dX5_bitsOfFloat_22 rfl hl (by decide) rfl (fun ls hl => ?_)
        refine lv_iinc (v := x2 + (-1)) (lv' := [(2, .int (x2 + (-1))), (1, .float v21), (0, .float x0)]) hx hb dX5_bitsOfFloat_23 hl (k := 2) rfl rfl (by decide) rfl (fun ls hl => ?_)
        refine lv_goto (tgt := 6) hx hb dX5_bitsOfFloat_26 (by decide) ?_
        exact ih h Z hS (lv_sub hl [2, 1, 0] rfl)
set_option maxRecDepth 20000 in
set_option maxHeartbeats 4000000 in
theorem b_X5_bitsOfFloat_0 (B : wx_B p s m args meth c cX5_bitsOfFloat 4 (some .int) wsX5_bitsOfFloat RX5 D ad ca A)    {r : Int32} {σ : wx_St}  {x0 : UInt32}   (h : f_X5_bitsOfFloat x0 = some r) {H : Heap} {locs : List Loc} (Z : wx_Z D ad rd ca A σ H) (hS : va_S A s.heap H locs) {ls : Array Slot} (hl : lv_has ls 4 [(0, .float x0)]) : W p l e ({ frames := 0, cells := 0, slots := 0, locals := 0 } : Room) s m args below meth c H locs 0 0 (MQ below (wx_Q D ad rd ca A (some (.int r)) σ) args s 0 0 A) (F0 m 0 ls []) := by
  obtain ⟨hx, hb, hml, hr, hts, hown, hlk, hC, hA⟩ := id B
  unfold f_X5_bitsOfFloat at h
  refine lv_fload_n hx hb dX5_bitsOfFloat_0 rfl (lv_at hl 0 rfl) ?_
  refine lv_fstore_n (lv' := [(1, .float x0), (0, .float x0)]) hx hb dX5_bitsOfFloat_1 rfl hl (by decide) rfl (fun ls hl => ?_)
  refine lv_sipush (v := 150) hx hb dX5_bitsOfFloat_2 (by decide) ?_
  refine lv_istore_n (lv' := [(2, .int 150), (1, .float x0), (0, .float x0)]) hx hb dX5_bitsOfFloat_5 rfl hl (by decide) rfl (fun ls hl => ?_)
  exact b_X5_bitsOfFloat_6 B h Z hS (lv_sub hl [2, 1, 0] rfl)
set_option maxRecDepth 20000 in
theorem c_X5_bitsOfFloat (l : Launch) {D : va_G} {ad : Nat → Nat → Nat} {rd : Nat → Nat} {ca : Nat → ClassId} {A : Nat → Prop} {σ : wx_St}    {x0 : UInt32} {r : Int32} (h : f_X5_bitsOfFloat x0 = some r) : wx_M l yX5_bitsOfFloat wsX5_bitsOfFloat 0 0 D ad rd ca A [.float x0] σ (some (.int r)) σ := by
  refine Met.ofW (cc := cX5_bitsOfFloat) (maxL := 4) (ret := (some .int)) (by decide +kernel) rfl ?_
  intro p e s m args below meth c s₁ B0 hml hv
  obtain ⟨rfl, hC, Z, hA⟩ := hv
  have hl := lv_entry ([.float x0]) (n := 4) (Nat.le_of_ble_eq_true rfl)
  rw [lg_entry_eq]
  generalize (lg_sl ([.float x0]) ++ List.replicate (4 - (lg_sl ([.float x0])).length) Slot.unset).toArray = ls at hl ⊢
  exact b_X5_bitsOfFloat_0 ⟨B0.exec, B0.bytes, hml, B0.returns, atoms_spec (ws := wsX5_bitsOfFloat) B0.pre, findClass_of_methodNamed B0.named, B0.notSynchronized, hC, hA⟩   h Z va_S.rf hl
set_option maxRecDepth 20000 in
set_option maxHeartbeats 4000000 in
theorem b_X5_placeOf_30 (B : wx_B p s m args meth c cX5_placeOf 2 (some .int) wsX5_placeOf RX5 D ad ca A)    {r : Int32} {σ : wx_St}  {x0 : Int32} {x1 : Int32} {y0 : Int32}   (h : f_X5_placeOf_30 x0 x1 y0 = some r) {H : Heap} {locs : List Loc} (Z : wx_Z D ad rd ca A σ H) (hS : va_S A s.heap H locs) {ls : Array Slot} (hl : lv_has ls 2 [(0, .int x0), (1, .int x1)]) : W p l e ({ frames := 0, cells := 0, slots := 0, locals := 0 } : Room) s m args below meth c H locs 0 0 (MQ below (wx_Q D ad rd ca A (some (.int r)) σ) args s 0 0 A) (F0 m 30 ls [.int y0]) := by
  obtain ⟨hx, hb, hml, hr, hts, hown, hlk, hC, hA⟩ := id B
  unfold f_X5_placeOf_30 at h
  obtain rfl := Option.some.inj h
  exact W.iret hx hb hr (fun t ht hW => ⟨rfl, by rw [ht]; exact Z, hS.F ht⟩) hS.2.2 dX5_placeOf_30
set_option maxRecDepth 20000 in
set_option maxHeartbeats 4000000 in
theorem b_X5_placeOf_20 (B : wx_B p s m args meth c cX5_placeOf 2 (some .int) wsX5_placeOf RX5 D ad ca A)    {r : Int32} {σ : wx_St}  {x0 : Int32} {x1 : Int32}   (h : f_X5_placeOf_20 x0 x1 = some r) {H : Heap} {locs : List Loc} (Z : wx_Z D ad rd ca A σ H) (hS : va_S A s.heap H locs) {ls : Array Slot} (hl : lv_has ls 2 [(0, .int x0), (1, .int x1)]) : W p l e ({ frames := 0, cells := 0, slots := 0, locals := 0 } : Room) s m args below meth c H locs 0 0 (MQ below (wx_Q D ad rd ca A (some (.int r)) σ) args s 0 0 A) (F0 m 20 ls []) := by
  obtain ⟨hx, hb, hml, hr, hts, hown, hlk, hC, hA⟩ := id B
  unfold f_X5_placeOf_20 at h
  refine lv_iconst (v := (-1)) hx hb dX5_placeOf_20 (by decide) ?_
  refine lv_goto (tgt := 30) hx hb dX5_placeOf_21 (by decide) ?_
  exact b_X5_placeOf_30 B h Z hS (lv_sub hl [0, 1] rfl)
set_option maxRecDepth 20000 in
set_option maxHeartbeats 4000000 in
theorem b_X5_placeOf_0 (B : wx_B p s m args meth c cX5_placeOf 2 (some .int) wsX5_placeOf RX5 D ad ca A)    {r : Int32} {σ : wx_St}  {x0 : Int32} {x1 : Int32}   (h : f_X5_placeOf x0 x1 = some r) {H : Heap} {locs : List Loc} (Z : wx_Z D ad rd ca A σ H) (hS : va_S A s.heap H locs) {ls : Array Slot} (hl : lv_has ls 2 [(0, .int x0), (1, .int x1)]) : W p l e ({ frames := 0, cells := 0, slots := 0, locals := 0 } : Room) s m args below meth c H locs 0 0 (MQ below (wx_Q D ad rd ca A (some (.int r)) σ) args s 0 0 A) (F0 m 0 ls []) := by
  obtain ⟨hx, hb, hml, hr, hts, hown, hlk, hC, hA⟩ := id B
  unfold f_X5_placeOf at h
  refine lv_iload_n hx hb dX5_placeOf_0 rfl (lv_at hl 0 rfl) ?_
  refine lv_if_lt (tgt := 20) hx hb dX5_placeOf_1 (by decide) (fun c1 => ?_) (fun c1 => ?_)
  · replace h := wx_ift c1 h
    exact b_X5_placeOf_20 B h Z hS (lv_sub hl [0, 1] rfl)
  · replace h := wx_iff c1 h
    refine lv_iload_n hx hb dX5_placeOf_4 rfl (lv_at hl 0 rfl) ?_
    refine lv_bipush (v := 8) hx hb dX5_placeOf_5 (by decide) ?_
    refine lv_icmp_ge (tgt := 20) hx hb dX5_placeOf_7 (by decide) (fun c7 => ?_) (fun c7 => ?_)
    · replace h := wx_ift c7 h
      exact b_X5_placeOf_20 B h Z hS (lv_sub hl [0, 1] rfl)
    · replace h := wx_iff c7 h
      refine lv_iload_n hx hb dX5_placeOf_10 rfl (lv_at hl 1 rfl) ?_
      refine lv_if_lt (tgt := 20) hx hb dX5_placeOf_11 (by decide) (fun c11 => ?_) (fun c11 => ?_)
      · replace h := wx_ift c11 h
        exact b_X5_placeOf_20 B h Z hS (lv_sub hl [0, 1] rfl)
      · replace h := wx_iff c11 h
        refine lv_iload_n hx hb dX5_placeOf_14 rfl (lv_at hl 1 rfl) ?_
        refine lv_bipush (v := 8) hx hb dX5_placeOf_15 (by decide) ?_
        refine lv_icmp_lt (tgt := 24) hx hb dX5_placeOf_17 (by decide) (fun c17 => ?_) (fun c17 => ?_)
        · replace h := wx_ift c17 h
          refine lv_bipush (v := 8) hx hb dX5_placeOf_24 (by decide) ?_
          refine lv_iload_n hx hb dX5_placeOf_26 rfl (lv_at hl 0 rfl) ?_
          refine lv_imul hx hb dX5_placeOf_27 ?_
          refine lv_iload_n hx hb dX5_placeOf_28 rfl (lv_at hl 1 rfl) ?_
          refine lv_iadd hx hb dX5_placeOf_29 ?_
          exact b_X5_placeOf_30 B h Z hS (lv_sub hl [0, 1] rfl)
        · replace h := wx_iff c17 h
          exact b_X5_placeOf_20 B h Z hS (lv_sub hl [0, 1] rfl)
set_option maxRecDepth 20000 in
theorem c_X5_placeOf (l : Launch) {D : va_G} {ad : Nat → Nat → Nat} {rd : Nat → Nat} {ca : Nat → ClassId} {A : Nat → Prop} {σ : wx_St}    {x0 : Int32} {x1 : Int32} {r : Int32} (h : f_X5_placeOf x0 x1 = some r) : wx_M l yX5_placeOf wsX5_placeOf 0 0 D ad rd ca A [.int x0, .int x1] σ (some (.int r)) σ := by
  refine Met.ofW (cc := cX5_placeOf) (maxL := 2) (ret := (some .int)) (by decide +kernel) rfl ?_
  intro p e s m args below meth c s₁ B0 hml hv
  obtain ⟨rfl, hC, Z, hA⟩ := hv
  have hl := lv_entry ([.int x0, .int x1]) (n := 2) (Nat.le_of_ble_eq_true rfl)
  rw [lg_entry_eq]
  generalize (lg_sl ([.int x0, .int x1]) ++ List.replicate (2 - (lg_sl ([.int x0, .int x1])).length) Slot.unset).toArray = ls at hl ⊢
  exact b_X5_placeOf_0 ⟨B0.exec, B0.bytes, hml, B0.returns, atoms_spec (ws := wsX5_placeOf) B0.pre, findClass_of_methodNamed B0.named, B0.notSynchronized, hC, hA⟩   h Z va_S.rf hl
theorem i_X5_at_0 : ∀ w ∈ wsX00, w ∈ wsX5_at := by decide +kernel
theorem i_X5_at_5 : ∀ w ∈ wsX50, w ∈ wsX5_at := by decide +kernel
theorem k_X5_at_w0 : Cond.fieldLink RX5 10 "WarmProbes" "board" "LWarmProbes$Board;" ∈ wsX5_at := by decide +kernel
theorem k_X5_at_w1 : Cond.initialized RX0 ∈ wsX5_at := by decide +kernel
theorem k_X5_at_w2 : Cond.instanceMethod yX0_isSuspect ∈ wsX5_at := by decide +kernel
theorem k_X5_at_w3 : Cond.selects RX0 yX0_isSuspect yX0_isSuspect ∈ wsX5_at := by decide +kernel
theorem k_X5_at_w4 : Cond.fieldLink RX5 22 "WarmProbes" "suspicion" "LWarmProbes$Suspicion;" ∈ wsX5_at := by decide +kernel
theorem k_X5_at_w5 : Cond.initialized RX4 ∈ wsX5_at := by decide +kernel
theorem k_X5_at_w6 : Cond.instanceMethod yX4_couldBe ∈ wsX5_at := by decide +kernel
theorem k_X5_at_w7 : Cond.selects RX4 yX4_couldBe yX4_couldBe ∈ wsX5_at := by decide +kernel
theorem k_X5_at_w8 : Cond.instanceMethod yX4_couldBeOneOfTwo ∈ wsX5_at := by decide +kernel
theorem k_X5_at_w9 : Cond.selects RX4 yX4_couldBeOneOfTwo yX4_couldBeOneOfTwo ∈ wsX5_at := by decide +kernel
theorem k_X5_at_w10 : Cond.instanceMethod yX0_touchAt ∈ wsX5_at := by decide +kernel
theorem k_X5_at_w11 : Cond.selects RX0 yX0_touchAt yX0_touchAt ∈ wsX5_at := by decide +kernel
set_option maxRecDepth 20000 in
set_option maxHeartbeats 4000000 in
theorem m_X5_at_112  {r : Int32} {σ' : wx_St}  {x1 : Int32} {x2 : Int32} {x3 : Int32} {x4 : Int32} {y0 : Int32} {σ : wx_St} (h : f_X5_at_112 x1 x2 x3 x4 y0 σ = some (r, σ')) : wx_n σ.2.2.2.2 ≤ wx_n σ'.2.2.2.2 := by
  unfold f_X5_at_112 at h
  obtain ⟨rfl, rfl⟩ := wx_ret_ok h
  exact Nat.le_refl _
set_option maxRecDepth 20000 in
set_option maxHeartbeats 4000000 in
theorem b_X5_at_112 (B : wx_B p s m args meth c cX5_at 5 (some .int) wsX5_at RX5 D ad ca A)    {r : Int32} {σ' : wx_St} {mc : Nat}  {x1 : Int32} {x2 : Int32} {x3 : Int32} {x4 : Int32} {y0 : Int32} {σ : wx_St} {k : Nat} (hk : k + wx_n σ'.2.2.2.2 ≤ mc + wx_n σ.2.2.2.2)  (h : f_X5_at_112 x1 x2 x3 x4 y0 σ = some (r, σ')) {rd : Nat → Nat} {H : Heap} {locs : List Loc} (Z : wx_Z D ad rd ca A σ H) (hS : va_S A s.heap H locs) {ls : Array Slot} (hl : lv_has ls 5 [(0, .ref (ad 11 99)), (1, .int x1), (2, .int x2), (3, .int x3), (4, .int x4)]) : W p l e ({ frames := 5, cells := mc, slots := 6464 * mc, locals := 129 } : Room) s m args below meth c H locs k (6464 * k) (MQ below (wx_QA D ad ca A (some (.int r)) σ') args s mc (6464 * mc) A) (F0 m 112 ls [.int y0]) := by
  obtain ⟨hx, hb, hml, hr, hts, hown, hlk, hC, hA⟩ := id B
  have hm := m_X5_at_112 h
  unfold f_X5_at_112 at h
  obtain ⟨rfl, rfl⟩ := wx_ret_ok h
  refine W.widen (k := mc) (n := 6464 * mc) (by omega) (by omega) ?_
  exact W.iret hx hb hr (fun t ht hW => ⟨rfl, ⟨_, by rw [ht]; exact Z⟩, hS.F ht⟩) hS.2.2 dX5_at_112
set_option maxRecDepth 20000 in
set_option maxHeartbeats 4000000 in
theorem m_X5_at_134  {r : Int32} {σ' : wx_St}  {x1 : Int32} {x2 : Int32} {x3 : Int32} {x4 : Int32} {y0 : Int32} {σ : wx_St} (h : f_X5_at_134 x1 x2 x3 x4 y0 σ = some (r, σ')) : wx_n σ.2.2.2.2 ≤ wx_n σ'.2.2.2.2 := by
  unfold f_X5_at_134 at h
  obtain ⟨rfl, rfl⟩ := wx_ret_ok h
  exact Nat.le_refl _
set_option maxRecDepth 20000 in
set_option maxHeartbeats 4000000 in
theorem b_X5_at_134 (B : wx_B p s m args meth c cX5_at 5 (some .int) wsX5_at RX5 D ad ca A)    {r : Int32} {σ' : wx_St} {mc : Nat}  {x1 : Int32} {x2 : Int32} {x3 : Int32} {x4 : Int32} {y0 : Int32} {σ : wx_St} {k : Nat} (hk : k + wx_n σ'.2.2.2.2 ≤ mc + wx_n σ.2.2.2.2)  (h : f_X5_at_134 x1 x2 x3 x4 y0 σ = some (r, σ')) {rd : Nat → Nat} {H : Heap} {locs : List Loc} (Z : wx_Z D ad rd ca A σ H) (hS : va_S A s.heap H locs) {ls : Array Slot} (hl : lv_has ls 5 [(0, .ref (ad 11 99)), (1, .int x1), (2, .int x2), (3, .int x3), (4, .int x4)]) : W p l e ({ frames := 5, cells := mc, slots := 6464 * mc, locals := 129 } : Room) s m args below meth c H locs k (6464 * k) (MQ below (wx_QA D ad ca A (some (.int r)) σ') args s mc (6464 * mc) A) (F0 m 134 ls [.int y0]) := by
  obtain ⟨hx, hb, hml, hr, hts, hown, hlk, hC, hA⟩ := id B
  have hm := m_X5_at_134 h
  unfold f_X5_at_134 at h
  obtain ⟨rfl, rfl⟩ := wx_ret_ok h
  refine W.widen (k := mc) (n := 6464 * mc) (by omega) (by omega) ?_
  exact W.iret hx hb hr (fun t ht hW => ⟨rfl, ⟨_, by rw [ht]; exact Z⟩, hS.F ht⟩) hS.2.2 dX5_at_134
set_option maxRecDepth 20000 in
set_option maxHeartbeats 4000000 in
theorem m_X5_at_126  {r : Int32} {σ' : wx_St}  {x1 : Int32} {x2 : Int32} {x3 : Int32} {x4 : Int32} {y0 : Int32} {σ : wx_St} (h : f_X5_at_126 x1 x2 x3 x4 y0 σ = some (r, σ')) : wx_n σ.2.2.2.2 ≤ wx_n σ'.2.2.2.2 := by
  unfold f_X5_at_126 at h
  by_cases c126 : y0 = 0
  · replace h := wx_ift c126 h
    exact m_X5_at_134 h
  · replace h := wx_iff c126 h
    exact m_X5_at_134 h
set_option maxRecDepth 20000 in
set_option maxHeartbeats 4000000 in
theorem b_X5_at_126 (B : wx_B p s m args meth c cX5_at 5 (some .int) wsX5_at RX5 D ad ca A)    {r : Int32} {σ' : wx_St} {mc : Nat}  {x1 : Int32} {x2 : Int32} {x3 : Int32} {x4 : Int32} {y0 : Int32} {σ : wx_St} {k : Nat} (hk : k + wx_n σ'.2.2.2.2 ≤ mc + wx_n σ.2.2.2.2)  (h : f_X5_at_126 x1 x2 x3 x4 y0 σ = some (r, σ')) {rd : Nat → Nat} {H : Heap} {locs : List Loc} (Z : wx_Z D ad rd ca A σ H) (hS : va_S A s.heap H locs) {ls : Array Slot} (hl : lv_has ls 5 [(0, .ref (ad 11 99)), (1, .int x1), (2, .int x2), (3, .int x3), (4, .int x4)]) : W p l e ({ frames := 5, cells := mc, slots := 6464 * mc, locals := 129 } : Room) s m args below meth c H locs k (6464 * k) (MQ below (wx_QA D ad ca A (some (.int r)) σ') args s mc (6464 * mc) A) (F0 m 126 ls [.int y0]) := by
  obtain ⟨hx, hb, hml, hr, hts, hown, hlk, hC, hA⟩ := id B
  have hm := m_X5_at_126 h
  unfold f_X5_at_126 at h
  refine lv_if_eq (tgt := 133) hx hb dX5_at_126 (by decide) (fun c126 => ?_) (fun c126 => ?_)
  · replace h := wx_ift c126 h
    refine lv_iconst (v := 0) hx hb dX5_at_133 (by decide) ?_
    exact b_X5_at_134 B (k := k) hk h Z hS (lv_sub hl [0, 1, 2, 3, 4] rfl)
  · replace h := wx_iff c126 h
    refine lv_iconst (v := 1) hx hb dX5_at_129 (by decide) ?_
    refine lv_goto (tgt := 134) hx hb dX5_at_130 (by decide) ?_
    exact b_X5_at_134 B (k := k) hk h Z hS (lv_sub hl [0, 1, 2, 3, 4] rfl)
set_option maxRecDepth 20000 in
set_option maxHeartbeats 4000000 in
theorem m_X5_at_156  {r : Int32} {σ' : wx_St}  {x1 : Int32} {x2 : Int32} {x3 : Int32} {x4 : Int32} {y0 : Int32} {σ : wx_St} (h : f_X5_at_156 x1 x2 x3 x4 y0 σ = some (r, σ')) : wx_n σ.2.2.2.2 ≤ wx_n σ'.2.2.2.2 := by
  unfold f_X5_at_156 at h
  obtain ⟨rfl, rfl⟩ := wx_ret_ok h
  exact Nat.le_refl _
set_option maxRecDepth 20000 in
set_option maxHeartbeats 4000000 in
theorem b_X5_at_156 (B : wx_B p s m args meth c cX5_at 5 (some .int) wsX5_at RX5 D ad ca A)    {r : Int32} {σ' : wx_St} {mc : Nat}  {x1 : Int32} {x2 : Int32} {x3 : Int32} {x4 : Int32} {y0 : Int32} {σ : wx_St} {k : Nat} (hk : k + wx_n σ'.2.2.2.2 ≤ mc + wx_n σ.2.2.2.2)  (h : f_X5_at_156 x1 x2 x3 x4 y0 σ = some (r, σ')) {rd : Nat → Nat} {H : Heap} {locs : List Loc} (Z : wx_Z D ad rd ca A σ H) (hS : va_S A s.heap H locs) {ls : Array Slot} (hl : lv_has ls 5 [(0, .ref (ad 11 99)), (1, .int x1), (2, .int x2), (3, .int x3), (4, .int x4)]) : W p l e ({ frames := 5, cells := mc, slots := 6464 * mc, locals := 129 } : Room) s m args below meth c H locs k (6464 * k) (MQ below (wx_QA D ad ca A (some (.int r)) σ') args s mc (6464 * mc) A) (F0 m 156 ls [.int y0]) := by
  obtain ⟨hx, hb, hml, hr, hts, hown, hlk, hC, hA⟩ := id B
  have hm := m_X5_at_156 h
  unfold f_X5_at_156 at h
  obtain ⟨rfl, rfl⟩ := wx_ret_ok h
  refine W.widen (k := mc) (n := 6464 * mc) (by omega) (by omega) ?_
  exact W.iret hx hb hr (fun t ht hW => ⟨rfl, ⟨_, by rw [ht]; exact Z⟩, hS.F ht⟩) hS.2.2 dX5_at_156
set_option maxRecDepth 20000 in
set_option maxHeartbeats 4000000 in
theorem m_X5_at_148  {r : Int32} {σ' : wx_St}  {x1 : Int32} {x2 : Int32} {x3 : Int32} {x4 : Int32} {y0 : Int32} {σ : wx_St} (h : f_X5_at_148 x1 x2 x3 x4 y0 σ = some (r, σ')) : wx_n σ.2.2.2.2 ≤ wx_n σ'.2.2.2.2 := by
  unfold f_X5_at_148 at h
  by_cases c148 : y0 = 0
  · replace h := wx_ift c148 h
    exact m_X5_at_156 h
  · replace h := wx_iff c148 h
    exact m_X5_at_156 h
set_option maxRecDepth 20000 in
set_option maxHeartbeats 4000000 in
theorem b_X5_at_148 (B : wx_B p s m args meth c cX5_at 5 (some .int) wsX5_at RX5 D ad ca A)    {r : Int32} {σ' : wx_St} {mc : Nat}  {x1 : Int32} {x2 : Int32} {x3 : Int32} {x4 : Int32} {y0 : Int32} {σ : wx_St} {k : Nat} (hk : k + wx_n σ'.2.2.2.2 ≤ mc + wx_n σ.2.2.2.2)  (h : f_X5_at_148 x1 x2 x3 x4 y0 σ = some (r, σ')) {rd : Nat → Nat} {H : Heap} {locs : List Loc} (Z : wx_Z D ad rd ca A σ H) (hS : va_S A s.heap H locs) {ls : Array Slot} (hl : lv_has ls 5 [(0, .ref (ad 11 99)), (1, .int x1), (2, .int x2), (3, .int x3), (4, .int x4)]) : W p l e ({ frames := 5, cells := mc, slots := 6464 * mc, locals := 129 } : Room) s m args below meth c H locs k (6464 * k) (MQ below (wx_QA D ad ca A (some (.int r)) σ') args s mc (6464 * mc) A) (F0 m 148 ls [.int y0]) := by
  obtain ⟨hx, hb, hml, hr, hts, hown, hlk, hC, hA⟩ := id B
  have hm := m_X5_at_148 h
  unfold f_X5_at_148 at h
  refine lv_if_eq (tgt := 155) hx hb dX5_at_148 (by decide) (fun c148 => ?_) (fun c148 => ?_)
  · replace h := wx_ift c148 h
    refine lv_iconst (v := 0) hx hb dX5_at_155 (by decide) ?_
    exact b_X5_at_156 B (k := k) hk h Z hS (lv_sub hl [0, 1, 2, 3, 4] rfl)
  · replace h := wx_iff c148 h
    refine lv_iconst (v := 1) hx hb dX5_at_151 (by decide) ?_
    refine lv_goto (tgt := 156) hx hb dX5_at_152 (by decide) ?_
    exact b_X5_at_156 B (k := k) hk h Z hS (lv_sub hl [0, 1, 2, 3, 4] rfl)
set_option maxRecDepth 20000 in
set_option maxHeartbeats 4000000 in
theorem m_X5_at_0  {r : Int32} {σ' : wx_St}  {x1 : Int32} {x2 : Int32} {x3 : Int32} {σ : wx_St} (h : f_X5_at x1 x2 x3 σ = some (r, σ')) : wx_n σ.2.2.2.2 ≤ wx_n σ'.2.2.2.2 := by
  unfold f_X5_at at h
  obtain ⟨v2, hc2, h⟩ := wx_o_ok h
  by_cases c9 : 0 ≤ v2
  · replace h := wx_ift c9 h
    by_cases c15_0 : x3 = 0
    · replace h := wx_ift c15_0 h
      obtain ⟨v65, ev65, iv65, h⟩ := wx_rI_ok h
      obtain ⟨rfl, rfl⟩ := wx_ret_ok h
      exact Nat.le_refl _
    · replace h := wx_iff c15_0 h
      by_cases c15_1 : x3 = 1
      · replace h := wx_ift c15_1 h
        obtain ⟨v76, ev76, iv76, h⟩ := wx_rF_ok h
        obtain ⟨v77, hc77, h⟩ := wx_o_ok h
        obtain ⟨rfl, rfl⟩ := wx_ret_ok h
        exact Nat.le_refl _
      · replace h := wx_iff c15_1 h
        by_cases c15_2 : x3 = 2
        · replace h := wx_ift c15_2 h
          obtain ⟨v90, ev90, iv90, h⟩ := wx_rF_ok h
          obtain ⟨v91, hc91, h⟩ := wx_o_ok h
          obtain ⟨rfl, rfl⟩ := wx_ret_ok h
          exact Nat.le_refl _
        · replace h := wx_iff c15_2 h
          by_cases c15_3 : x3 = 3
          · replace h := wx_ift c15_3 h
            obtain ⟨v101, hc101, h⟩ := wx_o_ok h
            by_cases c104 : v101 = 0
            · replace h := wx_ift c104 h
              exact m_X5_at_112 h
            · replace h := wx_iff c104 h
              exact m_X5_at_112 h
          · replace h := wx_iff c15_3 h
            by_cases c15_4 : x3 = 4
            · replace h := wx_ift c15_4 h
              obtain ⟨v123, σ123, hc123, h⟩ := wx_b_ok h
              refine Nat.le_trans (m_X4_couldBe_0 hc123) ?_
              exact m_X5_at_126 h
            · replace h := wx_iff c15_4 h
              by_cases c15_5 : x3 = 5
              · replace h := wx_ift c15_5 h
                obtain ⟨v145, σ145, hc145, h⟩ := wx_b_ok h
                refine Nat.le_trans (m_X4_couldBeOneOfTwo_0 hc145) ?_
                exact m_X5_at_148 h
              · replace h := wx_iff c15_5 h
                by_cases c15_6 : x3 = 6
                · replace h := wx_ift c15_6 h
                  obtain ⟨v163, hc163, h⟩ := wx_o_ok h
                  obtain ⟨rfl, rfl⟩ := wx_ret_ok h
                  exact Nat.le_refl _
                · replace h := wx_iff c15_6 h
                  obtain ⟨rfl, rfl⟩ := wx_ret_ok h
                  exact Nat.le_refl _
  · replace h := wx_iff c9 h
    obtain ⟨rfl, rfl⟩ := wx_ret_ok h
    exact Nat.le_refl _
set_option maxRecDepth 20000 in
set_option maxHeartbeats 4000000 in
theorem b_X5_at_0 (B : wx_B p s m args meth c cX5_at 5 (some .int) wsX5_at RX5 D ad ca A)    {r : Int32} {σ' : wx_St} {mc : Nat}  {x1 : Int32} {x2 : Int32} {x3 : Int32} {σ : wx_St} {k : Nat} (hk : k + wx_n σ'.2.2.2.2 ≤ mc + wx_n σ.2.2.2.2)  (h : f_X5_at x1 x2 x3 σ = some (r, σ')) {rd : Nat → Nat} {H : Heap} {locs : List Loc} (Z : wx_Z D ad rd ca A σ H) (hS : va_S A s.heap H locs) {ls : Array Slot} (hl : lv_has ls 5 [(0, .ref (ad 11 99)), (1, .int x1), (2, .int x2), (3, .int x3)]) : W p l e ({ frames := 5, cells := mc, slots := 6464 * mc, locals := 129 } : Room) s m args below meth c H locs k (6464 * k) (MQ below (wx_QA D ad ca A (some (.int r)) σ') args s mc (6464 * mc) A) (F0 m 0 ls []) := by
  obtain ⟨hx, hb, hml, hr, hts, hown, hlk, hC, hA⟩ := id B
  have hm := m_X5_at_0 h
  unfold f_X5_at at h
  refine lv_iload_n hx hb dX5_at_0 rfl (lv_at hl 1 rfl) ?_
  refine lv_iload_n hx hb dX5_at_1 rfl (lv_at hl 2 rfl) ?_
  obtain ⟨v2, hc2, h⟩ := wx_o_ok h
  refine wx_call (va_runS (As := [.int x1, .int x2]) (rest := []) ⟨hx, hb, hml, hown, hts⟩ (c_X5_placeOf l (D := D) (ad := ad) (rd := rd) (ca := ca) (A := A) (σ := σ) hc2) (va_cwS 2 hts gX5_at_X5_placeOf rfl rfl rfl (by decide +kernel) ⟨Nat.le_of_ble_eq_true rfl, Nat.le_of_ble_eq_true rfl⟩) (wx_preS hC Z hS hA) rfl rfl hl.1 rfl (lv_room (Nat.le_of_ble_eq_true rfl)) dX5_at_2 ⟨(by show k + 0 ≤ mc; omega), (by show 6464 * k + 0 ≤ 6464 * mc; omega)⟩) hS (fun H locs Z hS => ?_)
  refine lv_istore (lv' := [(4, .int v2), (0, .ref (ad 11 99)), (1, .int x1), (2, .int x2), (3, .int x3)]) hx hb dX5_at_5 hl (by decide) rfl (fun ls hl => ?_)
  refine lv_iload hx hb dX5_at_7 (lv_at hl 0 rfl) ?_
  refine lv_if_ge (tgt := 14) hx hb dX5_at_9 (by decide) (fun c9 => ?_) (fun c9 => ?_)
  · replace h := wx_ift c9 h
    refine lv_iload_n hx hb dX5_at_14 rfl (lv_at hl 4 rfl) ?_
    by_cases c15_0 : x3 = 0
    · replace h := wx_ift c15_0 h
      refine lv_tableIn (off := 41) (tgt := 56) hx hb dX5_at_15 (by rw [c15_0]; decide) (by rw [c15_0]; decide) (by rw [c15_0]; rfl) (by decide) ?_
      refine lv_aload_n hx hb dX5_at_56 rfl (lv_at hl 1 rfl) ?_
      refine wx_get (own := RX5) hx hb hts i_X5_at_5 hown hC.1 Z (o := 11) (ci := 5) rfl (rfl : vwCl[5]? = some (RX5, TX5, 7)) 0 (by decide) (hts _ k_X5_at_w0) (fun _ h9 => h9) (f := 107) rfl rfl dX5_at_57 ?_
      refine wx_getN (own := RX5) hx hb hts i_X5_at_0 hown hC.1 Z (o := 7) (ci := 0) rfl (rfl : vwCl[0]? = some (RX0, TX0, 13)) 1 (by decide) (wx_nst hC 4 rfl rfl) (fun _ h9 => h9) (f := 0) rfl rfl dX5_at_60 ?_
      refine lv_iload hx hb dX5_at_63 (lv_at hl 0 rfl) ?_
      obtain ⟨v65, ev65, iv65, h⟩ := wx_rI_ok h
      refine wx_iald hx hb hC.1 Z (o := 7) (k := 1) (n := 64) rfl rfl iv65 dX5_at_65 ev65 ?_
      obtain ⟨rfl, rfl⟩ := wx_ret_ok h
      refine W.widen (k := mc) (n := 6464 * mc) (by omega) (by omega) ?_
      exact W.iret hx hb hr (fun t ht hW => ⟨rfl, ⟨_, by rw [ht]; exact Z⟩, hS.F ht⟩) hS.2.2 dX5_at_66
    · replace h := wx_iff c15_0 h
      by_cases c15_1 : x3 = 1
      · replace h := wx_ift c15_1 h
        refine lv_tableIn (off := 52) (tgt := 67) hx hb dX5_at_15 (by rw [c15_1]; decide) (by rw [c15_1]; decide) (by rw [c15_1]; rfl) (by decide) ?_
        refine lv_aload_n hx hb dX5_at_67 rfl (lv_at hl 1 rfl) ?_
        refine wx_get (own := RX5) hx hb hts i_X5_at_5 hown hC.1 Z (o := 11) (ci := 5) rfl (rfl : vwCl[5]? = some (RX5, TX5, 7)) 0 (by decide) (hts _ k_X5_at_w0) (fun _ h9 => h9) (f := 107) rfl rfl dX5_at_68 ?_
        refine wx_getN (own := RX5) hx hb hts i_X5_at_0 hown hC.1 Z (o := 7) (ci := 0) rfl (rfl : vwCl[0]? = some (RX0, TX0, 13)) 7 (by decide) (wx_nst hC 11 rfl rfl) (fun _ h9 => h9) (f := 0) rfl rfl dX5_at_71 ?_
        refine lv_iload hx hb dX5_at_74 (lv_at hl 0 rfl) ?_
        obtain ⟨v76, ev76, iv76, h⟩ := wx_rF_ok h
        refine wx_fald hx hb hC.1 Z (o := 7) (k := 7) (n := 64) rfl rfl iv76 dX5_at_76 ev76 ?_
        obtain ⟨v77, hc77, h⟩ := wx_o_ok h
        refine wx_call (va_runS (As := [.float v76]) (rest := []) ⟨hx, hb, hml, hown, hts⟩ (c_X5_bitsOfFloat l (D := D) (ad := ad) (rd := rd) (ca := ca) (A := A) (σ := σ) hc77) (va_cwS 1 hts gX5_at_X5_bitsOfFloat rfl rfl rfl (by decide +kernel) ⟨Nat.le_of_ble_eq_true rfl, Nat.le_of_ble_eq_true rfl⟩) (wx_preS hC Z hS hA) rfl rfl hl.1 rfl (lv_room (Nat.le_of_ble_eq_true rfl)) dX5_at_77 ⟨(by show k + 0 ≤ mc; omega), (by show 6464 * k + 0 ≤ 6464 * mc; omega)⟩) hS (fun H locs Z hS => ?_)
        obtain ⟨rfl, rfl⟩ := wx_ret_ok h
        refine W.widen (k := mc) (n := 6464 * mc) (by omega) (by omega) ?_
        exact W.iret hx hb hr (fun t ht hW => ⟨rfl, ⟨_, by rw [ht]; exact Z⟩, hS.F ht⟩) hS.2.2 dX5_at_80
      · replace h := wx_iff c15_1 h
        by_cases c15_2 : x3 = 2
        · replace h := wx_ift c15_2 h
          refine lv_tableIn (off := 66) (tgt := 81) hx hb dX5_at_15 (by rw [c15_2]; decide) (by rw [c15_2]; decide) (by rw [c15_2]; rfl) (by decide) ?_
          refine lv_aload_n hx hb dX5_at_81 rfl (lv_at hl 1 rfl) ?_
          refine wx_get (own := RX5) hx hb hts i_X5_at_5 hown hC.1 Z (o := 11) (ci := 5) rfl (rfl : vwCl[5]? = some (RX5, TX5, 7)) 0 (by decide) (hts _ k_X5_at_w0) (fun _ h9 => h9) (f := 107) rfl rfl dX5_at_82 ?_
          refine wx_getN (own := RX5) hx hb hts i_X5_at_0 hown hC.1 Z (o := 7) (ci := 0) rfl (rfl : vwCl[0]? = some (RX0, TX0, 13)) 7 (by decide) (wx_nst hC 11 rfl rfl) (fun _ h9 => h9) (f := 0) rfl rfl dX5_at_85 ?_
          refine lv_iload hx hb dX5_at_88 (lv_at hl 0 rfl) ?_
          obtain ⟨v90, ev90, iv90, h⟩ := wx_rF_ok h
          refine wx_fald hx hb hC.1 Z (o := 7) (k := 7) (n := 64) rfl rfl iv90 dX5_at_90 ev90 ?_
          obtain ⟨v91, hc91, h⟩ := wx_o_ok h
          refine wx_call (va_runS (As := [.float v90]) (rest := []) ⟨hx, hb, hml, hown, hts⟩ (c_X5_readOf l (D := D) (ad := ad) (rd := rd) (ca := ca) (A := A) (σ := σ) hc91) (va_cwS 1 hts gX5_at_X5_readOf rfl rfl rfl (by decide +kernel) ⟨Nat.le_of_ble_eq_true rfl, Nat.le_of_ble_eq_true rfl⟩) (wx_preS hC Z hS hA) rfl rfl hl.1 rfl (lv_room (Nat.le_of_ble_eq_true rfl)) dX5_at_91 ⟨(by show k + 0 ≤ mc; omega), (by show 6464 * k + 0 ≤ 6464 * mc; omega)⟩) hS (fun H locs Z hS => ?_)
          obtain ⟨rfl, rfl⟩ := wx_ret_ok h
          refine W.widen (k := mc) (n := 6464 * mc) (by omega) (by omega) ?_
          exact W.iret hx hb hr (fun t ht hW => ⟨rfl, ⟨_, by rw [ht]; exact Z⟩, hS.F ht⟩) hS.2.2 dX5_at_94
        · replace h := wx_iff c15_2 h
          by_cases c15_3 : x3 = 3
          · replace h := wx_ift c15_3 h
            refine lv_tableIn (off := 80) (tgt := 95) hx hb dX5_at_15 (by rw [c15_3]; decide) (by rw [c15_3]; decide) (by rw [c15_3]; rfl) (by decide) ?_
            refine lv_aload_n hx hb dX5_at_95 rfl (lv_at hl 1 rfl) ?_
            refine wx_get (own := RX5) hx hb hts i_X5_at_5 hown hC.1 Z (o := 11) (ci := 5) rfl (rfl : vwCl[5]? = some (RX5, TX5, 7)) 0 (by decide) (hts _ k_X5_at_w0) (fun _ h9 => h9) (f := 107) rfl rfl dX5_at_96 ?_
            refine lv_iload hx hb dX5_at_99 (lv_at hl 0 rfl) ?_
            obtain ⟨v101, hc101, h⟩ := wx_o_ok h
            refine wx_call (va_runVN (As := [.int v2]) (rest := []) ⟨hx, hb, hml, hown, hts⟩ (c_X0_isSuspect l (D := D) (ad := ad) (rd := rd) (ca := ca) (A := A) (σ := σ) (o := 7) (by decide : 7 < 11) hc101) ⟨va_cnB 1 hts gX5_at_X0_isSuspect_n104 rfl rfl rfl (hC.1.2.1 _ (List.mem_of_getElem? (i := 46) rfl)) (hts _ k_X5_at_w1) (by decide +kernel) ⟨Nat.le_of_ble_eq_true rfl, Nat.le_of_ble_eq_true rfl⟩, hts _ k_X5_at_w2, hts _ k_X5_at_w3⟩ (wx_preV hC Z hS hA rfl (rfl : vwCl[0]? = some (RX0, TX0, 13))) rfl rfl hl.1 rfl (lv_room (Nat.le_of_ble_eq_true rfl)) dX5_at_101 ⟨(by show k + 0 ≤ mc; omega), (by show 6464 * k + 0 ≤ 6464 * mc; omega)⟩) hS (fun H locs Z hS => ?_)
            refine lv_if_eq (tgt := 111) hx hb dX5_at_104 (by decide) (fun c104 => ?_) (fun c104 => ?_)
            · replace h := wx_ift c104 h
              refine lv_iconst (v := 0) hx hb dX5_at_111 (by decide) ?_
              exact b_X5_at_112 B (k := k) hk h Z hS (lv_sub hl [1, 2, 3, 4, 0] rfl)
            · replace h := wx_iff c104 h
              refine lv_iconst (v := 1) hx hb dX5_at_107 (by decide) ?_
              refine lv_goto (tgt := 112) hx hb dX5_at_108 (by decide) ?_
              exact b_X5_at_112 B (k := k) hk h Z hS (lv_sub hl [1, 2, 3, 4, 0] rfl)
          · replace h := wx_iff c15_3 h
            by_cases c15_4 : x3 = 4
            · replace h := wx_ift c15_4 h
              refine lv_tableIn (off := 98) (tgt := 113) hx hb dX5_at_15 (by rw [c15_4]; decide) (by rw [c15_4]; decide) (by rw [c15_4]; rfl) (by decide) ?_
              refine lv_aload_n hx hb dX5_at_113 rfl (lv_at hl 1 rfl) ?_
              refine wx_get (own := RX5) hx hb hts i_X5_at_5 hown hC.1 Z (o := 11) (ci := 5) rfl (rfl : vwCl[5]? = some (RX5, TX5, 7)) 2 (by decide) (hts _ k_X5_at_w4) (fun _ h9 => h9) (f := 112) rfl rfl dX5_at_114 ?_
              refine lv_aload_n hx hb dX5_at_117 rfl (lv_at hl 1 rfl) ?_
              refine wx_get (own := RX5) hx hb hts i_X5_at_5 hown hC.1 Z (o := 11) (ci := 5) rfl (rfl : vwCl[5]? = some (RX5, TX5, 7)) 0 (by decide) (hts _ k_X5_at_w0) (fun _ h9 => h9) (f := 107) rfl rfl dX5_at_118 ?_
              refine lv_iload hx hb dX5_at_121 (lv_at hl 0 rfl) ?_
              obtain ⟨v123, σ123, hc123, h⟩ := wx_b_ok h
              have m1 := m_X4_couldBe_0 hc123
              have m2 := m_X5_at_126 h
              refine wx_callA (va_runVN (As := [.ref (ad 7 99), .int v2]) (rest := []) ⟨hx, hb, hml, hown, hts⟩ (c_X4_couldBe l (D := D) (ad := ad) (rd := rd) (ca := ca) (A := A) (σ := σ) (b1 := 7) (by decide : 7 < 11) hc123) ⟨va_cnB 2 hts gX5_at_X4_couldBe_n108 rfl rfl rfl (hC.1.2.1 _ (List.mem_of_getElem? (i := 47) rfl)) (hts _ k_X5_at_w5) (by decide +kernel) ⟨Nat.le_of_ble_eq_true rfl, Nat.le_of_ble_eq_true rfl⟩, hts _ k_X5_at_w6, hts _ k_X5_at_w7⟩ (wx_preV hC Z hS hA rfl (rfl : vwCl[4]? = some (RX4, TX4, 2))) rfl rfl hl.1 rfl (lv_room (Nat.le_of_ble_eq_true rfl)) dX5_at_123 ⟨(by show k + (wx_n σ123.2.2.2.2 - wx_n σ.2.2.2.2) ≤ mc; omega), (by show 6464 * k + 6464 * (wx_n σ123.2.2.2.2 - wx_n σ.2.2.2.2) ≤ 6464 * mc; omega)⟩) hS (fun rd H locs Z hS => ?_)
              refine W.widen (k := k + (wx_n σ123.2.2.2.2 - wx_n σ.2.2.2.2)) (n := 6464 * (k + (wx_n σ123.2.2.2.2 - wx_n σ.2.2.2.2))) (Nat.le_refl _) (by omega) ?_
              exact b_X5_at_126 B (k := k + (wx_n σ123.2.2.2.2 - wx_n σ.2.2.2.2)) (by omega) h Z hS (lv_sub hl [1, 2, 3, 4, 0] rfl)
            · replace h := wx_iff c15_4 h
              by_cases c15_5 : x3 = 5
              · replace h := wx_ift c15_5 h
                refine lv_tableIn (off := 120) (tgt := 135) hx hb dX5_at_15 (by rw [c15_5]; decide) (by rw [c15_5]; decide) (by rw [c15_5]; rfl) (by decide) ?_
                refine lv_aload_n hx hb dX5_at_135 rfl (lv_at hl 1 rfl) ?_
                refine wx_get (own := RX5) hx hb hts i_X5_at_5 hown hC.1 Z (o := 11) (ci := 5) rfl (rfl : vwCl[5]? = some (RX5, TX5, 7)) 2 (by decide) (hts _ k_X5_at_w4) (fun _ h9 => h9) (f := 112) rfl rfl dX5_at_136 ?_
                refine lv_aload_n hx hb dX5_at_139 rfl (lv_at hl 1 rfl) ?_
                refine wx_get (own := RX5) hx hb hts i_X5_at_5 hown hC.1 Z (o := 11) (ci := 5) rfl (rfl : vwCl[5]? = some (RX5, TX5, 7)) 0 (by decide) (hts _ k_X5_at_w0) (fun _ h9 => h9) (f := 107) rfl rfl dX5_at_140 ?_
                refine lv_iload hx hb dX5_at_143 (lv_at hl 0 rfl) ?_
                obtain ⟨v145, σ145, hc145, h⟩ := wx_b_ok h
                have m1 := m_X4_couldBeOneOfTwo_0 hc145
                have m2 := m_X5_at_148 h
                refine wx_callA (va_runVN (As := [.ref (ad 7 99), .int v2]) (rest := []) ⟨hx, hb, hml, hown, hts⟩ (c_X4_couldBeOneOfTwo l (D := D) (ad := ad) (rd := rd) (ca := ca) (A := A) (σ := σ) (b1 := 7) (by decide : 7 < 11) hc145) ⟨va_cnB 2 hts gX5_at_X4_couldBeOneOfTwo_n112 rfl rfl rfl (hC.1.2.1 _ (List.mem_of_getElem? (i := 53) rfl)) (hts _ k_X5_at_w5) (by decide +kernel) ⟨Nat.le_of_ble_eq_true rfl, Nat.le_of_ble_eq_true rfl⟩, hts _ k_X5_at_w8, hts _ k_X5_at_w9⟩ (wx_preV hC Z hS hA rfl (rfl : vwCl[4]? = some (RX4, TX4, 2))) rfl rfl hl.1 rfl (lv_room (Nat.le_of_ble_eq_true rfl)) dX5_at_145 ⟨(by show k + (wx_n σ145.2.2.2.2 - wx_n σ.2.2.2.2) ≤ mc; omega), (by show 6464 * k + 6464 * (wx_n σ145.2.2.2.2 - wx_n σ.2.2.2.2) ≤ 6464 * mc; omega)⟩) hS (fun rd H locs Z hS => ?_)
                refine W.widen (k := k + (wx_n σ145.2.2.2.2 - wx_n σ.2.2.2.2)) (n := 6464 * (k + (wx_n σ145.2.2.2.2 - wx_n σ.2.2.2.2))) (Nat.le_refl _) (by omega) ?_
                exact b_X5_at_148 B (k := k + (wx_n σ145.2.2.2.2 - wx_n σ.2.2.2.2)) (by omega) h Z hS (lv_sub hl [1, 2, 3, 4, 0] rfl)
              · replace h := wx_iff c15_5 h
                by_cases c15_6 : x3 = 6
                · replace h := wx_ift c15_6 h
                  refine lv_tableIn (off := 142) (tgt := 157) hx hb dX5_at_15 (by rw [c15_6]; decide) (by rw [c15_6]; decide) (by rw [c15_6]; rfl) (by decide) ?_
                  refine lv_aload_n hx hb dX5_at_157 rfl (lv_at hl 1 rfl) ?_
                  refine wx_get (own := RX5) hx hb hts i_X5_at_5 hown hC.1 Z (o := 11) (ci := 5) rfl (rfl : vwCl[5]? = some (RX5, TX5, 7)) 0 (by decide) (hts _ k_X5_at_w0) (fun _ h9 => h9) (f := 107) rfl rfl dX5_at_158 ?_
                  refine lv_iload hx hb dX5_at_161 (lv_at hl 0 rfl) ?_
                  obtain ⟨v163, hc163, h⟩ := wx_o_ok h
                  refine wx_call (va_runVN (As := [.int v2]) (rest := []) ⟨hx, hb, hml, hown, hts⟩ (c_X0_touchAt l (D := D) (ad := ad) (rd := rd) (ca := ca) (A := A) (σ := σ) (o := 7) (by decide : 7 < 11) hc163) ⟨va_cnB 1 hts gX5_at_X0_touchAt_n115 rfl rfl rfl (hC.1.2.1 _ (List.mem_of_getElem? (i := 54) rfl)) (hts _ k_X5_at_w1) (by decide +kernel) ⟨Nat.le_of_ble_eq_true rfl, Nat.le_of_ble_eq_true rfl⟩, hts _ k_X5_at_w10, hts _ k_X5_at_w11⟩ (wx_preV hC Z hS hA rfl (rfl : vwCl[0]? = some (RX0, TX0, 13))) rfl rfl hl.1 rfl (lv_room (Nat.le_of_ble_eq_true rfl)) dX5_at_163 ⟨(by show k + 0 ≤ mc; omega), (by show 6464 * k + 0 ≤ 6464 * mc; omega)⟩) hS (fun H locs Z hS => ?_)
                  obtain ⟨rfl, rfl⟩ := wx_ret_ok h
                  refine W.widen (k := mc) (n := 6464 * mc) (by omega) (by omega) ?_
                  exact W.iret hx hb hr (fun t ht hW => ⟨rfl, ⟨_, by rw [ht]; exact Z⟩, hS.F ht⟩) hS.2.2 dX5_at_166
                · replace h := wx_iff c15_6 h
                  have n15_0 := wx_ni c15_0
                  have n15_1 := wx_ni c15_1
                  have n15_2 := wx_ni c15_2
                  have n15_3 := wx_ni c15_3
                  have n15_4 := wx_ni c15_4
                  have n15_5 := wx_ni c15_5
                  have n15_6 := wx_ni c15_6
                  rw [show (0 : Int32).toInt = 0 from by decide] at n15_0
                  rw [show (1 : Int32).toInt = 1 from by decide] at n15_1
                  rw [show (2 : Int32).toInt = 2 from by decide] at n15_2
                  rw [show (3 : Int32).toInt = 3 from by decide] at n15_3
                  rw [show (4 : Int32).toInt = 4 from by decide] at n15_4
                  rw [show (5 : Int32).toInt = 5 from by decide] at n15_5
                  rw [show (6 : Int32).toInt = 6 from by decide] at n15_6
                  refine lv_tableOut (tgt := 167) hx hb dX5_at_15 (by omega) (by decide) ?_
                  refine lv_bipush (v := (-2)) hx hb dX5_at_167 (by decide) ?_
                  obtain ⟨rfl, rfl⟩ := wx_ret_ok h
                  refine W.widen (k := mc) (n := 6464 * mc) (by omega) (by omega) ?_
                  exact W.iret hx hb hr (fun t ht hW => ⟨rfl, ⟨_, by rw [ht]; exact Z⟩, hS.F ht⟩) hS.2.2 dX5_at_169
  · replace h := wx_iff c9 h
    refine lv_iconst (v := (-1)) hx hb dX5_at_12 (by decide) ?_
    obtain ⟨rfl, rfl⟩ := wx_ret_ok h
    refine W.widen (k := mc) (n := 6464 * mc) (by omega) (by omega) ?_
    exact W.iret hx hb hr (fun t ht hW => ⟨rfl, ⟨_, by rw [ht]; exact Z⟩, hS.F ht⟩) hS.2.2 dX5_at_13
set_option maxRecDepth 20000 in
theorem c_X5_at (l : Launch) {D : va_G} {ad : Nat → Nat → Nat} {rd : Nat → Nat} {ca : Nat → ClassId} {A : Nat → Prop} {σ : wx_St}    {x1 : Int32} {x2 : Int32} {x3 : Int32} {r : Int32} {σ' : wx_St} (h : f_X5_at x1 x2 x3 σ = some (r, σ')) : wx_MA l yX5_at wsX5_at 5 129 D ad rd ca A [.ref (ad 11 99), .int x1, .int x2, .int x3] σ (some (.int r)) σ' := by
  refine Met.ofW (cc := cX5_at) (maxL := 5) (ret := (some .int)) (by decide +kernel) rfl ?_
  intro p e s m args below meth c s₁ B0 hml hv
  obtain ⟨rfl, hC, Z, hA⟩ := hv
  have hl := lv_entry ([.ref (ad 11 99), .int x1, .int x2, .int x3]) (n := 5) (Nat.le_of_ble_eq_true rfl)
  rw [lg_entry_eq]
  generalize (lg_sl ([.ref (ad 11 99), .int x1, .int x2, .int x3]) ++ List.replicate (5 - (lg_sl ([.ref (ad 11 99), .int x1, .int x2, .int x3])).length) Slot.unset).toArray = ls at hl ⊢
  exact b_X5_at_0 ⟨B0.exec, B0.bytes, hml, B0.returns, atoms_spec (ws := wsX5_at) B0.pre, findClass_of_methodNamed B0.named, B0.notSynchronized, hC, hA⟩  (k := 0) (by have hm := m_X5_at_0 h; omega) h Z va_S.rf hl
theorem i_X0_isLive_0 : ∀ w ∈ wsX00, w ∈ wsX0_isLive := by decide +kernel
theorem k_X0_isLive_w0 : Cond.fieldLink RX0 15 "WarmProbes$Board" "nets" "[I" ∈ wsX0_isLive := by decide +kernel
theorem k_X0_isLive_w1 : Cond.fieldLink RX0 25 "WarmProbes$Board" "touchPlaces" "[I" ∈ wsX0_isLive := by decide +kernel
theorem k_X0_isLive_w2 : Cond.fieldLink RX0 28 "WarmProbes$Board" "touchOthers" "[I" ∈ wsX0_isLive := by decide +kernel
set_option maxRecDepth 20000 in
set_option maxHeartbeats 4000000 in
theorem b_X0_isLive_0 (B : wx_B p s m args meth c cX0_isLive 2 (some .boolean) wsX0_isLive RX0 D ad ca A) {o : Nat}  (ho : o < 11) {r : Int32} {σ : wx_St}  {x1 : Int32}   (h : f_X0_isLive o x1 σ = some r) {H : Heap} {locs : List Loc} (Z : wx_Z D ad rd ca A σ H) (hS : va_S A s.heap H locs) {ls : Array Slot} (hl : lv_has ls 2 [(0, .ref (ad o 99)), (1, .int x1)]) : W p l e ({ frames := 1, cells := 0, slots := 0, locals := 22 } : Room) s m args below meth c H locs 0 0 (MQ below (wx_Q D ad rd ca A (some (.int r)) σ) args s 0 0 A) (F0 m 0 ls []) := by
  obtain ⟨hx, hb, hml, hr, hts, hown, hlk, hC, hA⟩ := id B
  unfold f_X0_isLive at h
  refine lv_aload_n hx hb dX0_isLive_0 rfl (lv_at hl 0 rfl) ?_
  refine lv_aload_n hx hb dX0_isLive_1 rfl (lv_at hl 0 rfl) ?_
  refine wx_get (own := RX0) hx hb hts i_X0_isLive_0 hown hC.1 Z (o := o) (ci := 0) (wx_sbo ho 99) (rfl : vwCl[0]? = some (RX0, TX0, 13)) 1 (by decide) (hts _ k_X0_isLive_w0) (fun _ h9 => h9) (f := 0) rfl rfl dX0_isLive_2 ?_
  refine lv_aload_n hx hb dX0_isLive_5 rfl (lv_at hl 0 rfl) ?_
  refine wx_get (own := RX0) hx hb hts i_X0_isLive_0 hown hC.1 Z (o := o) (ci := 0) (wx_sbo ho 99) (rfl : vwCl[0]? = some (RX0, TX0, 13)) 4 (by decide) (hts _ k_X0_isLive_w1) (fun _ h9 => h9) (f := 0) rfl rfl dX0_isLive_6 ?_
  refine lv_iload_n hx hb dX0_isLive_9 rfl (lv_at hl 1 rfl) ?_
  obtain ⟨v10, ev10, iv10, h⟩ := wx_rI_ok h
  refine wx_iald hx hb hC.1 Z (o := o) (k := 4) (n := 3) (wx_sbo ho 4) rfl iv10 dX0_isLive_10 ev10 ?_
  obtain ⟨v11, ev11, iv11, h⟩ := wx_rI_ok h
  refine wx_iald hx hb hC.1 Z (o := o) (k := 1) (n := 64) (wx_sbo ho 1) rfl iv11 dX0_isLive_11 ev11 ?_
  refine lv_aload_n hx hb dX0_isLive_12 rfl (lv_at hl 0 rfl) ?_
  refine wx_get (own := RX0) hx hb hts i_X0_isLive_0 hown hC.1 Z (o := o) (ci := 0) (wx_sbo ho 99) (rfl : vwCl[0]? = some (RX0, TX0, 13)) 5 (by decide) (hts _ k_X0_isLive_w2) (fun _ h9 => h9) (f := 0) rfl rfl dX0_isLive_13 ?_
  refine lv_iload_n hx hb dX0_isLive_16 rfl (lv_at hl 1 rfl) ?_
  obtain ⟨v17, ev17, iv17, h⟩ := wx_rI_ok h
  refine wx_iald hx hb hC.1 Z (o := o) (k := 5) (n := 3) (wx_sbo ho 5) rfl iv17 dX0_isLive_17 ev17 ?_
  obtain ⟨v18, hc18, h⟩ := wx_o_ok h
  refine wx_call (va_runV (As := [.int v11, .int v17]) (rest := []) ⟨hx, hb, hml, hown, hts⟩ (c_X0_isFed l (D := D) (ad := ad) (rd := rd) (ca := ca) (A := A) (σ := σ) (o := o) ho hc18) (cwV 2 hts gX0_isLive_X0_isFed rfl rfl rfl (by decide +kernel) ⟨Nat.le_of_ble_eq_true rfl, Nat.le_of_ble_eq_true rfl⟩) (wx_preV hC Z hS hA (wx_sbo ho 99) (rfl : vwCl[0]? = some (RX0, TX0, 13))) rfl rfl hl.1 rfl (lv_room (Nat.le_of_ble_eq_true rfl)) dX0_isLive_18 ⟨Nat.zero_le _, Nat.zero_le _⟩) hS (fun H locs Z hS => ?_)
  obtain ⟨hz, h⟩ := wx_z_ok h
  obtain rfl := Option.some.inj h
  exact W.zret hx hb hr (wx_nb hz) (fun t ht hW => ⟨rfl, by rw [ht]; exact Z, hS.F ht⟩) hS.2.2 dX0_isLive_21
set_option maxRecDepth 20000 in
theorem c_X0_isLive (l : Launch) {D : va_G} {ad : Nat → Nat → Nat} {rd : Nat → Nat} {ca : Nat → ClassId} {A : Nat → Prop} {σ : wx_St} {o : Nat}  (ho : o < 11) {x1 : Int32} {r : Int32} (h : f_X0_isLive o x1 σ = some r) : wx_M l yX0_isLive wsX0_isLive 1 22 D ad rd ca A [.ref (ad o 99), .int x1] σ (some (.int r)) σ := by
  refine Met.ofW (cc := cX0_isLive) (maxL := 2) (ret := (some .boolean)) (by decide +kernel) rfl ?_
  intro p e s m args below meth c s₁ B0 hml hv
  obtain ⟨rfl, hC, Z, hA⟩ := hv
  have hl := lv_entry ([.ref (ad o 99), .int x1]) (n := 2) (Nat.le_of_ble_eq_true rfl)
  rw [lg_entry_eq]
  generalize (lg_sl ([.ref (ad o 99), .int x1]) ++ List.replicate (2 - (lg_sl ([.ref (ad o 99), .int x1])).length) Slot.unset).toArray = ls at hl ⊢
  exact b_X0_isLive_0 ⟨B0.exec, B0.bytes, hml, B0.returns, atoms_spec (ws := wsX0_isLive) B0.pre, findClass_of_methodNamed B0.named, B0.notSynchronized, hC, hA⟩ ho  h Z va_S.rf hl
theorem i_X0_heated_0 : ∀ w ∈ wsX00, w ∈ wsX0_heated := by decide +kernel
theorem k_X0_heated_w0 : Cond.fieldLink RX0 21 "WarmProbes$Board" "touches" "I" ∈ wsX0_heated := by decide +kernel
theorem k_X0_heated_w1 : Cond.fieldLink RX0 25 "WarmProbes$Board" "touchPlaces" "[I" ∈ wsX0_heated := by decide +kernel
set_option maxRecDepth 20000 in
set_option maxHeartbeats 4000000 in
theorem b_X0_heated_31 (B : wx_B p s m args meth c cX0_heated 4 (some .long) wsX0_heated RX0 D ad ca A) {o : Nat}  (ho : o < 11) {r : Int64} {σ : wx_St} {K4 : Int64 → Int32 → wx_St → Option Int64} (hK4 : ∀ {x1 : Int64} {x3 : Int32}   (h : K4 x1 x3 σ = some r) {H : Heap} {locs : List Loc} (Z : wx_Z D ad rd ca A σ H) (hS : va_S A s.heap H locs) {ls : Array Slot} (hl : lv_has ls 4 [(0, .ref (ad o 99)), (1, .long x1), (3, .int x3)]), W p l e ({ frames := 2, cells := 0, slots := 0, locals := 43 } : Room) s m args below meth c H locs 0 0 (MQ below (wx_Q D ad rd ca A (some (.long r)) σ) args s 0 0 A) (F0 m 4 ls [])) {x1 : Int64} {x3 : Int32}   (h : f_X0_heated_31 o K4 x1 x3 σ = some r) {H : Heap} {locs : List Loc} (Z : wx_Z D ad rd ca A σ H) (hS : va_S A s.heap H locs) {ls : Array Slot} (hl : lv_has ls 4 [(0, .ref (ad o 99)), (1, .long x1), (3, .int x3)]) : W p l e ({ frames := 2, cells := 0, slots := 0, locals := 43 } : Room) s m args below meth c H locs 0 0 (MQ below (wx_Q D ad rd ca A (some (.long r)) σ) args s 0 0 A) (F0 m 31 ls []) := by
  obtain ⟨hx, hb, hml, hr, hts, hown, hlk, hC, hA⟩ := id B
  unfold f_X0_heated_31 at h
  refine lv_iinc (v := x3 + 1) (lv' := [(3, .int (x3 + 1)), (0, .ref (ad o 99)), (1, .long x1)]) hx hb dX0_heated_31 hl (k := 2) rfl rfl (by decide) rfl (fun ls hl => ?_)
  refine lv_goto (tgt := 4) hx hb dX0_heated_34 (by decide) ?_
  exact hK4 h Z hS (lv_sub hl [1, 2, 0] rfl)
set_option maxRecDepth 20000 in
set_option maxHeartbeats 4000000 in
theorem b_X0_heated_4 (B : wx_B p s m args meth c cX0_heated 4 (some .long) wsX0_heated RX0 D ad ca A) {o : Nat}  (ho : o < 11) {r : Int64} {σ : wx_St}   :
    ∀ {n : Nat} {x1 : Int64} {x3 : Int32}   (h : f_X0_heated_4 o n x1 x3 σ = some r) {H : Heap} {locs : List Loc} (Z : wx_Z D ad rd ca A σ H) (hS : va_S A s.heap H locs) {ls : Array Slot} (hl : lv_has ls 4 [(0, .ref (ad o 99)), (1, .long x1), (3, .int x3)]), W p l e ({ frames := 2, cells := 0, slots := 0, locals := 43 } : Room) s m args below meth c H locs 0 0 (MQ below (wx_Q D ad rd ca A (some (.long r)) σ) args s 0 0 A) (F0 m 4 ls []) := by
  obtain ⟨hx, hb, hml, hr, hts, hown, hlk, hC, hA⟩ := id B
  intro n
  induction n with
  | zero => intro x1 x3   h H locs Z hS ls hl; exact wx_no h
  | succ n ih =>
    intro x1 x3   h H locs Z hS ls hl
    rw [f_X0_heated_4] at h
    refine lv_iload_n hx hb dX0_heated_4 rfl (lv_at hl 2 rfl) ?_
    refine lv_aload_n hx hb dX0_heated_5 rfl (lv_at hl 0 rfl) ?_
    refine wx_get (own := RX0) hx hb hts i_X0_heated_0 hown hC.1 Z (o := o) (ci := 0) (wx_sbo ho 99) (rfl : vwCl[0]? = some (RX0, TX0, 13)) 3 (by decide) (hts _ k_X0_heated_w0) (fun _ h9 => h9) (f := 1) rfl rfl dX0_heated_6 ?_
    refine lv_icmp_ge (tgt := 37) hx hb dX0_heated_9 (by decide) (fun c9 => ?_) (fun c9 => ?_)
    · replace h := wx_ift c9 h
      refine lv_lload_n hx hb dX0_heated_37 rfl (lv_at hl 1 rfl) ?_
      obtain rfl := Option.some.inj h
      exact W.lret hx hb hr (fun t ht hW => ⟨rfl, by rw [ht]; exact Z, hS.F ht⟩) hS.2.2 dX0_heated_38
    · replace h := wx_iff c9 h
      refine lv_aload_n hx hb dX0_heated_12 rfl (lv_at hl 0 rfl) ?_
      refine lv_iload_n hx hb dX0_heated_13 rfl (lv_at hl 2 rfl) ?_
      obtain ⟨v14, hc14, h⟩ := wx_o_ok h
      refine wx_call (va_runV (As := [.int x3]) (rest := []) ⟨hx, hb, hml, hown, hts⟩ (c_X0_isLive l (D := D) (ad := ad) (rd := rd) (ca := ca) (A := A) (σ := σ) (o := o) ho hc14) (cwV 1 hts gX0_heated_X0_isLive rfl rfl rfl (by decide +kernel) ⟨Nat.le_of_ble_eq_true rfl, Nat.le_of_ble_eq_true rfl⟩) (wx_preV hC Z hS hA (wx_sbo ho 99) (rfl : vwCl[0]? = some (RX0, TX0, 13))) rfl rfl hl.1 rfl (lv_room (Nat.le_of_ble_eq_true rfl)) dX0_heated_14 ⟨Nat.zero_le _, Nat.zero_le _⟩) hS (fun H locs Z hS => ?_)
      refine lv_if_eq (tgt := 31) hx hb dX0_heated_17 (by decide) (fun c17 => ?_) (fun c17 => ?_)
      · replace h := wx_ift c17 h
        exact b_X0_heated_31 B ho (K4 := (f_X0_heated_4 o n)) @ih h Z hS (lv_sub hl [0, 1, 2] rfl)
      · replace h := wx_iff c17 h
        refine lv_lload_n hx hb dX0_heated_20 rfl (lv_at hl 1 rfl) ?_
        refine lv_lconst (v := 1) hx hb dX0_heated_21 (by decide) ?_
        refine lv_aload_n hx hb dX0_heated_22 rfl (lv_at hl 0 rfl) ?_
        refine wx_get (own := RX0) hx hb hts i_X0_heated_0 hown hC.1 Z (o := o) (ci := 0) (wx_sbo ho 99) (rfl : vwCl[0]? = some (RX0, TX0, 13)) 4 (by decide) (hts _ k_X0_heated_w1) (fun _ h9 => h9) (f := 0) rfl rfl dX0_heated_23 ?_
        refine lv_iload_n hx hb dX0_heated_26 rfl (lv_at hl 2 rfl) ?_
        obtain ⟨v27, ev27, iv27, h⟩ := wx_rI_ok h
        refine wx_iald hx hb hC.1 Z (o := o) (k := 4) (n := 3) (wx_sbo ho 4) rfl iv27 dX0_heated_27 ev27 ?_
        refine lv_lshl (v := ((1 : Int64) <<< (v27.toInt64 &&& 63))) hx hb dX0_heated_28 rfl ?_
        refine lv_lor hx hb dX0_heated_29 ?_
        refine lv_lstore_n (lv' := [(1, .long (x1 ||| ((1 : Int64) <<< (v27.toInt64 &&& 63)))), (0, .ref (ad o 99)), (3, .int x3)]) hx hb dX0_heated_30 rfl hl (by decide) rfl (fun ls hl => ?_)
        exact b_X0_heated_31 B ho (K4 := (f_X0_heated_4 o n)) @ih h Z hS (lv_sub hl [1, 0, 2] rfl)
set_option maxRecDepth 20000 in
set_option maxHeartbeats 4000000 in
theorem b_X0_heated_0 (B : wx_B p s m args meth c cX0_heated 4 (some .long) wsX0_heated RX0 D ad ca A) {o : Nat}  (ho : o < 11) {r : Int64} {σ : wx_St}     (h : f_X0_heated o σ = some r) {H : Heap} {locs : List Loc} (Z : wx_Z D ad rd ca A σ H) (hS : va_S A s.heap H locs) {ls : Array Slot} (hl : lv_has ls 4 [(0, .ref (ad o 99))]) : W p l e ({ frames := 2, cells := 0, slots := 0, locals := 43 } : Room) s m args below meth c H locs 0 0 (MQ below (wx_Q D ad rd ca A (some (.long r)) σ) args s 0 0 A) (F0 m 0 ls []) := by
  obtain ⟨hx, hb, hml, hr, hts, hown, hlk, hC, hA⟩ := id B
  unfold f_X0_heated at h
  refine lv_lconst (v := 0) hx hb dX0_heated_0 (by decide) ?_
  refine lv_lstore_n (lv' := [(1, .long (0 : Int64)), (0, .ref (ad o 99))]) hx hb dX0_heated_1 rfl hl (by decide) rfl (fun ls hl => ?_)
  refine lv_iconst (v := 0) hx hb dX0_heated_2 (by decide) ?_
  refine lv_istore_n (lv' := [(3, .int 0), (1, .long (0 : Int64)), (0, .ref (ad o 99))]) hx hb dX0_heated_3 rfl hl (by decide) rfl (fun ls hl => ?_)
  exact b_X0_heated_4 B ho h Z hS (lv_sub hl [2, 1, 0] rfl)
set_option maxRecDepth 20000 in
theorem c_X0_heated (l : Launch) {D : va_G} {ad : Nat → Nat → Nat} {rd : Nat → Nat} {ca : Nat → ClassId} {A : Nat → Prop} {σ : wx_St} {o : Nat}  (ho : o < 11)  {r : Int64} (h : f_X0_heated o σ = some r) : wx_M l yX0_heated wsX0_heated 2 43 D ad rd ca A [.ref (ad o 99)] σ (some (.long r)) σ := by
  refine Met.ofW (cc := cX0_heated) (maxL := 4) (ret := (some .long)) (by decide +kernel) rfl ?_
  intro p e s m args below meth c s₁ B0 hml hv
  obtain ⟨rfl, hC, Z, hA⟩ := hv
  have hl := lv_entry ([.ref (ad o 99)]) (n := 4) (Nat.le_of_ble_eq_true rfl)
  rw [lg_entry_eq]
  generalize (lg_sl ([.ref (ad o 99)]) ++ List.replicate (4 - (lg_sl ([.ref (ad o 99)])).length) Slot.unset).toArray = ls at hl ⊢
  exact b_X0_heated_0 ⟨B0.exec, B0.bytes, hml, B0.returns, atoms_spec (ws := wsX0_heated) B0.pre, findClass_of_methodNamed B0.named, B0.notSynchronized, hC, hA⟩ ho  h Z va_S.rf hl
set_option maxRecDepth 20000 in
set_option maxHeartbeats 4000000 in
theorem b_X0_suspects_24 (B : wx_B p s m args meth c cX0_suspects 4 (some .long) wsX0_suspects RX0 D ad ca A) {o : Nat}  (ho : o < 11) {r : Int64} {σ : wx_St} {K4 : Int64 → Int32 → wx_St → Option Int64} (hK4 : ∀ {x1 : Int64} {x3 : Int32}   (h : K4 x1 x3 σ = some r) {H : Heap} {locs : List Loc} (Z : wx_Z D ad rd ca A σ H) (hS : va_S A s.heap H locs) {ls : Array Slot} (hl : lv_has ls 4 [(0, .ref (ad o 99)), (1, .long x1), (3, .int x3)]), W p l e ({ frames := 2, cells := 0, slots := 0, locals := 45 } : Room) s m args below meth c H locs 0 0 (MQ below (wx_Q D ad rd ca A (some (.long r)) σ) args s 0 0 A) (F0 m 4 ls [])) {x1 : Int64} {x3 : Int32}   (h : f_X0_suspects_24 o K4 x1 x3 σ = some r) {H : Heap} {locs : List Loc} (Z : wx_Z D ad rd ca A σ H) (hS : va_S A s.heap H locs) {ls : Array Slot} (hl : lv_has ls 4 [(0, .ref (ad o 99)), (1, .long x1), (3, .int x3)]) : W p l e ({ frames := 2, cells := 0, slots := 0, locals := 45 } : Room) s m args below meth c H locs 0 0 (MQ below (wx_Q D ad rd ca A (some (.long r)) σ) args s 0 0 A) (F0 m 24 ls []) := by
  obtain ⟨hx, hb, hml, hr, hts, hown, hlk, hC, hA⟩ := id B
  unfold f_X0_suspects_24 at h
  refine lv_iinc (v := x3 + 1) (lv' := [(3, .int (x3 + 1)), (0, .ref (ad o 99)), (1, .long x1)]) hx hb dX0_suspects_24 hl (k := 2) rfl rfl (by decide) rfl (fun ls hl => ?_)
  refine lv_goto (tgt := 4) hx hb dX0_suspects_27 (by decide) ?_
  exact hK4 h Z hS (lv_sub hl [1, 2, 0] rfl)
set_option maxRecDepth 20000 in
set_option maxHeartbeats 4000000 in
theorem b_X0_suspects_4 (B : wx_B p s m args meth c cX0_suspects 4 (some .long) wsX0_suspects RX0 D ad ca A) {o : Nat}  (ho : o < 11) {r : Int64} {σ : wx_St}   :
    ∀ {n : Nat} {x1 : Int64} {x3 : Int32}   (h : f_X0_suspects_4 o n x1 x3 σ = some r) {H : Heap} {locs : List Loc} (Z : wx_Z D ad rd ca A σ H) (hS : va_S A s.heap H locs) {ls : Array Slot} (hl : lv_has ls 4 [(0, .ref (ad o 99)), (1, .long x1), (3, .int x3)]), W p l e ({ frames := 2, cells := 0, slots := 0, locals := 45 } : Room) s m args below meth c H locs 0 0 (MQ below (wx_Q D ad rd ca A (some (.long r)) σ) args s 0 0 A) (F0 m 4 ls []) := by
  obtain ⟨hx, hb, hml, hr, hts, hown, hlk, hC, hA⟩ := id B
  intro n
  induction n with
  | zero => intro x1 x3   h H locs Z hS ls hl; exact wx_no h
  | succ n ih =>
    intro x1 x3   h H locs Z hS ls hl
    rw [f_X0_suspects_4] at h
    refine lv_iload_n hx hb dX0_suspects_4 rfl (lv_at hl 2 rfl) ?_
    refine lv_bipush (v := 64) hx hb dX0_suspects_5 (by decide) ?_
    refine lv_icmp_ge (tgt := 30) hx hb dX0_suspects_7 (by decide) (fun c7 => ?_) (fun c7 => ?_)
    · replace h := wx_ift c7 h
      refine lv_lload_n hx hb dX0_suspects_30 rfl (lv_at hl 1 rfl) ?_
      obtain rfl := Option.some.inj h
      exact W.lret hx hb hr (fun t ht hW => ⟨rfl, by rw [ht]; exact Z, hS.F ht⟩) hS.2.2 dX0_suspects_31
    · replace h := wx_iff c7 h
      refine lv_aload_n hx hb dX0_suspects_10 rfl (lv_at hl 0 rfl) ?_
      refine lv_iload_n hx hb dX0_suspects_11 rfl (lv_at hl 2 rfl) ?_
      obtain ⟨v12, hc12, h⟩ := wx_o_ok h
      refine wx_call (va_runV (As := [.int x3]) (rest := []) ⟨hx, hb, hml, hown, hts⟩ (c_X0_isSuspect l (D := D) (ad := ad) (rd := rd) (ca := ca) (A := A) (σ := σ) (o := o) ho hc12) (cwV 1 hts gX0_suspects_X0_isSuspect rfl rfl rfl (by decide +kernel) ⟨Nat.le_of_ble_eq_true rfl, Nat.le_of_ble_eq_true rfl⟩) (wx_preV hC Z hS hA (wx_sbo ho 99) (rfl : vwCl[0]? = some (RX0, TX0, 13))) rfl rfl hl.1 rfl (lv_room (Nat.le_of_ble_eq_true rfl)) dX0_suspects_12 ⟨Nat.zero_le _, Nat.zero_le _⟩) hS (fun H locs Z hS => ?_)
      refine lv_if_eq (tgt := 24) hx hb dX0_suspects_15 (by decide) (fun c15 => ?_) (fun c15 => ?_)
      · replace h := wx_ift c15 h
        exact b_X0_suspects_24 B ho (K4 := (f_X0_suspects_4 o n)) @ih h Z hS (lv_sub hl [0, 1, 2] rfl)
      · replace h := wx_iff c15 h
        refine lv_lload_n hx hb dX0_suspects_18 rfl (lv_at hl 1 rfl) ?_
        refine lv_lconst (v := 1) hx hb dX0_suspects_19 (by decide) ?_
        refine lv_iload_n hx hb dX0_suspects_20 rfl (lv_at hl 2 rfl) ?_
        refine lv_lshl (v := ((1 : Int64) <<< (x3.toInt64 &&& 63))) hx hb dX0_suspects_21 rfl ?_
        refine lv_lor hx hb dX0_suspects_22 ?_
        refine lv_lstore_n (lv' := [(1, .long (x1 ||| ((1 : Int64) <<< (x3.toInt64 &&& 63)))), (0, .ref (ad o 99)), (3, .int x3)]) hx hb dX0_suspects_23 rfl hl (by decide) rfl (fun ls hl => ?_)
        exact b_X0_suspects_24 B ho (K4 := (f_X0_suspects_4 o n)) @ih h Z hS (lv_sub hl [1, 0, 2] rfl)
set_option maxRecDepth 20000 in
set_option maxHeartbeats 4000000 in
theorem b_X0_suspects_0 (B : wx_B p s m args meth c cX0_suspects 4 (some .long) wsX0_suspects RX0 D ad ca A) {o : Nat}  (ho : o < 11) {r : Int64} {σ : wx_St}     (h : f_X0_suspects o σ = some r) {H : Heap} {locs : List Loc} (Z : wx_Z D ad rd ca A σ H) (hS : va_S A s.heap H locs) {ls : Array Slot} (hl : lv_has ls 4 [(0, .ref (ad o 99))]) : W p l e ({ frames := 2, cells := 0, slots := 0, locals := 45 } : Room) s m args below meth c H locs 0 0 (MQ below (wx_Q D ad rd ca A (some (.long r)) σ) args s 0 0 A) (F0 m 0 ls []) := by
  obtain ⟨hx, hb, hml, hr, hts, hown, hlk, hC, hA⟩ := id B
  unfold f_X0_suspects at h
  refine lv_lconst (v := 0) hx hb dX0_suspects_0 (by decide) ?_
  refine lv_lstore_n (lv' := [(1, .long (0 : Int64)), (0, .ref (ad o 99))]) hx hb dX0_suspects_1 rfl hl (by decide) rfl (fun ls hl => ?_)
  refine lv_iconst (v := 0) hx hb dX0_suspects_2 (by decide) ?_
  refine lv_istore_n (lv' := [(3, .int 0), (1, .long (0 : Int64)), (0, .ref (ad o 99))]) hx hb dX0_suspects_3 rfl hl (by decide) rfl (fun ls hl => ?_)
  exact b_X0_suspects_4 B ho h Z hS (lv_sub hl [2, 1, 0] rfl)
set_option maxRecDepth 20000 in
theorem c_X0_suspects (l : Launch) {D : va_G} {ad : Nat → Nat → Nat} {rd : Nat → Nat} {ca : Nat → ClassId} {A : Nat → Prop} {σ : wx_St} {o : Nat}  (ho : o < 11)  {r : Int64} (h : f_X0_suspects o σ = some r) : wx_M l yX0_suspects wsX0_suspects 2 45 D ad rd ca A [.ref (ad o 99)] σ (some (.long r)) σ := by
  refine Met.ofW (cc := cX0_suspects) (maxL := 4) (ret := (some .long)) (by decide +kernel) rfl ?_
  intro p e s m args below meth c s₁ B0 hml hv
  obtain ⟨rfl, hC, Z, hA⟩ := hv
  have hl := lv_entry ([.ref (ad o 99)]) (n := 4) (Nat.le_of_ble_eq_true rfl)
  rw [lg_entry_eq]
  generalize (lg_sl ([.ref (ad o 99)]) ++ List.replicate (4 - (lg_sl ([.ref (ad o 99)])).length) Slot.unset).toArray = ls at hl ⊢
  exact b_X0_suspects_0 ⟨B0.exec, B0.bytes, hml, B0.returns, atoms_spec (ws := wsX0_suspects) B0.pre, findClass_of_methodNamed B0.named, B0.notSynchronized, hC, hA⟩ ho  h Z va_S.rf hl
theorem i_X0_tracked_0 : ∀ w ∈ wsX00, w ∈ wsX0_tracked := by decide +kernel
theorem k_X0_tracked_w0 : Cond.fieldLink RX0 15 "WarmProbes$Board" "nets" "[I" ∈ wsX0_tracked := by decide +kernel
set_option maxRecDepth 20000 in
set_option maxHeartbeats 4000000 in
theorem b_X0_tracked_25 (B : wx_B p s m args meth c cX0_tracked 4 (some .long) wsX0_tracked RX0 D ad ca A) {o : Nat}  (ho : o < 11) {r : Int64} {σ : wx_St} {K4 : Int64 → Int32 → wx_St → Option Int64} (hK4 : ∀ {x1 : Int64} {x3 : Int32}   (h : K4 x1 x3 σ = some r) {H : Heap} {locs : List Loc} (Z : wx_Z D ad rd ca A σ H) (hS : va_S A s.heap H locs) {ls : Array Slot} (hl : lv_has ls 4 [(0, .ref (ad o 99)), (1, .long x1), (3, .int x3)]), W p l e ({ frames := 0, cells := 0, slots := 0, locals := 0 } : Room) s m args below meth c H locs 0 0 (MQ below (wx_Q D ad rd ca A (some (.long r)) σ) args s 0 0 A) (F0 m 4 ls [])) {x1 : Int64} {x3 : Int32}   (h : f_X0_tracked_25 o K4 x1 x3 σ = some r) {H : Heap} {locs : List Loc} (Z : wx_Z D ad rd ca A σ H) (hS : va_S A s.heap H locs) {ls : Array Slot} (hl : lv_has ls 4 [(0, .ref (ad o 99)), (1, .long x1), (3, .int x3)]) : W p l e ({ frames := 0, cells := 0, slots := 0, locals := 0 } : Room) s m args below meth c H locs 0 0 (MQ below (wx_Q D ad rd ca A (some (.long r)) σ) args s 0 0 A) (F0 m 25 ls []) := by
  obtain ⟨hx, hb, hml, hr, hts, hown, hlk, hC, hA⟩ := id B
  unfold f_X0_tracked_25 at h
  refine lv_iinc (v := x3 + 1) (lv' := [(3, .int (x3 + 1)), (0, .ref (ad o 99)), (1, .long x1)]) hx hb dX0_tracked_25 hl (k := 2) rfl rfl (by decide) rfl (fun ls hl => ?_)
  refine lv_goto (tgt := 4) hx hb dX0_tracked_28 (by decide) ?_
  exact hK4 h Z hS (lv_sub hl [1, 2, 0] rfl)
set_option maxRecDepth 20000 in
set_option maxHeartbeats 4000000 in
theorem b_X0_tracked_4 (B : wx_B p s m args meth c cX0_tracked 4 (some .long) wsX0_tracked RX0 D ad ca A) {o : Nat}  (ho : o < 11) {r : Int64} {σ : wx_St}   :
    ∀ {n : Nat} {x1 : Int64} {x3 : Int32}   (h : f_X0_tracked_4 o n x1 x3 σ = some r) {H : Heap} {locs : List Loc} (Z : wx_Z D ad rd ca A σ H) (hS : va_S A s.heap H locs) {ls : Array Slot} (hl : lv_has ls 4 [(0, .ref (ad o 99)), (1, .long x1), (3, .int x3)]), W p l e ({ frames := 0, cells := 0, slots := 0, locals := 0 } : Room) s m args below meth c H locs 0 0 (MQ below (wx_Q D ad rd ca A (some (.long r)) σ) args s 0 0 A) (F0 m 4 ls []) := by
  obtain ⟨hx, hb, hml, hr, hts, hown, hlk, hC, hA⟩ := id B
  intro n
  induction n with
  | zero => intro x1 x3   h H locs Z hS ls hl; exact wx_no h
  | succ n ih =>
    intro x1 x3   h H locs Z hS ls hl
    rw [f_X0_tracked_4] at h
    refine lv_iload_n hx hb dX0_tracked_4 rfl (lv_at hl 2 rfl) ?_
    refine lv_bipush (v := 64) hx hb dX0_tracked_5 (by decide) ?_
    refine lv_icmp_ge (tgt := 31) hx hb dX0_tracked_7 (by decide) (fun c7 => ?_) (fun c7 => ?_)
    · replace h := wx_ift c7 h
      refine lv_lload_n hx hb dX0_tracked_31 rfl (lv_at hl 1 rfl) ?_
      obtain rfl := Option.some.inj h
      exact W.lret hx hb hr (fun t ht hW => ⟨rfl, by rw [ht]; exact Z, hS.F ht⟩) hS.2.2 dX0_tracked_32
    · replace h := wx_iff c7 h
      refine lv_aload_n hx hb dX0_tracked_10 rfl (lv_at hl 0 rfl) ?_
      refine wx_get (own := RX0) hx hb hts i_X0_tracked_0 hown hC.1 Z (o := o) (ci := 0) (wx_sbo ho 99) (rfl : vwCl[0]? = some (RX0, TX0, 13)) 1 (by decide) (hts _ k_X0_tracked_w0) (fun _ h9 => h9) (f := 0) rfl rfl dX0_tracked_11 ?_
      refine lv_iload_n hx hb dX0_tracked_14 rfl (lv_at hl 2 rfl) ?_
      obtain ⟨v15, ev15, iv15, h⟩ := wx_rI_ok h
      refine wx_iald hx hb hC.1 Z (o := o) (k := 1) (n := 64) (wx_sbo ho 1) rfl iv15 dX0_tracked_15 ev15 ?_
      refine lv_if_eq (tgt := 25) hx hb dX0_tracked_16 (by decide) (fun c16 => ?_) (fun c16 => ?_)
      · replace h := wx_ift c16 h
        exact b_X0_tracked_25 B ho (K4 := (f_X0_tracked_4 o n)) @ih h Z hS (lv_sub hl [0, 1, 2] rfl)
      · replace h := wx_iff c16 h
        refine lv_lload_n hx hb dX0_tracked_19 rfl (lv_at hl 1 rfl) ?_
        refine lv_lconst (v := 1) hx hb dX0_tracked_20 (by decide) ?_
        refine lv_iload_n hx hb dX0_tracked_21 rfl (lv_at hl 2 rfl) ?_
        refine lv_lshl (v := ((1 : Int64) <<< (x3.toInt64 &&& 63))) hx hb dX0_tracked_22 rfl ?_
        refine lv_lor hx hb dX0_tracked_23 ?_
        refine lv_lstore_n (lv' := [(1, .long (x1 ||| ((1 : Int64) <<< (x3.toInt64 &&& 63)))), (0, .ref (ad o 99)), (3, .int x3)]) hx hb dX0_tracked_24 rfl hl (by decide) rfl (fun ls hl => ?_)
        exact b_X0_tracked_25 B ho (K4 := (f_X0_tracked_4 o n)) @ih h Z hS (lv_sub hl [1, 0, 2] rfl)
set_option maxRecDepth 20000 in
set_option maxHeartbeats 4000000 in
theorem b_X0_tracked_0 (B : wx_B p s m args meth c cX0_tracked 4 (some .long) wsX0_tracked RX0 D ad ca A) {o : Nat}  (ho : o < 11) {r : Int64} {σ : wx_St}     (h : f_X0_tracked o σ = some r) {H : Heap} {locs : List Loc} (Z : wx_Z D ad rd ca A σ H) (hS : va_S A s.heap H locs) {ls : Array Slot} (hl : lv_has ls 4 [(0, .ref (ad o 99))]) : W p l e ({ frames := 0, cells := 0, slots := 0, locals := 0 } : Room) s m args below meth c H locs 0 0 (MQ below (wx_Q D ad rd ca A (some (.long r)) σ) args s 0 0 A) (F0 m 0 ls []) := by
  obtain ⟨hx, hb, hml, hr, hts, hown, hlk, hC, hA⟩ := id B
  unfold f_X0_tracked at h
  refine lv_lconst (v := 0) hx hb dX0_tracked_0 (by decide) ?_
  refine lv_lstore_n (lv' := [(1, .long (0 : Int64)), (0, .ref (ad o 99))]) hx hb dX0_tracked_1 rfl hl (by decide) rfl (fun ls hl => ?_)
  refine lv_iconst (v := 0) hx hb dX0_tracked_2 (by decide) ?_
  refine lv_istore_n (lv' := [(3, .int 0), (1, .long (0 : Int64)), (0, .ref (ad o 99))]) hx hb dX0_tracked_3 rfl hl (by decide) rfl (fun ls hl => ?_)
  exact b_X0_tracked_4 B ho h Z hS (lv_sub hl [2, 1, 0] rfl)
set_option maxRecDepth 20000 in
theorem c_X0_tracked (l : Launch) {D : va_G} {ad : Nat → Nat → Nat} {rd : Nat → Nat} {ca : Nat → ClassId} {A : Nat → Prop} {σ : wx_St} {o : Nat}  (ho : o < 11)  {r : Int64} (h : f_X0_tracked o σ = some r) : wx_M l yX0_tracked wsX0_tracked 0 0 D ad rd ca A [.ref (ad o 99)] σ (some (.long r)) σ := by
  refine Met.ofW (cc := cX0_tracked) (maxL := 4) (ret := (some .long)) (by decide +kernel) rfl ?_
  intro p e s m args below meth c s₁ B0 hml hv
  obtain ⟨rfl, hC, Z, hA⟩ := hv
  have hl := lv_entry ([.ref (ad o 99)]) (n := 4) (Nat.le_of_ble_eq_true rfl)
  rw [lg_entry_eq]
  generalize (lg_sl ([.ref (ad o 99)]) ++ List.replicate (4 - (lg_sl ([.ref (ad o 99)])).length) Slot.unset).toArray = ls at hl ⊢
  exact b_X0_tracked_0 ⟨B0.exec, B0.bytes, hml, B0.returns, atoms_spec (ws := wsX0_tracked) B0.pre, findClass_of_methodNamed B0.named, B0.notSynchronized, hC, hA⟩ ho  h Z va_S.rf hl
theorem i_X0_warmest_0 : ∀ w ∈ wsX00, w ∈ wsX0_warmest := by decide +kernel
theorem k_X0_warmest_w0 : Cond.fieldLink RX0 34 "WarmProbes$Board" "warmth" "[F" ∈ wsX0_warmest := by decide +kernel
set_option maxRecDepth 20000 in
set_option maxHeartbeats 4000000 in
theorem b_X0_warmest_28 (B : wx_B p s m args meth c cX0_warmest 3 (some .int) wsX0_warmest RX0 D ad ca A) {o : Nat}  (ho : o < 11) {r : Int32} {σ : wx_St} {K4 : Int32 → Int32 → wx_St → Option Int32} (hK4 : ∀ {x1 : Int32} {x2 : Int32}   (h : K4 x1 x2 σ = some r) {H : Heap} {locs : List Loc} (Z : wx_Z D ad rd ca A σ H) (hS : va_S A s.heap H locs) {ls : Array Slot} (hl : lv_has ls 3 [(0, .ref (ad o 99)), (1, .int x1), (2, .int x2)]), W p l e ({ frames := 0, cells := 0, slots := 0, locals := 0 } : Room) s m args below meth c H locs 0 0 (MQ below (wx_Q D ad rd ca A (some (.int r)) σ) args s 0 0 A) (F0 m 4 ls [])) {x1 : Int32} {x2 : Int32}   (h : f_X0_warmest_28 o K4 x1 x2 σ = some r) {H : Heap} {locs : List Loc} (Z : wx_Z D ad rd ca A σ H) (hS : va_S A s.heap H locs) {ls : Array Slot} (hl : lv_has ls 3 [(0, .ref (ad o 99)), (1, .int x1), (2, .int x2)]) : W p l e ({ frames := 0, cells := 0, slots := 0, locals := 0 } : Room) s m args below meth c H locs 0 0 (MQ below (wx_Q D ad rd ca A (some (.int r)) σ) args s 0 0 A) (F0 m 28 ls []) := by
  obtain ⟨hx, hb, hml, hr, hts, hown, hlk, hC, hA⟩ := id B
  unfold f_X0_warmest_28 at h
  refine lv_iinc (v := x2 + 1) (lv' := [(2, .int (x2 + 1)), (0, .ref (ad o 99)), (1, .int x1)]) hx hb dX0_warmest_28 hl (k := 2) rfl rfl (by decide) rfl (fun ls hl => ?_)
  refine lv_goto (tgt := 4) hx hb dX0_warmest_31 (by decide) ?_
  exact hK4 h Z hS (lv_sub hl [1, 2, 0] rfl)
set_option maxRecDepth 20000 in
set_option maxHeartbeats 4000000 in
theorem b_X0_warmest_4 (B : wx_B p s m args meth c cX0_warmest 3 (some .int) wsX0_warmest RX0 D ad ca A) {o : Nat}  (ho : o < 11) {r : Int32} {σ : wx_St}   :
    ∀ {n : Nat} {x1 : Int32} {x2 : Int32}   (h : f_X0_warmest_4 o n x1 x2 σ = some r) {H : Heap} {locs : List Loc} (Z : wx_Z D ad rd ca A σ H) (hS : va_S A s.heap H locs) {ls : Array Slot} (hl : lv_has ls 3 [(0, .ref (ad o 99)), (1, .int x1), (2, .int x2)]), W p l e ({ frames := 0, cells := 0, slots := 0, locals := 0 } : Room) s m args below meth c H locs 0 0 (MQ below (wx_Q D ad rd ca A (some (.int r)) σ) args s 0 0 A) (F0 m 4 ls []) := by
  obtain ⟨hx, hb, hml, hr, hts, hown, hlk, hC, hA⟩ := id B
  intro n
  induction n with
  | zero => intro x1 x2   h H locs Z hS ls hl; exact wx_no h
  | succ n ih =>
    intro x1 x2   h H locs Z hS ls hl
    rw [f_X0_warmest_4] at h
    refine lv_iload_n hx hb dX0_warmest_4 rfl (lv_at hl 2 rfl) ?_
    refine lv_bipush (v := 64) hx hb dX0_warmest_5 (by decide) ?_
    refine lv_icmp_ge (tgt := 34) hx hb dX0_warmest_7 (by decide) (fun c7 => ?_) (fun c7 => ?_)
    · replace h := wx_ift c7 h
      refine lv_iload_n hx hb dX0_warmest_34 rfl (lv_at hl 1 rfl) ?_
      obtain rfl := Option.some.inj h
      exact W.iret hx hb hr (fun t ht hW => ⟨rfl, by rw [ht]; exact Z, hS.F ht⟩) hS.2.2 dX0_warmest_35
    · replace h := wx_iff c7 h
      refine lv_aload_n hx hb dX0_warmest_10 rfl (lv_at hl 0 rfl) ?_
      refine wx_get (own := RX0) hx hb hts i_X0_warmest_0 hown hC.1 Z (o := o) (ci := 0) (wx_sbo ho 99) (rfl : vwCl[0]? = some (RX0, TX0, 13)) 7 (by decide) (hts _ k_X0_warmest_w0) (fun _ h9 => h9) (f := 0) rfl rfl dX0_warmest_11 ?_
      refine lv_iload_n hx hb dX0_warmest_14 rfl (lv_at hl 2 rfl) ?_
      obtain ⟨v15, ev15, iv15, h⟩ := wx_rF_ok h
      refine wx_fald hx hb hC.1 Z (o := o) (k := 7) (n := 64) (wx_sbo ho 7) rfl iv15 dX0_warmest_15 ev15 ?_
      refine lv_aload_n hx hb dX0_warmest_16 rfl (lv_at hl 0 rfl) ?_
      refine wx_get (own := RX0) hx hb hts i_X0_warmest_0 hown hC.1 Z (o := o) (ci := 0) (wx_sbo ho 99) (rfl : vwCl[0]? = some (RX0, TX0, 13)) 7 (by decide) (hts _ k_X0_warmest_w0) (fun _ h9 => h9) (f := 0) rfl rfl dX0_warmest_17 ?_
      refine lv_iload_n hx hb dX0_warmest_20 rfl (lv_at hl 1 rfl) ?_
      obtain ⟨v21, ev21, iv21, h⟩ := wx_rF_ok h
      refine wx_fald hx hb hC.1 Z (o := o) (k := 7) (n := 64) (wx_sbo ho 7) rfl iv21 dX0_warmest_21 ev21 ?_
      refine lv_fcmp hx hb dX0_warmest_22 ?_
      refine lv_if_le (tgt := 28) hx hb dX0_warmest_23 (by decide) (fun c23 => ?_) (fun c23 => ?_)
      · replace h := wx_ift c23 h
        exact b_X0_warmest_28 B ho (K4 := (f_X0_warmest_4 o n)) @ih h Z hS (lv_sub hl [0, 1, 2] rfl)
      · replace h := wx_iff c23 h
        refine lv_iload_n hx hb dX0_warmest_26 rfl (lv_at hl 2 rfl) ?_
        refine lv_istore_n (lv' := [(1, .int x2), (0, .ref (ad o 99)), (2, .int x2)]) hx hb dX0_warmest_27 rfl hl (by decide) rfl (fun ls hl => ?_)
        exact b_X0_warmest_28 B ho (K4 := (f_X0_warmest_4 o n)) @ih h Z hS (lv_sub hl [1, 0, 2] rfl)
set_option maxRecDepth 20000 in
set_option maxHeartbeats 4000000 in
theorem b_X0_warmest_0 (B : wx_B p s m args meth c cX0_warmest 3 (some .int) wsX0_warmest RX0 D ad ca A) {o : Nat}  (ho : o < 11) {r : Int32} {σ : wx_St}     (h : f_X0_warmest o σ = some r) {H : Heap} {locs : List Loc} (Z : wx_Z D ad rd ca A σ H) (hS : va_S A s.heap H locs) {ls : Array Slot} (hl : lv_has ls 3 [(0, .ref (ad o 99))]) : W p l e ({ frames := 0, cells := 0, slots := 0, locals := 0 } : Room) s m args below meth c H locs 0 0 (MQ below (wx_Q D ad rd ca A (some (.int r)) σ) args s 0 0 A) (F0 m 0 ls []) := by
  obtain ⟨hx, hb, hml, hr, hts, hown, hlk, hC, hA⟩ := id B
  unfold f_X0_warmest at h
  refine lv_iconst (v := 0) hx hb dX0_warmest_0 (by decide) ?_
  refine lv_istore_n (lv' := [(1, .int 0), (0, .ref (ad o 99))]) hx hb dX0_warmest_1 rfl hl (by decide) rfl (fun ls hl => ?_)
  refine lv_iconst (v := 1) hx hb dX0_warmest_2 (by decide) ?_
  refine lv_istore_n (lv' := [(2, .int 1), (1, .int 0), (0, .ref (ad o 99))]) hx hb dX0_warmest_3 rfl hl (by decide) rfl (fun ls hl => ?_)
  exact b_X0_warmest_4 B ho h Z hS (lv_sub hl [2, 1, 0] rfl)
set_option maxRecDepth 20000 in
theorem c_X0_warmest (l : Launch) {D : va_G} {ad : Nat → Nat → Nat} {rd : Nat → Nat} {ca : Nat → ClassId} {A : Nat → Prop} {σ : wx_St} {o : Nat}  (ho : o < 11)  {r : Int32} (h : f_X0_warmest o σ = some r) : wx_M l yX0_warmest wsX0_warmest 0 0 D ad rd ca A [.ref (ad o 99)] σ (some (.int r)) σ := by
  refine Met.ofW (cc := cX0_warmest) (maxL := 3) (ret := (some .int)) (by decide +kernel) rfl ?_
  intro p e s m args below meth c s₁ B0 hml hv
  obtain ⟨rfl, hC, Z, hA⟩ := hv
  have hl := lv_entry ([.ref (ad o 99)]) (n := 3) (Nat.le_of_ble_eq_true rfl)
  rw [lg_entry_eq]
  generalize (lg_sl ([.ref (ad o 99)]) ++ List.replicate (3 - (lg_sl ([.ref (ad o 99)])).length) Slot.unset).toArray = ls at hl ⊢
  exact b_X0_warmest_0 ⟨B0.exec, B0.bytes, hml, B0.returns, atoms_spec (ws := wsX0_warmest) B0.pre, findClass_of_methodNamed B0.named, B0.notSynchronized, hC, hA⟩ ho  h Z va_S.rf hl
set_option maxRecDepth 20000 in
set_option maxHeartbeats 4000000 in
theorem m_X4_fitting_29 {b1 : Nat} {r : Int64} {σ' : wx_St} {K5 : Int64 → Int32 → wx_St → Option (Int64 × wx_St)} (mK5 : ∀ {x2 : Int64} {x4 : Int32} {σ : wx_St}, K5 x2 x4 σ = some (r, σ') → wx_n σ.2.2.2.2 ≤ wx_n σ'.2.2.2.2) {x2 : Int64} {x4 : Int32} {σ : wx_St} (h : f_X4_fitting_29 b1 K5 x2 x4 σ = some (r, σ')) : wx_n σ.2.2.2.2 ≤ wx_n σ'.2.2.2.2 := by
  unfold f_X4_fitting_29 at h
  exact mK5 h
set_option maxRecDepth 20000 in
set_option maxHeartbeats 4000000 in
theorem b_X4_fitting_29 (B : wx_B p s m args meth c cX4_fitting 5 (some .long) wsX4_fitting RX4 D ad ca A) {b1 : Nat}  (hb1 : b1 < 11) {r : Int64} {σ' : wx_St} {mc : Nat} {K5 : Int64 → Int32 → wx_St → Option (Int64 × wx_St)} (hK5 : ∀ {x2 : Int64} {x4 : Int32} {σ : wx_St} {k : Nat} (hk : k + wx_n σ'.2.2.2.2 ≤ mc + wx_n σ.2.2.2.2)  (h : K5 x2 x4 σ = some (r, σ')) {rd : Nat → Nat} {H : Heap} {locs : List Loc} (Z : wx_Z D ad rd ca A σ H) (hS : va_S A s.heap H locs) {ls : Array Slot} (hl : lv_has ls 5 [(0, .ref (ad 12 99)), (1, .ref (ad b1 99)), (2, .long x2), (4, .int x4)]), W p l e ({ frames := 5, cells := mc, slots := 6464 * mc, locals := 128 } : Room) s m args below meth c H locs k (6464 * k) (MQ below (wx_QA D ad ca A (some (.long r)) σ') args s mc (6464 * mc) A) (F0 m 5 ls [])) (mK5 : ∀ {x2 : Int64} {x4 : Int32} {σ : wx_St}, K5 x2 x4 σ = some (r, σ') → wx_n σ.2.2.2.2 ≤ wx_n σ'.2.2.2.2) {x2 : Int64} {x4 : Int32} {σ : wx_St} {k : Nat} (hk : k + wx_n σ'.2.2.2.2 ≤ mc + wx_n σ.2.2.2.2)  (h : f_X4_fitting_29 b1 K5 x2 x4 σ = some (r, σ')) {rd : Nat → Nat} {H : Heap} {locs : List Loc} (Z : wx_Z D ad rd ca A σ H) (hS : va_S A s.heap H locs) {ls : Array Slot} (hl : lv_has ls 5 [(0, .ref (ad 12 99)), (1, .ref (ad b1 99)), (2, .long x2), (4, .int x4)]) : W p l e ({ frames := 5, cells := mc, slots := 6464 * mc, locals := 128 } : Room) s m args below meth c H locs k (6464 * k) (MQ below (wx_QA D ad ca A (some (.long r)) σ') args s mc (6464 * mc) A) (F0 m 29 ls []) := by
  obtain ⟨hx, hb, hml, hr, hts, hown, hlk, hC, hA⟩ := id B
  have hm := m_X4_fitting_29 (K5 := K5) @mK5 h
  unfold f_X4_fitting_29 at h
  refine lv_iinc (v := x4 + 1) (lv' := [(4, .int (x4 + 1)), (0, .ref (ad 12 99)), (1, .ref (ad b1 99)), (2, .long x2)]) hx hb dX4_fitting_29 hl (k := 3) rfl rfl (by decide) rfl (fun ls hl => ?_)
  refine lv_goto (tgt := 5) hx hb dX4_fitting_32 (by decide) ?_
  exact hK5 (k := k) hk h Z hS (lv_sub hl [1, 2, 3, 0] rfl)
set_option maxRecDepth 20000 in
set_option maxHeartbeats 4000000 in
theorem m_X4_fitting_19 {b1 : Nat} {r : Int64} {σ' : wx_St} {K5 : Int64 → Int32 → wx_St → Option (Int64 × wx_St)} (mK5 : ∀ {x2 : Int64} {x4 : Int32} {σ : wx_St}, K5 x2 x4 σ = some (r, σ') → wx_n σ.2.2.2.2 ≤ wx_n σ'.2.2.2.2) {x2 : Int64} {x4 : Int32} {y0 : Int32} {σ : wx_St} (h : f_X4_fitting_19 b1 K5 x2 x4 y0 σ = some (r, σ')) : wx_n σ.2.2.2.2 ≤ wx_n σ'.2.2.2.2 := by
  unfold f_X4_fitting_19 at h
  by_cases c19 : y0 = 0
  · replace h := wx_ift c19 h
    exact m_X4_fitting_29 (K5 := K5) @mK5 h
  · replace h := wx_iff c19 h
    exact m_X4_fitting_29 (K5 := K5) @mK5 h
set_option maxRecDepth 20000 in
set_option maxHeartbeats 4000000 in
theorem b_X4_fitting_19 (B : wx_B p s m args meth c cX4_fitting 5 (some .long) wsX4_fitting RX4 D ad ca A) {b1 : Nat}  (hb1 : b1 < 11) {r : Int64} {σ' : wx_St} {mc : Nat} {K5 : Int64 → Int32 → wx_St → Option (Int64 × wx_St)} (hK5 : ∀ {x2 : Int64} {x4 : Int32} {σ : wx_St} {k : Nat} (hk : k + wx_n σ'.2.2.2.2 ≤ mc + wx_n σ.2.2.2.2)  (h : K5 x2 x4 σ = some (r, σ')) {rd : Nat → Nat} {H : Heap} {locs : List Loc} (Z : wx_Z D ad rd ca A σ H) (hS : va_S A s.heap H locs) {ls : Array Slot} (hl : lv_has ls 5 [(0, .ref (ad 12 99)), (1, .ref (ad b1 99)), (2, .long x2), (4, .int x4)]), W p l e ({ frames := 5, cells := mc, slots := 6464 * mc, locals := 128 } : Room) s m args below meth c H locs k (6464 * k) (MQ below (wx_QA D ad ca A (some (.long r)) σ') args s mc (6464 * mc) A) (F0 m 5 ls [])) (mK5 : ∀ {x2 : Int64} {x4 : Int32} {σ : wx_St}, K5 x2 x4 σ = some (r, σ') → wx_n σ.2.2.2.2 ≤ wx_n σ'.2.2.2.2) {x2 : Int64} {x4 : Int32} {y0 : Int32} {σ : wx_St} {k : Nat} (hk : k + wx_n σ'.2.2.2.2 ≤ mc + wx_n σ.2.2.2.2)  (h : f_X4_fitting_19 b1 K5 x2 x4 y0 σ = some (r, σ')) {rd : Nat → Nat} {H : Heap} {locs : List Loc} (Z : wx_Z D ad rd ca A σ H) (hS : va_S A s.heap H locs) {ls : Array Slot} (hl : lv_has ls 5 [(0, .ref (ad 12 99)), (1, .ref (ad b1 99)), (2, .long x2), (4, .int x4)]) : W p l e ({ frames := 5, cells := mc, slots := 6464 * mc, locals := 128 } : Room) s m args below meth c H locs k (6464 * k) (MQ below (wx_QA D ad ca A (some (.long r)) σ') args s mc (6464 * mc) A) (F0 m 19 ls [.int y0]) := by
  obtain ⟨hx, hb, hml, hr, hts, hown, hlk, hC, hA⟩ := id B
  have hm := m_X4_fitting_19 (K5 := K5) @mK5 h
  unfold f_X4_fitting_19 at h
  refine lv_if_eq (tgt := 29) hx hb dX4_fitting_19 (by decide) (fun c19 => ?_) (fun c19 => ?_)
  · replace h := wx_ift c19 h
    exact b_X4_fitting_29 B hb1 (K5 := K5) @hK5 @mK5 (k := k) hk h Z hS (lv_sub hl [0, 1, 2, 3] rfl)
  · replace h := wx_iff c19 h
    refine lv_lload_n hx hb dX4_fitting_22 rfl (lv_at hl 2 rfl) ?_
    refine lv_lconst (v := 1) hx hb dX4_fitting_23 (by decide) ?_
    refine lv_iload hx hb dX4_fitting_24 (lv_at hl 3 rfl) ?_
    refine lv_lshl (v := ((1 : Int64) <<< (x4.toInt64 &&& 63))) hx hb dX4_fitting_26 rfl ?_
    refine lv_lor hx hb dX4_fitting_27 ?_
    refine lv_lstore_n (lv' := [(2, .long (x2 ||| ((1 : Int64) <<< (x4.toInt64 &&& 63)))), (0, .ref (ad 12 99)), (1, .ref (ad b1 99)), (4, .int x4)]) hx hb dX4_fitting_28 rfl hl (by decide) rfl (fun ls hl => ?_)
    exact b_X4_fitting_29 B hb1 (K5 := K5) @hK5 @mK5 (k := k) hk h Z hS (lv_sub hl [1, 2, 0, 3] rfl)
set_option maxRecDepth 20000 in
set_option maxHeartbeats 4000000 in
theorem m_X4_fitting_5 {b1 : Nat} {r : Int64} {σ' : wx_St}  :
    ∀ {n : Nat} {x2 : Int64} {x4 : Int32} {σ : wx_St} (h : f_X4_fitting_5 b1 n x2 x4 σ = some (r, σ')), wx_n σ.2.2.2.2 ≤ wx_n σ'.2.2.2.2 := by
  intro n
  induction n with
  | zero => intro x2 x4 σ h; exact wx_no h
  | succ n ih =>
    intro x2 x4 σ h
    rw [f_X4_fitting_5] at h
    by_cases c9 : 64 ≤ x4
    · replace h := wx_ift c9 h
      obtain ⟨rfl, rfl⟩ := wx_ret_ok h
      exact Nat.le_refl _
    · replace h := wx_iff c9 h
      obtain ⟨v16, σ16, hc16, h⟩ := wx_b_ok h
      refine Nat.le_trans (m_X4_couldBe_0 hc16) ?_
      exact m_X4_fitting_19 (K5 := (f_X4_fitting_5 b1 n)) @ih h
set_option maxRecDepth 20000 in
set_option maxHeartbeats 4000000 in
theorem b_X4_fitting_5 (B : wx_B p s m args meth c cX4_fitting 5 (some .long) wsX4_fitting RX4 D ad ca A) {b1 : Nat}  (hb1 : b1 < 11) {r : Int64} {σ' : wx_St} {mc : Nat}   :
    ∀ {n : Nat} {x2 : Int64} {x4 : Int32} {σ : wx_St} {k : Nat} (hk : k + wx_n σ'.2.2.2.2 ≤ mc + wx_n σ.2.2.2.2)  (h : f_X4_fitting_5 b1 n x2 x4 σ = some (r, σ')) {rd : Nat → Nat} {H : Heap} {locs : List Loc} (Z : wx_Z D ad rd ca A σ H) (hS : va_S A s.heap H locs) {ls : Array Slot} (hl : lv_has ls 5 [(0, .ref (ad 12 99)), (1, .ref (ad b1 99)), (2, .long x2), (4, .int x4)]), W p l e ({ frames := 5, cells := mc, slots := 6464 * mc, locals := 128 } : Room) s m args below meth c H locs k (6464 * k) (MQ below (wx_QA D ad ca A (some (.long r)) σ') args s mc (6464 * mc) A) (F0 m 5 ls []) := by
  obtain ⟨hx, hb, hml, hr, hts, hown, hlk, hC, hA⟩ := id B
  intro n
  induction n with
  | zero => intro x2 x4 σ k hk  h rd H locs Z hS ls hl; exact wx_no h
  | succ n ih =>
    intro x2 x4 σ k hk  h rd H locs Z hS ls hl
    have hm := m_X4_fitting_5 h
    have mih : ∀ {x2 : Int64} {x4 : Int32} {σ : wx_St}, f_X4_fitting_5 b1 n x2 x4 σ = some (r, σ') → wx_n σ.2.2.2.2 ≤ wx_n σ'.2.2.2.2 := fun h => m_X4_fitting_5 h
    rw [f_X4_fitting_5] at h
    refine lv_iload hx hb dX4_fitting_5 (lv_at hl 3 rfl) ?_
    refine lv_bipush (v := 64) hx hb dX4_fitting_7 (by decide) ?_
    refine lv_icmp_ge (tgt := 35) hx hb dX4_fitting_9 (by decide) (fun c9 => ?_) (fun c9 => ?_)
    · replace h := wx_ift c9 h
      refine lv_lload_n hx hb dX4_fitting_35 rfl (lv_at hl 2 rfl) ?_
      obtain ⟨rfl, rfl⟩ := wx_ret_ok h
      refine W.widen (k := mc) (n := 6464 * mc) (by omega) (by omega) ?_
      exact W.lret hx hb hr (fun t ht hW => ⟨rfl, ⟨_, by rw [ht]; exact Z⟩, hS.F ht⟩) hS.2.2 dX4_fitting_36
    · replace h := wx_iff c9 h
      refine lv_aload_n hx hb dX4_fitting_12 rfl (lv_at hl 0 rfl) ?_
      refine lv_aload_n hx hb dX4_fitting_13 rfl (lv_at hl 1 rfl) ?_
      refine lv_iload hx hb dX4_fitting_14 (lv_at hl 3 rfl) ?_
      obtain ⟨v16, σ16, hc16, h⟩ := wx_b_ok h
      have m1 := m_X4_couldBe_0 hc16
      have m2 := m_X4_fitting_19 (K5 := (f_X4_fitting_5 b1 n)) mih h
      refine wx_callA (va_runV (As := [.ref (ad b1 99), .int x4]) (rest := []) ⟨hx, hb, hml, hown, hts⟩ (c_X4_couldBe l (D := D) (ad := ad) (rd := rd) (ca := ca) (A := A) (σ := σ) (b1 := b1) hb1 hc16) (cwV 2 hts gX4_fitting_X4_couldBe rfl rfl rfl (by decide +kernel) ⟨Nat.le_of_ble_eq_true rfl, Nat.le_of_ble_eq_true rfl⟩) (wx_preV hC Z hS hA rfl (rfl : vwCl[4]? = some (RX4, TX4, 2))) rfl rfl hl.1 rfl (lv_room (Nat.le_of_ble_eq_true rfl)) dX4_fitting_16 ⟨(by show k + (wx_n σ16.2.2.2.2 - wx_n σ.2.2.2.2) ≤ mc; omega), (by show 6464 * k + 6464 * (wx_n σ16.2.2.2.2 - wx_n σ.2.2.2.2) ≤ 6464 * mc; omega)⟩) hS (fun rd H locs Z hS => ?_)
      refine W.widen (k := k + (wx_n σ16.2.2.2.2 - wx_n σ.2.2.2.2)) (n := 6464 * (k + (wx_n σ16.2.2.2.2 - wx_n σ.2.2.2.2))) (Nat.le_refl _) (by omega) ?_
      exact b_X4_fitting_19 B hb1 (K5 := (f_X4_fitting_5 b1 n)) @ih mih (k := k + (wx_n σ16.2.2.2.2 - wx_n σ.2.2.2.2)) (by omega) h Z hS (lv_sub hl [0, 1, 2, 3] rfl)
set_option maxRecDepth 20000 in
set_option maxHeartbeats 4000000 in
theorem m_X4_fitting_0 {b1 : Nat} {r : Int64} {σ' : wx_St}   {σ : wx_St} (h : f_X4_fitting b1 σ = some (r, σ')) : wx_n σ.2.2.2.2 ≤ wx_n σ'.2.2.2.2 := by
  unfold f_X4_fitting at h
  exact m_X4_fitting_5 h
set_option maxRecDepth 20000 in
set_option maxHeartbeats 4000000 in
theorem b_X4_fitting_0 (B : wx_B p s m args meth c cX4_fitting 5 (some .long) wsX4_fitting RX4 D ad ca A) {b1 : Nat}  (hb1 : b1 < 11) {r : Int64} {σ' : wx_St} {mc : Nat}   {σ : wx_St} {k : Nat} (hk : k + wx_n σ'.2.2.2.2 ≤ mc + wx_n σ.2.2.2.2)  (h : f_X4_fitting b1 σ = some (r, σ')) {rd : Nat → Nat} {H : Heap} {locs : List Loc} (Z : wx_Z D ad rd ca A σ H) (hS : va_S A s.heap H locs) {ls : Array Slot} (hl : lv_has ls 5 [(0, .ref (ad 12 99)), (1, .ref (ad b1 99))]) : W p l e ({ frames := 5, cells := mc, slots := 6464 * mc, locals := 128 } : Room) s m args below meth c H locs k (6464 * k) (MQ below (wx_QA D ad ca A (some (.long r)) σ') args s mc (6464 * mc) A) (F0 m 0 ls []) := by
  obtain ⟨hx, hb, hml, hr, hts, hown, hlk, hC, hA⟩ := id B
  have hm := m_X4_fitting_0 h
  unfold f_X4_fitting at h
  refine lv_lconst (v := 0) hx hb dX4_fitting_0 (by decide) ?_
  refine lv_lstore_n (lv' := [(2, .long (0 : Int64)), (0, .ref (ad 12 99)), (1, .ref (ad b1 99))]) hx hb dX4_fitting_1 rfl hl (by decide) rfl (fun ls hl => ?_)
  refine lv_iconst (v := 0) hx hb dX4_fitting_2 (by decide) ?_
  refine lv_istore (lv' := [(4, .int 0), (2, .long (0 : Int64)), (0, .ref (ad 12 99)), (1, .ref (ad b1 99))]) hx hb dX4_fitting_3 hl (by decide) rfl (fun ls hl => ?_)
  exact b_X4_fitting_5 B hb1 (k := k) hk h Z hS (lv_sub hl [2, 3, 1, 0] rfl)
set_option maxRecDepth 20000 in
theorem c_X4_fitting (l : Launch) {D : va_G} {ad : Nat → Nat → Nat} {rd : Nat → Nat} {ca : Nat → ClassId} {A : Nat → Prop} {σ : wx_St} {b1 : Nat}  (hb1 : b1 < 11)  {r : Int64} {σ' : wx_St} (h : f_X4_fitting b1 σ = some (r, σ')) : wx_MA l yX4_fitting wsX4_fitting 5 128 D ad rd ca A [.ref (ad 12 99), .ref (ad b1 99)] σ (some (.long r)) σ' := by
  refine Met.ofW (cc := cX4_fitting) (maxL := 5) (ret := (some .long)) (by decide +kernel) rfl ?_
  intro p e s m args below meth c s₁ B0 hml hv
  obtain ⟨rfl, hC, Z, hA⟩ := hv
  have hl := lv_entry ([.ref (ad 12 99), .ref (ad b1 99)]) (n := 5) (Nat.le_of_ble_eq_true rfl)
  rw [lg_entry_eq]
  generalize (lg_sl ([.ref (ad 12 99), .ref (ad b1 99)]) ++ List.replicate (5 - (lg_sl ([.ref (ad 12 99), .ref (ad b1 99)])).length) Slot.unset).toArray = ls at hl ⊢
  exact b_X4_fitting_0 ⟨B0.exec, B0.bytes, hml, B0.returns, atoms_spec (ws := wsX4_fitting) B0.pre, findClass_of_methodNamed B0.named, B0.notSynchronized, hC, hA⟩ hb1 (k := 0) (by have hm := m_X4_fitting_0 h; omega) h Z va_S.rf hl
theorem k_X4_pairs_w0 : Cond.initialized RX0 ∈ wsX4_pairs := by decide +kernel
theorem k_X4_pairs_w1 : Cond.instanceMethod yX0_suspects ∈ wsX4_pairs := by decide +kernel
theorem k_X4_pairs_w2 : Cond.selects RX0 yX0_suspects yX0_suspects ∈ wsX4_pairs := by decide +kernel
theorem k_X4_pairs_w3 : Cond.initialized RX5 ∈ wsX4_pairs := by decide +kernel
theorem k_X4_pairs_w4 : Cond.static yX5_isIn ∈ wsX4_pairs := by decide +kernel
set_option maxRecDepth 20000 in
set_option maxHeartbeats 4000000 in
theorem m_X4_pairs_64 {b1 : Nat} {r : Int32} {σ' : wx_St} {K11 : Int64 → Int32 → Int32 → wx_St → Option (Int32 × wx_St)} (mK11 : ∀ {x2 : Int64} {x4 : Int32} {x5 : Int32} {σ : wx_St}, K11 x2 x4 x5 σ = some (r, σ') → wx_n σ.2.2.2.2 ≤ wx_n σ'.2.2.2.2) {K24 : Int64 → Int32 → Int32 → Int32 → wx_St → Option (Int32 × wx_St)} (mK24 : ∀ {x2 : Int64} {x4 : Int32} {x5 : Int32} {x6 : Int32} {σ : wx_St}, K24 x2 x4 x5 x6 σ = some (r, σ') → wx_n σ.2.2.2.2 ≤ wx_n σ'.2.2.2.2) {x2 : Int64} {x4 : Int32} {x5 : Int32} {x6 : Int32} {σ : wx_St} (h : f_X4_pairs_64 b1 K11 K24 x2 x4 x5 x6 σ = some (r, σ')) : wx_n σ.2.2.2.2 ≤ wx_n σ'.2.2.2.2 := by
  unfold f_X4_pairs_64 at h
  exact mK24 h
set_option maxRecDepth 20000 in
set_option maxHeartbeats 4000000 in
theorem b_X4_pairs_64 (B : wx_B p s m args meth c cX4_pairs 7 (some .int) wsX4_pairs RX4 D ad ca A) {b1 : Nat}  (hb1 : b1 < 11) {r : Int32} {σ' : wx_St} {mc : Nat} {K11 : Int64 → Int32 → Int32 → wx_St → Option (Int32 × wx_St)} (hK11 : ∀ {x2 : Int64} {x4 : Int32} {x5 : Int32} {σ : wx_St} {k : Nat} (hk : k + wx_n σ'.2.2.2.2 ≤ mc + wx_n σ.2.2.2.2)  (h : K11 x2 x4 x5 σ = some (r, σ')) {rd : Nat → Nat} {H : Heap} {locs : List Loc} (Z : wx_Z D ad rd ca A σ H) (hS : va_S A s.heap H locs) {ls : Array Slot} (hl : lv_has ls 7 [(0, .ref (ad 12 99)), (1, .ref (ad b1 99)), (2, .long x2), (4, .int x4), (5, .int x5)]), W p l e ({ frames := 4, cells := mc, slots := 6464 * mc, locals := 106 } : Room) s m args below meth c H locs k (6464 * k) (MQ below (wx_QA D ad ca A (some (.int r)) σ') args s mc (6464 * mc) A) (F0 m 11 ls [])) (mK11 : ∀ {x2 : Int64} {x4 : Int32} {x5 : Int32} {σ : wx_St}, K11 x2 x4 x5 σ = some (r, σ') → wx_n σ.2.2.2.2 ≤ wx_n σ'.2.2.2.2) {K24 : Int64 → Int32 → Int32 → Int32 → wx_St → Option (Int32 × wx_St)} (hK24 : ∀ {x2 : Int64} {x4 : Int32} {x5 : Int32} {x6 : Int32} {σ : wx_St} {k : Nat} (hk : k + wx_n σ'.2.2.2.2 ≤ mc + wx_n σ.2.2.2.2)  (h : K24 x2 x4 x5 x6 σ = some (r, σ')) {rd : Nat → Nat} {H : Heap} {locs : List Loc} (Z : wx_Z D ad rd ca A σ H) (hS : va_S A s.heap H locs) {ls : Array Slot} (hl : lv_has ls 7 [(0, .ref (ad 12 99)), (1, .ref (ad b1 99)), (2, .long x2), (4, .int x4), (5, .int x5), (6, .int x6)]), W p l e ({ frames := 4, cells := mc, slots := 6464 * mc, locals := 106 } : Room) s m args below meth c H locs k (6464 * k) (MQ below (wx_QA D ad ca A (some (.int r)) σ') args s mc (6464 * mc) A) (F0 m 24 ls [])) (mK24 : ∀ {x2 : Int64} {x4 : Int32} {x5 : Int32} {x6 : Int32} {σ : wx_St}, K24 x2 x4 x5 x6 σ = some (r, σ') → wx_n σ.2.2.2.2 ≤ wx_n σ'.2.2.2.2) {x2 : Int64} {x4 : Int32} {x5 : Int32} {x6 : Int32} {σ : wx_St} {k : Nat} (hk : k + wx_n σ'.2.2.2.2 ≤ mc + wx_n σ.2.2.2.2)  (h : f_X4_pairs_64 b1 K11 K24 x2 x4 x5 x6 σ = some (r, σ')) {rd : Nat → Nat} {H : Heap} {locs : List Loc} (Z : wx_Z D ad rd ca A σ H) (hS : va_S A s.heap H locs) {ls : Array Slot} (hl : lv_has ls 7 [(0, .ref (ad 12 99)), (1, .ref (ad b1 99)), (2, .long x2), (4, .int x4), (5, .int x5), (6, .int x6)]) : W p l e ({ frames := 4, cells := mc, slots := 6464 * mc, locals := 106 } : Room) s m args below meth c H locs k (6464 * k) (MQ below (wx_QA D ad ca A (some (.int r)) σ') args s mc (6464 * mc) A) (F0 m 64 ls []) := by
  obtain ⟨hx, hb, hml, hr, hts, hown, hlk, hC, hA⟩ := id B
  have hm := m_X4_pairs_64 (K11 := K11) @mK11 (K24 := K24) @mK24 h
  unfold f_X4_pairs_64 at h
  refine lv_iinc (v := x6 + 1) (lv' := [(6, .int (x6 + 1)), (0, .ref (ad 12 99)), (1, .ref (ad b1 99)), (2, .long x2), (4, .int x4), (5, .int x5)]) hx hb dX4_pairs_64 hl (k := 5) rfl rfl (by decide) rfl (fun ls hl => ?_)
  refine lv_goto (tgt := 24) hx hb dX4_pairs_67 (by decide) ?_
  exact hK24 (k := k) hk h Z hS (lv_sub hl [1, 2, 3, 4, 5, 0] rfl)
set_option maxRecDepth 20000 in
set_option maxHeartbeats 4000000 in
theorem m_X4_pairs_58 {b1 : Nat} {r : Int32} {σ' : wx_St} {K11 : Int64 → Int32 → Int32 → wx_St → Option (Int32 × wx_St)} (mK11 : ∀ {x2 : Int64} {x4 : Int32} {x5 : Int32} {σ : wx_St}, K11 x2 x4 x5 σ = some (r, σ') → wx_n σ.2.2.2.2 ≤ wx_n σ'.2.2.2.2) {K24 : Int64 → Int32 → Int32 → Int32 → wx_St → Option (Int32 × wx_St)} (mK24 : ∀ {x2 : Int64} {x4 : Int32} {x5 : Int32} {x6 : Int32} {σ : wx_St}, K24 x2 x4 x5 x6 σ = some (r, σ') → wx_n σ.2.2.2.2 ≤ wx_n σ'.2.2.2.2) {x2 : Int64} {x4 : Int32} {x5 : Int32} {x6 : Int32} {y0 : Int32} {σ : wx_St} (h : f_X4_pairs_58 b1 K11 K24 x2 x4 x5 x6 y0 σ = some (r, σ')) : wx_n σ.2.2.2.2 ≤ wx_n σ'.2.2.2.2 := by
  unfold f_X4_pairs_58 at h
  by_cases c58 : y0 = 0
  · replace h := wx_ift c58 h
    exact m_X4_pairs_64 (K11 := K11) @mK11 (K24 := K24) @mK24 h
  · replace h := wx_iff c58 h
    exact m_X4_pairs_64 (K11 := K11) @mK11 (K24 := K24) @mK24 h
set_option maxRecDepth 20000 in
set_option maxHeartbeats 4000000 in
theorem b_X4_pairs_58 (B : wx_B p s m args meth c cX4_pairs 7 (some .int) wsX4_pairs RX4 D ad ca A) {b1 : Nat}  (hb1 : b1 < 11) {r : Int32} {σ' : wx_St} {mc : Nat} {K11 : Int64 → Int32 → Int32 → wx_St → Option (Int32 × wx_St)} (hK11 : ∀ {x2 : Int64} {x4 : Int32} {x5 : Int32} {σ : wx_St} {k : Nat} (hk : k + wx_n σ'.2.2.2.2 ≤ mc + wx_n σ.2.2.2.2)  (h : K11 x2 x4 x5 σ = some (r, σ')) {rd : Nat → Nat} {H : Heap} {locs : List Loc} (Z : wx_Z D ad rd ca A σ H) (hS : va_S A s.heap H locs) {ls : Array Slot} (hl : lv_has ls 7 [(0, .ref (ad 12 99)), (1, .ref (ad b1 99)), (2, .long x2), (4, .int x4), (5, .int x5)]), W p l e ({ frames := 4, cells := mc, slots := 6464 * mc, locals := 106 } : Room) s m args below meth c H locs k (6464 * k) (MQ below (wx_QA D ad ca A (some (.int r)) σ') args s mc (6464 * mc) A) (F0 m 11 ls [])) (mK11 : ∀ {x2 : Int64} {x4 : Int32} {x5 : Int32} {σ : wx_St}, K11 x2 x4 x5 σ = some (r, σ') → wx_n σ.2.2.2.2 ≤ wx_n σ'.2.2.2.2) {K24 : Int64 → Int32 → Int32 → Int32 → wx_St → Option (Int32 × wx_St)} (hK24 : ∀ {x2 : Int64} {x4 : Int32} {x5 : Int32} {x6 : Int32} {σ : wx_St} {k : Nat} (hk : k + wx_n σ'.2.2.2.2 ≤ mc + wx_n σ.2.2.2.2)  (h : K24 x2 x4 x5 x6 σ = some (r, σ')) {rd : Nat → Nat} {H : Heap} {locs : List Loc} (Z : wx_Z D ad rd ca A σ H) (hS : va_S A s.heap H locs) {ls : Array Slot} (hl : lv_has ls 7 [(0, .ref (ad 12 99)), (1, .ref (ad b1 99)), (2, .long x2), (4, .int x4), (5, .int x5), (6, .int x6)]), W p l e ({ frames := 4, cells := mc, slots := 6464 * mc, locals := 106 } : Room) s m args below meth c H locs k (6464 * k) (MQ below (wx_QA D ad ca A (some (.int r)) σ') args s mc (6464 * mc) A) (F0 m 24 ls [])) (mK24 : ∀ {x2 : Int64} {x4 : Int32} {x5 : Int32} {x6 : Int32} {σ : wx_St}, K24 x2 x4 x5 x6 σ = some (r, σ') → wx_n σ.2.2.2.2 ≤ wx_n σ'.2.2.2.2) {x2 : Int64} {x4 : Int32} {x5 : Int32} {x6 : Int32} {y0 : Int32} {σ : wx_St} {k : Nat} (hk : k + wx_n σ'.2.2.2.2 ≤ mc + wx_n σ.2.2.2.2)  (h : f_X4_pairs_58 b1 K11 K24 x2 x4 x5 x6 y0 σ = some (r, σ')) {rd : Nat → Nat} {H : Heap} {locs : List Loc} (Z : wx_Z D ad rd ca A σ H) (hS : va_S A s.heap H locs) {ls : Array Slot} (hl : lv_has ls 7 [(0, .ref (ad 12 99)), (1, .ref (ad b1 99)), (2, .long x2), (4, .int x4), (5, .int x5), (6, .int x6)]) : W p l e ({ frames := 4, cells := mc, slots := 6464 * mc, locals := 106 } : Room) s m args below meth c H locs k (6464 * k) (MQ below (wx_QA D ad ca A (some (.int r)) σ') args s mc (6464 * mc) A) (F0 m 58 ls [.int y0]) := by
  obtain ⟨hx, hb, hml, hr, hts, hown, hlk, hC, hA⟩ := id B
  have hm := m_X4_pairs_58 (K11 := K11) @mK11 (K24 := K24) @mK24 h
  unfold f_X4_pairs_58 at h
  refine lv_if_eq (tgt := 64) hx hb dX4_pairs_58 (by decide) (fun c58 => ?_) (fun c58 => ?_)
  · replace h := wx_ift c58 h
    exact b_X4_pairs_64 B hb1 (K11 := K11) @hK11 @mK11 (K24 := K24) @hK24 @mK24 (k := k) hk h Z hS (lv_sub hl [0, 1, 2, 3, 4, 5] rfl)
  · replace h := wx_iff c58 h
    refine lv_iinc (v := x4 + 1) (lv' := [(4, .int (x4 + 1)), (0, .ref (ad 12 99)), (1, .ref (ad b1 99)), (2, .long x2), (5, .int x5), (6, .int x6)]) hx hb dX4_pairs_61 hl (k := 3) rfl rfl (by decide) rfl (fun ls hl => ?_)
    exact b_X4_pairs_64 B hb1 (K11 := K11) @hK11 @mK11 (K24 := K24) @hK24 @mK24 (k := k) hk h Z hS (lv_sub hl [1, 2, 3, 0, 4, 5] rfl)
set_option maxRecDepth 20000 in
set_option maxHeartbeats 4000000 in
theorem m_X4_pairs_24 {b1 : Nat} {r : Int32} {σ' : wx_St} {K11 : Int64 → Int32 → Int32 → wx_St → Option (Int32 × wx_St)} (mK11 : ∀ {x2 : Int64} {x4 : Int32} {x5 : Int32} {σ : wx_St}, K11 x2 x4 x5 σ = some (r, σ') → wx_n σ.2.2.2.2 ≤ wx_n σ'.2.2.2.2) :
    ∀ {n : Nat} {x2 : Int64} {x4 : Int32} {x5 : Int32} {x6 : Int32} {σ : wx_St} (h : f_X4_pairs_24 b1 K11 n x2 x4 x5 x6 σ = some (r, σ')), wx_n σ.2.2.2.2 ≤ wx_n σ'.2.2.2.2 := by
  intro n
  induction n with
  | zero => intro x2 x4 x5 x6 σ h; exact wx_no h
  | succ n ih =>
    intro x2 x4 x5 x6 σ h
    rw [f_X4_pairs_24] at h
    by_cases c28 : 64 ≤ x6
    · replace h := wx_ift c28 h
      exact mK11 h
    · replace h := wx_iff c28 h
      obtain ⟨v34, hc34, h⟩ := wx_o_ok h
      by_cases c37 : v34 = 0
      · replace h := wx_ift c37 h
        exact m_X4_pairs_64 (K11 := K11) @mK11 (K24 := (f_X4_pairs_24 b1 K11 n)) @ih h
      · replace h := wx_iff c37 h
        obtain ⟨v43, hc43, h⟩ := wx_o_ok h
        by_cases c46 : v43 = 0
        · replace h := wx_ift c46 h
          exact m_X4_pairs_64 (K11 := K11) @mK11 (K24 := (f_X4_pairs_24 b1 K11 n)) @ih h
        · replace h := wx_iff c46 h
          obtain ⟨v55, σ55, hc55, h⟩ := wx_b_ok h
          refine Nat.le_trans (m_X4_fits_0 hc55) ?_
          exact m_X4_pairs_58 (K11 := K11) @mK11 (K24 := (f_X4_pairs_24 b1 K11 n)) @ih h
set_option maxRecDepth 20000 in
set_option maxHeartbeats 4000000 in
theorem b_X4_pairs_24 (B : wx_B p s m args meth c cX4_pairs 7 (some .int) wsX4_pairs RX4 D ad ca A) {b1 : Nat}  (hb1 : b1 < 11) {r : Int32} {σ' : wx_St} {mc : Nat} {K11 : Int64 → Int32 → Int32 → wx_St → Option (Int32 × wx_St)} (hK11 : ∀ {x2 : Int64} {x4 : Int32} {x5 : Int32} {σ : wx_St} {k : Nat} (hk : k + wx_n σ'.2.2.2.2 ≤ mc + wx_n σ.2.2.2.2)  (h : K11 x2 x4 x5 σ = some (r, σ')) {rd : Nat → Nat} {H : Heap} {locs : List Loc} (Z : wx_Z D ad rd ca A σ H) (hS : va_S A s.heap H locs) {ls : Array Slot} (hl : lv_has ls 7 [(0, .ref (ad 12 99)), (1, .ref (ad b1 99)), (2, .long x2), (4, .int x4), (5, .int x5)]), W p l e ({ frames := 4, cells := mc, slots := 6464 * mc, locals := 106 } : Room) s m args below meth c H locs k (6464 * k) (MQ below (wx_QA D ad ca A (some (.int r)) σ') args s mc (6464 * mc) A) (F0 m 11 ls [])) (mK11 : ∀ {x2 : Int64} {x4 : Int32} {x5 : Int32} {σ : wx_St}, K11 x2 x4 x5 σ = some (r, σ') → wx_n σ.2.2.2.2 ≤ wx_n σ'.2.2.2.2)  :
    ∀ {n : Nat} {x2 : Int64} {x4 : Int32} {x5 : Int32} {x6 : Int32} {σ : wx_St} {k : Nat} (hk : k + wx_n σ'.2.2.2.2 ≤ mc + wx_n σ.2.2.2.2)  (h : f_X4_pairs_24 b1 K11 n x2 x4 x5 x6 σ = some (r, σ')) {rd : Nat → Nat} {H : Heap} {locs : List Loc} (Z : wx_Z D ad rd ca A σ H) (hS : va_S A s.heap H locs) {ls : Array Slot} (hl : lv_has ls 7 [(0, .ref (ad 12 99)), (1, .ref (ad b1 99)), (2, .long x2), (4, .int x4), (5, .int x5), (6, .int x6)]), W p l e ({ frames := 4, cells := mc, slots := 6464 * mc, locals := 106 } : Room) s m args below meth c H locs k (6464 * k) (MQ below (wx_QA D ad ca A (some (.int r)) σ') args s mc (6464 * mc) A) (F0 m 24 ls []) := by
  obtain ⟨hx, hb, hml, hr, hts, hown, hlk, hC, hA⟩ := id B
  intro n
  induction n with
  | zero => intro x2 x4 x5 x6 σ k hk  h rd H locs Z hS ls hl; exact wx_no h
  | succ n ih =>
    intro x2 x4 x5 x6 σ k hk  h rd H locs Z hS ls hl
    have hm := m_X4_pairs_24 (K11 := K11) @mK11 h
    have mih : ∀ {x2 : Int64} {x4 : Int32} {x5 : Int32} {x6 : Int32} {σ : wx_St}, f_X4_pairs_24 b1 K11 n x2 x4 x5 x6 σ = some (r, σ') → wx_n σ.2.2.2.2 ≤ wx_n σ'.2.2.2.2 := fun h => m_X4_pairs_24 (K11 := K11) @mK11 h
    rw [f_X4_pairs_24] at h
    refine lv_iload hx hb dX4_pairs_24 (lv_at hl 5 rfl) ?_
    refine lv_bipush (v := 64) hx hb dX4_pairs_26 (by decide) ?_
    refine lv_icmp_ge (tgt := 70) hx hb dX4_pairs_28 (by decide) (fun c28 => ?_) (fun c28 => ?_)
    · replace h := wx_ift c28 h
      refine lv_iinc (v := x5 + 1) (lv' := [(5, .int (x5 + 1)), (0, .ref (ad 12 99)), (1, .ref (ad b1 99)), (2, .long x2), (4, .int x4), (6, .int x6)]) hx hb dX4_pairs_70 hl (k := 4) rfl rfl (by decide) rfl (fun ls hl => ?_)
      refine lv_goto (tgt := 11) hx hb dX4_pairs_73 (by decide) ?_
      exact hK11 (k := k) hk h Z hS (lv_sub hl [1, 2, 3, 4, 0] rfl)
    · replace h := wx_iff c28 h
      refine lv_lload_n hx hb dX4_pairs_31 rfl (lv_at hl 2 rfl) ?_
      refine lv_iload hx hb dX4_pairs_32 (lv_at hl 4 rfl) ?_
      obtain ⟨v34, hc34, h⟩ := wx_o_ok h
      refine wx_call (va_runSN (As := [.long x2, .int x5]) (rest := []) ⟨hx, hb, hml, hown, hts⟩ (c_X5_isIn l (D := D) (ad := ad) (rd := rd) (ca := ca) (A := A) (σ := σ) hc34) ⟨va_cnB 2 hts gX4_pairs_X5_isIn_n40 rfl rfl rfl (hC.1.2.1 _ (List.mem_of_getElem? (i := 64) rfl)) (hts _ k_X4_pairs_w3) (by decide +kernel) ⟨Nat.le_of_ble_eq_true rfl, Nat.le_of_ble_eq_true rfl⟩, hts _ k_X4_pairs_w4, trivial⟩ (wx_preS hC Z hS hA) rfl rfl hl.1 rfl (lv_room (Nat.le_of_ble_eq_true rfl)) dX4_pairs_34 ⟨(by show k + 0 ≤ mc; omega), (by show 6464 * k + 0 ≤ 6464 * mc; omega)⟩) hS (fun H locs Z hS => ?_)
      refine lv_if_eq (tgt := 64) hx hb dX4_pairs_37 (by decide) (fun c37 => ?_) (fun c37 => ?_)
      · replace h := wx_ift c37 h
        exact b_X4_pairs_64 B hb1 (K11 := K11) @hK11 @mK11 (K24 := (f_X4_pairs_24 b1 K11 n)) @ih mih (k := k) hk h Z hS (lv_sub hl [0, 1, 2, 3, 4, 5] rfl)
      · replace h := wx_iff c37 h
        refine lv_lload_n hx hb dX4_pairs_40 rfl (lv_at hl 2 rfl) ?_
        refine lv_iload hx hb dX4_pairs_41 (lv_at hl 5 rfl) ?_
        obtain ⟨v43, hc43, h⟩ := wx_o_ok h
        refine wx_call (va_runSN (As := [.long x2, .int x6]) (rest := []) ⟨hx, hb, hml, hown, hts⟩ (c_X5_isIn l (D := D) (ad := ad) (rd := rd) (ca := ca) (A := A) (σ := σ) hc43) ⟨va_cnB 2 hts gX4_pairs_X5_isIn_n40 rfl rfl rfl (hC.1.2.1 _ (List.mem_of_getElem? (i := 64) rfl)) (hts _ k_X4_pairs_w3) (by decide +kernel) ⟨Nat.le_of_ble_eq_true rfl, Nat.le_of_ble_eq_true rfl⟩, hts _ k_X4_pairs_w4, trivial⟩ (wx_preS hC Z hS hA) rfl rfl hl.1 rfl (lv_room (Nat.le_of_ble_eq_true rfl)) dX4_pairs_43 ⟨(by show k + 0 ≤ mc; omega), (by show 6464 * k + 0 ≤ 6464 * mc; omega)⟩) hS (fun H locs Z hS => ?_)
        refine lv_if_eq (tgt := 64) hx hb dX4_pairs_46 (by decide) (fun c46 => ?_) (fun c46 => ?_)
        · replace h := wx_ift c46 h
          exact b_X4_pairs_64 B hb1 (K11 := K11) @hK11 @mK11 (K24 := (f_X4_pairs_24 b1 K11 n)) @ih mih (k := k) hk h Z hS (lv_sub hl [0, 1, 2, 3, 4, 5] rfl)
        · replace h := wx_iff c46 h
          refine lv_aload_n hx hb dX4_pairs_49 rfl (lv_at hl 0 rfl) ?_
          refine lv_aload_n hx hb dX4_pairs_50 rfl (lv_at hl 1 rfl) ?_
          refine lv_iload hx hb dX4_pairs_51 (lv_at hl 4 rfl) ?_
          refine lv_iload hx hb dX4_pairs_53 (lv_at hl 5 rfl) ?_
          obtain ⟨v55, σ55, hc55, h⟩ := wx_b_ok h
          have m1 := m_X4_fits_0 hc55
          have m2 := m_X4_pairs_58 (K11 := K11) @mK11 (K24 := (f_X4_pairs_24 b1 K11 n)) mih h
          refine wx_callA (va_runV (As := [.ref (ad b1 99), .int x5, .int x6]) (rest := []) ⟨hx, hb, hml, hown, hts⟩ (c_X4_fits l (D := D) (ad := ad) (rd := rd) (ca := ca) (A := A) (σ := σ) (b1 := b1) hb1 hc55) (cwV 3 hts gX4_pairs_X4_fits rfl rfl rfl (by decide +kernel) ⟨Nat.le_of_ble_eq_true rfl, Nat.le_of_ble_eq_true rfl⟩) (wx_preV hC Z hS hA rfl (rfl : vwCl[4]? = some (RX4, TX4, 2))) rfl rfl hl.1 rfl (lv_room (Nat.le_of_ble_eq_true rfl)) dX4_pairs_55 ⟨(by show k + (wx_n σ55.2.2.2.2 - wx_n σ.2.2.2.2) ≤ mc; omega), (by show 6464 * k + 6464 * (wx_n σ55.2.2.2.2 - wx_n σ.2.2.2.2) ≤ 6464 * mc; omega)⟩) hS (fun rd H locs Z hS => ?_)
          refine W.widen (k := k + (wx_n σ55.2.2.2.2 - wx_n σ.2.2.2.2)) (n := 6464 * (k + (wx_n σ55.2.2.2.2 - wx_n σ.2.2.2.2))) (Nat.le_refl _) (by omega) ?_
          exact b_X4_pairs_58 B hb1 (K11 := K11) @hK11 @mK11 (K24 := (f_X4_pairs_24 b1 K11 n)) @ih mih (k := k + (wx_n σ55.2.2.2.2 - wx_n σ.2.2.2.2)) (by omega) h Z hS (lv_sub hl [0, 1, 2, 3, 4, 5] rfl)
set_option maxRecDepth 20000 in
set_option maxHeartbeats 4000000 in
theorem m_X4_pairs_11 {b1 : Nat} {r : Int32} {σ' : wx_St}  :
    ∀ {n : Nat} {x2 : Int64} {x4 : Int32} {x5 : Int32} {σ : wx_St} (h : f_X4_pairs_11 b1 n x2 x4 x5 σ = some (r, σ')), wx_n σ.2.2.2.2 ≤ wx_n σ'.2.2.2.2 := by
  intro n
  induction n with
  | zero => intro x2 x4 x5 σ h; exact wx_no h
  | succ n ih =>
    intro x2 x4 x5 σ h
    rw [f_X4_pairs_11] at h
    by_cases c15 : 64 ≤ x5
    · replace h := wx_ift c15 h
      obtain ⟨rfl, rfl⟩ := wx_ret_ok h
      exact Nat.le_refl _
    · replace h := wx_iff c15 h
      exact m_X4_pairs_24 (K11 := (f_X4_pairs_11 b1 n)) @ih h
set_option maxRecDepth 20000 in
set_option maxHeartbeats 4000000 in
theorem b_X4_pairs_11 (B : wx_B p s m args meth c cX4_pairs 7 (some .int) wsX4_pairs RX4 D ad ca A) {b1 : Nat}  (hb1 : b1 < 11) {r : Int32} {σ' : wx_St} {mc : Nat}   :
    ∀ {n : Nat} {x2 : Int64} {x4 : Int32} {x5 : Int32} {σ : wx_St} {k : Nat} (hk : k + wx_n σ'.2.2.2.2 ≤ mc + wx_n σ.2.2.2.2)  (h : f_X4_pairs_11 b1 n x2 x4 x5 σ = some (r, σ')) {rd : Nat → Nat} {H : Heap} {locs : List Loc} (Z : wx_Z D ad rd ca A σ H) (hS : va_S A s.heap H locs) {ls : Array Slot} (hl : lv_has ls 7 [(0, .ref (ad 12 99)), (1, .ref (ad b1 99)), (2, .long x2), (4, .int x4), (5, .int x5)]), W p l e ({ frames := 4, cells := mc, slots := 6464 * mc, locals := 106 } : Room) s m args below meth c H locs k (6464 * k) (MQ below (wx_QA D ad ca A (some (.int r)) σ') args s mc (6464 * mc) A) (F0 m 11 ls []) := by
  obtain ⟨hx, hb, hml, hr, hts, hown, hlk, hC, hA⟩ := id B
  intro n
  induction n with
  | zero => intro x2 x4 x5 σ k hk  h rd H locs Z hS ls hl; exact wx_no h
  | succ n ih =>
    intro x2 x4 x5 σ k hk  h rd H locs Z hS ls hl
    have hm := m_X4_pairs_11 h
    have mih : ∀ {x2 : Int64} {x4 : Int32} {x5 : Int32} {σ : wx_St}, f_X4_pairs_11 b1 n x2 x4 x5 σ = some (r, σ') → wx_n σ.2.2.2.2 ≤ wx_n σ'.2.2.2.2 := fun h => m_X4_pairs_11 h
    rw [f_X4_pairs_11] at h
    refine lv_iload hx hb dX4_pairs_11 (lv_at hl 4 rfl) ?_
    refine lv_bipush (v := 64) hx hb dX4_pairs_13 (by decide) ?_
    refine lv_icmp_ge (tgt := 76) hx hb dX4_pairs_15 (by decide) (fun c15 => ?_) (fun c15 => ?_)
    · replace h := wx_ift c15 h
      refine lv_iload hx hb dX4_pairs_76 (lv_at hl 3 rfl) ?_
      obtain ⟨rfl, rfl⟩ := wx_ret_ok h
      refine W.widen (k := mc) (n := 6464 * mc) (by omega) (by omega) ?_
      exact W.iret hx hb hr (fun t ht hW => ⟨rfl, ⟨_, by rw [ht]; exact Z⟩, hS.F ht⟩) hS.2.2 dX4_pairs_78
    · replace h := wx_iff c15 h
      refine lv_iload hx hb dX4_pairs_18 (lv_at hl 4 rfl) ?_
      refine lv_iconst (v := 1) hx hb dX4_pairs_20 (by decide) ?_
      refine lv_iadd hx hb dX4_pairs_21 ?_
      refine lv_istore (lv' := [(6, .int (x5 + 1)), (0, .ref (ad 12 99)), (1, .ref (ad b1 99)), (2, .long x2), (4, .int x4), (5, .int x5)]) hx hb dX4_pairs_22 hl (by decide) rfl (fun ls hl => ?_)
      exact b_X4_pairs_24 B hb1 (K11 := (f_X4_pairs_11 b1 n)) @ih mih (k := k) hk h Z hS (lv_sub hl [1, 2, 3, 4, 5, 0] rfl)
set_option maxRecDepth 20000 in
set_option maxHeartbeats 4000000 in
theorem m_X4_pairs_0 {b1 : Nat} {r : Int32} {σ' : wx_St}   {σ : wx_St} (h : f_X4_pairs b1 σ = some (r, σ')) : wx_n σ.2.2.2.2 ≤ wx_n σ'.2.2.2.2 := by
  unfold f_X4_pairs at h
  obtain ⟨v1, hc1, h⟩ := wx_o_ok h
  exact m_X4_pairs_11 h
set_option maxRecDepth 20000 in
set_option maxHeartbeats 4000000 in
theorem b_X4_pairs_0 (B : wx_B p s m args meth c cX4_pairs 7 (some .int) wsX4_pairs RX4 D ad ca A) {b1 : Nat}  (hb1 : b1 < 11) {r : Int32} {σ' : wx_St} {mc : Nat}   {σ : wx_St} {k : Nat} (hk : k + wx_n σ'.2.2.2.2 ≤ mc + wx_n σ.2.2.2.2)  (h : f_X4_pairs b1 σ = some (r, σ')) {rd : Nat → Nat} {H : Heap} {locs : List Loc} (Z : wx_Z D ad rd ca A σ H) (hS : va_S A s.heap H locs) {ls : Array Slot} (hl : lv_has ls 7 [(0, .ref (ad 12 99)), (1, .ref (ad b1 99))]) : W p l e ({ frames := 4, cells := mc, slots := 6464 * mc, locals := 106 } : Room) s m args below meth c H locs k (6464 * k) (MQ below (wx_QA D ad ca A (some (.int r)) σ') args s mc (6464 * mc) A) (F0 m 0 ls []) := by
  obtain ⟨hx, hb, hml, hr, hts, hown, hlk, hC, hA⟩ := id B
  have hm := m_X4_pairs_0 h
  unfold f_X4_pairs at h
  refine lv_aload_n hx hb dX4_pairs_0 rfl (lv_at hl 1 rfl) ?_
  obtain ⟨v1, hc1, h⟩ := wx_o_ok h
  refine wx_call (va_runVN (As := []) (rest := []) ⟨hx, hb, hml, hown, hts⟩ (c_X0_suspects l (D := D) (ad := ad) (rd := rd) (ca := ca) (A := A) (σ := σ) (o := b1) hb1 hc1) ⟨va_cnB 0 hts gX4_pairs_X0_suspects_n36 rfl rfl rfl (hC.1.2.1 _ (List.mem_of_getElem? (i := 63) rfl)) (hts _ k_X4_pairs_w0) (by decide +kernel) ⟨Nat.le_of_ble_eq_true rfl, Nat.le_of_ble_eq_true rfl⟩, hts _ k_X4_pairs_w1, hts _ k_X4_pairs_w2⟩ (wx_preV hC Z hS hA (wx_sbo hb1 99) (rfl : vwCl[0]? = some (RX0, TX0, 13))) rfl rfl hl.1 rfl (lv_room (Nat.le_of_ble_eq_true rfl)) dX4_pairs_1 ⟨(by show k + 0 ≤ mc; omega), (by show 6464 * k + 0 ≤ 6464 * mc; omega)⟩) hS (fun H locs Z hS => ?_)
  refine lv_lstore_n (lv' := [(2, .long v1), (0, .ref (ad 12 99)), (1, .ref (ad b1 99))]) hx hb dX4_pairs_4 rfl hl (by decide) rfl (fun ls hl => ?_)
  refine lv_iconst (v := 0) hx hb dX4_pairs_5 (by decide) ?_
  refine lv_istore (lv' := [(4, .int 0), (2, .long v1), (0, .ref (ad 12 99)), (1, .ref (ad b1 99))]) hx hb dX4_pairs_6 hl (by decide) rfl (fun ls hl => ?_)
  refine lv_iconst (v := 0) hx hb dX4_pairs_8 (by decide) ?_
  refine lv_istore (lv' := [(5, .int 0), (4, .int 0), (2, .long v1), (0, .ref (ad 12 99)), (1, .ref (ad b1 99))]) hx hb dX4_pairs_9 hl (by decide) rfl (fun ls hl => ?_)
  exact b_X4_pairs_11 B hb1 (k := k) hk h Z hS (lv_sub hl [3, 4, 2, 1, 0] rfl)
set_option maxRecDepth 20000 in
theorem c_X4_pairs (l : Launch) {D : va_G} {ad : Nat → Nat → Nat} {rd : Nat → Nat} {ca : Nat → ClassId} {A : Nat → Prop} {σ : wx_St} {b1 : Nat}  (hb1 : b1 < 11)  {r : Int32} {σ' : wx_St} (h : f_X4_pairs b1 σ = some (r, σ')) : wx_MA l yX4_pairs wsX4_pairs 4 106 D ad rd ca A [.ref (ad 12 99), .ref (ad b1 99)] σ (some (.int r)) σ' := by
  refine Met.ofW (cc := cX4_pairs) (maxL := 7) (ret := (some .int)) (by decide +kernel) rfl ?_
  intro p e s m args below meth c s₁ B0 hml hv
  obtain ⟨rfl, hC, Z, hA⟩ := hv
  have hl := lv_entry ([.ref (ad 12 99), .ref (ad b1 99)]) (n := 7) (Nat.le_of_ble_eq_true rfl)
  rw [lg_entry_eq]
  generalize (lg_sl ([.ref (ad 12 99), .ref (ad b1 99)]) ++ List.replicate (7 - (lg_sl ([.ref (ad 12 99), .ref (ad b1 99)])).length) Slot.unset).toArray = ls at hl ⊢
  exact b_X4_pairs_0 ⟨B0.exec, B0.bytes, hml, B0.returns, atoms_spec (ws := wsX4_pairs) B0.pre, findClass_of_methodNamed B0.named, B0.notSynchronized, hC, hA⟩ hb1 (k := 0) (by have hm := m_X4_pairs_0 h; omega) h Z va_S.rf hl
theorem i_X5_count_0 : ∀ w ∈ wsX00, w ∈ wsX5_count := by decide +kernel
theorem i_X5_count_2 : ∀ w ∈ wsX20, w ∈ wsX5_count := by decide +kernel
theorem i_X5_count_3 : ∀ w ∈ wsX30, w ∈ wsX5_count := by decide +kernel
theorem i_X5_count_5 : ∀ w ∈ wsX50, w ∈ wsX5_count := by decide +kernel
theorem k_X5_count_w0 : Cond.fieldLink RX5 10 "WarmProbes" "board" "LWarmProbes$Board;" ∈ wsX5_count := by decide +kernel
theorem k_X5_count_w1 : Cond.initialized RX0 ∈ wsX5_count := by decide +kernel
theorem k_X5_count_w2 : Cond.instanceMethod yX0_heated ∈ wsX5_count := by decide +kernel
theorem k_X5_count_w3 : Cond.selects RX0 yX0_heated yX0_heated ∈ wsX5_count := by decide +kernel
theorem k_X5_count_w4 : Cond.instanceMethod yX0_tracked ∈ wsX5_count := by decide +kernel
theorem k_X5_count_w5 : Cond.selects RX0 yX0_tracked yX0_tracked ∈ wsX5_count := by decide +kernel
theorem k_X5_count_w6 : Cond.instanceMethod yX0_suspects ∈ wsX5_count := by decide +kernel
theorem k_X5_count_w7 : Cond.selects RX0 yX0_suspects yX0_suspects ∈ wsX5_count := by decide +kernel
theorem k_X5_count_w8 : Cond.fieldLink RX5 22 "WarmProbes" "suspicion" "LWarmProbes$Suspicion;" ∈ wsX5_count := by decide +kernel
theorem k_X5_count_w9 : Cond.initialized RX4 ∈ wsX5_count := by decide +kernel
theorem k_X5_count_w10 : Cond.instanceMethod yX4_fitting ∈ wsX5_count := by decide +kernel
theorem k_X5_count_w11 : Cond.selects RX4 yX4_fitting yX4_fitting ∈ wsX5_count := by decide +kernel
theorem k_X5_count_w12 : Cond.instanceMethod yX4_pairs ∈ wsX5_count := by decide +kernel
theorem k_X5_count_w13 : Cond.selects RX4 yX4_pairs yX4_pairs ∈ wsX5_count := by decide +kernel
theorem k_X5_count_w14 : Cond.instanceMethod yX0_warmest ∈ wsX5_count := by decide +kernel
theorem k_X5_count_w15 : Cond.selects RX0 yX0_warmest yX0_warmest ∈ wsX5_count := by decide +kernel
theorem k_X5_count_w16 : Cond.fieldLink RX5 36 "WarmProbes" "pad" "LWarmProbes$Pad;" ∈ wsX5_count := by decide +kernel
theorem k_X5_count_w17 : Cond.fieldLink RX5 29 "WarmProbes" "past" "LWarmProbes$Past;" ∈ wsX5_count := by decide +kernel
set_option maxRecDepth 20000 in
set_option maxHeartbeats 4000000 in
theorem m_X5_count_144  {r : Int32} {σ' : wx_St}  {x1 : Int32} {y0 : Int64} {σ : wx_St} (h : f_X5_count_144 x1 y0 σ = some (r, σ')) : wx_n σ.2.2.2.2 ≤ wx_n σ'.2.2.2.2 := by
  unfold f_X5_count_144 at h
  obtain ⟨v144, hc144, h⟩ := wx_o_ok h
  obtain ⟨rfl, rfl⟩ := wx_ret_ok h
  exact Nat.le_refl _
set_option maxRecDepth 20000 in
set_option maxHeartbeats 4000000 in
theorem b_X5_count_144 (B : wx_B p s m args meth c cX5_count 2 (some .int) wsX5_count RX5 D ad ca A)    {r : Int32} {σ' : wx_St} {mc : Nat}  {x1 : Int32} {y0 : Int64} {σ : wx_St} {k : Nat} (hk : k + wx_n σ'.2.2.2.2 ≤ mc + wx_n σ.2.2.2.2)  (h : f_X5_count_144 x1 y0 σ = some (r, σ')) {rd : Nat → Nat} {H : Heap} {locs : List Loc} (Z : wx_Z D ad rd ca A σ H) (hS : va_S A s.heap H locs) {ls : Array Slot} (hl : lv_has ls 2 [(0, .ref (ad 11 99)), (1, .int x1)]) : W p l e ({ frames := 6, cells := mc, slots := 6464 * mc, locals := 152 } : Room) s m args below meth c H locs k (6464 * k) (MQ below (wx_QA D ad ca A (some (.int r)) σ') args s mc (6464 * mc) A) (F0 m 144 ls [.long y0]) := by
  obtain ⟨hx, hb, hml, hr, hts, hown, hlk, hC, hA⟩ := id B
  have hm := m_X5_count_144 h
  unfold f_X5_count_144 at h
  obtain ⟨v144, hc144, h⟩ := wx_o_ok h
  refine wx_call (va_runS (As := [.long y0]) (rest := []) ⟨hx, hb, hml, hown, hts⟩ (c_J13_bitCount_95d88 l (D := D) (ad := ad) (rd := rd) (ca := ca) (A := A) (σ := σ) hc144) (va_cwS 1 hts gX5_count_J13_bitCount_95d88 rfl rfl rfl (by decide +kernel) ⟨Nat.le_of_ble_eq_true rfl, Nat.le_of_ble_eq_true rfl⟩) (wx_preS hC Z hS hA) rfl rfl hl.1 rfl (lv_room (Nat.le_of_ble_eq_true rfl)) dX5_count_144 ⟨(by show k + 0 ≤ mc; omega), (by show 6464 * k + 0 ≤ 6464 * mc; omega)⟩) hS (fun H locs Z hS => ?_)
  obtain ⟨rfl, rfl⟩ := wx_ret_ok h
  refine W.widen (k := mc) (n := 6464 * mc) (by omega) (by omega) ?_
  exact W.iret hx hb hr (fun t ht hW => ⟨rfl, ⟨_, by rw [ht]; exact Z⟩, hS.F ht⟩) hS.2.2 dX5_count_147
set_option maxRecDepth 20000 in
set_option maxHeartbeats 4000000 in
theorem m_X5_count_159  {r : Int32} {σ' : wx_St}  {x1 : Int32} {y0 : Int32} {σ : wx_St} (h : f_X5_count_159 x1 y0 σ = some (r, σ')) : wx_n σ.2.2.2.2 ≤ wx_n σ'.2.2.2.2 := by
  unfold f_X5_count_159 at h
  obtain ⟨rfl, rfl⟩ := wx_ret_ok h
  exact Nat.le_refl _
set_option maxRecDepth 20000 in
set_option maxHeartbeats 4000000 in
theorem b_X5_count_159 (B : wx_B p s m args meth c cX5_count 2 (some .int) wsX5_count RX5 D ad ca A)    {r : Int32} {σ' : wx_St} {mc : Nat}  {x1 : Int32} {y0 : Int32} {σ : wx_St} {k : Nat} (hk : k + wx_n σ'.2.2.2.2 ≤ mc + wx_n σ.2.2.2.2)  (h : f_X5_count_159 x1 y0 σ = some (r, σ')) {rd : Nat → Nat} {H : Heap} {locs : List Loc} (Z : wx_Z D ad rd ca A σ H) (hS : va_S A s.heap H locs) {ls : Array Slot} (hl : lv_has ls 2 [(0, .ref (ad 11 99)), (1, .int x1)]) : W p l e ({ frames := 6, cells := mc, slots := 6464 * mc, locals := 152 } : Room) s m args below meth c H locs k (6464 * k) (MQ below (wx_QA D ad ca A (some (.int r)) σ') args s mc (6464 * mc) A) (F0 m 159 ls [.int y0]) := by
  obtain ⟨hx, hb, hml, hr, hts, hown, hlk, hC, hA⟩ := id B
  have hm := m_X5_count_159 h
  unfold f_X5_count_159 at h
  obtain ⟨rfl, rfl⟩ := wx_ret_ok h
  refine W.widen (k := mc) (n := 6464 * mc) (by omega) (by omega) ?_
  exact W.iret hx hb hr (fun t ht hW => ⟨rfl, ⟨_, by rw [ht]; exact Z⟩, hS.F ht⟩) hS.2.2 dX5_count_159
set_option maxRecDepth 20000 in
set_option maxHeartbeats 4000000 in
theorem m_X5_count_0  {r : Int32} {σ' : wx_St}  {x1 : Int32} {σ : wx_St} (h : f_X5_count x1 σ = some (r, σ')) : wx_n σ.2.2.2.2 ≤ wx_n σ'.2.2.2.2 := by
  unfold f_X5_count at h
  by_cases c1_0 : x1 = 0
  · replace h := wx_ift c1_0 h
    obtain ⟨rfl, rfl⟩ := wx_ret_ok h
    exact Nat.le_refl _
  · replace h := wx_iff c1_0 h
    by_cases c1_1 : x1 = 1
    · replace h := wx_ift c1_1 h
      obtain ⟨rfl, rfl⟩ := wx_ret_ok h
      exact Nat.le_refl _
    · replace h := wx_iff c1_1 h
      by_cases c1_2 : x1 = 2
      · replace h := wx_ift c1_2 h
        obtain ⟨v96, hc96, h⟩ := wx_o_ok h
        obtain ⟨v99, hc99, h⟩ := wx_o_ok h
        obtain ⟨rfl, rfl⟩ := wx_ret_ok h
        exact Nat.le_refl _
      · replace h := wx_iff c1_2 h
        by_cases c1_3 : x1 = 3
        · replace h := wx_ift c1_3 h
          obtain ⟨rfl, rfl⟩ := wx_ret_ok h
          exact Nat.le_refl _
        · replace h := wx_iff c1_3 h
          by_cases c1_4 : x1 = 4
          · replace h := wx_ift c1_4 h
            obtain ⟨v115, hc115, h⟩ := wx_o_ok h
            obtain ⟨v118, hc118, h⟩ := wx_o_ok h
            obtain ⟨rfl, rfl⟩ := wx_ret_ok h
            exact Nat.le_refl _
          · replace h := wx_iff c1_4 h
            by_cases c1_5 : x1 = 5
            · replace h := wx_ift c1_5 h
              obtain ⟨v126, hc126, h⟩ := wx_o_ok h
              obtain ⟨v129, hc129, h⟩ := wx_o_ok h
              obtain ⟨rfl, rfl⟩ := wx_ret_ok h
              exact Nat.le_refl _
            · replace h := wx_iff c1_5 h
              by_cases c1_6 : x1 = 6
              · replace h := wx_ift c1_6 h
                obtain ⟨v141, σ141, hc141, h⟩ := wx_b_ok h
                refine Nat.le_trans (m_X4_fitting_0 hc141) ?_
                exact m_X5_count_144 h
              · replace h := wx_iff c1_6 h
                by_cases c1_7 : x1 = 7
                · replace h := wx_ift c1_7 h
                  obtain ⟨v156, σ156, hc156, h⟩ := wx_b_ok h
                  refine Nat.le_trans (m_X4_pairs_0 hc156) ?_
                  exact m_X5_count_159 h
                · replace h := wx_iff c1_7 h
                  by_cases c1_8 : x1 = 8
                  · replace h := wx_ift c1_8 h
                    obtain ⟨v164, hc164, h⟩ := wx_o_ok h
                    obtain ⟨rfl, rfl⟩ := wx_ret_ok h
                    exact Nat.le_refl _
                  · replace h := wx_iff c1_8 h
                    by_cases c1_9 : x1 = 9
                    · replace h := wx_ift c1_9 h
                      obtain ⟨v179, ev179, iv179, h⟩ := wx_rI_ok h
                      obtain ⟨rfl, rfl⟩ := wx_ret_ok h
                      exact Nat.le_refl _
                    · replace h := wx_iff c1_9 h
                      by_cases c1_10 : x1 = 10
                      · replace h := wx_ift c1_10 h
                        obtain ⟨v179, ev179, iv179, h⟩ := wx_rI_ok h
                        obtain ⟨rfl, rfl⟩ := wx_ret_ok h
                        exact Nat.le_refl _
                      · replace h := wx_iff c1_10 h
                        by_cases c1_11 : x1 = 11
                        · replace h := wx_ift c1_11 h
                          obtain ⟨v179, ev179, iv179, h⟩ := wx_rI_ok h
                          obtain ⟨rfl, rfl⟩ := wx_ret_ok h
                          exact Nat.le_refl _
                        · replace h := wx_iff c1_11 h
                          by_cases c1_12 : x1 = 12
                          · replace h := wx_ift c1_12 h
                            obtain ⟨v179, ev179, iv179, h⟩ := wx_rI_ok h
                            obtain ⟨rfl, rfl⟩ := wx_ret_ok h
                            exact Nat.le_refl _
                          · replace h := wx_iff c1_12 h
                            by_cases c1_13 : x1 = 13
                            · replace h := wx_ift c1_13 h
                              obtain ⟨rfl, rfl⟩ := wx_ret_ok h
                              exact Nat.le_refl _
                            · replace h := wx_iff c1_13 h
                              by_cases c1_14 : x1 = 14
                              · replace h := wx_ift c1_14 h
                                obtain ⟨rfl, rfl⟩ := wx_ret_ok h
                                exact Nat.le_refl _
                              · replace h := wx_iff c1_14 h
                                obtain ⟨rfl, rfl⟩ := wx_ret_ok h
                                exact Nat.le_refl _
set_option maxRecDepth 20000 in
set_option maxHeartbeats 4000000 in
theorem b_X5_count_0 (B : wx_B p s m args meth c cX5_count 2 (some .int) wsX5_count RX5 D ad ca A)    {r : Int32} {σ' : wx_St} {mc : Nat}  {x1 : Int32} {σ : wx_St} {k : Nat} (hk : k + wx_n σ'.2.2.2.2 ≤ mc + wx_n σ.2.2.2.2)  (h : f_X5_count x1 σ = some (r, σ')) {rd : Nat → Nat} {H : Heap} {locs : List Loc} (Z : wx_Z D ad rd ca A σ H) (hS : va_S A s.heap H locs) {ls : Array Slot} (hl : lv_has ls 2 [(0, .ref (ad 11 99)), (1, .int x1)]) : W p l e ({ frames := 6, cells := mc, slots := 6464 * mc, locals := 152 } : Room) s m args below meth c H locs k (6464 * k) (MQ below (wx_QA D ad ca A (some (.int r)) σ') args s mc (6464 * mc) A) (F0 m 0 ls []) := by
  obtain ⟨hx, hb, hml, hr, hts, hown, hlk, hC, hA⟩ := id B
  have hm := m_X5_count_0 h
  unfold f_X5_count at h
  refine lv_iload_n hx hb dX5_count_0 rfl (lv_at hl 1 rfl) ?_
  by_cases c1_0 : x1 = 0
  · replace h := wx_ift c1_0 h
    refine lv_tableIn (off := 75) (tgt := 76) hx hb dX5_count_1 (by rw [c1_0]; decide) (by rw [c1_0]; decide) (by rw [c1_0]; rfl) (by decide) ?_
    refine lv_aload_n hx hb dX5_count_76 rfl (lv_at hl 0 rfl) ?_
    refine wx_get (own := RX5) hx hb hts i_X5_count_5 hown hC.1 Z (o := 11) (ci := 5) rfl (rfl : vwCl[5]? = some (RX5, TX5, 7)) 0 (by decide) (hts _ k_X5_count_w0) (fun _ h9 => h9) (f := 107) rfl rfl dX5_count_77 ?_
    refine wx_getN (own := RX5) hx hb hts i_X5_count_0 hown hC.1 Z (o := 7) (ci := 0) rfl (rfl : vwCl[0]? = some (RX0, TX0, 13)) 6 (by decide) (wx_nst hC 9 rfl rfl) (fun _ h9 => h9) (f := 1) rfl rfl dX5_count_80 ?_
    obtain ⟨rfl, rfl⟩ := wx_ret_ok h
    refine W.widen (k := mc) (n := 6464 * mc) (by omega) (by omega) ?_
    exact W.iret hx hb hr (fun t ht hW => ⟨rfl, ⟨_, by rw [ht]; exact Z⟩, hS.F ht⟩) hS.2.2 dX5_count_83
  · replace h := wx_iff c1_0 h
    by_cases c1_1 : x1 = 1
    · replace h := wx_ift c1_1 h
      refine lv_tableIn (off := 83) (tgt := 84) hx hb dX5_count_1 (by rw [c1_1]; decide) (by rw [c1_1]; decide) (by rw [c1_1]; rfl) (by decide) ?_
      refine lv_aload_n hx hb dX5_count_84 rfl (lv_at hl 0 rfl) ?_
      refine wx_get (own := RX5) hx hb hts i_X5_count_5 hown hC.1 Z (o := 11) (ci := 5) rfl (rfl : vwCl[5]? = some (RX5, TX5, 7)) 0 (by decide) (hts _ k_X5_count_w0) (fun _ h9 => h9) (f := 107) rfl rfl dX5_count_85 ?_
      refine wx_getN (own := RX5) hx hb hts i_X5_count_0 hown hC.1 Z (o := 7) (ci := 0) rfl (rfl : vwCl[0]? = some (RX0, TX0, 13)) 3 (by decide) (wx_nst hC 6 rfl rfl) (fun _ h9 => h9) (f := 1) rfl rfl dX5_count_88 ?_
      obtain ⟨rfl, rfl⟩ := wx_ret_ok h
      refine W.widen (k := mc) (n := 6464 * mc) (by omega) (by omega) ?_
      exact W.iret hx hb hr (fun t ht hW => ⟨rfl, ⟨_, by rw [ht]; exact Z⟩, hS.F ht⟩) hS.2.2 dX5_count_91
    · replace h := wx_iff c1_1 h
      by_cases c1_2 : x1 = 2
      · replace h := wx_ift c1_2 h
        refine lv_tableIn (off := 91) (tgt := 92) hx hb dX5_count_1 (by rw [c1_2]; decide) (by rw [c1_2]; decide) (by rw [c1_2]; rfl) (by decide) ?_
        refine lv_aload_n hx hb dX5_count_92 rfl (lv_at hl 0 rfl) ?_
        refine wx_get (own := RX5) hx hb hts i_X5_count_5 hown hC.1 Z (o := 11) (ci := 5) rfl (rfl : vwCl[5]? = some (RX5, TX5, 7)) 0 (by decide) (hts _ k_X5_count_w0) (fun _ h9 => h9) (f := 107) rfl rfl dX5_count_93 ?_
        obtain ⟨v96, hc96, h⟩ := wx_o_ok h
        refine wx_call (va_runVN (As := []) (rest := []) ⟨hx, hb, hml, hown, hts⟩ (c_X0_heated l (D := D) (ad := ad) (rd := rd) (ca := ca) (A := A) (σ := σ) (o := 7) (by decide : 7 < 11) hc96) ⟨va_cnB 0 hts gX5_count_X0_heated_n170 rfl rfl rfl (hC.1.2.1 _ (List.mem_of_getElem? (i := 61) rfl)) (hts _ k_X5_count_w1) (by decide +kernel) ⟨Nat.le_of_ble_eq_true rfl, Nat.le_of_ble_eq_true rfl⟩, hts _ k_X5_count_w2, hts _ k_X5_count_w3⟩ (wx_preV hC Z hS hA rfl (rfl : vwCl[0]? = some (RX0, TX0, 13))) rfl rfl hl.1 rfl (lv_room (Nat.le_of_ble_eq_true rfl)) dX5_count_96 ⟨(by show k + 0 ≤ mc; omega), (by show 6464 * k + 0 ≤ 6464 * mc; omega)⟩) hS (fun H locs Z hS => ?_)
        obtain ⟨v99, hc99, h⟩ := wx_o_ok h
        refine wx_call (va_runS (As := [.long v96]) (rest := []) ⟨hx, hb, hml, hown, hts⟩ (c_J13_bitCount_95d88 l (D := D) (ad := ad) (rd := rd) (ca := ca) (A := A) (σ := σ) hc99) (va_cwS 1 hts gX5_count_J13_bitCount_95d88 rfl rfl rfl (by decide +kernel) ⟨Nat.le_of_ble_eq_true rfl, Nat.le_of_ble_eq_true rfl⟩) (wx_preS hC Z hS hA) rfl rfl hl.1 rfl (lv_room (Nat.le_of_ble_eq_true rfl)) dX5_count_99 ⟨(by show k + 0 ≤ mc; omega), (by show 6464 * k + 0 ≤ 6464 * mc; omega)⟩) hS (fun H locs Z hS => ?_)
        obtain ⟨rfl, rfl⟩ := wx_ret_ok h
        refine W.widen (k := mc) (n := 6464 * mc) (by omega) (by omega) ?_
        exact W.iret hx hb hr (fun t ht hW => ⟨rfl, ⟨_, by rw [ht]; exact Z⟩, hS.F ht⟩) hS.2.2 dX5_count_102
      · replace h := wx_iff c1_2 h
        by_cases c1_3 : x1 = 3
        · replace h := wx_ift c1_3 h
          refine lv_tableIn (off := 102) (tgt := 103) hx hb dX5_count_1 (by rw [c1_3]; decide) (by rw [c1_3]; decide) (by rw [c1_3]; rfl) (by decide) ?_
          refine lv_aload_n hx hb dX5_count_103 rfl (lv_at hl 0 rfl) ?_
          refine wx_get (own := RX5) hx hb hts i_X5_count_5 hown hC.1 Z (o := 11) (ci := 5) rfl (rfl : vwCl[5]? = some (RX5, TX5, 7)) 0 (by decide) (hts _ k_X5_count_w0) (fun _ h9 => h9) (f := 107) rfl rfl dX5_count_104 ?_
          refine wx_getN (own := RX5) hx hb hts i_X5_count_0 hown hC.1 Z (o := 7) (ci := 0) rfl (rfl : vwCl[0]? = some (RX0, TX0, 13)) 9 (by decide) (wx_nst hC 13 rfl rfl) (fun _ h9 => h9) (f := 1) rfl rfl dX5_count_107 ?_
          obtain ⟨rfl, rfl⟩ := wx_ret_ok h
          refine W.widen (k := mc) (n := 6464 * mc) (by omega) (by omega) ?_
          exact W.iret hx hb hr (fun t ht hW => ⟨rfl, ⟨_, by rw [ht]; exact Z⟩, hS.F ht⟩) hS.2.2 dX5_count_110
        · replace h := wx_iff c1_3 h
          by_cases c1_4 : x1 = 4
          · replace h := wx_ift c1_4 h
            refine lv_tableIn (off := 110) (tgt := 111) hx hb dX5_count_1 (by rw [c1_4]; decide) (by rw [c1_4]; decide) (by rw [c1_4]; rfl) (by decide) ?_
            refine lv_aload_n hx hb dX5_count_111 rfl (lv_at hl 0 rfl) ?_
            refine wx_get (own := RX5) hx hb hts i_X5_count_5 hown hC.1 Z (o := 11) (ci := 5) rfl (rfl : vwCl[5]? = some (RX5, TX5, 7)) 0 (by decide) (hts _ k_X5_count_w0) (fun _ h9 => h9) (f := 107) rfl rfl dX5_count_112 ?_
            obtain ⟨v115, hc115, h⟩ := wx_o_ok h
            refine wx_call (va_runVN (As := []) (rest := []) ⟨hx, hb, hml, hown, hts⟩ (c_X0_tracked l (D := D) (ad := ad) (rd := rd) (ca := ca) (A := A) (σ := σ) (o := 7) (by decide : 7 < 11) hc115) ⟨va_cnB 0 hts gX5_count_X0_tracked_n118 rfl rfl rfl (hC.1.2.1 _ (List.mem_of_getElem? (i := 55) rfl)) (hts _ k_X5_count_w1) (by decide +kernel) ⟨Nat.le_of_ble_eq_true rfl, Nat.le_of_ble_eq_true rfl⟩, hts _ k_X5_count_w4, hts _ k_X5_count_w5⟩ (wx_preV hC Z hS hA rfl (rfl : vwCl[0]? = some (RX0, TX0, 13))) rfl rfl hl.1 rfl (lv_room (Nat.le_of_ble_eq_true rfl)) dX5_count_115 ⟨(by show k + 0 ≤ mc; omega), (by show 6464 * k + 0 ≤ 6464 * mc; omega)⟩) hS (fun H locs Z hS => ?_)
            obtain ⟨v118, hc118, h⟩ := wx_o_ok h
            refine wx_call (va_runS (As := [.long v115]) (rest := []) ⟨hx, hb, hml, hown, hts⟩ (c_J13_bitCount_95d88 l (D := D) (ad := ad) (rd := rd) (ca := ca) (A := A) (σ := σ) hc118) (va_cwS 1 hts gX5_count_J13_bitCount_95d88 rfl rfl rfl (by decide +kernel) ⟨Nat.le_of_ble_eq_true rfl, Nat.le_of_ble_eq_true rfl⟩) (wx_preS hC Z hS hA) rfl rfl hl.1 rfl (lv_room (Nat.le_of_ble_eq_true rfl)) dX5_count_118 ⟨(by show k + 0 ≤ mc; omega), (by show 6464 * k + 0 ≤ 6464 * mc; omega)⟩) hS (fun H locs Z hS => ?_)
            obtain ⟨rfl, rfl⟩ := wx_ret_ok h
            refine W.widen (k := mc) (n := 6464 * mc) (by omega) (by omega) ?_
            exact W.iret hx hb hr (fun t ht hW => ⟨rfl, ⟨_, by rw [ht]; exact Z⟩, hS.F ht⟩) hS.2.2 dX5_count_121
          · replace h := wx_iff c1_4 h
            by_cases c1_5 : x1 = 5
            · replace h := wx_ift c1_5 h
              refine lv_tableIn (off := 121) (tgt := 122) hx hb dX5_count_1 (by rw [c1_5]; decide) (by rw [c1_5]; decide) (by rw [c1_5]; rfl) (by decide) ?_
              refine lv_aload_n hx hb dX5_count_122 rfl (lv_at hl 0 rfl) ?_
              refine wx_get (own := RX5) hx hb hts i_X5_count_5 hown hC.1 Z (o := 11) (ci := 5) rfl (rfl : vwCl[5]? = some (RX5, TX5, 7)) 0 (by decide) (hts _ k_X5_count_w0) (fun _ h9 => h9) (f := 107) rfl rfl dX5_count_123 ?_
              obtain ⟨v126, hc126, h⟩ := wx_o_ok h
              refine wx_call (va_runVN (As := []) (rest := []) ⟨hx, hb, hml, hown, hts⟩ (c_X0_suspects l (D := D) (ad := ad) (rd := rd) (ca := ca) (A := A) (σ := σ) (o := 7) (by decide : 7 < 11) hc126) ⟨va_cnB 0 hts gX5_count_X0_suspects_n126 rfl rfl rfl (hC.1.2.1 _ (List.mem_of_getElem? (i := 56) rfl)) (hts _ k_X5_count_w1) (by decide +kernel) ⟨Nat.le_of_ble_eq_true rfl, Nat.le_of_ble_eq_true rfl⟩, hts _ k_X5_count_w6, hts _ k_X5_count_w7⟩ (wx_preV hC Z hS hA rfl (rfl : vwCl[0]? = some (RX0, TX0, 13))) rfl rfl hl.1 rfl (lv_room (Nat.le_of_ble_eq_true rfl)) dX5_count_126 ⟨(by show k + 0 ≤ mc; omega), (by show 6464 * k + 0 ≤ 6464 * mc; omega)⟩) hS (fun H locs Z hS => ?_)
              obtain ⟨v129, hc129, h⟩ := wx_o_ok h
              refine wx_call (va_runS (As := [.long v126]) (rest := []) ⟨hx, hb, hml, hown, hts⟩ (c_J13_bitCount_95d88 l (D := D) (ad := ad) (rd := rd) (ca := ca) (A := A) (σ := σ) hc129) (va_cwS 1 hts gX5_count_J13_bitCount_95d88 rfl rfl rfl (by decide +kernel) ⟨Nat.le_of_ble_eq_true rfl, Nat.le_of_ble_eq_true rfl⟩) (wx_preS hC Z hS hA) rfl rfl hl.1 rfl (lv_room (Nat.le_of_ble_eq_true rfl)) dX5_count_129 ⟨(by show k + 0 ≤ mc; omega), (by show 6464 * k + 0 ≤ 6464 * mc; omega)⟩) hS (fun H locs Z hS => ?_)
              obtain ⟨rfl, rfl⟩ := wx_ret_ok h
              refine W.widen (k := mc) (n := 6464 * mc) (by omega) (by omega) ?_
              exact W.iret hx hb hr (fun t ht hW => ⟨rfl, ⟨_, by rw [ht]; exact Z⟩, hS.F ht⟩) hS.2.2 dX5_count_132
            · replace h := wx_iff c1_5 h
              by_cases c1_6 : x1 = 6
              · replace h := wx_ift c1_6 h
                refine lv_tableIn (off := 132) (tgt := 133) hx hb dX5_count_1 (by rw [c1_6]; decide) (by rw [c1_6]; decide) (by rw [c1_6]; rfl) (by decide) ?_
                refine lv_aload_n hx hb dX5_count_133 rfl (lv_at hl 0 rfl) ?_
                refine wx_get (own := RX5) hx hb hts i_X5_count_5 hown hC.1 Z (o := 11) (ci := 5) rfl (rfl : vwCl[5]? = some (RX5, TX5, 7)) 2 (by decide) (hts _ k_X5_count_w8) (fun _ h9 => h9) (f := 112) rfl rfl dX5_count_134 ?_
                refine lv_aload_n hx hb dX5_count_137 rfl (lv_at hl 0 rfl) ?_
                refine wx_get (own := RX5) hx hb hts i_X5_count_5 hown hC.1 Z (o := 11) (ci := 5) rfl (rfl : vwCl[5]? = some (RX5, TX5, 7)) 0 (by decide) (hts _ k_X5_count_w0) (fun _ h9 => h9) (f := 107) rfl rfl dX5_count_138 ?_
                obtain ⟨v141, σ141, hc141, h⟩ := wx_b_ok h
                have m1 := m_X4_fitting_0 hc141
                have m2 := m_X5_count_144 h
                refine wx_callA (va_runVN (As := [.ref (ad 7 99)]) (rest := []) ⟨hx, hb, hml, hown, hts⟩ (c_X4_fitting l (D := D) (ad := ad) (rd := rd) (ca := ca) (A := A) (σ := σ) (b1 := 7) (by decide : 7 < 11) hc141) ⟨va_cnB 1 hts gX5_count_X4_fitting_n129 rfl rfl rfl (hC.1.2.1 _ (List.mem_of_getElem? (i := 57) rfl)) (hts _ k_X5_count_w9) (by decide +kernel) ⟨Nat.le_of_ble_eq_true rfl, Nat.le_of_ble_eq_true rfl⟩, hts _ k_X5_count_w10, hts _ k_X5_count_w11⟩ (wx_preV hC Z hS hA rfl (rfl : vwCl[4]? = some (RX4, TX4, 2))) rfl rfl hl.1 rfl (lv_room (Nat.le_of_ble_eq_true rfl)) dX5_count_141 ⟨(by show k + (wx_n σ141.2.2.2.2 - wx_n σ.2.2.2.2) ≤ mc; omega), (by show 6464 * k + 6464 * (wx_n σ141.2.2.2.2 - wx_n σ.2.2.2.2) ≤ 6464 * mc; omega)⟩) hS (fun rd H locs Z hS => ?_)
                refine W.widen (k := k + (wx_n σ141.2.2.2.2 - wx_n σ.2.2.2.2)) (n := 6464 * (k + (wx_n σ141.2.2.2.2 - wx_n σ.2.2.2.2))) (Nat.le_refl _) (by omega) ?_
                exact b_X5_count_144 B (k := k + (wx_n σ141.2.2.2.2 - wx_n σ.2.2.2.2)) (by omega) h Z hS (lv_sub hl [0, 1] rfl)
              · replace h := wx_iff c1_6 h
                by_cases c1_7 : x1 = 7
                · replace h := wx_ift c1_7 h
                  refine lv_tableIn (off := 147) (tgt := 148) hx hb dX5_count_1 (by rw [c1_7]; decide) (by rw [c1_7]; decide) (by rw [c1_7]; rfl) (by decide) ?_
                  refine lv_aload_n hx hb dX5_count_148 rfl (lv_at hl 0 rfl) ?_
                  refine wx_get (own := RX5) hx hb hts i_X5_count_5 hown hC.1 Z (o := 11) (ci := 5) rfl (rfl : vwCl[5]? = some (RX5, TX5, 7)) 2 (by decide) (hts _ k_X5_count_w8) (fun _ h9 => h9) (f := 112) rfl rfl dX5_count_149 ?_
                  refine lv_aload_n hx hb dX5_count_152 rfl (lv_at hl 0 rfl) ?_
                  refine wx_get (own := RX5) hx hb hts i_X5_count_5 hown hC.1 Z (o := 11) (ci := 5) rfl (rfl : vwCl[5]? = some (RX5, TX5, 7)) 0 (by decide) (hts _ k_X5_count_w0) (fun _ h9 => h9) (f := 107) rfl rfl dX5_count_153 ?_
                  obtain ⟨v156, σ156, hc156, h⟩ := wx_b_ok h
                  have m1 := m_X4_pairs_0 hc156
                  have m2 := m_X5_count_159 h
                  refine wx_callA (va_runVN (As := [.ref (ad 7 99)]) (rest := []) ⟨hx, hb, hml, hown, hts⟩ (c_X4_pairs l (D := D) (ad := ad) (rd := rd) (ca := ca) (A := A) (σ := σ) (b1 := 7) (by decide : 7 < 11) hc156) ⟨va_cnB 1 hts gX5_count_X4_pairs_n179 rfl rfl rfl (hC.1.2.1 _ (List.mem_of_getElem? (i := 62) rfl)) (hts _ k_X5_count_w9) (by decide +kernel) ⟨Nat.le_of_ble_eq_true rfl, Nat.le_of_ble_eq_true rfl⟩, hts _ k_X5_count_w12, hts _ k_X5_count_w13⟩ (wx_preV hC Z hS hA rfl (rfl : vwCl[4]? = some (RX4, TX4, 2))) rfl rfl hl.1 rfl (lv_room (Nat.le_of_ble_eq_true rfl)) dX5_count_156 ⟨(by show k + (wx_n σ156.2.2.2.2 - wx_n σ.2.2.2.2) ≤ mc; omega), (by show 6464 * k + 6464 * (wx_n σ156.2.2.2.2 - wx_n σ.2.2.2.2) ≤ 6464 * mc; omega)⟩) hS (fun rd H locs Z hS => ?_)
                  refine W.widen (k := k + (wx_n σ156.2.2.2.2 - wx_n σ.2.2.2.2)) (n := 6464 * (k + (wx_n σ156.2.2.2.2 - wx_n σ.2.2.2.2))) (Nat.le_refl _) (by omega) ?_
                  exact b_X5_count_159 B (k := k + (wx_n σ156.2.2.2.2 - wx_n σ.2.2.2.2)) (by omega) h Z hS (lv_sub hl [0, 1] rfl)
                · replace h := wx_iff c1_7 h
                  by_cases c1_8 : x1 = 8
                  · replace h := wx_ift c1_8 h
                    refine lv_tableIn (off := 159) (tgt := 160) hx hb dX5_count_1 (by rw [c1_8]; decide) (by rw [c1_8]; decide) (by rw [c1_8]; rfl) (by decide) ?_
                    refine lv_aload_n hx hb dX5_count_160 rfl (lv_at hl 0 rfl) ?_
                    refine wx_get (own := RX5) hx hb hts i_X5_count_5 hown hC.1 Z (o := 11) (ci := 5) rfl (rfl : vwCl[5]? = some (RX5, TX5, 7)) 0 (by decide) (hts _ k_X5_count_w0) (fun _ h9 => h9) (f := 107) rfl rfl dX5_count_161 ?_
                    obtain ⟨v164, hc164, h⟩ := wx_o_ok h
                    refine wx_call (va_runVN (As := []) (rest := []) ⟨hx, hb, hml, hown, hts⟩ (c_X0_warmest l (D := D) (ad := ad) (rd := rd) (ca := ca) (A := A) (σ := σ) (o := 7) (by decide : 7 < 11) hc164) ⟨va_cnB 0 hts gX5_count_X0_warmest_n183 rfl rfl rfl (hC.1.2.1 _ (List.mem_of_getElem? (i := 65) rfl)) (hts _ k_X5_count_w1) (by decide +kernel) ⟨Nat.le_of_ble_eq_true rfl, Nat.le_of_ble_eq_true rfl⟩, hts _ k_X5_count_w14, hts _ k_X5_count_w15⟩ (wx_preV hC Z hS hA rfl (rfl : vwCl[0]? = some (RX0, TX0, 13))) rfl rfl hl.1 rfl (lv_room (Nat.le_of_ble_eq_true rfl)) dX5_count_164 ⟨(by show k + 0 ≤ mc; omega), (by show 6464 * k + 0 ≤ 6464 * mc; omega)⟩) hS (fun H locs Z hS => ?_)
                    obtain ⟨rfl, rfl⟩ := wx_ret_ok h
                    refine W.widen (k := mc) (n := 6464 * mc) (by omega) (by omega) ?_
                    exact W.iret hx hb hr (fun t ht hW => ⟨rfl, ⟨_, by rw [ht]; exact Z⟩, hS.F ht⟩) hS.2.2 dX5_count_167
                  · replace h := wx_iff c1_8 h
                    by_cases c1_9 : x1 = 9
                    · replace h := wx_ift c1_9 h
                      refine lv_tableIn (off := 167) (tgt := 168) hx hb dX5_count_1 (by rw [c1_9]; decide) (by rw [c1_9]; decide) (by rw [c1_9]; rfl) (by decide) ?_
                      refine lv_aload_n hx hb dX5_count_168 rfl (lv_at hl 0 rfl) ?_
                      refine wx_get (own := RX5) hx hb hts i_X5_count_5 hown hC.1 Z (o := 11) (ci := 5) rfl (rfl : vwCl[5]? = some (RX5, TX5, 7)) 0 (by decide) (hts _ k_X5_count_w0) (fun _ h9 => h9) (f := 107) rfl rfl dX5_count_169 ?_
                      refine wx_getN (own := RX5) hx hb hts i_X5_count_0 hown hC.1 Z (o := 7) (ci := 0) rfl (rfl : vwCl[0]? = some (RX0, TX0, 13)) 0 (by decide) (wx_nst hC 3 rfl rfl) (fun _ h9 => h9) (f := 0) rfl rfl dX5_count_172 ?_
                      refine lv_iload_n hx hb dX5_count_175 rfl (lv_at hl 1 rfl) ?_
                      refine lv_bipush (v := 9) hx hb dX5_count_176 (by decide) ?_
                      refine lv_isub hx hb dX5_count_178 ?_
                      obtain ⟨v179, ev179, iv179, h⟩ := wx_rI_ok h
                      refine wx_iald hx hb hC.1 Z (o := 7) (k := 0) (n := 4) rfl rfl iv179 dX5_count_179 ev179 ?_
                      obtain ⟨rfl, rfl⟩ := wx_ret_ok h
                      refine W.widen (k := mc) (n := 6464 * mc) (by omega) (by omega) ?_
                      exact W.iret hx hb hr (fun t ht hW => ⟨rfl, ⟨_, by rw [ht]; exact Z⟩, hS.F ht⟩) hS.2.2 dX5_count_180
                    · replace h := wx_iff c1_9 h
                      by_cases c1_10 : x1 = 10
                      · replace h := wx_ift c1_10 h
                        refine lv_tableIn (off := 167) (tgt := 168) hx hb dX5_count_1 (by rw [c1_10]; decide) (by rw [c1_10]; decide) (by rw [c1_10]; rfl) (by decide) ?_
                        refine lv_aload_n hx hb dX5_count_168 rfl (lv_at hl 0 rfl) ?_
                        refine wx_get (own := RX5) hx hb hts i_X5_count_5 hown hC.1 Z (o := 11) (ci := 5) rfl (rfl : vwCl[5]? = some (RX5, TX5, 7)) 0 (by decide) (hts _ k_X5_count_w0) (fun _ h9 => h9) (f := 107) rfl rfl dX5_count_169 ?_
                        refine wx_getN (own := RX5) hx hb hts i_X5_count_0 hown hC.1 Z (o := 7) (ci := 0) rfl (rfl : vwCl[0]? = some (RX0, TX0, 13)) 0 (by decide) (wx_nst hC 3 rfl rfl) (fun _ h9 => h9) (f := 0) rfl rfl dX5_count_172 ?_
                        refine lv_iload_n hx hb dX5_count_175 rfl (lv_at hl 1 rfl) ?_
                        refine lv_bipush (v := 9) hx hb dX5_count_176 (by decide) ?_
                        refine lv_isub hx hb dX5_count_178 ?_
                        obtain ⟨v179, ev179, iv179, h⟩ := wx_rI_ok h
                        refine wx_iald hx hb hC.1 Z (o := 7) (k := 0) (n := 4) rfl rfl iv179 dX5_count_179 ev179 ?_
                        obtain ⟨rfl, rfl⟩ := wx_ret_ok h
                        refine W.widen (k := mc) (n := 6464 * mc) (by omega) (by omega) ?_
                        exact W.iret hx hb hr (fun t ht hW => ⟨rfl, ⟨_, by rw [ht]; exact Z⟩, hS.F ht⟩) hS.2.2 dX5_count_180
                      · replace h := wx_iff c1_10 h
                        by_cases c1_11 : x1 = 11
                        · replace h := wx_ift c1_11 h
                          refine lv_tableIn (off := 167) (tgt := 168) hx hb dX5_count_1 (by rw [c1_11]; decide) (by rw [c1_11]; decide) (by rw [c1_11]; rfl) (by decide) ?_
                          refine lv_aload_n hx hb dX5_count_168 rfl (lv_at hl 0 rfl) ?_
                          refine wx_get (own := RX5) hx hb hts i_X5_count_5 hown hC.1 Z (o := 11) (ci := 5) rfl (rfl : vwCl[5]? = some (RX5, TX5, 7)) 0 (by decide) (hts _ k_X5_count_w0) (fun _ h9 => h9) (f := 107) rfl rfl dX5_count_169 ?_
                          refine wx_getN (own := RX5) hx hb hts i_X5_count_0 hown hC.1 Z (o := 7) (ci := 0) rfl (rfl : vwCl[0]? = some (RX0, TX0, 13)) 0 (by decide) (wx_nst hC 3 rfl rfl) (fun _ h9 => h9) (f := 0) rfl rfl dX5_count_172 ?_
                          refine lv_iload_n hx hb dX5_count_175 rfl (lv_at hl 1 rfl) ?_
                          refine lv_bipush (v := 9) hx hb dX5_count_176 (by decide) ?_
                          refine lv_isub hx hb dX5_count_178 ?_
                          obtain ⟨v179, ev179, iv179, h⟩ := wx_rI_ok h
                          refine wx_iald hx hb hC.1 Z (o := 7) (k := 0) (n := 4) rfl rfl iv179 dX5_count_179 ev179 ?_
                          obtain ⟨rfl, rfl⟩ := wx_ret_ok h
                          refine W.widen (k := mc) (n := 6464 * mc) (by omega) (by omega) ?_
                          exact W.iret hx hb hr (fun t ht hW => ⟨rfl, ⟨_, by rw [ht]; exact Z⟩, hS.F ht⟩) hS.2.2 dX5_count_180
                        · replace h := wx_iff c1_11 h
                          by_cases c1_12 : x1 = 12
                          · replace h := wx_ift c1_12 h
                            refine lv_tableIn (off := 167) (tgt := 168) hx hb dX5_count_1 (by rw [c1_12]; decide) (by rw [c1_12]; decide) (by rw [c1_12]; rfl) (by decide) ?_
                            refine lv_aload_n hx hb dX5_count_168 rfl (lv_at hl 0 rfl) ?_
                            refine wx_get (own := RX5) hx hb hts i_X5_count_5 hown hC.1 Z (o := 11) (ci := 5) rfl (rfl : vwCl[5]? = some (RX5, TX5, 7)) 0 (by decide) (hts _ k_X5_count_w0) (fun _ h9 => h9) (f := 107) rfl rfl dX5_count_169 ?_
                            refine wx_getN (own := RX5) hx hb hts i_X5_count_0 hown hC.1 Z (o := 7) (ci := 0) rfl (rfl : vwCl[0]? = some (RX0, TX0, 13)) 0 (by decide) (wx_nst hC 3 rfl rfl) (fun _ h9 => h9) (f := 0) rfl rfl dX5_count_172 ?_
                            refine lv_iload_n hx hb dX5_count_175 rfl (lv_at hl 1 rfl) ?_
                            refine lv_bipush (v := 9) hx hb dX5_count_176 (by decide) ?_
                            refine lv_isub hx hb dX5_count_178 ?_
                            obtain ⟨v179, ev179, iv179, h⟩ := wx_rI_ok h
                            refine wx_iald hx hb hC.1 Z (o := 7) (k := 0) (n := 4) rfl rfl iv179 dX5_count_179 ev179 ?_
                            obtain ⟨rfl, rfl⟩ := wx_ret_ok h
                            refine W.widen (k := mc) (n := 6464 * mc) (by omega) (by omega) ?_
                            exact W.iret hx hb hr (fun t ht hW => ⟨rfl, ⟨_, by rw [ht]; exact Z⟩, hS.F ht⟩) hS.2.2 dX5_count_180
                          · replace h := wx_iff c1_12 h
                            by_cases c1_13 : x1 = 13
                            · replace h := wx_ift c1_13 h
                              refine lv_tableIn (off := 180) (tgt := 181) hx hb dX5_count_1 (by rw [c1_13]; decide) (by rw [c1_13]; decide) (by rw [c1_13]; rfl) (by decide) ?_
                              refine lv_aload_n hx hb dX5_count_181 rfl (lv_at hl 0 rfl) ?_
                              refine wx_get (own := RX5) hx hb hts i_X5_count_5 hown hC.1 Z (o := 11) (ci := 5) rfl (rfl : vwCl[5]? = some (RX5, TX5, 7)) 4 (by decide) (hts _ k_X5_count_w16) (fun _ h9 => h9) (f := 115) rfl rfl dX5_count_182 ?_
                              refine wx_getN (own := RX5) hx hb hts i_X5_count_2 hown hC.1 Z (o := 15) (ci := 2) rfl (rfl : vwCl[2]? = some (RX2, TX2, 2)) 1 (by decide) (wx_nst hC 26 rfl rfl) (fun _ h9 => h9) (f := 1) rfl rfl dX5_count_185 ?_
                              obtain ⟨rfl, rfl⟩ := wx_ret_ok h
                              refine W.widen (k := mc) (n := 6464 * mc) (by omega) (by omega) ?_
                              exact W.iret hx hb hr (fun t ht hW => ⟨rfl, ⟨_, by rw [ht]; exact Z⟩, hS.F ht⟩) hS.2.2 dX5_count_188
                            · replace h := wx_iff c1_13 h
                              by_cases c1_14 : x1 = 14
                              · replace h := wx_ift c1_14 h
                                refine lv_tableIn (off := 188) (tgt := 189) hx hb dX5_count_1 (by rw [c1_14]; decide) (by rw [c1_14]; decide) (by rw [c1_14]; rfl) (by decide) ?_
                                refine lv_aload_n hx hb dX5_count_189 rfl (lv_at hl 0 rfl) ?_
                                refine wx_get (own := RX5) hx hb hts i_X5_count_5 hown hC.1 Z (o := 11) (ci := 5) rfl (rfl : vwCl[5]? = some (RX5, TX5, 7)) 3 (by decide) (hts _ k_X5_count_w17) (fun _ h9 => h9) (f := 114) rfl rfl dX5_count_190 ?_
                                refine wx_getN (own := RX5) hx hb hts i_X5_count_3 hown hC.1 Z (o := 14) (ci := 3) rfl (rfl : vwCl[3]? = some (RX3, TX3, 2)) 1 (by decide) (wx_nst hC 24 rfl rfl) (fun _ h9 => h9) (f := 1) rfl rfl dX5_count_193 ?_
                                obtain ⟨rfl, rfl⟩ := wx_ret_ok h
                                refine W.widen (k := mc) (n := 6464 * mc) (by omega) (by omega) ?_
                                exact W.iret hx hb hr (fun t ht hW => ⟨rfl, ⟨_, by rw [ht]; exact Z⟩, hS.F ht⟩) hS.2.2 dX5_count_196
                              · replace h := wx_iff c1_14 h
                                have n1_0 := wx_ni c1_0
                                have n1_1 := wx_ni c1_1
                                have n1_2 := wx_ni c1_2
                                have n1_3 := wx_ni c1_3
                                have n1_4 := wx_ni c1_4
                                have n1_5 := wx_ni c1_5
                                have n1_6 := wx_ni c1_6
                                have n1_7 := wx_ni c1_7
                                have n1_8 := wx_ni c1_8
                                have n1_9 := wx_ni c1_9
                                have n1_10 := wx_ni c1_10
                                have n1_11 := wx_ni c1_11
                                have n1_12 := wx_ni c1_12
                                have n1_13 := wx_ni c1_13
                                have n1_14 := wx_ni c1_14
                                rw [show (0 : Int32).toInt = 0 from by decide] at n1_0
                                rw [show (1 : Int32).toInt = 1 from by decide] at n1_1
                                rw [show (2 : Int32).toInt = 2 from by decide] at n1_2
                                rw [show (3 : Int32).toInt = 3 from by decide] at n1_3
                                rw [show (4 : Int32).toInt = 4 from by decide] at n1_4
                                rw [show (5 : Int32).toInt = 5 from by decide] at n1_5
                                rw [show (6 : Int32).toInt = 6 from by decide] at n1_6
                                rw [show (7 : Int32).toInt = 7 from by decide] at n1_7
                                rw [show (8 : Int32).toInt = 8 from by decide] at n1_8
                                rw [show (9 : Int32).toInt = 9 from by decide] at n1_9
                                rw [show (10 : Int32).toInt = 10 from by decide] at n1_10
                                rw [show (11 : Int32).toInt = 11 from by decide] at n1_11
                                rw [show (12 : Int32).toInt = 12 from by decide] at n1_12
                                rw [show (13 : Int32).toInt = 13 from by decide] at n1_13
                                rw [show (14 : Int32).toInt = 14 from by decide] at n1_14
                                refine lv_tableOut (tgt := 197) hx hb dX5_count_1 (by omega) (by decide) ?_
                                refine lv_bipush (v := (-2)) hx hb dX5_count_197 (by decide) ?_
                                obtain ⟨rfl, rfl⟩ := wx_ret_ok h
                                refine W.widen (k := mc) (n := 6464 * mc) (by omega) (by omega) ?_
                                exact W.iret hx hb hr (fun t ht hW => ⟨rfl, ⟨_, by rw [ht]; exact Z⟩, hS.F ht⟩) hS.2.2 dX5_count_199
set_option maxRecDepth 20000 in
theorem c_X5_count (l : Launch) {D : va_G} {ad : Nat → Nat → Nat} {rd : Nat → Nat} {ca : Nat → ClassId} {A : Nat → Prop} {σ : wx_St}    {x1 : Int32} {r : Int32} {σ' : wx_St} (h : f_X5_count x1 σ = some (r, σ')) : wx_MA l yX5_count wsX5_count 6 152 D ad rd ca A [.ref (ad 11 99), .int x1] σ (some (.int r)) σ' := by
  refine Met.ofW (cc := cX5_count) (maxL := 2) (ret := (some .int)) (by decide +kernel) rfl ?_
  intro p e s m args below meth c s₁ B0 hml hv
  obtain ⟨rfl, hC, Z, hA⟩ := hv
  have hl := lv_entry ([.ref (ad 11 99), .int x1]) (n := 2) (Nat.le_of_ble_eq_true rfl)
  rw [lg_entry_eq]
  generalize (lg_sl ([.ref (ad 11 99), .int x1]) ++ List.replicate (2 - (lg_sl ([.ref (ad 11 99), .int x1])).length) Slot.unset).toArray = ls at hl ⊢
  exact b_X5_count_0 ⟨B0.exec, B0.bytes, hml, B0.returns, atoms_spec (ws := wsX5_count) B0.pre, findClass_of_methodNamed B0.named, B0.notSynchronized, hC, hA⟩  (k := 0) (by have hm := m_X5_count_0 h; omega) h Z va_S.rf hl
theorem i_X0_placesOf_0 : ∀ w ∈ wsX00, w ∈ wsX0_placesOf := by decide +kernel
theorem k_X0_placesOf_w0 : Cond.fieldLink RX0 15 "WarmProbes$Board" "nets" "[I" ∈ wsX0_placesOf := by decide +kernel
set_option maxRecDepth 20000 in
set_option maxHeartbeats 4000000 in
theorem b_X0_placesOf_23 (B : wx_B p s m args meth c cX0_placesOf 4 (some .int) wsX0_placesOf RX0 D ad ca A) {o : Nat}  (ho : o < 11) {r : Int32} {σ : wx_St} {K4 : Int32 → Int32 → Int32 → wx_St → Option Int32} (hK4 : ∀ {x1 : Int32} {x2 : Int32} {x3 : Int32}   (h : K4 x1 x2 x3 σ = some r) {H : Heap} {locs : List Loc} (Z : wx_Z D ad rd ca A σ H) (hS : va_S A s.heap H locs) {ls : Array Slot} (hl : lv_has ls 4 [(0, .ref (ad o 99)), (1, .int x1), (2, .int x2), (3, .int x3)]), W p l e ({ frames := 0, cells := 0, slots := 0, locals := 0 } : Room) s m args below meth c H locs 0 0 (MQ below (wx_Q D ad rd ca A (some (.int r)) σ) args s 0 0 A) (F0 m 4 ls [])) {x1 : Int32} {x2 : Int32} {x3 : Int32}   (h : f_X0_placesOf_23 o K4 x1 x2 x3 σ = some r) {H : Heap} {locs : List Loc} (Z : wx_Z D ad rd ca A σ H) (hS : va_S A s.heap H locs) {ls : Array Slot} (hl : lv_has ls 4 [(0, .ref (ad o 99)), (1, .int x1), (2, .int x2), (3, .int x3)]) : W p l e ({ frames := 0, cells := 0, slots := 0, locals := 0 } : Room) s m args below meth c H locs 0 0 (MQ below (wx_Q D ad rd ca A (some (.int r)) σ) args s 0 0 A) (F0 m 23 ls []) := by
  obtain ⟨hx, hb, hml, hr, hts, hown, hlk, hC, hA⟩ := id B
  unfold f_X0_placesOf_23 at h
  refine lv_iinc (v := x3 + 1) (lv' := [(3, .int (x3 + 1)), (0, .ref (ad o 99)), (1, .int x1), (2, .int x2)]) hx hb dX0_placesOf_23 hl (k := 3) rfl rfl (by decide) rfl (fun ls hl => ?_)
  refine lv_goto (tgt := 4) hx hb dX0_placesOf_26 (by decide) ?_
  exact hK4 h Z hS (lv_sub hl [1, 2, 3, 0] rfl)
set_option maxRecDepth 20000 in
set_option maxHeartbeats 4000000 in
theorem b_X0_placesOf_4 (B : wx_B p s m args meth c cX0_placesOf 4 (some .int) wsX0_placesOf RX0 D ad ca A) {o : Nat}  (ho : o < 11) {r : Int32} {σ : wx_St}   :
    ∀ {n : Nat} {x1 : Int32} {x2 : Int32} {x3 : Int32}   (h : f_X0_placesOf_4 o n x1 x2 x3 σ = some r) {H : Heap} {locs : List Loc} (Z : wx_Z D ad rd ca A σ H) (hS : va_S A s.heap H locs) {ls : Array Slot} (hl : lv_has ls 4 [(0, .ref (ad o 99)), (1, .int x1), (2, .int x2), (3, .int x3)]), W p l e ({ frames := 0, cells := 0, slots := 0, locals := 0 } : Room) s m args below meth c H locs 0 0 (MQ below (wx_Q D ad rd ca A (some (.int r)) σ) args s 0 0 A) (F0 m 4 ls []) := by
  obtain ⟨hx, hb, hml, hr, hts, hown, hlk, hC, hA⟩ := id B
  intro n
  induction n with
  | zero => intro x1 x2 x3   h H locs Z hS ls hl; exact wx_no h
  | succ n ih =>
    intro x1 x2 x3   h H locs Z hS ls hl
    rw [f_X0_placesOf_4] at h
    refine lv_iload_n hx hb dX0_placesOf_4 rfl (lv_at hl 3 rfl) ?_
    refine lv_bipush (v := 64) hx hb dX0_placesOf_5 (by decide) ?_
    refine lv_icmp_ge (tgt := 29) hx hb dX0_placesOf_7 (by decide) (fun c7 => ?_) (fun c7 => ?_)
    · replace h := wx_ift c7 h
      refine lv_iload_n hx hb dX0_placesOf_29 rfl (lv_at hl 2 rfl) ?_
      obtain rfl := Option.some.inj h
      exact W.iret hx hb hr (fun t ht hW => ⟨rfl, by rw [ht]; exact Z, hS.F ht⟩) hS.2.2 dX0_placesOf_30
    · replace h := wx_iff c7 h
      refine lv_aload_n hx hb dX0_placesOf_10 rfl (lv_at hl 0 rfl) ?_
      refine wx_get (own := RX0) hx hb hts i_X0_placesOf_0 hown hC.1 Z (o := o) (ci := 0) (wx_sbo ho 99) (rfl : vwCl[0]? = some (RX0, TX0, 13)) 1 (by decide) (hts _ k_X0_placesOf_w0) (fun _ h9 => h9) (f := 0) rfl rfl dX0_placesOf_11 ?_
      refine lv_iload_n hx hb dX0_placesOf_14 rfl (lv_at hl 3 rfl) ?_
      obtain ⟨v15, ev15, iv15, h⟩ := wx_rI_ok h
      refine wx_iald hx hb hC.1 Z (o := o) (k := 1) (n := 64) (wx_sbo ho 1) rfl iv15 dX0_placesOf_15 ev15 ?_
      refine lv_iload_n hx hb dX0_placesOf_16 rfl (lv_at hl 1 rfl) ?_
      refine lv_icmp_ne (tgt := 23) hx hb dX0_placesOf_17 (by decide) (fun c17 => ?_) (fun c17 => ?_)
      · replace h := wx_iff c17 h
        exact b_X0_placesOf_23 B ho (K4 := (f_X0_placesOf_4 o n)) @ih h Z hS (lv_sub hl [0, 1, 2, 3] rfl)
      · replace h := wx_ift c17 h
        refine lv_iinc (v := x2 + 1) (lv' := [(2, .int (x2 + 1)), (0, .ref (ad o 99)), (1, .int x1), (3, .int x3)]) hx hb dX0_placesOf_20 hl (k := 2) rfl rfl (by decide) rfl (fun ls hl => ?_)
        exact b_X0_placesOf_23 B ho (K4 := (f_X0_placesOf_4 o n)) @ih h Z hS (lv_sub hl [1, 2, 0, 3] rfl)
set_option maxRecDepth 20000 in
set_option maxHeartbeats 4000000 in
theorem b_X0_placesOf_0 (B : wx_B p s m args meth c cX0_placesOf 4 (some .int) wsX0_placesOf RX0 D ad ca A) {o : Nat}  (ho : o < 11) {r : Int32} {σ : wx_St}  {x1 : Int32}   (h : f_X0_placesOf o x1 σ = some r) {H : Heap} {locs : List Loc} (Z : wx_Z D ad rd ca A σ H) (hS : va_S A s.heap H locs) {ls : Array Slot} (hl : lv_has ls 4 [(0, .ref (ad o 99)), (1, .int x1)]) : W p l e ({ frames := 0, cells := 0, slots := 0, locals := 0 } : Room) s m args below meth c H locs 0 0 (MQ below (wx_Q D ad rd ca A (some (.int r)) σ) args s 0 0 A) (F0 m 0 ls []) := by
  obtain ⟨hx, hb, hml, hr, hts, hown, hlk, hC, hA⟩ := id B
  unfold f_X0_placesOf at h
  refine lv_iconst (v := 0) hx hb dX0_placesOf_0 (by decide) ?_
  refine lv_istore_n (lv' := [(2, .int 0), (0, .ref (ad o 99)), (1, .int x1)]) hx hb dX0_placesOf_1 rfl hl (by decide) rfl (fun ls hl => ?_)
  refine lv_iconst (v := 0) hx hb dX0_placesOf_2 (by decide) ?_
  refine lv_istore_n (lv' := [(3, .int 0), (2, .int 0), (0, .ref (ad o 99)), (1, .int x1)]) hx hb dX0_placesOf_3 rfl hl (by decide) rfl (fun ls hl => ?_)
  exact b_X0_placesOf_4 B ho h Z hS (lv_sub hl [2, 3, 1, 0] rfl)
set_option maxRecDepth 20000 in
theorem c_X0_placesOf (l : Launch) {D : va_G} {ad : Nat → Nat → Nat} {rd : Nat → Nat} {ca : Nat → ClassId} {A : Nat → Prop} {σ : wx_St} {o : Nat}  (ho : o < 11) {x1 : Int32} {r : Int32} (h : f_X0_placesOf o x1 σ = some r) : wx_M l yX0_placesOf wsX0_placesOf 0 0 D ad rd ca A [.ref (ad o 99), .int x1] σ (some (.int r)) σ := by
  refine Met.ofW (cc := cX0_placesOf) (maxL := 4) (ret := (some .int)) (by decide +kernel) rfl ?_
  intro p e s m args below meth c s₁ B0 hml hv
  obtain ⟨rfl, hC, Z, hA⟩ := hv
  have hl := lv_entry ([.ref (ad o 99), .int x1]) (n := 4) (Nat.le_of_ble_eq_true rfl)
  rw [lg_entry_eq]
  generalize (lg_sl ([.ref (ad o 99), .int x1]) ++ List.replicate (4 - (lg_sl ([.ref (ad o 99), .int x1])).length) Slot.unset).toArray = ls at hl ⊢
  exact b_X0_placesOf_0 ⟨B0.exec, B0.bytes, hml, B0.returns, atoms_spec (ws := wsX0_placesOf) B0.pre, findClass_of_methodNamed B0.named, B0.notSynchronized, hC, hA⟩ ho  h Z va_S.rf hl
theorem i_X0_warmthOf_0 : ∀ w ∈ wsX00, w ∈ wsX0_warmthOf := by decide +kernel
theorem k_X0_warmthOf_w0 : Cond.fieldLink RX0 15 "WarmProbes$Board" "nets" "[I" ∈ wsX0_warmthOf := by decide +kernel
theorem k_X0_warmthOf_w1 : Cond.fieldLink RX0 34 "WarmProbes$Board" "warmth" "[F" ∈ wsX0_warmthOf := by decide +kernel
set_option maxRecDepth 20000 in
set_option maxHeartbeats 4000000 in
theorem b_X0_warmthOf_29 (B : wx_B p s m args meth c cX0_warmthOf 4 (some .float) wsX0_warmthOf RX0 D ad ca A) {o : Nat}  (ho : o < 11) {r : UInt32} {σ : wx_St} {K4 : Int32 → UInt32 → Int32 → wx_St → Option UInt32} (hK4 : ∀ {x1 : Int32} {x2 : UInt32} {x3 : Int32}   (h : K4 x1 x2 x3 σ = some r) {H : Heap} {locs : List Loc} (Z : wx_Z D ad rd ca A σ H) (hS : va_S A s.heap H locs) {ls : Array Slot} (hl : lv_has ls 4 [(0, .ref (ad o 99)), (1, .int x1), (2, .float x2), (3, .int x3)]), W p l e ({ frames := 0, cells := 0, slots := 0, locals := 0 } : Room) s m args below meth c H locs 0 0 (MQ below (wx_Q D ad rd ca A (some (.float r)) σ) args s 0 0 A) (F0 m 4 ls [])) {x1 : Int32} {x2 : UInt32} {x3 : Int32}   (h : f_X0_warmthOf_29 o K4 x1 x2 x3 σ = some r) {H : Heap} {locs : List Loc} (Z : wx_Z D ad rd ca A σ H) (hS : va_S A s.heap H locs) {ls : Array Slot} (hl : lv_has ls 4 [(0, .ref (ad o 99)), (1, .int x1), (2, .float x2), (3, .int x3)]) : W p l e ({ frames := 0, cells := 0, slots := 0, locals := 0 } : Room) s m args below meth c H locs 0 0 (MQ below (wx_Q D ad rd ca A (some (.float r)) σ) args s 0 0 A) (F0 m 29 ls []) := by
  obtain ⟨hx, hb, hml, hr, hts, hown, hlk, hC, hA⟩ := id B
  unfold f_X0_warmthOf_29 at h
  refine lv_iinc (v := x3 + 1) (lv' := [(3, .int (x3 + 1)), (0, .ref (ad o 99)), (1, .int x1), (2, .float x2)]) hx hb dX0_warmthOf_29 hl (k := 3) rfl rfl (by decide) rfl (fun ls hl => ?_)
  refine lv_goto (tgt := 4) hx hb dX0_warmthOf_32 (by decide) ?_
  exact hK4 h Z hS (lv_sub hl [1, 2, 3, 0] rfl)
set_option maxRecDepth 20000 in
set_option maxHeartbeats 4000000 in
theorem b_X0_warmthOf_4 (B : wx_B p s m args meth c cX0_warmthOf 4 (some .float) wsX0_warmthOf RX0 D ad ca A) {o : Nat}  (ho : o < 11) {r : UInt32} {σ : wx_St}   :
    ∀ {n : Nat} {x1 : Int32} {x2 : UInt32} {x3 : Int32}   (h : f_X0_warmthOf_4 o n x1 x2 x3 σ = some r) {H : Heap} {locs : List Loc} (Z : wx_Z D ad rd ca A σ H) (hS : va_S A s.heap H locs) {ls : Array Slot} (hl : lv_has ls 4 [(0, .ref (ad o 99)), (1, .int x1), (2, .float x2), (3, .int x3)]), W p l e ({ frames := 0, cells := 0, slots := 0, locals := 0 } : Room) s m args below meth c H locs 0 0 (MQ below (wx_Q D ad rd ca A (some (.float r)) σ) args s 0 0 A) (F0 m 4 ls []) := by
  obtain ⟨hx, hb, hml, hr, hts, hown, hlk, hC, hA⟩ := id B
  intro n
  induction n with
  | zero => intro x1 x2 x3   h H locs Z hS ls hl; exact wx_no h
  | succ n ih =>
    intro x1 x2 x3   h H locs Z hS ls hl
    rw [f_X0_warmthOf_4] at h
    refine lv_iload_n hx hb dX0_warmthOf_4 rfl (lv_at hl 3 rfl) ?_
    refine lv_bipush (v := 64) hx hb dX0_warmthOf_5 (by decide) ?_
    refine lv_icmp_ge (tgt := 35) hx hb dX0_warmthOf_7 (by decide) (fun c7 => ?_) (fun c7 => ?_)
    · replace h := wx_ift c7 h
      refine lv_fload_n hx hb dX0_warmthOf_35 rfl (lv_at hl 2 rfl) ?_
      obtain rfl := Option.some.inj h
      exact W.fret hx hb hr (fun t ht hW => ⟨rfl, by rw [ht]; exact Z, hS.F ht⟩) hS.2.2 dX0_warmthOf_36
    · replace h := wx_iff c7 h
      refine lv_aload_n hx hb dX0_warmthOf_10 rfl (lv_at hl 0 rfl) ?_
      refine wx_get (own := RX0) hx hb hts i_X0_warmthOf_0 hown hC.1 Z (o := o) (ci := 0) (wx_sbo ho 99) (rfl : vwCl[0]? = some (RX0, TX0, 13)) 1 (by decide) (hts _ k_X0_warmthOf_w0) (fun _ h9 => h9) (f := 0) rfl rfl dX0_warmthOf_11 ?_
      refine lv_iload_n hx hb dX0_warmthOf_14 rfl (lv_at hl 3 rfl) ?_
      obtain ⟨v15, ev15, iv15, h⟩ := wx_rI_ok h
      refine wx_iald hx hb hC.1 Z (o := o) (k := 1) (n := 64) (wx_sbo ho 1) rfl iv15 dX0_warmthOf_15 ev15 ?_
      refine lv_iload_n hx hb dX0_warmthOf_16 rfl (lv_at hl 1 rfl) ?_
      refine lv_icmp_ne (tgt := 29) hx hb dX0_warmthOf_17 (by decide) (fun c17 => ?_) (fun c17 => ?_)
      · replace h := wx_iff c17 h
        exact b_X0_warmthOf_29 B ho (K4 := (f_X0_warmthOf_4 o n)) @ih h Z hS (lv_sub hl [0, 1, 2, 3] rfl)
      · replace h := wx_ift c17 h
        refine lv_fload_n hx hb dX0_warmthOf_20 rfl (lv_at hl 2 rfl) ?_
        refine lv_aload_n hx hb dX0_warmthOf_21 rfl (lv_at hl 0 rfl) ?_
        refine wx_get (own := RX0) hx hb hts i_X0_warmthOf_0 hown hC.1 Z (o := o) (ci := 0) (wx_sbo ho 99) (rfl : vwCl[0]? = some (RX0, TX0, 13)) 7 (by decide) (hts _ k_X0_warmthOf_w1) (fun _ h9 => h9) (f := 0) rfl rfl dX0_warmthOf_22 ?_
        refine lv_iload_n hx hb dX0_warmthOf_25 rfl (lv_at hl 3 rfl) ?_
        obtain ⟨v26, ev26, iv26, h⟩ := wx_rF_ok h
        refine wx_fald hx hb hC.1 Z (o := o) (k := 7) (n := 64) (wx_sbo ho 7) rfl iv26 dX0_warmthOf_26 ev26 ?_
        obtain ⟨v27, ev27, nv27, h⟩ := wx_f_ok h
        refine wx_fadd hx hb dX0_warmthOf_27 ev27 nv27 ?_
        refine lv_fstore_n (lv' := [(2, .float v27), (0, .ref (ad o 99)), (1, .int x1), (3, .int x3)]) hx hb dX0_warmthOf_28 rfl hl (by decide) rfl (fun ls hl => ?_)
        exact b_X0_warmthOf_29 B ho (K4 := (f_X0_warmthOf_4 o n)) @ih h Z hS (lv_sub hl [1, 2, 0, 3] rfl)
set_option maxRecDepth 20000 in
set_option maxHeartbeats 4000000 in
theorem b_X0_warmthOf_0 (B : wx_B p s m args meth c cX0_warmthOf 4 (some .float) wsX0_warmthOf RX0 D ad ca A) {o : Nat}  (ho : o < 11) {r : UInt32} {σ : wx_St}  {x1 : Int32}   (h : f_X0_warmthOf o x1 σ = some r) {H : Heap} {locs : List Loc} (Z : wx_Z D ad rd ca A σ H) (hS : va_S A s.heap H locs) {ls : Array Slot} (hl : lv_has ls 4 [(0, .ref (ad o 99)), (1, .int x1)]) : W p l e ({ frames := 0, cells := 0, slots := 0, locals := 0 } : Room) s m args below meth c H locs 0 0 (MQ below (wx_Q D ad rd ca A (some (.float r)) σ) args s 0 0 A) (F0 m 0 ls []) := by
  obtain ⟨hx, hb, hml, hr, hts, hown, hlk, hC, hA⟩ := id B
  unfold f_X0_warmthOf at h
  refine lv_fconst0 hx hb dX0_warmthOf_0 ?_
  refine lv_fstore_n (lv' := [(2, .float FP.fconst0), (0, .ref (ad o 99)), (1, .int x1)]) hx hb dX0_warmthOf_1 rfl hl (by decide) rfl (fun ls hl => ?_)
  refine lv_iconst (v := 0) hx hb dX0_warmthOf_2 (by decide) ?_
  refine lv_istore_n (lv' := [(3, .int 0), (2, .float FP.fconst0), (0, .ref (ad o 99)), (1, .int x1)]) hx hb dX0_warmthOf_3 rfl hl (by decide) rfl (fun ls hl => ?_)
  exact b_X0_warmthOf_4 B ho h Z hS (lv_sub hl [2, 3, 1, 0] rfl)
set_option maxRecDepth 20000 in
theorem c_X0_warmthOf (l : Launch) {D : va_G} {ad : Nat → Nat → Nat} {rd : Nat → Nat} {ca : Nat → ClassId} {A : Nat → Prop} {σ : wx_St} {o : Nat}  (ho : o < 11) {x1 : Int32} {r : UInt32} (h : f_X0_warmthOf o x1 σ = some r) : wx_M l yX0_warmthOf wsX0_warmthOf 0 0 D ad rd ca A [.ref (ad o 99), .int x1] σ (some (.float r)) σ := by
  refine Met.ofW (cc := cX0_warmthOf) (maxL := 4) (ret := (some .float)) (by decide +kernel) rfl ?_
  intro p e s m args below meth c s₁ B0 hml hv
  obtain ⟨rfl, hC, Z, hA⟩ := hv
  have hl := lv_entry ([.ref (ad o 99), .int x1]) (n := 4) (Nat.le_of_ble_eq_true rfl)
  rw [lg_entry_eq]
  generalize (lg_sl ([.ref (ad o 99), .int x1]) ++ List.replicate (4 - (lg_sl ([.ref (ad o 99), .int x1])).length) Slot.unset).toArray = ls at hl ⊢
  exact b_X0_warmthOf_0 ⟨B0.exec, B0.bytes, hml, B0.returns, atoms_spec (ws := wsX0_warmthOf) B0.pre, findClass_of_methodNamed B0.named, B0.notSynchronized, hC, hA⟩ ho  h Z va_S.rf hl
set_option maxRecDepth 20000 in
set_option maxHeartbeats 4000000 in
theorem b_X5_isNet_16 (B : wx_B p s m args meth c cX5_isNet 1 (some .boolean) wsX5_isNet RX5 D ad ca A)    {r : Int32} {σ : wx_St}  {x0 : Int32} {y0 : Int32}   (h : f_X5_isNet_16 x0 y0 = some r) {H : Heap} {locs : List Loc} (Z : wx_Z D ad rd ca A σ H) (hS : va_S A s.heap H locs) {ls : Array Slot} (hl : lv_has ls 1 [(0, .int x0)]) : W p l e ({ frames := 0, cells := 0, slots := 0, locals := 0 } : Room) s m args below meth c H locs 0 0 (MQ below (wx_Q D ad rd ca A (some (.int r)) σ) args s 0 0 A) (F0 m 16 ls [.int y0]) := by
  obtain ⟨hx, hb, hml, hr, hts, hown, hlk, hC, hA⟩ := id B
  unfold f_X5_isNet_16 at h
  obtain ⟨hz, h⟩ := wx_z_ok h
  obtain rfl := Option.some.inj h
  exact W.zret hx hb hr (wx_nb hz) (fun t ht hW => ⟨rfl, by rw [ht]; exact Z, hS.F ht⟩) hS.2.2 dX5_isNet_16
set_option maxRecDepth 20000 in
set_option maxHeartbeats 4000000 in
theorem b_X5_isNet_15 (B : wx_B p s m args meth c cX5_isNet 1 (some .boolean) wsX5_isNet RX5 D ad ca A)    {r : Int32} {σ : wx_St}  {x0 : Int32}   (h : f_X5_isNet_15 x0 = some r) {H : Heap} {locs : List Loc} (Z : wx_Z D ad rd ca A σ H) (hS : va_S A s.heap H locs) {ls : Array Slot} (hl : lv_has ls 1 [(0, .int x0)]) : W p l e ({ frames := 0, cells := 0, slots := 0, locals := 0 } : Room) s m args below meth c H locs 0 0 (MQ below (wx_Q D ad rd ca A (some (.int r)) σ) args s 0 0 A) (F0 m 15 ls []) := by
  obtain ⟨hx, hb, hml, hr, hts, hown, hlk, hC, hA⟩ := id B
  unfold f_X5_isNet_15 at h
  refine lv_iconst (v := 0) hx hb dX5_isNet_15 (by decide) ?_
  exact b_X5_isNet_16 B h Z hS (lv_sub hl [0] rfl)
set_option maxRecDepth 20000 in
set_option maxHeartbeats 4000000 in
theorem b_X5_isNet_0 (B : wx_B p s m args meth c cX5_isNet 1 (some .boolean) wsX5_isNet RX5 D ad ca A)    {r : Int32} {σ : wx_St}  {x0 : Int32}   (h : f_X5_isNet x0 = some r) {H : Heap} {locs : List Loc} (Z : wx_Z D ad rd ca A σ H) (hS : va_S A s.heap H locs) {ls : Array Slot} (hl : lv_has ls 1 [(0, .int x0)]) : W p l e ({ frames := 0, cells := 0, slots := 0, locals := 0 } : Room) s m args below meth c H locs 0 0 (MQ below (wx_Q D ad rd ca A (some (.int r)) σ) args s 0 0 A) (F0 m 0 ls []) := by
  obtain ⟨hx, hb, hml, hr, hts, hown, hlk, hC, hA⟩ := id B
  unfold f_X5_isNet at h
  refine lv_iload_n hx hb dX5_isNet_0 rfl (lv_at hl 0 rfl) ?_
  refine lv_iconst (v := 1) hx hb dX5_isNet_1 (by decide) ?_
  refine lv_icmp_lt (tgt := 15) hx hb dX5_isNet_2 (by decide) (fun c2 => ?_) (fun c2 => ?_)
  · replace h := wx_ift c2 h
    exact b_X5_isNet_15 B h Z hS (lv_sub hl [0] rfl)
  · replace h := wx_iff c2 h
    refine lv_iload_n hx hb dX5_isNet_5 rfl (lv_at hl 0 rfl) ?_
    refine lv_bipush (v := 7) hx hb dX5_isNet_6 (by decide) ?_
    refine lv_icmp_gt (tgt := 15) hx hb dX5_isNet_8 (by decide) (fun c8 => ?_) (fun c8 => ?_)
    · replace h := wx_ift c8 h
      exact b_X5_isNet_15 B h Z hS (lv_sub hl [0] rfl)
    · replace h := wx_iff c8 h
      refine lv_iconst (v := 1) hx hb dX5_isNet_11 (by decide) ?_
      refine lv_goto (tgt := 16) hx hb dX5_isNet_12 (by decide) ?_
      exact b_X5_isNet_16 B h Z hS (lv_sub hl [0] rfl)
set_option maxRecDepth 20000 in
theorem c_X5_isNet (l : Launch) {D : va_G} {ad : Nat → Nat → Nat} {rd : Nat → Nat} {ca : Nat → ClassId} {A : Nat → Prop} {σ : wx_St}    {x0 : Int32} {r : Int32} (h : f_X5_isNet x0 = some r) : wx_M l yX5_isNet wsX5_isNet 0 0 D ad rd ca A [.int x0] σ (some (.int r)) σ := by
  refine Met.ofW (cc := cX5_isNet) (maxL := 1) (ret := (some .boolean)) (by decide +kernel) rfl ?_
  intro p e s m args below meth c s₁ B0 hml hv
  obtain ⟨rfl, hC, Z, hA⟩ := hv
  have hl := lv_entry ([.int x0]) (n := 1) (Nat.le_of_ble_eq_true rfl)
  rw [lg_entry_eq]
  generalize (lg_sl ([.int x0]) ++ List.replicate (1 - (lg_sl ([.int x0])).length) Slot.unset).toArray = ls at hl ⊢
  exact b_X5_isNet_0 ⟨B0.exec, B0.bytes, hml, B0.returns, atoms_spec (ws := wsX5_isNet) B0.pre, findClass_of_methodNamed B0.named, B0.notSynchronized, hC, hA⟩   h Z va_S.rf hl
theorem i_X5_ofNet_0 : ∀ w ∈ wsX00, w ∈ wsX5_ofNet := by decide +kernel
theorem i_X5_ofNet_5 : ∀ w ∈ wsX50, w ∈ wsX5_ofNet := by decide +kernel
theorem k_X5_ofNet_w0 : Cond.fieldLink RX5 10 "WarmProbes" "board" "LWarmProbes$Board;" ∈ wsX5_ofNet := by decide +kernel
theorem k_X5_ofNet_w1 : Cond.initialized RX0 ∈ wsX5_ofNet := by decide +kernel
theorem k_X5_ofNet_w2 : Cond.instanceMethod yX0_placesOf ∈ wsX5_ofNet := by decide +kernel
theorem k_X5_ofNet_w3 : Cond.selects RX0 yX0_placesOf yX0_placesOf ∈ wsX5_ofNet := by decide +kernel
theorem k_X5_ofNet_w4 : Cond.instanceMethod yX0_warmthOf ∈ wsX5_ofNet := by decide +kernel
theorem k_X5_ofNet_w5 : Cond.selects RX0 yX0_warmthOf yX0_warmthOf ∈ wsX5_ofNet := by decide +kernel
set_option maxRecDepth 20000 in
set_option maxHeartbeats 4000000 in
theorem b_X5_ofNet_0 (B : wx_B p s m args meth c cX5_ofNet 3 (some .int) wsX5_ofNet RX5 D ad ca A)    {r : Int32} {σ : wx_St}  {x1 : Int32} {x2 : Int32}   (h : f_X5_ofNet x1 x2 σ = some r) {H : Heap} {locs : List Loc} (Z : wx_Z D ad rd ca A σ H) (hS : va_S A s.heap H locs) {ls : Array Slot} (hl : lv_has ls 3 [(0, .ref (ad 11 99)), (1, .int x1), (2, .int x2)]) : W p l e ({ frames := 1, cells := 0, slots := 0, locals := 23 } : Room) s m args below meth c H locs 0 0 (MQ below (wx_Q D ad rd ca A (some (.int r)) σ) args s 0 0 A) (F0 m 0 ls []) := by
  obtain ⟨hx, hb, hml, hr, hts, hown, hlk, hC, hA⟩ := id B
  unfold f_X5_ofNet at h
  refine lv_iload_n hx hb dX5_ofNet_0 rfl (lv_at hl 1 rfl) ?_
  obtain ⟨v1, hc1, h⟩ := wx_o_ok h
  refine wx_call (va_runS (As := [.int x1]) (rest := []) ⟨hx, hb, hml, hown, hts⟩ (c_X5_isNet l (D := D) (ad := ad) (rd := rd) (ca := ca) (A := A) (σ := σ) hc1) (va_cwS 1 hts gX5_ofNet_X5_isNet rfl rfl rfl (by decide +kernel) ⟨Nat.le_of_ble_eq_true rfl, Nat.le_of_ble_eq_true rfl⟩) (wx_preS hC Z hS hA) rfl rfl hl.1 rfl (lv_room (Nat.le_of_ble_eq_true rfl)) dX5_ofNet_1 ⟨Nat.zero_le _, Nat.zero_le _⟩) hS (fun H locs Z hS => ?_)
  refine lv_if_ne (tgt := 9) hx hb dX5_ofNet_4 (by decide) (fun c4 => ?_) (fun c4 => ?_)
  · replace h := wx_iff c4 h
    refine lv_iload_n hx hb dX5_ofNet_9 rfl (lv_at hl 2 rfl) ?_
    by_cases c10_0 : x2 = 0
    · replace h := wx_ift c10_0 h
      refine lv_tableIn (off := 26) (tgt := 36) hx hb dX5_ofNet_10 (by rw [c10_0]; decide) (by rw [c10_0]; decide) (by rw [c10_0]; rfl) (by decide) ?_
      refine lv_aload_n hx hb dX5_ofNet_36 rfl (lv_at hl 0 rfl) ?_
      refine wx_get (own := RX5) hx hb hts i_X5_ofNet_5 hown hC.1 Z (o := 11) (ci := 5) rfl (rfl : vwCl[5]? = some (RX5, TX5, 7)) 0 (by decide) (hts _ k_X5_ofNet_w0) (fun _ h9 => h9) (f := 107) rfl rfl dX5_ofNet_37 ?_
      refine lv_iload_n hx hb dX5_ofNet_40 rfl (lv_at hl 1 rfl) ?_
      obtain ⟨v41, hc41, h⟩ := wx_o_ok h
      refine wx_call (va_runVN (As := [.int x1]) (rest := []) ⟨hx, hb, hml, hown, hts⟩ (c_X0_placesOf l (D := D) (ad := ad) (rd := rd) (ca := ca) (A := A) (σ := σ) (o := 7) (by decide : 7 < 11) hc41) ⟨va_cnB 1 hts gX5_ofNet_X0_placesOf_n160 rfl rfl rfl (hC.1.2.1 _ (List.mem_of_getElem? (i := 59) rfl)) (hts _ k_X5_ofNet_w1) (by decide +kernel) ⟨Nat.le_of_ble_eq_true rfl, Nat.le_of_ble_eq_true rfl⟩, hts _ k_X5_ofNet_w2, hts _ k_X5_ofNet_w3⟩ (wx_preV hC Z hS hA rfl (rfl : vwCl[0]? = some (RX0, TX0, 13))) rfl rfl hl.1 rfl (lv_room (Nat.le_of_ble_eq_true rfl)) dX5_ofNet_41 ⟨Nat.zero_le _, Nat.zero_le _⟩) hS (fun H locs Z hS => ?_)
      obtain rfl := Option.some.inj h
      exact W.iret hx hb hr (fun t ht hW => ⟨rfl, by rw [ht]; exact Z, hS.F ht⟩) hS.2.2 dX5_ofNet_44
    · replace h := wx_iff c10_0 h
      by_cases c10_1 : x2 = 1
      · replace h := wx_ift c10_1 h
        refine lv_tableIn (off := 35) (tgt := 45) hx hb dX5_ofNet_10 (by rw [c10_1]; decide) (by rw [c10_1]; decide) (by rw [c10_1]; rfl) (by decide) ?_
        refine lv_aload_n hx hb dX5_ofNet_45 rfl (lv_at hl 0 rfl) ?_
        refine wx_get (own := RX5) hx hb hts i_X5_ofNet_5 hown hC.1 Z (o := 11) (ci := 5) rfl (rfl : vwCl[5]? = some (RX5, TX5, 7)) 0 (by decide) (hts _ k_X5_ofNet_w0) (fun _ h9 => h9) (f := 107) rfl rfl dX5_ofNet_46 ?_
        refine wx_getN (own := RX5) hx hb hts i_X5_ofNet_0 hown hC.1 Z (o := 7) (ci := 0) rfl (rfl : vwCl[0]? = some (RX0, TX0, 13)) 2 (by decide) (wx_nst hC 5 rfl rfl) (fun _ h9 => h9) (f := 0) rfl rfl dX5_ofNet_49 ?_
        refine lv_iload_n hx hb dX5_ofNet_52 rfl (lv_at hl 1 rfl) ?_
        obtain ⟨v53, ev53, iv53, h⟩ := wx_rI_ok h
        refine wx_iald hx hb hC.1 Z (o := 7) (k := 2) (n := 8) rfl rfl iv53 dX5_ofNet_53 ev53 ?_
        obtain rfl := Option.some.inj h
        exact W.iret hx hb hr (fun t ht hW => ⟨rfl, by rw [ht]; exact Z, hS.F ht⟩) hS.2.2 dX5_ofNet_54
      · replace h := wx_iff c10_1 h
        by_cases c10_2 : x2 = 2
        · replace h := wx_ift c10_2 h
          refine lv_tableIn (off := 45) (tgt := 55) hx hb dX5_ofNet_10 (by rw [c10_2]; decide) (by rw [c10_2]; decide) (by rw [c10_2]; rfl) (by decide) ?_
          refine lv_aload_n hx hb dX5_ofNet_55 rfl (lv_at hl 0 rfl) ?_
          refine wx_get (own := RX5) hx hb hts i_X5_ofNet_5 hown hC.1 Z (o := 11) (ci := 5) rfl (rfl : vwCl[5]? = some (RX5, TX5, 7)) 0 (by decide) (hts _ k_X5_ofNet_w0) (fun _ h9 => h9) (f := 107) rfl rfl dX5_ofNet_56 ?_
          refine lv_iload_n hx hb dX5_ofNet_59 rfl (lv_at hl 1 rfl) ?_
          obtain ⟨v60, hc60, h⟩ := wx_o_ok h
          refine wx_call (va_runVN (As := [.int x1]) (rest := []) ⟨hx, hb, hml, hown, hts⟩ (c_X0_warmthOf l (D := D) (ad := ad) (rd := rd) (ca := ca) (A := A) (σ := σ) (o := 7) (by decide : 7 < 11) hc60) ⟨va_cnB 1 hts gX5_ofNet_X0_warmthOf_n166 rfl rfl rfl (hC.1.2.1 _ (List.mem_of_getElem? (i := 60) rfl)) (hts _ k_X5_ofNet_w1) (by decide +kernel) ⟨Nat.le_of_ble_eq_true rfl, Nat.le_of_ble_eq_true rfl⟩, hts _ k_X5_ofNet_w4, hts _ k_X5_ofNet_w5⟩ (wx_preV hC Z hS hA rfl (rfl : vwCl[0]? = some (RX0, TX0, 13))) rfl rfl hl.1 rfl (lv_room (Nat.le_of_ble_eq_true rfl)) dX5_ofNet_60 ⟨Nat.zero_le _, Nat.zero_le _⟩) hS (fun H locs Z hS => ?_)
          obtain ⟨v63, hc63, h⟩ := wx_o_ok h
          refine wx_call (va_runS (As := [.float v60]) (rest := []) ⟨hx, hb, hml, hown, hts⟩ (c_X5_bitsOfFloat l (D := D) (ad := ad) (rd := rd) (ca := ca) (A := A) (σ := σ) hc63) (va_cwS 1 hts gX5_ofNet_X5_bitsOfFloat rfl rfl rfl (by decide +kernel) ⟨Nat.le_of_ble_eq_true rfl, Nat.le_of_ble_eq_true rfl⟩) (wx_preS hC Z hS hA) rfl rfl hl.1 rfl (lv_room (Nat.le_of_ble_eq_true rfl)) dX5_ofNet_63 ⟨Nat.zero_le _, Nat.zero_le _⟩) hS (fun H locs Z hS => ?_)
          obtain rfl := Option.some.inj h
          exact W.iret hx hb hr (fun t ht hW => ⟨rfl, by rw [ht]; exact Z, hS.F ht⟩) hS.2.2 dX5_ofNet_66
        · replace h := wx_iff c10_2 h
          have n10_0 := wx_ni c10_0
          have n10_1 := wx_ni c10_1
          have n10_2 := wx_ni c10_2
          rw [show (0 : Int32).toInt = 0 from by decide] at n10_0
          rw [show (1 : Int32).toInt = 1 from by decide] at n10_1
          rw [show (2 : Int32).toInt = 2 from by decide] at n10_2
          refine lv_tableOut (tgt := 67) hx hb dX5_ofNet_10 (by omega) (by decide) ?_
          refine lv_bipush (v := (-2)) hx hb dX5_ofNet_67 (by decide) ?_
          obtain rfl := Option.some.inj h
          exact W.iret hx hb hr (fun t ht hW => ⟨rfl, by rw [ht]; exact Z, hS.F ht⟩) hS.2.2 dX5_ofNet_69
  · replace h := wx_ift c4 h
    refine lv_iconst (v := (-1)) hx hb dX5_ofNet_7 (by decide) ?_
    obtain rfl := Option.some.inj h
    exact W.iret hx hb hr (fun t ht hW => ⟨rfl, by rw [ht]; exact Z, hS.F ht⟩) hS.2.2 dX5_ofNet_8
set_option maxRecDepth 20000 in
theorem c_X5_ofNet (l : Launch) {D : va_G} {ad : Nat → Nat → Nat} {rd : Nat → Nat} {ca : Nat → ClassId} {A : Nat → Prop} {σ : wx_St}    {x1 : Int32} {x2 : Int32} {r : Int32} (h : f_X5_ofNet x1 x2 σ = some r) : wx_M l yX5_ofNet wsX5_ofNet 1 23 D ad rd ca A [.ref (ad 11 99), .int x1, .int x2] σ (some (.int r)) σ := by
  refine Met.ofW (cc := cX5_ofNet) (maxL := 3) (ret := (some .int)) (by decide +kernel) rfl ?_
  intro p e s m args below meth c s₁ B0 hml hv
  obtain ⟨rfl, hC, Z, hA⟩ := hv
  have hl := lv_entry ([.ref (ad 11 99), .int x1, .int x2]) (n := 3) (Nat.le_of_ble_eq_true rfl)
  rw [lg_entry_eq]
  generalize (lg_sl ([.ref (ad 11 99), .int x1, .int x2]) ++ List.replicate (3 - (lg_sl ([.ref (ad 11 99), .int x1, .int x2])).length) Slot.unset).toArray = ls at hl ⊢
  exact b_X5_ofNet_0 ⟨B0.exec, B0.bytes, hml, B0.returns, atoms_spec (ws := wsX5_ofNet) B0.pre, findClass_of_methodNamed B0.named, B0.notSynchronized, hC, hA⟩   h Z va_S.rf hl
