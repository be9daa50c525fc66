def f_X5_isIn_15   (x0 : Int64) (x2 : Int32) (y0 : Int32) : Option Int32 :=
  wx_z y0 (some y0)
def f_X5_isIn   (x0 : Int64) (x2 : Int32) : Option Int32 :=
  if (lg_cmp (((x0.toUInt64 >>> (x2.toInt64.toUInt64 &&& Int64.toUInt64 63)).toInt64) &&& (1 : Int64)) (0 : Int64)) = 0 then
    f_X5_isIn_15 x0 x2 0
   else
    f_X5_isIn_15 x0 x2 1
def f_X5_step_206 (o0 : Nat) (k0 : Nat) (n0 : Nat) (o2 : Nat) (k2 : Nat) (n2 : Nat) (o6 : Nat) (k6 : Nat) (K27 : Int32 → Int32 → Int64 → UInt32 → UInt32 → UInt32 → Int32 → wx_St → Option (Unit × wx_St)) (x1 : Int32) (x3 : Int32) (x4 : Int64) (x7 : UInt32) (x8 : UInt32) (x9 : UInt32) (x10 : Int32) (x11 : Int32) (x12 : UInt32) (x13 : UInt32) (x14 : UInt32) (y1 : Int32) (y2 : UInt32) (σ : wx_St) : Option (Unit × wx_St) :=
  wx_w (wx_sF σ o2 k2 (Int32.toNatClampNeg y1) y2) n2 y1 (fun σ206 => K27 x1 x3 x4 x7 x8 x9 (x10 + 1) σ206)
def f_X5_step_167 (o0 : Nat) (k0 : Nat) (n0 : Nat) (o2 : Nat) (k2 : Nat) (n2 : Nat) (o6 : Nat) (k6 : Nat) (K27 : Int32 → Int32 → Int64 → UInt32 → UInt32 → UInt32 → Int32 → wx_St → Option (Unit × wx_St)) (x1 : Int32) (x3 : Int32) (x4 : Int64) (x7 : UInt32) (x8 : UInt32) (x9 : UInt32) (x10 : Int32) (x11 : Int32) (x12 : UInt32) (x13 : UInt32) (σ : wx_St) : Option (Unit × wx_St) :=
  wx_f (FP.fadd x12 x13) (fun v171 => wx_f (FP.fmul v171 x8) (fun v174 => wx_f (FP.fdiv v174 (1120403456 : UInt32)) (fun v178 => wx_o (f_X5_isIn x4 x10) (fun v190 => if v190 = 0 then
    f_X5_step_206 o0 k0 n0 o2 k2 n2 o6 k6 K27 x1 x3 x4 x7 x8 x9 x10 x11 x12 x13 v178 (x3 + x10) v178 σ
   else
    wx_f (FP.fadd v178 x9) (fun v200 => f_X5_step_206 o0 k0 n0 o2 k2 n2 o6 k6 K27 x1 x3 x4 x7 x8 x9 x10 x11 x12 x13 v178 (x3 + x10) v200 σ)))))
def f_X5_step_136 (o0 : Nat) (k0 : Nat) (n0 : Nat) (o2 : Nat) (k2 : Nat) (n2 : Nat) (o6 : Nat) (k6 : Nat) (K27 : Int32 → Int32 → Int64 → UInt32 → UInt32 → UInt32 → Int32 → wx_St → Option (Unit × wx_St)) (x1 : Int32) (x3 : Int32) (x4 : Int64) (x7 : UInt32) (x8 : UInt32) (x9 : UInt32) (x10 : Int32) (x11 : Int32) (x12 : UInt32) (x13 : UInt32) (σ : wx_St) : Option (Unit × wx_St) :=
  if 7 ≤ (x10 - x10 / 8 * 8) then
    f_X5_step_167 o0 k0 n0 o2 k2 n2 o6 k6 K27 x1 x3 x4 x7 x8 x9 x10 x11 x12 x13 σ
   else
    wx_rF σ o0 k0 n0 (x11 + 1) (fun v153 => wx_f (FP.fsub v153 x12) (fun v156 => wx_f (FP.fmul v156 x7) (fun v159 => wx_f (FP.fdiv v159 (1120403456 : UInt32)) (fun v163 => wx_f (FP.fadd x13 v163) (fun v164 => f_X5_step_167 o0 k0 n0 o2 k2 n2 o6 k6 K27 x1 x3 x4 x7 x8 x9 x10 x11 x12 v164 σ)))))
def f_X5_step_107 (o0 : Nat) (k0 : Nat) (n0 : Nat) (o2 : Nat) (k2 : Nat) (n2 : Nat) (o6 : Nat) (k6 : Nat) (K27 : Int32 → Int32 → Int64 → UInt32 → UInt32 → UInt32 → Int32 → wx_St → Option (Unit × wx_St)) (x1 : Int32) (x3 : Int32) (x4 : Int64) (x7 : UInt32) (x8 : UInt32) (x9 : UInt32) (x10 : Int32) (x11 : Int32) (x12 : UInt32) (x13 : UInt32) (σ : wx_St) : Option (Unit × wx_St) :=
  if (x10 - x10 / 8 * 8) ≤ 0 then
    f_X5_step_136 o0 k0 n0 o2 k2 n2 o6 k6 K27 x1 x3 x4 x7 x8 x9 x10 x11 x12 x13 σ
   else
    wx_rF σ o0 k0 n0 (x11 - 1) (fun v122 => wx_f (FP.fsub v122 x12) (fun v125 => wx_f (FP.fmul v125 x7) (fun v128 => wx_f (FP.fdiv v128 (1120403456 : UInt32)) (fun v132 => wx_f (FP.fadd x13 v132) (fun v133 => f_X5_step_136 o0 k0 n0 o2 k2 n2 o6 k6 K27 x1 x3 x4 x7 x8 x9 x10 x11 x12 v133 σ)))))
def f_X5_step_78 (o0 : Nat) (k0 : Nat) (n0 : Nat) (o2 : Nat) (k2 : Nat) (n2 : Nat) (o6 : Nat) (k6 : Nat) (K27 : Int32 → Int32 → Int64 → UInt32 → UInt32 → UInt32 → Int32 → wx_St → Option (Unit × wx_St)) (x1 : Int32) (x3 : Int32) (x4 : Int64) (x7 : UInt32) (x8 : UInt32) (x9 : UInt32) (x10 : Int32) (x11 : Int32) (x12 : UInt32) (x13 : UInt32) (σ : wx_St) : Option (Unit × wx_St) :=
  if 56 ≤ x10 then
    f_X5_step_107 o0 k0 n0 o2 k2 n2 o6 k6 K27 x1 x3 x4 x7 x8 x9 x10 x11 x12 x13 σ
   else
    wx_rF σ o0 k0 n0 (x11 + 8) (fun v93 => wx_f (FP.fsub v93 x12) (fun v96 => wx_f (FP.fmul v96 x7) (fun v99 => wx_f (FP.fdiv v99 (1120403456 : UInt32)) (fun v103 => wx_f (FP.fadd x13 v103) (fun v104 => f_X5_step_107 o0 k0 n0 o2 k2 n2 o6 k6 K27 x1 x3 x4 x7 x8 x9 x10 x11 x12 v104 σ)))))
def f_X5_step_27 (o0 : Nat) (k0 : Nat) (n0 : Nat) (o2 : Nat) (k2 : Nat) (n2 : Nat) (o6 : Nat) (k6 : Nat)  : Nat → Int32 → Int32 → Int64 → UInt32 → UInt32 → UInt32 → Int32 → wx_St → Option (Unit × wx_St)
  | 0, _, _, _, _, _, _, _, _ => none
  | n + 1, x1, x3, x4, x7, x8, x9, x10, σ =>
  if 64 ≤ x10 then
    some ((), σ)
   else
    wx_rF σ o0 k0 n0 (x1 + x10) (fun v43 => if x10 < 8 then
      f_X5_step_78 o0 k0 n0 o2 k2 n2 o6 k6 (f_X5_step_27 o0 k0 n0 o2 k2 n2 o6 k6 n) x1 x3 x4 x7 x8 x9 x10 (x1 + x10) v43 FP.fconst0 σ
     else
      wx_rF σ o0 k0 n0 ((x1 + x10) - 8) (fun v64 => wx_f (FP.fsub v64 v43) (fun v67 => wx_f (FP.fmul v67 x7) (fun v70 => wx_f (FP.fdiv v70 (1120403456 : UInt32)) (fun v74 => wx_f (FP.fadd FP.fconst0 v74) (fun v75 => f_X5_step_78 o0 k0 n0 o2 k2 n2 o6 k6 (f_X5_step_27 o0 k0 n0 o2 k2 n2 o6 k6 n) x1 x3 x4 x7 x8 x9 x10 (x1 + x10) v43 v75 σ))))))
def f_X5_step (o0 : Nat) (k0 : Nat) (n0 : Nat) (o2 : Nat) (k2 : Nat) (n2 : Nat) (o6 : Nat) (k6 : Nat)  (x1 : Int32) (x3 : Int32) (x4 : Int64) (σ : wx_St) : Option (Unit × wx_St) :=
  wx_rI σ o6 k6 4 0 (fun v3 => wx_rI σ o6 k6 4 1 (fun v12 => wx_rI σ o6 k6 4 2 (fun v20 => f_X5_step_27 o0 k0 n0 o2 k2 n2 o6 k6 2000 x1 x3 x4 (FP.i2f v3) (FP.i2f (100 - v12)) (FP.i2f v20) 0 σ)))
def f_X1_warmthBy_91   (x1 : Int32) (x2 : Int32) (x3 : Int32) (x5 : Int32) (σ : wx_St) : Option (UInt32 × wx_St) :=
  wx_rF σ 13 (100 + x1.toNatClampNeg) 6464 ((x2 * 64) + x3) (fun v99 => some (v99, σ))
def f_X1_warmthBy_36   : Nat → Int32 → Int32 → Int32 → Int32 → wx_St → Option (UInt32 × wx_St)
  | 0, _, _, _, _, _ => none
  | n + 1, x1, x2, x3, x5, σ =>
  if x2 ≤ x5 then
    f_X1_warmthBy_91 x1 x2 x3 x5 σ
   else
    if 100 ≤ x5 then
      f_X1_warmthBy_91 x1 x2 x3 x5 σ
     else
      wx_b (f_X5_step 13 (100 + x1.toNatClampNeg) 6464 13 (100 + x1.toNatClampNeg) 6464 13 0 (x5 * 64) ((x5 + 1) * 64) ((1 : Int64) <<< (x1.toInt64 &&& 63)) σ) (fun v72 σ72 => wx_w (wx_sI σ72 13 2 (Int32.toNatClampNeg x1) (x5 + 1)) 64 x1 (fun σ84 => (f_X1_warmthBy_36 n) x1 x2 x3 (x5 + 1) σ84))
def f_X1_warmthBy_20   (x1 : Int32) (x2 : Int32) (x3 : Int32) (σ : wx_St) : Option (UInt32 × wx_St) :=
  wx_rA σ x1 (fun v25 => if v25 = true then
    wx_rI σ 13 2 64 x1 (fun v33 => f_X1_warmthBy_36 2000 x1 x2 x3 v33 σ)
   else none)
def f_X1_warmthBy   (x1 : Int32) (x2 : Int32) (x3 : Int32) (σ : wx_St) : Option (UInt32 × wx_St) :=
  wx_rA σ x1 (fun v5 => if v5 = true then
    f_X1_warmthBy_20 x1 x2 x3 σ
   else
    wx_l (wx_sA σ (Int32.toNatClampNeg x1)) (fun σ17 => f_X1_warmthBy_20 x1 x2 x3 σ17))
def f_X1_follow_50 (o1 : Nat) (k1 : Nat)  : Nat → Int32 → wx_St → Option (Unit × wx_St)
  | 0, _, _ => none
  | n + 1, x2, σ =>
  if 64 ≤ x2 then
    some ((), σ)
   else
    wx_w (wx_sI σ 13 2 (Int32.toNatClampNeg x2) 0) 64 x2 (fun σ62 => (f_X1_follow_50 o1 k1 n) (x2 + 1) σ62)
def f_X1_follow_37 (o1 : Nat) (k1 : Nat)   (σ : wx_St) : Option (Unit × wx_St) :=
  wx_l (wx_cI σ o1 k1 0 13 0 0 4) (fun σ45 => f_X1_follow_50 o1 k1 2000 0 σ45)
def f_X1_follow (o1 : Nat) (k1 : Nat)   (σ : wx_St) : Option (Unit × wx_St) :=
  wx_rI σ 13 0 4 0 (fun v5 => wx_rI σ o1 k1 4 0 (fun v8 => if v5 = v8 then
    wx_rI σ 13 0 4 1 (fun v17 => wx_rI σ o1 k1 4 1 (fun v20 => if v17 = v20 then
      wx_rI σ 13 0 4 2 (fun v29 => wx_rI σ o1 k1 4 2 (fun v32 => if v29 = v32 then
        some ((), σ)
       else
        f_X1_follow_37 o1 k1 σ))
     else
      f_X1_follow_37 o1 k1 σ))
   else
    f_X1_follow_37 o1 k1 σ))
def f_X5_readOf   (x0 : UInt32) : Option Int32 :=
  wx_f (FP.fmul x0 (1092616192 : UInt32)) (fun v4 => some (FP.f2i v4))
def f_X4_fits_80 (b1 : Nat) (K14 : Int32 → Int32 → Int32 → wx_St → Option (Int32 × wx_St)) (x2 : Int32) (x3 : Int32) (x4 : Int32) (x5 : UInt32) (σ : wx_St) : Option (Int32 × wx_St) :=
  wx_o (f_X5_readOf x5) (fun v82 => wx_rI σ b1 11 8 x4 (fun v91 => wx_rI σ b1 0 4 3 (fun v101 => if (if 0 ≤ (v82 - v91) then (v82 - v91) else 0 - (v82 - v91)) ≤ v101 then
    K14 x2 x3 (x4 + 1) σ
   else
    some (0, σ))))
def f_X4_fits_77 (b1 : Nat) (K14 : Int32 → Int32 → Int32 → wx_St → Option (Int32 × wx_St)) (x2 : Int32) (x3 : Int32) (x4 : Int32) (x5 : UInt32) (y0 : UInt32) (y1 : UInt32) (σ : wx_St) : Option (Int32 × wx_St) :=
  wx_f (FP.fadd y0 y1) (fun v77 => f_X4_fits_80 b1 K14 x2 x3 x4 v77 σ)
def f_X4_fits_45 (b1 : Nat) (K14 : Int32 → Int32 → Int32 → wx_St → Option (Int32 × wx_St)) (x2 : Int32) (x3 : Int32) (x4 : Int32) (y0 : UInt32) (σ : wx_St) : Option (Int32 × wx_St) :=
  if x3 = (-6) then
    f_X4_fits_80 b1 K14 x2 x3 x4 y0 σ
   else
    wx_rI σ b1 12 8 x4 (fun v66 => wx_rI σ b1 10 8 x4 (fun v73 => wx_b (f_X1_warmthBy x3 v66 v73 σ) (fun v74 σ74 => f_X4_fits_77 b1 K14 x2 x3 x4 y0 y0 v74 σ74)))
def f_X4_fits_14 (b1 : Nat)  : Nat → Int32 → Int32 → Int32 → wx_St → Option (Int32 × wx_St)
  | 0, _, _, _, _ => none
  | n + 1, x2, x3, x4, σ =>
  if (σ.2.2.1 b1 9) ≤ x4 then
    some (1, σ)
   else
    wx_rI σ b1 12 8 x4 (fun v34 => wx_rI σ b1 10 8 x4 (fun v41 => wx_b (f_X1_warmthBy x2 v34 v41 σ) (fun v42 σ42 => f_X4_fits_45 b1 (f_X4_fits_14 b1 n) x2 x3 x4 v42 σ42)))
def f_X4_fits (b1 : Nat)  (x2 : Int32) (x3 : Int32) (σ : wx_St) : Option (Int32 × wx_St) :=
  wx_b (f_X1_follow b1 0 σ) (fun v8 σ8 => f_X4_fits_14 b1 2000 x2 x3 0 σ8)
def f_X0_isFed_18 (o : Nat)  (x1 : Int32) (x2 : Int32) (y0 : Int32) (σ : wx_St) : Option Int32 :=
  wx_z y0 (some y0)
def f_X0_isFed (o : Nat)  (x1 : Int32) (x2 : Int32) (σ : wx_St) : Option Int32 :=
  wx_rI σ o 2 8 x1 (fun v5 => if (((v5.toUInt32 >>> (x2.toUInt32 &&& Int32.toUInt32 31)).toInt32) &&& 1) = 0 then
    f_X0_isFed_18 o x1 x2 0 σ
   else
    f_X0_isFed_18 o x1 x2 1 σ)
def f_X5_neighbourOf_43   (x0 : Int32) (x1 : Int32) (y0 : Int32) : Option Int32 :=
  some y0
def f_X5_neighbourOf_59   (x0 : Int32) (x1 : Int32) (y0 : Int32) : Option Int32 :=
  some y0
def f_X5_neighbourOf_75   (x0 : Int32) (x1 : Int32) (y0 : Int32) : Option Int32 :=
  some y0
def f_X5_neighbourOf_93   (x0 : Int32) (x1 : Int32) (y0 : Int32) : Option Int32 :=
  some y0
def f_X5_neighbourOf   (x0 : Int32) (x1 : Int32) : Option Int32 :=
  if x1 = 0 then
    if x0 < 8 then
      f_X5_neighbourOf_43 x0 x1 (-6)
     else
      f_X5_neighbourOf_43 x0 x1 (x0 - 8)
   else
    if x1 = 1 then
      if 56 ≤ x0 then
        f_X5_neighbourOf_59 x0 x1 (-6)
       else
        f_X5_neighbourOf_59 x0 x1 (x0 + 8)
     else
      if x1 = 2 then
        if (x0 - x0 / 8 * 8) ≤ 0 then
          f_X5_neighbourOf_75 x0 x1 (-6)
         else
          f_X5_neighbourOf_75 x0 x1 (x0 - 1)
       else
        if 7 ≤ (x0 - x0 / 8 * 8) then
          f_X5_neighbourOf_93 x0 x1 (-6)
         else
          f_X5_neighbourOf_93 x0 x1 (x0 + 1)
def f_X0_isSuspect_38 (o : Nat) (K2 : Int32 → Int32 → wx_St → Option Int32) (x1 : Int32) (x2 : Int32) (x3 : Int32) (σ : wx_St) : Option Int32 :=
  K2 x1 (x2 + 1) σ
def f_X0_isSuspect_2 (o : Nat)  : Nat → Int32 → Int32 → wx_St → Option Int32
  | 0, _, _, _ => none
  | n + 1, x1, x2, σ =>
  if 4 ≤ x2 then
    some 0
   else
    wx_o (f_X5_neighbourOf x1 x2) (fun v9 => if v9 < 0 then
      f_X0_isSuspect_38 o (f_X0_isSuspect_2 o n) x1 x2 v9 σ
     else
      wx_rI σ o 1 64 x1 (fun v23 => wx_rI σ o 1 64 v9 (fun v29 => wx_o (f_X0_isFed o v23 v29 σ) (fun v30 => if v30 = 0 then
        f_X0_isSuspect_38 o (f_X0_isSuspect_2 o n) x1 x2 v9 σ
       else
        some 1))))
def f_X0_isSuspect (o : Nat)  (x1 : Int32) (σ : wx_St) : Option Int32 :=
  f_X0_isSuspect_2 o 2000 x1 0 σ
def f_X4_couldBe_24 (b1 : Nat)  (x2 : Int32) (y0 : Int32) (σ : wx_St) : Option (Int32 × wx_St) :=
  wx_z y0 (some (y0, σ))
def f_X4_couldBe_23 (b1 : Nat)  (x2 : Int32) (σ : wx_St) : Option (Int32 × wx_St) :=
  f_X4_couldBe_24 b1 x2 0 σ
def f_X4_couldBe_16 (b1 : Nat)  (x2 : Int32) (y0 : Int32) (σ : wx_St) : Option (Int32 × wx_St) :=
  if y0 = 0 then
    f_X4_couldBe_23 b1 x2 σ
   else
    f_X4_couldBe_24 b1 x2 1 σ
def f_X4_couldBe (b1 : Nat)  (x2 : Int32) (σ : wx_St) : Option (Int32 × wx_St) :=
  wx_o (f_X0_isSuspect b1 x2 σ) (fun v2 => if v2 = 0 then
    f_X4_couldBe_23 b1 x2 σ
   else
    wx_b (f_X4_fits b1 x2 (-6) σ) (fun v13 σ13 => f_X4_couldBe_16 b1 x2 v13 σ13))
def f_X4_fitting_29 (b1 : Nat) (K5 : Int64 → Int32 → wx_St → Option (Int64 × wx_St)) (x2 : Int64) (x4 : Int32) (σ : wx_St) : Option (Int64 × wx_St) :=
  K5 x2 (x4 + 1) σ
def f_X4_fitting_19 (b1 : Nat) (K5 : Int64 → Int32 → wx_St → Option (Int64 × wx_St)) (x2 : Int64) (x4 : Int32) (y0 : Int32) (σ : wx_St) : Option (Int64 × wx_St) :=
  if y0 = 0 then
    f_X4_fitting_29 b1 K5 x2 x4 σ
   else
    f_X4_fitting_29 b1 K5 (x2 ||| ((1 : Int64) <<< (x4.toInt64 &&& 63))) x4 σ
def f_X4_fitting_5 (b1 : Nat)  : Nat → Int64 → Int32 → wx_St → Option (Int64 × wx_St)
  | 0, _, _, _ => none
  | n + 1, x2, x4, σ =>
  if 64 ≤ x4 then
    some (x2, σ)
   else
    wx_b (f_X4_couldBe b1 x4 σ) (fun v16 σ16 => f_X4_fitting_19 b1 (f_X4_fitting_5 b1 n) x2 x4 v16 σ16)
def f_X4_fitting (b1 : Nat)   (σ : wx_St) : Option (Int64 × wx_St) :=
  f_X4_fitting_5 b1 2000 (0 : Int64) 0 σ
variable {p : Program} {l : Launch} {e : Env} {s : State} {m : MethodId} {args : Array Value} {below : List Frame} {meth : Method} {c : Code} {D : va_G} {ad : Nat → Nat → Nat} {rd : Nat → Nat} {ca : Nat → ClassId} {A : Nat → Prop}
set_option maxRecDepth 20000 in
set_option maxHeartbeats 4000000 in
theorem b_X5_isIn_15 (B : wx_B p s m args meth c cX5_isIn 3 (some .boolean) wsX5_isIn RX5 D ad ca A)    {r : Int32} {σ : wx_St}  {x0 : Int64} {x2 : Int32} {y0 : Int32}   (h : f_X5_isIn_15 x0 x2 y0 = some r) {H : Heap} {locs : List Loc} (Z : wx_Z D ad rd ca A σ H) (hS : va_S A s.heap H locs) {ls : Array Slot} (hl : lv_has ls 3 [(0, .long x0), (2, .int x2)]) : W p l e ({ frames := 0, cells := 0, slots := 0, locals := 0 } : Room) s m args below meth c H locs 0 0 (MQ below (wx_Q D ad rd ca A (some (.int r)) σ) args s 0 0 A) (F0 m 15 ls [.int y0]) := by
  obtain ⟨hx, hb, hml, hr, hts, hown, hlk, hC, hA⟩ := id B
  unfold f_X5_isIn_15 at h
  obtain ⟨hz, h⟩ := wx_z_ok h
  obtain rfl := Option.some.inj h
  exact W.zret hx hb hr (wx_nb hz) (fun t ht hW => ⟨rfl, by rw [ht]; exact Z, hS.F ht⟩) hS.2.2 dX5_isIn_15
set_option maxRecDepth 20000 in
set_option maxHeartbeats 4000000 in
theorem b_X5_isIn_0 (B : wx_B p s m args meth c cX5_isIn 3 (some .boolean) wsX5_isIn RX5 D ad ca A)    {r : Int32} {σ : wx_St}  {x0 : Int64} {x2 : Int32}   (h : f_X5_isIn x0 x2 = some r) {H : Heap} {locs : List Loc} (Z : wx_Z D ad rd ca A σ H) (hS : va_S A s.heap H locs) {ls : Array Slot} (hl : lv_has ls 3 [(0, .long x0), (2, .int x2)]) : W p l e ({ frames := 0, cells := 0, slots := 0, locals := 0 } : Room) s m args below meth c H locs 0 0 (MQ below (wx_Q D ad rd ca A (some (.int r)) σ) args s 0 0 A) (F0 m 0 ls []) := by
  obtain ⟨hx, hb, hml, hr, hts, hown, hlk, hC, hA⟩ := id B
  unfold f_X5_isIn at h
  refine lv_lload_n hx hb dX5_isIn_0 rfl (lv_at hl 0 rfl) ?_
  refine lv_iload_n hx hb dX5_isIn_1 rfl (lv_at hl 1 rfl) ?_
  refine lv_lushr (v := (x0.toUInt64 >>> (x2.toInt64.toUInt64 &&& Int64.toUInt64 63)).toInt64) hx hb dX5_isIn_2 rfl ?_
  refine lv_lconst (v := 1) hx hb dX5_isIn_3 (by decide) ?_
  refine lv_land hx hb dX5_isIn_4 ?_
  refine lv_lconst (v := 0) hx hb dX5_isIn_5 (by decide) ?_
  refine W.lcmp hx hb dX5_isIn_6 ?_
  refine lv_if_eq (tgt := 14) hx hb dX5_isIn_7 (by decide) (fun c7 => ?_) (fun c7 => ?_)
  · replace h := wx_ift c7 h
    refine lv_iconst (v := 0) hx hb dX5_isIn_14 (by decide) ?_
    exact b_X5_isIn_15 B h Z hS (lv_sub hl [0, 1] rfl)
  · replace h := wx_iff c7 h
    refine lv_iconst (v := 1) hx hb dX5_isIn_10 (by decide) ?_
    refine lv_goto (tgt := 15) hx hb dX5_isIn_11 (by decide) ?_
    exact b_X5_isIn_15 B h Z hS (lv_sub hl [0, 1] rfl)
set_option maxRecDepth 20000 in
theorem c_X5_isIn (l : Launch) {D : va_G} {ad : Nat → Nat → Nat} {rd : Nat → Nat} {ca : Nat → ClassId} {A : Nat → Prop} {σ : wx_St}    {x0 : Int64} {x2 : Int32} {r : Int32} (h : f_X5_isIn x0 x2 = some r) : wx_M l yX5_isIn wsX5_isIn 0 0 D ad rd ca A [.long x0, .int x2] σ (some (.int r)) σ := by
  refine Met.ofW (cc := cX5_isIn) (maxL := 3) (ret := (some .boolean)) (by decide) rfl ?_
  intro p e s m args below meth c s₁ B0 hml hv
  obtain ⟨rfl, hC, Z, hA⟩ := hv
  have hl := lv_entry ([.long x0, .int x2]) (n := 3) (Nat.le_of_ble_eq_true rfl)
  rw [lg_entry_eq]
  generalize (lg_sl ([.long x0, .int x2]) ++ List.replicate (3 - (lg_sl ([.long x0, .int x2])).length) Slot.unset).toArray = ls at hl ⊢
  exact b_X5_isIn_0 ⟨B0.exec, B0.bytes, hml, B0.returns, atoms_spec (ws := wsX5_isIn) B0.pre, findClass_of_methodNamed B0.named, B0.notSynchronized, hC, hA⟩   h Z va_S.rf hl
theorem k_X5_step_w0 : Cond.constantFloat RX5 259 (1120403456) ∈ wsX5_step := by decide +kernel
set_option maxRecDepth 20000 in
set_option maxHeartbeats 4000000 in
theorem m_X5_step_206 {o0 : Nat} {k0 : Nat} {n0 : Nat} {o2 : Nat} {k2 : Nat} {n2 : Nat} {o6 : Nat} {k6 : Nat}  {σ' : wx_St} {K27 : Int32 → Int32 → Int64 → UInt32 → UInt32 → UInt32 → Int32 → wx_St → Option (Unit × wx_St)} (mK27 : ∀ {x1 : Int32} {x3 : Int32} {x4 : Int64} {x7 : UInt32} {x8 : UInt32} {x9 : UInt32} {x10 : Int32} {σ : wx_St}, K27 x1 x3 x4 x7 x8 x9 x10 σ = some ((), σ') → σ'.2.2.2.2 = σ.2.2.2.2) {x1 : Int32} {x3 : Int32} {x4 : Int64} {x7 : UInt32} {x8 : UInt32} {x9 : UInt32} {x10 : Int32} {x11 : Int32} {x12 : UInt32} {x13 : UInt32} {x14 : UInt32} {y1 : Int32} {y2 : UInt32} {σ : wx_St} (h : f_X5_step_206 o0 k0 n0 o2 k2 n2 o6 k6 K27 x1 x3 x4 x7 x8 x9 x10 x11 x12 x13 x14 y1 y2 σ = some ((), σ')) : σ'.2.2.2.2 = σ.2.2.2.2 := by
  unfold f_X5_step_206 at h
  obtain ⟨σ206, e206, i206, h⟩ := wx_w_ok h
  refine Eq.trans ?_ (show σ206.2.2.2.2 = σ.2.2.2.2 from (congrArg (fun z : wx_St => z.2.2.2.2) e206).trans rfl)
  exact mK27 h
set_option maxRecDepth 20000 in
set_option maxHeartbeats 4000000 in
theorem b_X5_step_206 (B : wx_B p s m args meth c cX5_step 15 none wsX5_step RX5 D ad ca A) {o0 : Nat} {k0 : Nat} {n0 : Nat} {o2 : Nat} {k2 : Nat} {n2 : Nat} {o6 : Nat} {k6 : Nat} {al : Nat → Bool} (hs0 : wx_sh al o0 k0 = (2, n0)) (hs2 : wx_sh al o2 k2 = (2, n2)) (hs6 : wx_sh al o6 k6 = (1, 4))  {σ' : wx_St} {K27 : Int32 → Int32 → Int64 → UInt32 → UInt32 → UInt32 → Int32 → wx_St → Option (Unit × wx_St)} (hK27 : ∀ {x1 : Int32} {x3 : Int32} {x4 : Int64} {x7 : UInt32} {x8 : UInt32} {x9 : UInt32} {x10 : Int32} {σ : wx_St}  (h : K27 x1 x3 x4 x7 x8 x9 x10 σ = some ((), σ')) {H : Heap} {locs : List Loc} (Z : wx_Z D ad rd ca A σ H) (hS : va_S A s.heap H locs) {ls : Array Slot} (hl : lv_has ls 15 [(0, .ref (wx_ad ad rd o0 k0)), (1, .int x1), (2, .ref (wx_ad ad rd o2 k2)), (3, .int x3), (4, .long x4), (6, .ref (wx_ad ad rd o6 k6)), (7, .float x7), (8, .float x8), (9, .float x9), (10, .int x10)]) (hal : σ.2.2.2.2 = al), W p l e ({ frames := 1, cells := 0, slots := 0, locals := 22 } : Room) s m args below meth c H locs 0 0 (MQ below (wx_Q D ad rd ca A none σ') args s 0 0 A) (F0 m 27 ls [])) {x1 : Int32} {x3 : Int32} {x4 : Int64} {x7 : UInt32} {x8 : UInt32} {x9 : UInt32} {x10 : Int32} {x11 : Int32} {x12 : UInt32} {x13 : UInt32} {x14 : UInt32} {y1 : Int32} {y2 : UInt32} {σ : wx_St}  (h : f_X5_step_206 o0 k0 n0 o2 k2 n2 o6 k6 K27 x1 x3 x4 x7 x8 x9 x10 x11 x12 x13 x14 y1 y2 σ = some ((), σ')) {H : Heap} {locs : List Loc} (Z : wx_Z D ad rd ca A σ H) (hS : va_S A s.heap H locs) {ls : Array Slot} (hl : lv_has ls 15 [(0, .ref (wx_ad ad rd o0 k0)), (1, .int x1), (2, .ref (wx_ad ad rd o2 k2)), (3, .int x3), (4, .long x4), (6, .ref (wx_ad ad rd o6 k6)), (7, .float x7), (8, .float x8), (9, .float x9), (10, .int x10), (11, .int x11), (12, .float x12), (13, .float x13), (14, .float x14)]) (hal : σ.2.2.2.2 = al) : W p l e ({ frames := 1, cells := 0, slots := 0, locals := 22 } : Room) s m args below meth c H locs 0 0 (MQ below (wx_Q D ad rd ca A none σ') args s 0 0 A) (F0 m 206 ls [.float y2, .int y1, .ref (wx_ad ad rd o2 k2)]) := by
  obtain ⟨hx, hb, hml, hr, hts, hown, hlk, hC, hA⟩ := id B
  unfold f_X5_step_206 at h
  obtain ⟨σ206, e206, i206, h⟩ := wx_w_ok h
  refine wx_fast hx hb hC.1 Z hS (o := o2) (k := k2) (n := n2) (wx_hal hal hs2) rfl i206 dX5_step_206 e206 (fun H locs Z hS => ?_)
  replace hal := (show σ206.2.2.2.2 = σ.2.2.2.2 from (congrArg (fun z : wx_St => z.2.2.2.2) e206).trans rfl).trans hal
  refine lv_iinc (v := x10 + 1) (lv' := [(10, .int (x10 + 1)), (0, .ref (wx_ad ad rd o0 k0)), (1, .int x1), (2, .ref (wx_ad ad rd o2 k2)), (3, .int x3), (4, .long x4), (6, .ref (wx_ad ad rd o6 k6)), (7, .float x7), (8, .float x8), (9, .float x9), (11, .int x11), (12, .float x12), (13, .float x13), (14, .float x14)]) hx hb dX5_step_207 hl (k := 9) rfl rfl (by decide) rfl (fun ls hl => ?_)
  refine lv_goto (tgt := 27) hx hb dX5_step_210 (by decide) ?_
  exact hK27 h Z hS (lv_sub hl [1, 2, 3, 4, 5, 6, 7, 8, 9, 0] rfl) hal
set_option maxRecDepth 20000 in
set_option maxHeartbeats 4000000 in
theorem m_X5_step_167 {o0 : Nat} {k0 : Nat} {n0 : Nat} {o2 : Nat} {k2 : Nat} {n2 : Nat} {o6 : Nat} {k6 : Nat}  {σ' : wx_St} {K27 : Int32 → Int32 → Int64 → UInt32 → UInt32 → UInt32 → Int32 → wx_St → Option (Unit × wx_St)} (mK27 : ∀ {x1 : Int32} {x3 : Int32} {x4 : Int64} {x7 : UInt32} {x8 : UInt32} {x9 : UInt32} {x10 : Int32} {σ : wx_St}, K27 x1 x3 x4 x7 x8 x9 x10 σ = some ((), σ') → σ'.2.2.2.2 = σ.2.2.2.2) {x1 : Int32} {x3 : Int32} {x4 : Int64} {x7 : UInt32} {x8 : UInt32} {x9 : UInt32} {x10 : Int32} {x11 : Int32} {x12 : UInt32} {x13 : UInt32} {σ : wx_St} (h : f_X5_step_167 o0 k0 n0 o2 k2 n2 o6 k6 K27 x1 x3 x4 x7 x8 x9 x10 x11 x12 x13 σ = some ((), σ')) : σ'.2.2.2.2 = σ.2.2.2.2 := by
  unfold f_X5_step_167 at h
  obtain ⟨v171, ev171, nv171, h⟩ := wx_f_ok h
  obtain ⟨v174, ev174, nv174, h⟩ := wx_f_ok h
  obtain ⟨v178, ev178, nv178, h⟩ := wx_f_ok h
  obtain ⟨v190, hc190, h⟩ := wx_o_ok h
  by_cases c193 : v190 = 0
  · replace h := wx_ift c193 h
    exact m_X5_step_206 (K27 := K27) @mK27 h
  · replace h := wx_iff c193 h
    obtain ⟨v200, ev200, nv200, h⟩ := wx_f_ok h
    exact m_X5_step_206 (K27 := K27) @mK27 h
set_option maxRecDepth 20000 in
set_option maxHeartbeats 4000000 in
theorem b_X5_step_167 (B : wx_B p s m args meth c cX5_step 15 none wsX5_step RX5 D ad ca A) {o0 : Nat} {k0 : Nat} {n0 : Nat} {o2 : Nat} {k2 : Nat} {n2 : Nat} {o6 : Nat} {k6 : Nat} {al : Nat → Bool} (hs0 : wx_sh al o0 k0 = (2, n0)) (hs2 : wx_sh al o2 k2 = (2, n2)) (hs6 : wx_sh al o6 k6 = (1, 4))  {σ' : wx_St} {K27 : Int32 → Int32 → Int64 → UInt32 → UInt32 → UInt32 → Int32 → wx_St → Option (Unit × wx_St)} (hK27 : ∀ {x1 : Int32} {x3 : Int32} {x4 : Int64} {x7 : UInt32} {x8 : UInt32} {x9 : UInt32} {x10 : Int32} {σ : wx_St}  (h : K27 x1 x3 x4 x7 x8 x9 x10 σ = some ((), σ')) {H : Heap} {locs : List Loc} (Z : wx_Z D ad rd ca A σ H) (hS : va_S A s.heap H locs) {ls : Array Slot} (hl : lv_has ls 15 [(0, .ref (wx_ad ad rd o0 k0)), (1, .int x1), (2, .ref (wx_ad ad rd o2 k2)), (3, .int x3), (4, .long x4), (6, .ref (wx_ad ad rd o6 k6)), (7, .float x7), (8, .float x8), (9, .float x9), (10, .int x10)]) (hal : σ.2.2.2.2 = al), W p l e ({ frames := 1, cells := 0, slots := 0, locals := 22 } : Room) s m args below meth c H locs 0 0 (MQ below (wx_Q D ad rd ca A none σ') args s 0 0 A) (F0 m 27 ls [])) {x1 : Int32} {x3 : Int32} {x4 : Int64} {x7 : UInt32} {x8 : UInt32} {x9 : UInt32} {x10 : Int32} {x11 : Int32} {x12 : UInt32} {x13 : UInt32} {σ : wx_St}  (h : f_X5_step_167 o0 k0 n0 o2 k2 n2 o6 k6 K27 x1 x3 x4 x7 x8 x9 x10 x11 x12 x13 σ = some ((), σ')) {H : Heap} {locs : List Loc} (Z : wx_Z D ad rd ca A σ H) (hS : va_S A s.heap H locs) {ls : Array Slot} (hl : lv_has ls 15 [(0, .ref (wx_ad ad rd o0 k0)), (1, .int x1), (2, .ref (wx_ad ad rd o2 k2)), (3, .int x3), (4, .long x4), (6, .ref (wx_ad ad rd o6 k6)), (7, .float x7), (8, .float x8), (9, .float x9), (10, .int x10), (11, .int x11), (12, .float x12), (13, .float x13)]) (hal : σ.2.2.2.2 = al) : W p l e ({ frames := 1, cells := 0, slots := 0, locals := 22 } : Room) s m args below meth c H locs 0 0 (MQ below (wx_Q D ad rd ca A none σ') args s 0 0 A) (F0 m 167 ls []) := by
  obtain ⟨hx, hb, hml, hr, hts, hown, hlk, hC, hA⟩ := id B
  unfold f_X5_step_167 at h
  refine lv_fload hx hb dX5_step_167 (lv_at hl 11 rfl) ?_
  refine lv_fload hx hb dX5_step_169 (lv_at hl 12 rfl) ?_
  obtain ⟨v171, ev171, nv171, h⟩ := wx_f_ok h
  refine wx_fadd hx hb dX5_step_171 ev171 nv171 ?_
  refine lv_fload hx hb dX5_step_172 (lv_at hl 7 rfl) ?_
  obtain ⟨v174, ev174, nv174, h⟩ := wx_f_ok h
  refine wx_fmul hx hb dX5_step_174 ev174 nv174 ?_
  refine wx_ldcwF hx hb hown (hts _ k_X5_step_w0) dX5_step_175 ?_
  obtain ⟨v178, ev178, nv178, h⟩ := wx_f_ok h
  refine wx_fdiv hx hb dX5_step_178 ev178 nv178 ?_
  refine lv_fstore (lv' := [(14, .float v178), (0, .ref (wx_ad ad rd o0 k0)), (1, .int x1), (2, .ref (wx_ad ad rd o2 k2)), (3, .int x3), (4, .long x4), (6, .ref (wx_ad ad rd o6 k6)), (7, .float x7), (8, .float x8), (9, .float x9), (10, .int x10), (11, .int x11), (12, .float x12), (13, .float x13)]) hx hb dX5_step_179 hl (by decide) rfl (fun ls hl => ?_)
  refine lv_aload_n hx hb dX5_step_181 rfl (lv_at hl 3 rfl) ?_
  refine lv_iload_n hx hb dX5_step_182 rfl (lv_at hl 4 rfl) ?_
  refine lv_iload hx hb dX5_step_183 (lv_at hl 10 rfl) ?_
  refine lv_iadd hx hb dX5_step_185 ?_
  refine lv_lload hx hb dX5_step_186 (lv_at hl 5 rfl) ?_
  refine lv_iload hx hb dX5_step_188 (lv_at hl 10 rfl) ?_
  obtain ⟨v190, hc190, h⟩ := wx_o_ok h
  refine wx_call (va_runS (As := [.long x4, .int x10]) (rest := [.int (x3 + x10), .ref (wx_ad ad rd o2 k2)]) ⟨hx, hb, hml, hown, hts⟩ (c_X5_isIn l (D := D) (ad := ad) (rd := rd) (ca := ca) (A := A) (σ := σ) hc190) (va_cwS 2 hts gX5_step_X5_isIn rfl rfl rfl (by decide +kernel) ⟨Nat.le_of_ble_eq_true rfl, Nat.le_of_ble_eq_true rfl⟩) (wx_preS hC Z hS hA) rfl rfl hl.1 rfl (lv_room (Nat.le_of_ble_eq_true rfl)) dX5_step_190 ⟨Nat.zero_le _, Nat.zero_le _⟩) hS (fun H locs Z hS => ?_)
  refine lv_if_eq (tgt := 204) hx hb dX5_step_193 (by decide) (fun c193 => ?_) (fun c193 => ?_)
  · replace h := wx_ift c193 h
    refine lv_fload hx hb dX5_step_204 (lv_at hl 0 rfl) ?_
    exact b_X5_step_206 B hs0 hs2 hs6 (K27 := K27) @hK27 h Z hS (lv_sub hl [1, 2, 3, 4, 5, 6, 7, 8, 9, 10, 11, 12, 13, 0] rfl) hal
  · replace h := wx_iff c193 h
    refine lv_fload hx hb dX5_step_196 (lv_at hl 0 rfl) ?_
    refine lv_fload hx hb dX5_step_198 (lv_at hl 9 rfl) ?_
    obtain ⟨v200, ev200, nv200, h⟩ := wx_f_ok h
    refine wx_fadd hx hb dX5_step_200 ev200 nv200 ?_
    refine lv_goto (tgt := 206) hx hb dX5_step_201 (by decide) ?_
    exact b_X5_step_206 B hs0 hs2 hs6 (K27 := K27) @hK27 h Z hS (lv_sub hl [1, 2, 3, 4, 5, 6, 7, 8, 9, 10, 11, 12, 13, 0] rfl) hal
set_option maxRecDepth 20000 in
set_option maxHeartbeats 4000000 in
theorem m_X5_step_136 {o0 : Nat} {k0 : Nat} {n0 : Nat} {o2 : Nat} {k2 : Nat} {n2 : Nat} {o6 : Nat} {k6 : Nat}  {σ' : wx_St} {K27 : Int32 → Int32 → Int64 → UInt32 → UInt32 → UInt32 → Int32 → wx_St → Option (Unit × wx_St)} (mK27 : ∀ {x1 : Int32} {x3 : Int32} {x4 : Int64} {x7 : UInt32} {x8 : UInt32} {x9 : UInt32} {x10 : Int32} {σ : wx_St}, K27 x1 x3 x4 x7 x8 x9 x10 σ = some ((), σ') → σ'.2.2.2.2 = σ.2.2.2.2) {x1 : Int32} {x3 : Int32} {x4 : Int64} {x7 : UInt32} {x8 : UInt32} {x9 : UInt32} {x10 : Int32} {x11 : Int32} {x12 : UInt32} {x13 : UInt32} {σ : wx_St} (h : f_X5_step_136 o0 k0 n0 o2 k2 n2 o6 k6 K27 x1 x3 x4 x7 x8 x9 x10 x11 x12 x13 σ = some ((), σ')) : σ'.2.2.2.2 = σ.2.2.2.2 := by
  unfold f_X5_step_136 at h
  by_cases c143 : 7 ≤ (x10 - x10 / 8 * 8)
  · replace h := wx_ift c143 h
    exact m_X5_step_167 (K27 := K27) @mK27 h
  · replace h := wx_iff c143 h
    obtain ⟨v153, ev153, iv153, h⟩ := wx_rF_ok h
    obtain ⟨v156, ev156, nv156, h⟩ := wx_f_ok h
    obtain ⟨v159, ev159, nv159, h⟩ := wx_f_ok h
    obtain ⟨v163, ev163, nv163, h⟩ := wx_f_ok h
    obtain ⟨v164, ev164, nv164, h⟩ := wx_f_ok h
    exact m_X5_step_167 (K27 := K27) @mK27 h
set_option maxRecDepth 20000 in
set_option maxHeartbeats 4000000 in
theorem b_X5_step_136 (B : wx_B p s m args meth c cX5_step 15 none wsX5_step RX5 D ad ca A) {o0 : Nat} {k0 : Nat} {n0 : Nat} {o2 : Nat} {k2 : Nat} {n2 : Nat} {o6 : Nat} {k6 : Nat} {al : Nat → Bool} (hs0 : wx_sh al o0 k0 = (2, n0)) (hs2 : wx_sh al o2 k2 = (2, n2)) (hs6 : wx_sh al o6 k6 = (1, 4))  {σ' : wx_St} {K27 : Int32 → Int32 → Int64 → UInt32 → UInt32 → UInt32 → Int32 → wx_St → Option (Unit × wx_St)} (hK27 : ∀ {x1 : Int32} {x3 : Int32} {x4 : Int64} {x7 : UInt32} {x8 : UInt32} {x9 : UInt32} {x10 : Int32} {σ : wx_St}  (h : K27 x1 x3 x4 x7 x8 x9 x10 σ = some ((), σ')) {H : Heap} {locs : List Loc} (Z : wx_Z D ad rd ca A σ H) (hS : va_S A s.heap H locs) {ls : Array Slot} (hl : lv_has ls 15 [(0, .ref (wx_ad ad rd o0 k0)), (1, .int x1), (2, .ref (wx_ad ad rd o2 k2)), (3, .int x3), (4, .long x4), (6, .ref (wx_ad ad rd o6 k6)), (7, .float x7), (8, .float x8), (9, .float x9), (10, .int x10)]) (hal : σ.2.2.2.2 = al), W p l e ({ frames := 1, cells := 0, slots := 0, locals := 22 } : Room) s m args below meth c H locs 0 0 (MQ below (wx_Q D ad rd ca A none σ') args s 0 0 A) (F0 m 27 ls [])) {x1 : Int32} {x3 : Int32} {x4 : Int64} {x7 : UInt32} {x8 : UInt32} {x9 : UInt32} {x10 : Int32} {x11 : Int32} {x12 : UInt32} {x13 : UInt32} {σ : wx_St}  (h : f_X5_step_136 o0 k0 n0 o2 k2 n2 o6 k6 K27 x1 x3 x4 x7 x8 x9 x10 x11 x12 x13 σ = some ((), σ')) {H : Heap} {locs : List Loc} (Z : wx_Z D ad rd ca A σ H) (hS : va_S A s.heap H locs) {ls : Array Slot} (hl : lv_has ls 15 [(0, .ref (wx_ad ad rd o0 k0)), (1, .int x1), (2, .ref (wx_ad ad rd o2 k2)), (3, .int x3), (4, .long x4), (6, .ref (wx_ad ad rd o6 k6)), (7, .float x7), (8, .float x8), (9, .float x9), (10, .int x10), (11, .int x11), (12, .float x12), (13, .float x13)]) (hal : σ.2.2.2.2 = al) : W p l e ({ frames := 1, cells := 0, slots := 0, locals := 22 } : Room) s m args below meth c H locs 0 0 (MQ below (wx_Q D ad rd ca A none σ') args s 0 0 A) (F0 m 136 ls []) := by
  obtain ⟨hx, hb, hml, hr, hts, hown, hlk, hC, hA⟩ := id B
  unfold f_X5_step_136 at h
  refine lv_iload hx hb dX5_step_136 (lv_at hl 9 rfl) ?_
  refine lv_bipush (v := 8) hx hb dX5_step_138 (by decide) ?_
  refine lv_irem hx hb dX5_step_140 (by decide) ?_
  refine lv_bipush (v := 7) hx hb dX5_step_141 (by decide) ?_
  refine lv_icmp_ge (tgt := 167) hx hb dX5_step_143 (by decide) (fun c143 => ?_) (fun c143 => ?_)
  · replace h := wx_ift c143 h
    exact b_X5_step_167 B hs0 hs2 hs6 (K27 := K27) @hK27 h Z hS (lv_sub hl [0, 1, 2, 3, 4, 5, 6, 7, 8, 9, 10, 11, 12] rfl) hal
  · replace h := wx_iff c143 h
    refine lv_fload hx hb dX5_step_146 (lv_at hl 12 rfl) ?_
    refine lv_aload_n hx hb dX5_step_148 rfl (lv_at hl 0 rfl) ?_
    refine lv_iload hx hb dX5_step_149 (lv_at hl 10 rfl) ?_
    refine lv_iconst (v := 1) hx hb dX5_step_151 (by decide) ?_
    refine lv_iadd hx hb dX5_step_152 ?_
    obtain ⟨v153, ev153, iv153, h⟩ := wx_rF_ok h
    refine wx_fald hx hb hC.1 Z (o := o0) (k := k0) (n := n0) (wx_hal hal hs0) rfl iv153 dX5_step_153 ev153 ?_
    refine lv_fload hx hb dX5_step_154 (lv_at hl 11 rfl) ?_
    obtain ⟨v156, ev156, nv156, h⟩ := wx_f_ok h
    refine wx_fsub hx hb dX5_step_156 ev156 nv156 ?_
    refine lv_fload hx hb dX5_step_157 (lv_at hl 6 rfl) ?_
    obtain ⟨v159, ev159, nv159, h⟩ := wx_f_ok h
    refine wx_fmul hx hb dX5_step_159 ev159 nv159 ?_
    refine wx_ldcwF hx hb hown (hts _ k_X5_step_w0) dX5_step_160 ?_
    obtain ⟨v163, ev163, nv163, h⟩ := wx_f_ok h
    refine wx_fdiv hx hb dX5_step_163 ev163 nv163 ?_
    obtain ⟨v164, ev164, nv164, h⟩ := wx_f_ok h
    refine wx_fadd hx hb dX5_step_164 ev164 nv164 ?_
    refine lv_fstore (lv' := [(13, .float v164), (0, .ref (wx_ad ad rd o0 k0)), (1, .int x1), (2, .ref (wx_ad ad rd o2 k2)), (3, .int x3), (4, .long x4), (6, .ref (wx_ad ad rd o6 k6)), (7, .float x7), (8, .float x8), (9, .float x9), (10, .int x10), (11, .int x11), (12, .float x12)]) hx hb dX5_step_165 hl (by decide) rfl (fun ls hl => ?_)
    exact b_X5_step_167 B hs0 hs2 hs6 (K27 := K27) @hK27 h Z hS (lv_sub hl [1, 2, 3, 4, 5, 6, 7, 8, 9, 10, 11, 12, 0] rfl) hal
set_option maxRecDepth 20000 in
set_option maxHeartbeats 4000000 in
theorem m_X5_step_107 {o0 : Nat} {k0 : Nat} {n0 : Nat} {o2 : Nat} {k2 : Nat} {n2 : Nat} {o6 : Nat} {k6 : Nat}  {σ' : wx_St} {K27 : Int32 → Int32 → Int64 → UInt32 → UInt32 → UInt32 → Int32 → wx_St → Option (Unit × wx_St)} (mK27 : ∀ {x1 : Int32} {x3 : Int32} {x4 : Int64} {x7 : UInt32} {x8 : UInt32} {x9 : UInt32} {x10 : Int32} {σ : wx_St}, K27 x1 x3 x4 x7 x8 x9 x10 σ = some ((), σ') → σ'.2.2.2.2 = σ.2.2.2.2) {x1 : Int32} {x3 : Int32} {x4 : Int64} {x7 : UInt32} {x8 : UInt32} {x9 : UInt32} {x10 : Int32} {x11 : Int32} {x12 : UInt32} {x13 : UInt32} {σ : wx_St} (h : f_X5_step_107 o0 k0 n0 o2 k2 n2 o6 k6 K27 x1 x3 x4 x7 x8 x9 x10 x11 x12 x13 σ = some ((), σ')) : σ'.2.2.2.2 = σ.2.2.2.2 := by
  unfold f_X5_step_107 at h
  by_cases c112 : (x10 - x10 / 8 * 8) ≤ 0
  · replace h := wx_ift c112 h
    exact m_X5_step_136 (K27 := K27) @mK27 h
  · replace h := wx_iff c112 h
    obtain ⟨v122, ev122, iv122, h⟩ := wx_rF_ok h
    obtain ⟨v125, ev125, nv125, h⟩ := wx_f_ok h
    obtain ⟨v128, ev128, nv128, h⟩ := wx_f_ok h
    obtain ⟨v132, ev132, nv132, h⟩ := wx_f_ok h
    obtain ⟨v133, ev133, nv133, h⟩ := wx_f_ok h
    exact m_X5_step_136 (K27 := K27) @mK27 h
set_option maxRecDepth 20000 in
set_option maxHeartbeats 4000000 in
theorem b_X5_step_107 (B : wx_B p s m args meth c cX5_step 15 none wsX5_step RX5 D ad ca A) {o0 : Nat} {k0 : Nat} {n0 : Nat} {o2 : Nat} {k2 : Nat} {n2 : Nat} {o6 : Nat} {k6 : Nat} {al : Nat → Bool} (hs0 : wx_sh al o0 k0 = (2, n0)) (hs2 : wx_sh al o2 k2 = (2, n2)) (hs6 : wx_sh al o6 k6 = (1, 4))  {σ' : wx_St} {K27 : Int32 → Int32 → Int64 → UInt32 → UInt32 → UInt32 → Int32 → wx_St → Option (Unit × wx_St)} (hK27 : ∀ {x1 : Int32} {x3 : Int32} {x4 : Int64} {x7 : UInt32} {x8 : UInt32} {x9 : UInt32} {x10 : Int32} {σ : wx_St}  (h : K27 x1 x3 x4 x7 x8 x9 x10 σ = some ((), σ')) {H : Heap} {locs : List Loc} (Z : wx_Z D ad rd ca A σ H) (hS : va_S A s.heap H locs) {ls : Array Slot} (hl : lv_has ls 15 [(0, .ref (wx_ad ad rd o0 k0)), (1, .int x1), (2, .ref (wx_ad ad rd o2 k2)), (3, .int x3), (4, .long x4), (6, .ref (wx_ad ad rd o6 k6)), (7, .float x7), (8, .float x8), (9, .float x9), (10, .int x10)]) (hal : σ.2.2.2.2 = al), W p l e ({ frames := 1, cells := 0, slots := 0, locals := 22 } : Room) s m args below meth c H locs 0 0 (MQ below (wx_Q D ad rd ca A none σ') args s 0 0 A) (F0 m 27 ls [])) {x1 : Int32} {x3 : Int32} {x4 : Int64} {x7 : UInt32} {x8 : UInt32} {x9 : UInt32} {x10 : Int32} {x11 : Int32} {x12 : UInt32} {x13 : UInt32} {σ : wx_St}  (h : f_X5_step_107 o0 k0 n0 o2 k2 n2 o6 k6 K27 x1 x3 x4 x7 x8 x9 x10 x11 x12 x13 σ = some ((), σ')) {H : Heap} {locs : List Loc} (Z : wx_Z D ad rd ca A σ H) (hS : va_S A s.heap H locs) {ls : Array Slot} (hl : lv_has ls 15 [(0, .ref (wx_ad ad rd o0 k0)), (1, .int x1), (2, .ref (wx_ad ad rd o2 k2)), (3, .int x3), (4, .long x4), (6, .ref (wx_ad ad rd o6 k6)), (7, .float x7), (8, .float x8), (9, .float x9), (10, .int x10), (11, .int x11), (12, .float x12), (13, .float x13)]) (hal : σ.2.2.2.2 = al) : W p l e ({ frames := 1, cells := 0, slots := 0, locals := 22 } : Room) s m args below meth c H locs 0 0 (MQ below (wx_Q D ad rd ca A none σ') args s 0 0 A) (F0 m 107 ls []) := by
  obtain ⟨hx, hb, hml, hr, hts, hown, hlk, hC, hA⟩ := id B
  unfold f_X5_step_107 at h
  refine lv_iload hx hb dX5_step_107 (lv_at hl 9 rfl) ?_
  refine lv_bipush (v := 8) hx hb dX5_step_109 (by decide) ?_
  refine lv_irem hx hb dX5_step_111 (by decide) ?_
  refine lv_if_le (tgt := 136) hx hb dX5_step_112 (by decide) (fun c112 => ?_) (fun c112 => ?_)
  · replace h := wx_ift c112 h
    exact b_X5_step_136 B hs0 hs2 hs6 (K27 := K27) @hK27 h Z hS (lv_sub hl [0, 1, 2, 3, 4, 5, 6, 7, 8, 9, 10, 11, 12] rfl) hal
  · replace h := wx_iff c112 h
    refine lv_fload hx hb dX5_step_115 (lv_at hl 12 rfl) ?_
    refine lv_aload_n hx hb dX5_step_117 rfl (lv_at hl 0 rfl) ?_
    refine lv_iload hx hb dX5_step_118 (lv_at hl 10 rfl) ?_
    refine lv_iconst (v := 1) hx hb dX5_step_120 (by decide) ?_
    refine lv_isub hx hb dX5_step_121 ?_
    obtain ⟨v122, ev122, iv122, h⟩ := wx_rF_ok h
    refine wx_fald hx hb hC.1 Z (o := o0) (k := k0) (n := n0) (wx_hal hal hs0) rfl iv122 dX5_step_122 ev122 ?_
    refine lv_fload hx hb dX5_step_123 (lv_at hl 11 rfl) ?_
    obtain ⟨v125, ev125, nv125, h⟩ := wx_f_ok h
    refine wx_fsub hx hb dX5_step_125 ev125 nv125 ?_
    refine lv_fload hx hb dX5_step_126 (lv_at hl 6 rfl) ?_
    obtain ⟨v128, ev128, nv128, h⟩ := wx_f_ok h
    refine wx_fmul hx hb dX5_step_128 ev128 nv128 ?_
    refine wx_ldcwF hx hb hown (hts _ k_X5_step_w0) dX5_step_129 ?_
    obtain ⟨v132, ev132, nv132, h⟩ := wx_f_ok h
    refine wx_fdiv hx hb dX5_step_132 ev132 nv132 ?_
    obtain ⟨v133, ev133, nv133, h⟩ := wx_f_ok h
    refine wx_fadd hx hb dX5_step_133 ev133 nv133 ?_
    refine lv_fstore (lv' := [(13, .float v133), (0, .ref (wx_ad ad rd o0 k0)), (1, .int x1), (2, .ref (wx_ad ad rd o2 k2)), (3, .int x3), (4, .long x4), (6, .ref (wx_ad ad rd o6 k6)), (7, .float x7), (8, .float x8), (9, .float x9), (10, .int x10), (11, .int x11), (12, .float x12)]) hx hb dX5_step_134 hl (by decide) rfl (fun ls hl => ?_)
    exact b_X5_step_136 B hs0 hs2 hs6 (K27 := K27) @hK27 h Z hS (lv_sub hl [1, 2, 3, 4, 5, 6, 7, 8, 9, 10, 11, 12, 0] rfl) hal
set_option maxRecDepth 20000 in
set_option maxHeartbeats 4000000 in
theorem m_X5_step_78 {o0 : Nat} {k0 : Nat} {n0 : Nat} {o2 : Nat} {k2 : Nat} {n2 : Nat} {o6 : Nat} {k6 : Nat}  {σ' : wx_St} {K27 : Int32 → Int32 → Int64 → UInt32 → UInt32 → UInt32 → Int32 → wx_St → Option (Unit × wx_St)} (mK27 : ∀ {x1 : Int32} {x3 : Int32} {x4 : Int64} {x7 : UInt32} {x8 : UInt32} {x9 : UInt32} {x10 : Int32} {σ : wx_St}, K27 x1 x3 x4 x7 x8 x9 x10 σ = some ((), σ') → σ'.2.2.2.2 = σ.2.2.2.2) {x1 : Int32} {x3 : Int32} {x4 : Int64} {x7 : UInt32} {x8 : UInt32} {x9 : UInt32} {x10 : Int32} {x11 : Int32} {x12 : UInt32} {x13 : UInt32} {σ : wx_St} (h : f_X5_step_78 o0 k0 n0 o2 k2 n2 o6 k6 K27 x1 x3 x4 x7 x8 x9 x10 x11 x12 x13 σ = some ((), σ')) : σ'.2.2.2.2 = σ.2.2.2.2 := by
  unfold f_X5_step_78 at h
  by_cases c82 : 56 ≤ x10
  · replace h := wx_ift c82 h
    exact m_X5_step_107 (K27 := K27) @mK27 h
  · replace h := wx_iff c82 h
    obtain ⟨v93, ev93, iv93, h⟩ := wx_rF_ok h
    obtain ⟨v96, ev96, nv96, h⟩ := wx_f_ok h
    obtain ⟨v99, ev99, nv99, h⟩ := wx_f_ok h
    obtain ⟨v103, ev103, nv103, h⟩ := wx_f_ok h
    obtain ⟨v104, ev104, nv104, h⟩ := wx_f_ok h
    exact m_X5_step_107 (K27 := K27) @mK27 h
set_option maxRecDepth 20000 in
set_option maxHeartbeats 4000000 in
theorem b_X5_step_78 (B : wx_B p s m args meth c cX5_step 15 none wsX5_step RX5 D ad ca A) {o0 : Nat} {k0 : Nat} {n0 : Nat} {o2 : Nat} {k2 : Nat} {n2 : Nat} {o6 : Nat} {k6 : Nat} {al : Nat → Bool} (hs0 : wx_sh al o0 k0 = (2, n0)) (hs2 : wx_sh al o2 k2 = (2, n2)) (hs6 : wx_sh al o6 k6 = (1, 4))  {σ' : wx_St} {K27 : Int32 → Int32 → Int64 → UInt32 → UInt32 → UInt32 → Int32 → wx_St → Option (Unit × wx_St)} (hK27 : ∀ {x1 : Int32} {x3 : Int32} {x4 : Int64} {x7 : UInt32} {x8 : UInt32} {x9 : UInt32} {x10 : Int32} {σ : wx_St}  (h : K27 x1 x3 x4 x7 x8 x9 x10 σ = some ((), σ')) {H : Heap} {locs : List Loc} (Z : wx_Z D ad rd ca A σ H) (hS : va_S A s.heap H locs) {ls : Array Slot} (hl : lv_has ls 15 [(0, .ref (wx_ad ad rd o0 k0)), (1, .int x1), (2, .ref (wx_ad ad rd o2 k2)), (3, .int x3), (4, .long x4), (6, .ref (wx_ad ad rd o6 k6)), (7, .float x7), (8, .float x8), (9, .float x9), (10, .int x10)]) (hal : σ.2.2.2.2 = al), W p l e ({ frames := 1, cells := 0, slots := 0, locals := 22 } : Room) s m args below meth c H locs 0 0 (MQ below (wx_Q D ad rd ca A none σ') args s 0 0 A) (F0 m 27 ls [])) {x1 : Int32} {x3 : Int32} {x4 : Int64} {x7 : UInt32} {x8 : UInt32} {x9 : UInt32} {x10 : Int32} {x11 : Int32} {x12 : UInt32} {x13 : UInt32} {σ : wx_St}  (h : f_X5_step_78 o0 k0 n0 o2 k2 n2 o6 k6 K27 x1 x3 x4 x7 x8 x9 x10 x11 x12 x13 σ = some ((), σ')) {H : Heap} {locs : List Loc} (Z : wx_Z D ad rd ca A σ H) (hS : va_S A s.heap H locs) {ls : Array Slot} (hl : lv_has ls 15 [(0, .ref (wx_ad ad rd o0 k0)), (1, .int x1), (2, .ref (wx_ad ad rd o2 k2)), (3, .int x3), (4, .long x4), (6, .ref (wx_ad ad rd o6 k6)), (7, .float x7), (8, .float x8), (9, .float x9), (10, .int x10), (11, .int x11), (12, .float x12), (13, .float x13)]) (hal : σ.2.2.2.2 = al) : W p l e ({ frames := 1, cells := 0, slots := 0, locals := 22 } : Room) s m args below meth c H locs 0 0 (MQ below (wx_Q D ad rd ca A none σ') args s 0 0 A) (F0 m 78 ls []) := by
  obtain ⟨hx, hb, hml, hr, hts, hown, hlk, hC, hA⟩ := id B
  unfold f_X5_step_78 at h
  refine lv_iload hx hb dX5_step_78 (lv_at hl 9 rfl) ?_
  refine lv_bipush (v := 56) hx hb dX5_step_80 (by decide) ?_
  refine lv_icmp_ge (tgt := 107) hx hb dX5_step_82 (by decide) (fun c82 => ?_) (fun c82 => ?_)
  · replace h := wx_ift c82 h
    exact b_X5_step_107 B hs0 hs2 hs6 (K27 := K27) @hK27 h Z hS (lv_sub hl [0, 1, 2, 3, 4, 5, 6, 7, 8, 9, 10, 11, 12] rfl) hal
  · replace h := wx_iff c82 h
    refine lv_fload hx hb dX5_step_85 (lv_at hl 12 rfl) ?_
    refine lv_aload_n hx hb dX5_step_87 rfl (lv_at hl 0 rfl) ?_
    refine lv_iload hx hb dX5_step_88 (lv_at hl 10 rfl) ?_
    refine lv_bipush (v := 8) hx hb dX5_step_90 (by decide) ?_
    refine lv_iadd hx hb dX5_step_92 ?_
    obtain ⟨v93, ev93, iv93, h⟩ := wx_rF_ok h
    refine wx_fald hx hb hC.1 Z (o := o0) (k := k0) (n := n0) (wx_hal hal hs0) rfl iv93 dX5_step_93 ev93 ?_
    refine lv_fload hx hb dX5_step_94 (lv_at hl 11 rfl) ?_
    obtain ⟨v96, ev96, nv96, h⟩ := wx_f_ok h
    refine wx_fsub hx hb dX5_step_96 ev96 nv96 ?_
    refine lv_fload hx hb dX5_step_97 (lv_at hl 6 rfl) ?_
    obtain ⟨v99, ev99, nv99, h⟩ := wx_f_ok h
    refine wx_fmul hx hb dX5_step_99 ev99 nv99 ?_
    refine wx_ldcwF hx hb hown (hts _ k_X5_step_w0) dX5_step_100 ?_
    obtain ⟨v103, ev103, nv103, h⟩ := wx_f_ok h
    refine wx_fdiv hx hb dX5_step_103 ev103 nv103 ?_
    obtain ⟨v104, ev104, nv104, h⟩ := wx_f_ok h
    refine wx_fadd hx hb dX5_step_104 ev104 nv104 ?_
    refine lv_fstore (lv' := [(13, .float v104), (0, .ref (wx_ad ad rd o0 k0)), (1, .int x1), (2, .ref (wx_ad ad rd o2 k2)), (3, .int x3), (4, .long x4), (6, .ref (wx_ad ad rd o6 k6)), (7, .float x7), (8, .float x8), (9, .float x9), (10, .int x10), (11, .int x11), (12, .float x12)]) hx hb dX5_step_105 hl (by decide) rfl (fun ls hl => ?_)
    exact b_X5_step_107 B hs0 hs2 hs6 (K27 := K27) @hK27 h Z hS (lv_sub hl [1, 2, 3, 4, 5, 6, 7, 8, 9, 10, 11, 12, 0] rfl) hal
set_option maxRecDepth 20000 in
set_option maxHeartbeats 4000000 in
theorem m_X5_step_27 {o0 : Nat} {k0 : Nat} {n0 : Nat} {o2 : Nat} {k2 : Nat} {n2 : Nat} {o6 : Nat} {k6 : Nat}  {σ' : wx_St}  :
    ∀ {n : Nat} {x1 : Int32} {x3 : Int32} {x4 : Int64} {x7 : UInt32} {x8 : UInt32} {x9 : UInt32} {x10 : Int32} {σ : wx_St} (h : f_X5_step_27 o0 k0 n0 o2 k2 n2 o6 k6 n x1 x3 x4 x7 x8 x9 x10 σ = some ((), σ')), σ'.2.2.2.2 = σ.2.2.2.2 := by
  intro n
  induction n with
  | zero => intro x1 x3 x4 x7 x8 x9 x10 σ h; exact wx_no h
  | succ n ih =>
    intro x1 x3 x4 x7 x8 x9 x10 σ h
    rw [f_X5_step_27] at h
    by_cases c31 : 64 ≤ x10
    · replace h := wx_ift c31 h
      obtain ⟨-, rfl⟩ := wx_ret_ok h
      rfl
    · replace h := wx_iff c31 h
      obtain ⟨v43, ev43, iv43, h⟩ := wx_rF_ok h
      by_cases c53 : x10 < 8
      · replace h := wx_ift c53 h
        exact m_X5_step_78 (K27 := (f_X5_step_27 o0 k0 n0 o2 k2 n2 o6 k6 n)) @ih h
      · replace h := wx_iff c53 h
        obtain ⟨v64, ev64, iv64, h⟩ := wx_rF_ok h
        obtain ⟨v67, ev67, nv67, h⟩ := wx_f_ok h
        obtain ⟨v70, ev70, nv70, h⟩ := wx_f_ok h
        obtain ⟨v74, ev74, nv74, h⟩ := wx_f_ok h
        obtain ⟨v75, ev75, nv75, h⟩ := wx_f_ok h
        exact m_X5_step_78 (K27 := (f_X5_step_27 o0 k0 n0 o2 k2 n2 o6 k6 n)) @ih h
set_option maxRecDepth 20000 in
set_option maxHeartbeats 4000000 in
theorem b_X5_step_27 (B : wx_B p s m args meth c cX5_step 15 none wsX5_step RX5 D ad ca A) {o0 : Nat} {k0 : Nat} {n0 : Nat} {o2 : Nat} {k2 : Nat} {n2 : Nat} {o6 : Nat} {k6 : Nat} {al : Nat → Bool} (hs0 : wx_sh al o0 k0 = (2, n0)) (hs2 : wx_sh al o2 k2 = (2, n2)) (hs6 : wx_sh al o6 k6 = (1, 4))  {σ' : wx_St}   :
    ∀ {n : Nat} {x1 : Int32} {x3 : Int32} {x4 : Int64} {x7 : UInt32} {x8 : UInt32} {x9 : UInt32} {x10 : Int32} {σ : wx_St}  (h : f_X5_step_27 o0 k0 n0 o2 k2 n2 o6 k6 n x1 x3 x4 x7 x8 x9 x10 σ = some ((), σ')) {H : Heap} {locs : List Loc} (Z : wx_Z D ad rd ca A σ H) (hS : va_S A s.heap H locs) {ls : Array Slot} (hl : lv_has ls 15 [(0, .ref (wx_ad ad rd o0 k0)), (1, .int x1), (2, .ref (wx_ad ad rd o2 k2)), (3, .int x3), (4, .long x4), (6, .ref (wx_ad ad rd o6 k6)), (7, .float x7), (8, .float x8), (9, .float x9), (10, .int x10)]) (hal : σ.2.2.2.2 = al), W p l e ({ frames := 1, cells := 0, slots := 0, locals := 22 } : Room) s m args below meth c H locs 0 0 (MQ below (wx_Q D ad rd ca A none σ') args s 0 0 A) (F0 m 27 ls []) := by
  obtain ⟨hx, hb, hml, hr, hts, hown, hlk, hC, hA⟩ := id B
  intro n
  induction n with
  | zero => intro x1 x3 x4 x7 x8 x9 x10 σ  h H locs Z hS ls hl hal; exact wx_no h
  | succ n ih =>
    intro x1 x3 x4 x7 x8 x9 x10 σ  h H locs Z hS ls hl hal
    rw [f_X5_step_27] at h
    refine lv_iload hx hb dX5_step_27 (lv_at hl 9 rfl) ?_
    refine lv_bipush (v := 64) hx hb dX5_step_29 (by decide) ?_
    refine lv_icmp_ge (tgt := 213) hx hb dX5_step_31 (by decide) (fun c31 => ?_) (fun c31 => ?_)
    · replace h := wx_ift c31 h
      obtain ⟨-, rfl⟩ := wx_ret_ok h
      exact W.vret hx hb hr (fun t ht hW => ⟨rfl, by rw [ht]; exact Z, hS.F ht⟩) hS.2.2 dX5_step_213
    · replace h := wx_iff c31 h
      refine lv_iload_n hx hb dX5_step_34 rfl (lv_at hl 1 rfl) ?_
      refine lv_iload hx hb dX5_step_35 (lv_at hl 9 rfl) ?_
      refine lv_iadd hx hb dX5_step_37 ?_
      refine lv_istore (lv' := [(11, .int (x1 + x10)), (0, .ref (wx_ad ad rd o0 k0)), (1, .int x1), (2, .ref (wx_ad ad rd o2 k2)), (3, .int x3), (4, .long x4), (6, .ref (wx_ad ad rd o6 k6)), (7, .float x7), (8, .float x8), (9, .float x9), (10, .int x10)]) hx hb dX5_step_38 hl (by decide) rfl (fun ls hl => ?_)
      refine lv_aload_n hx hb dX5_step_40 rfl (lv_at hl 1 rfl) ?_
      refine lv_iload hx hb dX5_step_41 (lv_at hl 0 rfl) ?_
      obtain ⟨v43, ev43, iv43, h⟩ := wx_rF_ok h
      refine wx_fald hx hb hC.1 Z (o := o0) (k := k0) (n := n0) (wx_hal hal hs0) rfl iv43 dX5_step_43 ev43 ?_
      refine lv_fstore (lv' := [(12, .float v43), (11, .int (x1 + x10)), (0, .ref (wx_ad ad rd o0 k0)), (1, .int x1), (2, .ref (wx_ad ad rd o2 k2)), (3, .int x3), (4, .long x4), (6, .ref (wx_ad ad rd o6 k6)), (7, .float x7), (8, .float x8), (9, .float x9), (10, .int x10)]) hx hb dX5_step_44 hl (by decide) rfl (fun ls hl => ?_)
      refine lv_fconst0 hx hb dX5_step_46 ?_
      refine lv_fstore (lv' := [(13, .float FP.fconst0), (12, .float v43), (11, .int (x1 + x10)), (0, .ref (wx_ad ad rd o0 k0)), (1, .int x1), (2, .ref (wx_ad ad rd o2 k2)), (3, .int x3), (4, .long x4), (6, .ref (wx_ad ad rd o6 k6)), (7, .float x7), (8, .float x8), (9, .float x9), (10, .int x10)]) hx hb dX5_step_47 hl (by decide) rfl (fun ls hl => ?_)
      refine lv_iload hx hb dX5_step_49 (lv_at hl 12 rfl) ?_
      refine lv_bipush (v := 8) hx hb dX5_step_51 (by decide) ?_
      refine lv_icmp_lt (tgt := 78) hx hb dX5_step_53 (by decide) (fun c53 => ?_) (fun c53 => ?_)
      · replace h := wx_ift c53 h
        exact b_X5_step_78 B hs0 hs2 hs6 (K27 := (f_X5_step_27 o0 k0 n0 o2 k2 n2 o6 k6 n)) @ih h Z hS (lv_sub hl [3, 4, 5, 6, 7, 8, 9, 10, 11, 12, 2, 1, 0] rfl) hal
      · replace h := wx_iff c53 h
        refine lv_fload hx hb dX5_step_56 (lv_at hl 0 rfl) ?_
        refine lv_aload_n hx hb dX5_step_58 rfl (lv_at hl 3 rfl) ?_
        refine lv_iload hx hb dX5_step_59 (lv_at hl 2 rfl) ?_
        refine lv_bipush (v := 8) hx hb dX5_step_61 (by decide) ?_
        refine lv_isub hx hb dX5_step_63 ?_
        obtain ⟨v64, ev64, iv64, h⟩ := wx_rF_ok h
        refine wx_fald hx hb hC.1 Z (o := o0) (k := k0) (n := n0) (wx_hal hal hs0) rfl iv64 dX5_step_64 ev64 ?_
        refine lv_fload hx hb dX5_step_65 (lv_at hl 1 rfl) ?_
        obtain ⟨v67, ev67, nv67, h⟩ := wx_f_ok h
        refine wx_fsub hx hb dX5_step_67 ev67 nv67 ?_
        refine lv_fload hx hb dX5_step_68 (lv_at hl 9 rfl) ?_
        obtain ⟨v70, ev70, nv70, h⟩ := wx_f_ok h
        refine wx_fmul hx hb dX5_step_70 ev70 nv70 ?_
        refine wx_ldcwF hx hb hown (hts _ k_X5_step_w0) dX5_step_71 ?_
        obtain ⟨v74, ev74, nv74, h⟩ := wx_f_ok h
        refine wx_fdiv hx hb dX5_step_74 ev74 nv74 ?_
        obtain ⟨v75, ev75, nv75, h⟩ := wx_f_ok h
        refine wx_fadd hx hb dX5_step_75 ev75 nv75 ?_
        refine lv_fstore (lv' := [(13, .float v75), (12, .float v43), (11, .int (x1 + x10)), (0, .ref (wx_ad ad rd o0 k0)), (1, .int x1), (2, .ref (wx_ad ad rd o2 k2)), (3, .int x3), (4, .long x4), (6, .ref (wx_ad ad rd o6 k6)), (7, .float x7), (8, .float x8), (9, .float x9), (10, .int x10)]) hx hb dX5_step_76 hl (by decide) rfl (fun ls hl => ?_)
        exact b_X5_step_78 B hs0 hs2 hs6 (K27 := (f_X5_step_27 o0 k0 n0 o2 k2 n2 o6 k6 n)) @ih h Z hS (lv_sub hl [3, 4, 5, 6, 7, 8, 9, 10, 11, 12, 2, 1, 0] rfl) hal
set_option maxRecDepth 20000 in
set_option maxHeartbeats 4000000 in
theorem m_X5_step_0 {o0 : Nat} {k0 : Nat} {n0 : Nat} {o2 : Nat} {k2 : Nat} {n2 : Nat} {o6 : Nat} {k6 : Nat}  {σ' : wx_St}  {x1 : Int32} {x3 : Int32} {x4 : Int64} {σ : wx_St} (h : f_X5_step o0 k0 n0 o2 k2 n2 o6 k6 x1 x3 x4 σ = some ((), σ')) : σ'.2.2.2.2 = σ.2.2.2.2 := by
  unfold f_X5_step at h
  obtain ⟨v3, ev3, iv3, h⟩ := wx_rI_ok h
  obtain ⟨v12, ev12, iv12, h⟩ := wx_rI_ok h
  obtain ⟨v20, ev20, iv20, h⟩ := wx_rI_ok h
  exact m_X5_step_27 h
set_option maxRecDepth 20000 in
set_option maxHeartbeats 4000000 in
theorem b_X5_step_0 (B : wx_B p s m args meth c cX5_step 15 none wsX5_step RX5 D ad ca A) {o0 : Nat} {k0 : Nat} {n0 : Nat} {o2 : Nat} {k2 : Nat} {n2 : Nat} {o6 : Nat} {k6 : Nat} {al : Nat → Bool} (hs0 : wx_sh al o0 k0 = (2, n0)) (hs2 : wx_sh al o2 k2 = (2, n2)) (hs6 : wx_sh al o6 k6 = (1, 4))  {σ' : wx_St}  {x1 : Int32} {x3 : Int32} {x4 : Int64} {σ : wx_St}  (h : f_X5_step o0 k0 n0 o2 k2 n2 o6 k6 x1 x3 x4 σ = some ((), σ')) {H : Heap} {locs : List Loc} (Z : wx_Z D ad rd ca A σ H) (hS : va_S A s.heap H locs) {ls : Array Slot} (hl : lv_has ls 15 [(0, .ref (wx_ad ad rd o0 k0)), (1, .int x1), (2, .ref (wx_ad ad rd o2 k2)), (3, .int x3), (4, .long x4), (6, .ref (wx_ad ad rd o6 k6))]) (hal : σ.2.2.2.2 = al) : W p l e ({ frames := 1, cells := 0, slots := 0, locals := 22 } : Room) s m args below meth c H locs 0 0 (MQ below (wx_Q D ad rd ca A none σ') args s 0 0 A) (F0 m 0 ls []) := by
  obtain ⟨hx, hb, hml, hr, hts, hown, hlk, hC, hA⟩ := id B
  unfold f_X5_step at h
  refine lv_aload hx hb dX5_step_0 (lv_at hl 5 rfl) ?_
  refine lv_iconst (v := 0) hx hb dX5_step_2 (by decide) ?_
  obtain ⟨v3, ev3, iv3, h⟩ := wx_rI_ok h
  refine wx_iald hx hb hC.1 Z (o := o6) (k := k6) (n := 4) (wx_hal hal hs6) rfl iv3 dX5_step_3 ev3 ?_
  refine lv_i2f hx hb dX5_step_4 ?_
  refine lv_fstore (lv' := [(7, .float (FP.i2f v3)), (0, .ref (wx_ad ad rd o0 k0)), (1, .int x1), (2, .ref (wx_ad ad rd o2 k2)), (3, .int x3), (4, .long x4), (6, .ref (wx_ad ad rd o6 k6))]) hx hb dX5_step_5 hl (by decide) rfl (fun ls hl => ?_)
  refine lv_bipush (v := 100) hx hb dX5_step_7 (by decide) ?_
  refine lv_aload hx hb dX5_step_9 (lv_at hl 6 rfl) ?_
  refine lv_iconst (v := 1) hx hb dX5_step_11 (by decide) ?_
  obtain ⟨v12, ev12, iv12, h⟩ := wx_rI_ok h
  refine wx_iald hx hb hC.1 Z (o := o6) (k := k6) (n := 4) (wx_hal hal hs6) rfl iv12 dX5_step_12 ev12 ?_
  refine lv_isub hx hb dX5_step_13 ?_
  refine lv_i2f hx hb dX5_step_14 ?_
  refine lv_fstore (lv' := [(8, .float (FP.i2f (100 - v12))), (7, .float (FP.i2f v3)), (0, .ref (wx_ad ad rd o0 k0)), (1, .int x1), (2, .ref (wx_ad ad rd o2 k2)), (3, .int x3), (4, .long x4), (6, .ref (wx_ad ad rd o6 k6))]) hx hb dX5_step_15 hl (by decide) rfl (fun ls hl => ?_)
  refine lv_aload hx hb dX5_step_17 (lv_at hl 7 rfl) ?_
  refine lv_iconst (v := 2) hx hb dX5_step_19 (by decide) ?_
  obtain ⟨v20, ev20, iv20, h⟩ := wx_rI_ok h
  refine wx_iald hx hb hC.1 Z (o := o6) (k := k6) (n := 4) (wx_hal hal hs6) rfl iv20 dX5_step_20 ev20 ?_
  refine lv_i2f hx hb dX5_step_21 ?_
  refine lv_fstore (lv' := [(9, .float (FP.i2f v20)), (8, .float (FP.i2f (100 - v12))), (7, .float (FP.i2f v3)), (0, .ref (wx_ad ad rd o0 k0)), (1, .int x1), (2, .ref (wx_ad ad rd o2 k2)), (3, .int x3), (4, .long x4), (6, .ref (wx_ad ad rd o6 k6))]) hx hb dX5_step_22 hl (by decide) rfl (fun ls hl => ?_)
  refine lv_iconst (v := 0) hx hb dX5_step_24 (by decide) ?_
  refine lv_istore (lv' := [(10, .int 0), (9, .float (FP.i2f v20)), (8, .float (FP.i2f (100 - v12))), (7, .float (FP.i2f v3)), (0, .ref (wx_ad ad rd o0 k0)), (1, .int x1), (2, .ref (wx_ad ad rd o2 k2)), (3, .int x3), (4, .long x4), (6, .ref (wx_ad ad rd o6 k6))]) hx hb dX5_step_25 hl (by decide) rfl (fun ls hl => ?_)
  exact b_X5_step_27 B hs0 hs2 hs6 h Z hS (lv_sub hl [4, 5, 6, 7, 8, 9, 3, 2, 1, 0] rfl) hal
set_option maxRecDepth 20000 in
theorem c_X5_step (l : Launch) {D : va_G} {ad : Nat → Nat → Nat} {rd : Nat → Nat} {ca : Nat → ClassId} {A : Nat → Prop} {σ : wx_St} {o0 : Nat} {k0 : Nat} {n0 : Nat} {o2 : Nat} {k2 : Nat} {n2 : Nat} {o6 : Nat} {k6 : Nat} {al : Nat → Bool} (hs0 : wx_sh al o0 k0 = (2, n0)) (hs2 : wx_sh al o2 k2 = (2, n2)) (hs6 : wx_sh al o6 k6 = (1, 4)) (hal : σ.2.2.2.2 = al) {x1 : Int32} {x3 : Int32} {x4 : Int64}  {σ' : wx_St} (h : f_X5_step o0 k0 n0 o2 k2 n2 o6 k6 x1 x3 x4 σ = some ((), σ')) : wx_M l yX5_step wsX5_step 1 22 D ad rd ca A [.ref (wx_ad ad rd o0 k0), .int x1, .ref (wx_ad ad rd o2 k2), .int x3, .long x4, .ref (wx_ad ad rd o6 k6)] σ none σ' := by
  refine Met.ofW (cc := cX5_step) (maxL := 15) (ret := none) (by decide) rfl ?_
  intro p e s m args below meth c s₁ B0 hml hv
  obtain ⟨rfl, hC, Z, hA⟩ := hv
  have hl := lv_entry ([.ref (wx_ad ad rd o0 k0), .int x1, .ref (wx_ad ad rd o2 k2), .int x3, .long x4, .ref (wx_ad ad rd o6 k6)]) (n := 15) (Nat.le_of_ble_eq_true rfl)
  rw [lg_entry_eq]
  generalize (lg_sl ([.ref (wx_ad ad rd o0 k0), .int x1, .ref (wx_ad ad rd o2 k2), .int x3, .long x4, .ref (wx_ad ad rd o6 k6)]) ++ List.replicate (15 - (lg_sl ([.ref (wx_ad ad rd o0 k0), .int x1, .ref (wx_ad ad rd o2 k2), .int x3, .long x4, .ref (wx_ad ad rd o6 k6)])).length) Slot.unset).toArray = ls at hl ⊢
  exact b_X5_step_0 ⟨B0.exec, B0.bytes, hml, B0.returns, atoms_spec (ws := wsX5_step) B0.pre, findClass_of_methodNamed B0.named, B0.notSynchronized, hC, hA⟩ hs0 hs2 hs6  h Z va_S.rf hl hal
theorem i_X1_warmthBy_1 : ∀ w ∈ wsX10, w ∈ wsX1_warmthBy := by decide +kernel
theorem k_X1_warmthBy_w0 : Cond.fieldLink RX1 17 "WarmProbes$Lone" "fields" "[[F" ∈ wsX1_warmthBy := by decide +kernel
theorem k_X1_warmthBy_w1 : Cond.arrayClass .float ∈ wsX1_warmthBy := by decide +kernel
theorem k_X1_warmthBy_w2 : Cond.fieldLink RX1 21 "WarmProbes$Lone" "steps" "[I" ∈ wsX1_warmthBy := by decide +kernel
theorem k_X1_warmthBy_w3 : Cond.fieldLink RX1 9 "WarmProbes$Lone" "settings" "[I" ∈ wsX1_warmthBy := by decide +kernel
theorem k_X1_warmthBy_w4 : Cond.initialized RX5 ∈ wsX1_warmthBy := by decide +kernel
theorem k_X1_warmthBy_w5 : Cond.static yX5_step ∈ wsX1_warmthBy := by decide +kernel
set_option maxRecDepth 20000 in
set_option maxHeartbeats 4000000 in
theorem m_X1_warmthBy_91  {r : UInt32} {σ' : wx_St}  {x1 : Int32} {x2 : Int32} {x3 : Int32} {x5 : Int32} {σ : wx_St} (h : f_X1_warmthBy_91 x1 x2 x3 x5 σ = some (r, σ')) : wx_n σ.2.2.2.2 ≤ wx_n σ'.2.2.2.2 := by
  unfold f_X1_warmthBy_91 at h
  obtain ⟨v99, ev99, iv99, h⟩ := wx_rF_ok h
  obtain ⟨rfl, rfl⟩ := wx_ret_ok h
  exact Nat.le_refl _
set_option maxRecDepth 20000 in
set_option maxHeartbeats 4000000 in
theorem b_X1_warmthBy_91 (B : wx_B p s m args meth c cX1_warmthBy 6 (some .float) wsX1_warmthBy RX1 D ad ca A)    {r : UInt32} {σ' : wx_St} {mc : Nat}  {x1 : Int32} {x2 : Int32} {x3 : Int32} {x5 : Int32} {σ : wx_St} {k : Nat} (hk : k + wx_n σ'.2.2.2.2 ≤ mc + wx_n σ.2.2.2.2)  (h : f_X1_warmthBy_91 x1 x2 x3 x5 σ = some (r, σ')) {rd : Nat → Nat} {H : Heap} {locs : List Loc} (Z : wx_Z D ad rd ca A σ H) (hS : va_S A s.heap H locs) {ls : Array Slot} (hl : lv_has ls 6 [(0, .ref (ad 13 99)), (1, .int x1), (2, .int x2), (3, .int x3), (4, .ref (wx_ad ad rd 13 (100 + x1.toNatClampNeg))), (5, .int x5)]) (hrow : σ.2.2.2.2 (x1).toNatClampNeg = true) (hj : (x1).toNatClampNeg < 64) : W p l e ({ frames := 2, cells := mc, slots := 6464 * mc, locals := 56 } : Room) s m args below meth c H locs k (6464 * k) (MQ below (wx_QA D ad ca A (some (.float r)) σ') args s mc (6464 * mc) A) (F0 m 91 ls []) := by
  obtain ⟨hx, hb, hml, hr, hts, hown, hlk, hC, hA⟩ := id B
  have hm := m_X1_warmthBy_91 h
  unfold f_X1_warmthBy_91 at h
  refine lv_aload hx hb dX1_warmthBy_91 (lv_at hl 4 rfl) ?_
  refine lv_iload_n hx hb dX1_warmthBy_93 rfl (lv_at hl 2 rfl) ?_
  refine lv_bipush (v := 64) hx hb dX1_warmthBy_94 (by decide) ?_
  refine lv_imul hx hb dX1_warmthBy_96 ?_
  refine lv_iload_n hx hb dX1_warmthBy_97 rfl (lv_at hl 3 rfl) ?_
  refine lv_iadd hx hb dX1_warmthBy_98 ?_
  obtain ⟨v99, ev99, iv99, h⟩ := wx_rF_ok h
  refine wx_fald hx hb hC.1 Z (o := 13) (k := (100 + x1.toNatClampNeg)) (n := 6464) (wx_shr hrow hj) rfl iv99 dX1_warmthBy_99 ev99 ?_
  obtain ⟨rfl, rfl⟩ := wx_ret_ok h
  refine W.widen (k := mc) (n := 6464 * mc) (by omega) (by omega) ?_
  exact W.fret hx hb hr (fun t ht hW => ⟨rfl, ⟨_, by rw [ht]; exact Z⟩, hS.F ht⟩) hS.2.2 dX1_warmthBy_100
set_option maxRecDepth 20000 in
set_option maxHeartbeats 4000000 in
theorem m_X1_warmthBy_36  {r : UInt32} {σ' : wx_St}  :
    ∀ {n : Nat} {x1 : Int32} {x2 : Int32} {x3 : Int32} {x5 : Int32} {σ : wx_St} (h : f_X1_warmthBy_36 n x1 x2 x3 x5 σ = some (r, σ')), wx_n σ.2.2.2.2 ≤ wx_n σ'.2.2.2.2 := by
  intro n
  induction n with
  | zero => intro x1 x2 x3 x5 σ h; exact wx_no h
  | succ n ih =>
    intro x1 x2 x3 x5 σ h
    rw [f_X1_warmthBy_36] at h
    by_cases c39 : x2 ≤ x5
    · replace h := wx_ift c39 h
      exact m_X1_warmthBy_91 h
    · replace h := wx_iff c39 h
      by_cases c46 : 100 ≤ x5
      · replace h := wx_ift c46 h
        exact m_X1_warmthBy_91 h
      · replace h := wx_iff c46 h
        obtain ⟨v72, σ72, hc72, h⟩ := wx_b_ok h
        refine Nat.le_trans (Nat.le_of_eq (congrArg wx_n (show σ72.2.2.2.2 = σ.2.2.2.2 from m_X5_step_0 hc72)).symm) ?_
        obtain ⟨σ84, e84, i84, h⟩ := wx_w_ok h
        refine Nat.le_trans (Nat.le_of_eq (congrArg wx_n (show σ84.2.2.2.2 = σ72.2.2.2.2 from (congrArg (fun z : wx_St => z.2.2.2.2) e84).trans rfl)).symm) ?_
        exact ih h
set_option maxRecDepth 20000 in
set_option maxHeartbeats 4000000 in
theorem b_X1_warmthBy_36 (B : wx_B p s m args meth c cX1_warmthBy 6 (some .float) wsX1_warmthBy RX1 D ad ca A)    {r : UInt32} {σ' : wx_St} {mc : Nat}   :
    ∀ {n : Nat} {x1 : Int32} {x2 : Int32} {x3 : Int32} {x5 : Int32} {σ : wx_St} {k : Nat} (hk : k + wx_n σ'.2.2.2.2 ≤ mc + wx_n σ.2.2.2.2)  (h : f_X1_warmthBy_36 n x1 x2 x3 x5 σ = some (r, σ')) {rd : Nat → Nat} {H : Heap} {locs : List Loc} (Z : wx_Z D ad rd ca A σ H) (hS : va_S A s.heap H locs) {ls : Array Slot} (hl : lv_has ls 6 [(0, .ref (ad 13 99)), (1, .int x1), (2, .int x2), (3, .int x3), (4, .ref (wx_ad ad rd 13 (100 + x1.toNatClampNeg))), (5, .int x5)]) (hrow : σ.2.2.2.2 (x1).toNatClampNeg = true) (hj : (x1).toNatClampNeg < 64), W p l e ({ frames := 2, cells := mc, slots := 6464 * mc, locals := 56 } : Room) s m args below meth c H locs k (6464 * k) (MQ below (wx_QA D ad ca A (some (.float r)) σ') args s mc (6464 * mc) A) (F0 m 36 ls []) := by
  obtain ⟨hx, hb, hml, hr, hts, hown, hlk, hC, hA⟩ := id B
  intro n
  induction n with
  | zero => intro x1 x2 x3 x5 σ k hk  h rd H locs Z hS ls hl hrow hj; exact wx_no h
  | succ n ih =>
    intro x1 x2 x3 x5 σ k hk  h rd H locs Z hS ls hl hrow hj
    have hm := m_X1_warmthBy_36 h
    have mih : ∀ {x1 : Int32} {x2 : Int32} {x3 : Int32} {x5 : Int32} {σ : wx_St}, f_X1_warmthBy_36 n x1 x2 x3 x5 σ = some (r, σ') → wx_n σ.2.2.2.2 ≤ wx_n σ'.2.2.2.2 := fun h => m_X1_warmthBy_36 h
    rw [f_X1_warmthBy_36] at h
    refine lv_iload hx hb dX1_warmthBy_36 (lv_at hl 5 rfl) ?_
    refine lv_iload_n hx hb dX1_warmthBy_38 rfl (lv_at hl 2 rfl) ?_
    refine lv_icmp_ge (tgt := 91) hx hb dX1_warmthBy_39 (by decide) (fun c39 => ?_) (fun c39 => ?_)
    · replace h := wx_ift c39 h
      exact b_X1_warmthBy_91 B (k := k) hk h Z hS (lv_sub hl [0, 1, 2, 3, 4, 5] rfl) hrow hj
    · replace h := wx_iff c39 h
      refine lv_iload hx hb dX1_warmthBy_42 (lv_at hl 5 rfl) ?_
      refine lv_bipush (v := 100) hx hb dX1_warmthBy_44 (by decide) ?_
      refine lv_icmp_ge (tgt := 91) hx hb dX1_warmthBy_46 (by decide) (fun c46 => ?_) (fun c46 => ?_)
      · replace h := wx_ift c46 h
        exact b_X1_warmthBy_91 B (k := k) hk h Z hS (lv_sub hl [0, 1, 2, 3, 4, 5] rfl) hrow hj
      · replace h := wx_iff c46 h
        refine lv_aload hx hb dX1_warmthBy_49 (lv_at hl 4 rfl) ?_
        refine lv_iload hx hb dX1_warmthBy_51 (lv_at hl 5 rfl) ?_
        refine lv_bipush (v := 64) hx hb dX1_warmthBy_53 (by decide) ?_
        refine lv_imul hx hb dX1_warmthBy_55 ?_
        refine lv_aload hx hb dX1_warmthBy_56 (lv_at hl 4 rfl) ?_
        refine lv_iload hx hb dX1_warmthBy_58 (lv_at hl 5 rfl) ?_
        refine lv_iconst (v := 1) hx hb dX1_warmthBy_60 (by decide) ?_
        refine lv_iadd hx hb dX1_warmthBy_61 ?_
        refine lv_bipush (v := 64) hx hb dX1_warmthBy_62 (by decide) ?_
        refine lv_imul hx hb dX1_warmthBy_64 ?_
        refine lv_lconst (v := 1) hx hb dX1_warmthBy_65 (by decide) ?_
        refine lv_iload_n hx hb dX1_warmthBy_66 rfl (lv_at hl 1 rfl) ?_
        refine lv_lshl (v := ((1 : Int64) <<< (x1.toInt64 &&& 63))) hx hb dX1_warmthBy_67 rfl ?_
        refine lv_aload_n hx hb dX1_warmthBy_68 rfl (lv_at hl 0 rfl) ?_
        refine wx_get (own := RX1) hx hb hts i_X1_warmthBy_1 hown hC.1 Z (o := 13) (ci := 1) rfl (rfl : vwCl[1]? = some (RX1, TX1, 3)) 0 (by decide) (hts _ k_X1_warmthBy_w3) (fun _ h9 => h9) (f := 0) rfl rfl dX1_warmthBy_69 ?_
        obtain ⟨v72, σ72, hc72, h⟩ := wx_b_ok h
        refine wx_call (va_runSN (As := [.ref (wx_ad ad rd 13 (100 + x1.toNatClampNeg)), .int (x5 * 64), .ref (wx_ad ad rd 13 (100 + x1.toNatClampNeg)), .int ((x5 + 1) * 64), .long ((1 : Int64) <<< (x1.toInt64 &&& 63)), .ref (ad 13 0)]) (rest := []) ⟨hx, hb, hml, hown, hts⟩ (c_X5_step l (D := D) (ad := ad) (rd := rd) (ca := ca) (A := A) (σ := σ) (o0 := 13) (k0 := (100 + x1.toNatClampNeg)) (n0 := 6464) (o2 := 13) (k2 := (100 + x1.toNatClampNeg)) (n2 := 6464) (o6 := 13) (k6 := 0) (al := σ.2.2.2.2) (wx_shr hrow hj) (wx_shr hrow hj) rfl rfl hc72) ⟨va_cnB 6 hts gX1_warmthBy_X5_step_n30 rfl rfl rfl (hC.1.2.1 _ (List.mem_of_getElem? (i := 51) rfl)) (hts _ k_X1_warmthBy_w4) (by decide +kernel) ⟨Nat.le_of_ble_eq_true rfl, Nat.le_of_ble_eq_true rfl⟩, hts _ k_X1_warmthBy_w5, trivial⟩ (wx_preS hC Z hS hA) rfl rfl hl.1 rfl (lv_room (Nat.le_of_ble_eq_true rfl)) dX1_warmthBy_72 ⟨(by show k + 0 ≤ mc; omega), (by show 6464 * k + 0 ≤ 6464 * mc; omega)⟩) hS (fun H locs Z hS => ?_)
        have hqσ72 := congrArg wx_n (show σ72.2.2.2.2 = σ.2.2.2.2 from m_X5_step_0 hc72)
        rw [← hqσ72] at hk hm
        replace hrow := (congrFun (show σ72.2.2.2.2 = σ.2.2.2.2 from m_X5_step_0 hc72) _).trans hrow
        refine lv_aload_n hx hb dX1_warmthBy_75 rfl (lv_at hl 0 rfl) ?_
        refine wx_get (own := RX1) hx hb hts i_X1_warmthBy_1 hown hC.1 Z (o := 13) (ci := 1) rfl (rfl : vwCl[1]? = some (RX1, TX1, 3)) 2 (by decide) (hts _ k_X1_warmthBy_w2) (fun _ h9 => h9) (f := 0) rfl rfl dX1_warmthBy_76 ?_
        refine lv_iload_n hx hb dX1_warmthBy_79 rfl (lv_at hl 1 rfl) ?_
        refine lv_iload hx hb dX1_warmthBy_80 (lv_at hl 5 rfl) ?_
        refine lv_iconst (v := 1) hx hb dX1_warmthBy_82 (by decide) ?_
        refine lv_iadd hx hb dX1_warmthBy_83 ?_
        obtain ⟨σ84, e84, i84, h⟩ := wx_w_ok h
        refine wx_iast hx hb hC.1 Z hS (o := 13) (k := 2) (n := 64) rfl rfl i84 dX1_warmthBy_84 e84 (fun H locs Z hS => ?_)
        have hqσ84 := congrArg wx_n (show σ84.2.2.2.2 = σ72.2.2.2.2 from (congrArg (fun z : wx_St => z.2.2.2.2) e84).trans rfl)
        rw [← hqσ84] at hk hm
        replace hrow := (congrFun (show σ84.2.2.2.2 = σ72.2.2.2.2 from (congrArg (fun z : wx_St => z.2.2.2.2) e84).trans rfl) _).trans hrow
        refine lv_iinc (v := x5 + 1) (lv' := [(5, .int (x5 + 1)), (0, .ref (ad 13 99)), (1, .int x1), (2, .int x2), (3, .int x3), (4, .ref (wx_ad ad rd 13 (100 + x1.toNatClampNeg)))]) hx hb dX1_warmthBy_85 hl (k := 5) rfl rfl (by decide) rfl (fun ls hl => ?_)
        refine lv_goto (tgt := 36) hx hb dX1_warmthBy_88 (by decide) ?_
        exact ih (k := k) hk h Z hS (lv_sub hl [1, 2, 3, 4, 5, 0] rfl) hrow hj
set_option maxRecDepth 20000 in
set_option maxHeartbeats 4000000 in
theorem m_X1_warmthBy_20  {r : UInt32} {σ' : wx_St}  {x1 : Int32} {x2 : Int32} {x3 : Int32} {σ : wx_St} (h : f_X1_warmthBy_20 x1 x2 x3 σ = some (r, σ')) : wx_n σ.2.2.2.2 ≤ wx_n σ'.2.2.2.2 := by
  unfold f_X1_warmthBy_20 at h
  obtain ⟨v25, ev25, iv25, h⟩ := wx_rA_ok h
  by_cases c25 : v25 = true
  · replace h := wx_ift c25 h
    obtain ⟨v33, ev33, iv33, h⟩ := wx_rI_ok h
    exact m_X1_warmthBy_36 h
  · exact wx_no (wx_iff c25 h)
set_option maxRecDepth 20000 in
set_option maxHeartbeats 4000000 in
theorem b_X1_warmthBy_20 (B : wx_B p s m args meth c cX1_warmthBy 6 (some .float) wsX1_warmthBy RX1 D ad ca A)    {r : UInt32} {σ' : wx_St} {mc : Nat}  {x1 : Int32} {x2 : Int32} {x3 : Int32} {σ : wx_St} {k : Nat} (hk : k + wx_n σ'.2.2.2.2 ≤ mc + wx_n σ.2.2.2.2)  (h : f_X1_warmthBy_20 x1 x2 x3 σ = some (r, σ')) {rd : Nat → Nat} {H : Heap} {locs : List Loc} (Z : wx_Z D ad rd ca A σ H) (hS : va_S A s.heap H locs) {ls : Array Slot} (hl : lv_has ls 6 [(0, .ref (ad 13 99)), (1, .int x1), (2, .int x2), (3, .int x3)]) : W p l e ({ frames := 2, cells := mc, slots := 6464 * mc, locals := 56 } : Room) s m args below meth c H locs k (6464 * k) (MQ below (wx_QA D ad ca A (some (.float r)) σ') args s mc (6464 * mc) A) (F0 m 20 ls []) := by
  obtain ⟨hx, hb, hml, hr, hts, hown, hlk, hC, hA⟩ := id B
  have hm := m_X1_warmthBy_20 h
  unfold f_X1_warmthBy_20 at h
  refine lv_aload_n hx hb dX1_warmthBy_20 rfl (lv_at hl 0 rfl) ?_
  refine wx_get (own := RX1) hx hb hts i_X1_warmthBy_1 hown hC.1 Z (o := 13) (ci := 1) rfl (rfl : vwCl[1]? = some (RX1, TX1, 3)) 1 (by decide) (hts _ k_X1_warmthBy_w0) (fun _ h9 => h9) (f := 0) rfl rfl dX1_warmthBy_21 ?_
  refine lv_iload_n hx hb dX1_warmthBy_24 rfl (lv_at hl 1 rfl) ?_
  obtain ⟨v25, ev25, iv25, h⟩ := wx_rA_ok h
  by_cases c25 : v25 = true
  · replace h := wx_ift c25 h
    have hrow := ev25.symm.trans c25
    have hj := wx_in_lt iv25
    refine wx_rald1 hx hb hC.1 Z iv25 (ev25.symm.trans c25) dX1_warmthBy_25 ?_
    refine lv_astore (lv' := [(4, .ref (wx_ad ad rd 13 (100 + x1.toNatClampNeg))), (0, .ref (ad 13 99)), (1, .int x1), (2, .int x2), (3, .int x3)]) hx hb dX1_warmthBy_26 hl (by decide) rfl (fun ls hl => ?_)
    refine lv_aload_n hx hb dX1_warmthBy_28 rfl (lv_at hl 1 rfl) ?_
    refine wx_get (own := RX1) hx hb hts i_X1_warmthBy_1 hown hC.1 Z (o := 13) (ci := 1) rfl (rfl : vwCl[1]? = some (RX1, TX1, 3)) 2 (by decide) (hts _ k_X1_warmthBy_w2) (fun _ h9 => h9) (f := 0) rfl rfl dX1_warmthBy_29 ?_
    refine lv_iload_n hx hb dX1_warmthBy_32 rfl (lv_at hl 2 rfl) ?_
    obtain ⟨v33, ev33, iv33, h⟩ := wx_rI_ok h
    refine wx_iald hx hb hC.1 Z (o := 13) (k := 2) (n := 64) rfl rfl iv33 dX1_warmthBy_33 ev33 ?_
    refine lv_istore (lv' := [(5, .int v33), (4, .ref (wx_ad ad rd 13 (100 + x1.toNatClampNeg))), (0, .ref (ad 13 99)), (1, .int x1), (2, .int x2), (3, .int x3)]) hx hb dX1_warmthBy_34 hl (by decide) rfl (fun ls hl => ?_)
    exact b_X1_warmthBy_36 B (k := k) hk h Z hS (lv_sub hl [2, 3, 4, 5, 1, 0] rfl) hrow hj
  · exact wx_no (wx_iff c25 h)
set_option maxRecDepth 20000 in
set_option maxHeartbeats 4000000 in
theorem m_X1_warmthBy_0  {r : UInt32} {σ' : wx_St}  {x1 : Int32} {x2 : Int32} {x3 : Int32} {σ : wx_St} (h : f_X1_warmthBy x1 x2 x3 σ = some (r, σ')) : wx_n σ.2.2.2.2 ≤ wx_n σ'.2.2.2.2 := by
  unfold f_X1_warmthBy at h
  obtain ⟨v5, ev5, iv5, h⟩ := wx_rA_ok h
  by_cases c5 : v5 = true
  · replace h := wx_ift c5 h
    exact m_X1_warmthBy_20 h
  · replace h := wx_iff c5 h
    obtain ⟨σ17, e17, h⟩ := wx_l_ok h
    refine Nat.le_trans (Nat.le_of_lt (Nat.lt_of_lt_of_eq (Nat.lt_succ_self _) (wx_nA iv5 (fun z => c5 (ev5.trans z)) e17).symm)) ?_
    exact m_X1_warmthBy_20 h
set_option maxRecDepth 20000 in
set_option maxHeartbeats 4000000 in
theorem b_X1_warmthBy_0 (B : wx_B p s m args meth c cX1_warmthBy 6 (some .float) wsX1_warmthBy RX1 D ad ca A)    {r : UInt32} {σ' : wx_St} {mc : Nat}  {x1 : Int32} {x2 : Int32} {x3 : Int32} {σ : wx_St} {k : Nat} (hk : k + wx_n σ'.2.2.2.2 ≤ mc + wx_n σ.2.2.2.2)  (h : f_X1_warmthBy x1 x2 x3 σ = some (r, σ')) {rd : Nat → Nat} {H : Heap} {locs : List Loc} (Z : wx_Z D ad rd ca A σ H) (hS : va_S A s.heap H locs) {ls : Array Slot} (hl : lv_has ls 6 [(0, .ref (ad 13 99)), (1, .int x1), (2, .int x2), (3, .int x3)]) : W p l e ({ frames := 2, cells := mc, slots := 6464 * mc, locals := 56 } : Room) s m args below meth c H locs k (6464 * k) (MQ below (wx_QA D ad ca A (some (.float r)) σ') args s mc (6464 * mc) A) (F0 m 0 ls []) := by
  obtain ⟨hx, hb, hml, hr, hts, hown, hlk, hC, hA⟩ := id B
  have hm := m_X1_warmthBy_0 h
  unfold f_X1_warmthBy at h
  refine lv_aload_n hx hb dX1_warmthBy_0 rfl (lv_at hl 0 rfl) ?_
  refine wx_get (own := RX1) hx hb hts i_X1_warmthBy_1 hown hC.1 Z (o := 13) (ci := 1) rfl (rfl : vwCl[1]? = some (RX1, TX1, 3)) 1 (by decide) (hts _ k_X1_warmthBy_w0) (fun _ h9 => h9) (f := 0) rfl rfl dX1_warmthBy_1 ?_
  refine lv_iload_n hx hb dX1_warmthBy_4 rfl (lv_at hl 1 rfl) ?_
  obtain ⟨v5, ev5, iv5, h⟩ := wx_rA_ok h
  by_cases c5 : v5 = true
  · replace h := wx_ift c5 h
    refine wx_rald1 hx hb hC.1 Z iv5 (ev5.symm.trans c5) dX1_warmthBy_5 ?_
    refine lv_ifnonnull (tgt := 20) hx hb dX1_warmthBy_6 (by decide) ?_
    exact b_X1_warmthBy_20 B (k := k) hk h Z hS (lv_sub hl [0, 1, 2, 3] rfl)
  · replace h := wx_iff c5 h
    refine wx_rald0 hx hb hC.1 Z iv5 (fun z => c5 (ev5.trans z)) dX1_warmthBy_5 ?_
    refine lv_ifnonnullN hx hb dX1_warmthBy_6 ?_
    refine lv_aload_n hx hb dX1_warmthBy_9 rfl (lv_at hl 0 rfl) ?_
    refine wx_get (own := RX1) hx hb hts i_X1_warmthBy_1 hown hC.1 Z (o := 13) (ci := 1) rfl (rfl : vwCl[1]? = some (RX1, TX1, 3)) 1 (by decide) (hts _ k_X1_warmthBy_w0) (fun _ h9 => h9) (f := 0) rfl rfl dX1_warmthBy_10 ?_
    refine lv_iload_n hx hb dX1_warmthBy_13 rfl (lv_at hl 1 rfl) ?_
    refine lv_sipush (v := 6464) hx hb dX1_warmthBy_14 (by decide) ?_
    obtain ⟨σ17, e17, h⟩ := wx_l_ok h
    have m1 := wx_nA iv5 (fun z => c5 (ev5.trans z)) e17
    have m2 := m_X1_warmthBy_20 h
    refine wx_newrow hx hb hC.1 Z hS hA (hts _ k_X1_warmthBy_w1) iv5 (fun z => c5 (ev5.trans z)) (by show k + 1 ≤ mc; omega) (by show 6464 * k + 6464 ≤ 6464 * mc; omega) dX1_warmthBy_17 dX1_warmthBy_19 e17 (fun rd H locs Z hS => ?_)
    refine W.widen (k := k + 1) (n := 6464 * (k + 1)) (Nat.le_refl _) (by omega) ?_
    exact b_X1_warmthBy_20 B (k := k + 1) (by omega) h Z hS (lv_sub hl [0, 1, 2, 3] rfl)
set_option maxRecDepth 20000 in
theorem c_X1_warmthBy (l : Launch) {D : va_G} {ad : Nat → Nat → Nat} {rd : Nat → Nat} {ca : Nat → ClassId} {A : Nat → Prop} {σ : wx_St}    {x1 : Int32} {x2 : Int32} {x3 : Int32} {r : UInt32} {σ' : wx_St} (h : f_X1_warmthBy x1 x2 x3 σ = some (r, σ')) : wx_MA l yX1_warmthBy wsX1_warmthBy 2 56 D ad rd ca A [.ref (ad 13 99), .int x1, .int x2, .int x3] σ (some (.float r)) σ' := by
  refine Met.ofW (cc := cX1_warmthBy) (maxL := 6) (ret := (some .float)) (by decide) rfl ?_
  intro p e s m args below meth c s₁ B0 hml hv
  obtain ⟨rfl, hC, Z, hA⟩ := hv
  have hl := lv_entry ([.ref (ad 13 99), .int x1, .int x2, .int x3]) (n := 6) (Nat.le_of_ble_eq_true rfl)
  rw [lg_entry_eq]
  generalize (lg_sl ([.ref (ad 13 99), .int x1, .int x2, .int x3]) ++ List.replicate (6 - (lg_sl ([.ref (ad 13 99), .int x1, .int x2, .int x3])).length) Slot.unset).toArray = ls at hl ⊢
  exact b_X1_warmthBy_0 ⟨B0.exec, B0.bytes, hml, B0.returns, atoms_spec (ws := wsX1_warmthBy) B0.pre, findClass_of_methodNamed B0.named, B0.notSynchronized, hC, hA⟩  (k := 0) (by have hm := m_X1_warmthBy_0 h; omega) h Z va_S.rf hl
theorem i_X1_follow_1 : ∀ w ∈ wsX10, w ∈ wsX1_follow := by decide +kernel
theorem k_X1_follow_w0 : Cond.fieldLink RX1 9 "WarmProbes$Lone" "settings" "[I" ∈ wsX1_follow := by decide +kernel
theorem k_X1_follow_w1 : Cond.methodLink RX1 24 arraycopyName ∈ wsX1_follow := by decide +kernel
theorem k_X1_follow_w2 : Cond.native arraycopyName ∈ wsX1_follow := by decide +kernel
theorem k_X1_follow_w3 : Cond.static arraycopyName ∈ wsX1_follow := by decide +kernel
theorem k_X1_follow_w4 : Cond.initialized "java/lang/System" ∈ wsX1_follow := by decide +kernel
theorem k_X1_follow_w5 : Cond.fieldLink RX1 21 "WarmProbes$Lone" "steps" "[I" ∈ wsX1_follow := by decide +kernel
set_option maxRecDepth 20000 in
set_option maxHeartbeats 4000000 in
theorem m_X1_follow_50 {o1 : Nat} {k1 : Nat}  {σ' : wx_St}  :
    ∀ {n : Nat} {x2 : Int32} {σ : wx_St} (h : f_X1_follow_50 o1 k1 n x2 σ = some ((), σ')), σ'.2.2.2.2 = σ.2.2.2.2 := by
  intro n
  induction n with
  | zero => intro x2 σ h; exact wx_no h
  | succ n ih =>
    intro x2 σ h
    rw [f_X1_follow_50] at h
    by_cases c53 : 64 ≤ x2
    · replace h := wx_ift c53 h
      obtain ⟨-, rfl⟩ := wx_ret_ok h
      rfl
    · replace h := wx_iff c53 h
      obtain ⟨σ62, e62, i62, h⟩ := wx_w_ok h
      refine Eq.trans ?_ (show σ62.2.2.2.2 = σ.2.2.2.2 from (congrArg (fun z : wx_St => z.2.2.2.2) e62).trans rfl)
      exact ih h
set_option maxRecDepth 20000 in
set_option maxHeartbeats 4000000 in
theorem b_X1_follow_50 (B : wx_B p s m args meth c cX1_follow 3 none wsX1_follow RX1 D ad ca A) {o1 : Nat} {k1 : Nat} {al : Nat → Bool} (hs1 : wx_sh al o1 k1 = (1, 4))  {σ' : wx_St}   :
    ∀ {n : Nat} {x2 : Int32} {σ : wx_St}  (h : f_X1_follow_50 o1 k1 n x2 σ = some ((), σ')) {H : Heap} {locs : List Loc} (Z : wx_Z D ad rd ca A σ H) (hS : va_S A s.heap H locs) {ls : Array Slot} (hl : lv_has ls 3 [(0, .ref (ad 13 99)), (1, .ref (wx_ad ad rd o1 k1)), (2, .int x2)]) (hal : σ.2.2.2.2 = al), W p l e ({ frames := 1, cells := 0, slots := 0, locals := 26 } : Room) s m args below meth c H locs 0 0 (MQ below (wx_Q D ad rd ca A none σ') args s 0 0 A) (F0 m 50 ls []) := by
  obtain ⟨hx, hb, hml, hr, hts, hown, hlk, hC, hA⟩ := id B
  intro n
  induction n with
  | zero => intro x2 σ  h H locs Z hS ls hl hal; exact wx_no h
  | succ n ih =>
    intro x2 σ  h H locs Z hS ls hl hal
    rw [f_X1_follow_50] at h
    refine lv_iload_n hx hb dX1_follow_50 rfl (lv_at hl 2 rfl) ?_
    refine lv_bipush (v := 64) hx hb dX1_follow_51 (by decide) ?_
    refine lv_icmp_ge (tgt := 69) hx hb dX1_follow_53 (by decide) (fun c53 => ?_) (fun c53 => ?_)
    · replace h := wx_ift c53 h
      obtain ⟨-, rfl⟩ := wx_ret_ok h
      exact W.vret hx hb hr (fun t ht hW => ⟨rfl, by rw [ht]; exact Z, hS.F ht⟩) hS.2.2 dX1_follow_69
    · replace h := wx_iff c53 h
      refine lv_aload_n hx hb dX1_follow_56 rfl (lv_at hl 0 rfl) ?_
      refine wx_get (own := RX1) hx hb hts i_X1_follow_1 hown hC.1 Z (o := 13) (ci := 1) rfl (rfl : vwCl[1]? = some (RX1, TX1, 3)) 2 (by decide) (hts _ k_X1_follow_w5) (fun _ h9 => h9) (f := 0) rfl rfl dX1_follow_57 ?_
      refine lv_iload_n hx hb dX1_follow_60 rfl (lv_at hl 2 rfl) ?_
      refine lv_iconst (v := 0) hx hb dX1_follow_61 (by decide) ?_
      obtain ⟨σ62, e62, i62, h⟩ := wx_w_ok h
      refine wx_iast hx hb hC.1 Z hS (o := 13) (k := 2) (n := 64) rfl rfl i62 dX1_follow_62 e62 (fun H locs Z hS => ?_)
      replace hal := (show σ62.2.2.2.2 = σ.2.2.2.2 from (congrArg (fun z : wx_St => z.2.2.2.2) e62).trans rfl).trans hal
      refine lv_iinc (v := x2 + 1) (lv' := [(2, .int (x2 + 1)), (0, .ref (ad 13 99)), (1, .ref (wx_ad ad rd o1 k1))]) hx hb dX1_follow_63 hl (k := 2) rfl rfl (by decide) rfl (fun ls hl => ?_)
      refine lv_goto (tgt := 50) hx hb dX1_follow_66 (by decide) ?_
      exact ih h Z hS (lv_sub hl [1, 2, 0] rfl) hal
set_option maxRecDepth 20000 in
set_option maxHeartbeats 4000000 in
theorem m_X1_follow_37 {o1 : Nat} {k1 : Nat}  {σ' : wx_St}   {σ : wx_St} (h : f_X1_follow_37 o1 k1 σ = some ((), σ')) : σ'.2.2.2.2 = σ.2.2.2.2 := by
  unfold f_X1_follow_37 at h
  obtain ⟨σ45, e45, h⟩ := wx_l_ok h
  refine Eq.trans ?_ (show σ45.2.2.2.2 = σ.2.2.2.2 from (congrArg (fun z : wx_St => z.2.2.2.2) e45).trans rfl)
  exact m_X1_follow_50 h
set_option maxRecDepth 20000 in
set_option maxHeartbeats 4000000 in
theorem b_X1_follow_37 (B : wx_B p s m args meth c cX1_follow 3 none wsX1_follow RX1 D ad ca A) {o1 : Nat} {k1 : Nat} {al : Nat → Bool} (hs1 : wx_sh al o1 k1 = (1, 4))  {σ' : wx_St}   {σ : wx_St}  (h : f_X1_follow_37 o1 k1 σ = some ((), σ')) {H : Heap} {locs : List Loc} (Z : wx_Z D ad rd ca A σ H) (hS : va_S A s.heap H locs) {ls : Array Slot} (hl : lv_has ls 3 [(0, .ref (ad 13 99)), (1, .ref (wx_ad ad rd o1 k1))]) (hal : σ.2.2.2.2 = al) : W p l e ({ frames := 1, cells := 0, slots := 0, locals := 26 } : Room) s m args below meth c H locs 0 0 (MQ below (wx_Q D ad rd ca A none σ') args s 0 0 A) (F0 m 37 ls []) := by
  obtain ⟨hx, hb, hml, hr, hts, hown, hlk, hC, hA⟩ := id B
  unfold f_X1_follow_37 at h
  refine lv_aload_n hx hb dX1_follow_37 rfl (lv_at hl 1 rfl) ?_
  refine lv_iconst (v := 0) hx hb dX1_follow_38 (by decide) ?_
  refine lv_aload_n hx hb dX1_follow_39 rfl (lv_at hl 0 rfl) ?_
  refine wx_get (own := RX1) hx hb hts i_X1_follow_1 hown hC.1 Z (o := 13) (ci := 1) rfl (rfl : vwCl[1]? = some (RX1, TX1, 3)) 0 (by decide) (hts _ k_X1_follow_w0) (fun _ h9 => h9) (f := 0) rfl rfl dX1_follow_40 ?_
  refine lv_iconst (v := 0) hx hb dX1_follow_43 (by decide) ?_
  refine lv_iconst (v := 4) hx hb dX1_follow_44 (by decide) ?_
  obtain ⟨σ45, e45, h⟩ := wx_l_ok h
  refine wx_copyi (own := RX1) hx hb (hml.trans hl.1.symm) hown (hts _ k_X1_follow_w1) (hts _ k_X1_follow_w2) (hts _ k_X1_follow_w3) (hts _ k_X1_follow_w4) hC.1 Z hS (o := o1) (k := k1) (n := 4) (o' := 13) (k' := 0) (n' := 4) (wx_hal hal hs1) rfl rfl rfl (by decide) (by decide) (by decide) (by decide) (by decide) (Nat.le_of_ble_eq_true rfl) (Nat.le_of_ble_eq_true rfl) dX1_follow_45 e45 (fun H locs Z hS => ?_)
  replace hal := (show σ45.2.2.2.2 = σ.2.2.2.2 from (congrArg (fun z : wx_St => z.2.2.2.2) e45).trans rfl).trans hal
  refine lv_iconst (v := 0) hx hb dX1_follow_48 (by decide) ?_
  refine lv_istore_n (lv' := [(2, .int 0), (0, .ref (ad 13 99)), (1, .ref (wx_ad ad rd o1 k1))]) hx hb dX1_follow_49 rfl hl (by decide) rfl (fun ls hl => ?_)
  exact b_X1_follow_50 B hs1 h Z hS (lv_sub hl [1, 2, 0] rfl) hal
set_option maxRecDepth 20000 in
set_option maxHeartbeats 4000000 in
theorem m_X1_follow_0 {o1 : Nat} {k1 : Nat}  {σ' : wx_St}   {σ : wx_St} (h : f_X1_follow o1 k1 σ = some ((), σ')) : σ'.2.2.2.2 = σ.2.2.2.2 := by
  unfold f_X1_follow at h
  obtain ⟨v5, ev5, iv5, h⟩ := wx_rI_ok h
  obtain ⟨v8, ev8, iv8, h⟩ := wx_rI_ok h
  by_cases c9 : v5 = v8
  · replace h := wx_ift c9 h
    obtain ⟨v17, ev17, iv17, h⟩ := wx_rI_ok h
    obtain ⟨v20, ev20, iv20, h⟩ := wx_rI_ok h
    by_cases c21 : v17 = v20
    · replace h := wx_ift c21 h
      obtain ⟨v29, ev29, iv29, h⟩ := wx_rI_ok h
      obtain ⟨v32, ev32, iv32, h⟩ := wx_rI_ok h
      by_cases c33 : v29 = v32
      · replace h := wx_ift c33 h
        obtain ⟨-, rfl⟩ := wx_ret_ok h
        rfl
      · replace h := wx_iff c33 h
        exact m_X1_follow_37 h
    · replace h := wx_iff c21 h
      exact m_X1_follow_37 h
  · replace h := wx_iff c9 h
    exact m_X1_follow_37 h
set_option maxRecDepth 20000 in
set_option maxHeartbeats 4000000 in
theorem b_X1_follow_0 (B : wx_B p s m args meth c cX1_follow 3 none wsX1_follow RX1 D ad ca A) {o1 : Nat} {k1 : Nat} {al : Nat → Bool} (hs1 : wx_sh al o1 k1 = (1, 4))  {σ' : wx_St}   {σ : wx_St}  (h : f_X1_follow o1 k1 σ = some ((), σ')) {H : Heap} {locs : List Loc} (Z : wx_Z D ad rd ca A σ H) (hS : va_S A s.heap H locs) {ls : Array Slot} (hl : lv_has ls 3 [(0, .ref (ad 13 99)), (1, .ref (wx_ad ad rd o1 k1))]) (hal : σ.2.2.2.2 = al) : W p l e ({ frames := 1, cells := 0, slots := 0, locals := 26 } : Room) s m args below meth c H locs 0 0 (MQ below (wx_Q D ad rd ca A none σ') args s 0 0 A) (F0 m 0 ls []) := by
  obtain ⟨hx, hb, hml, hr, hts, hown, hlk, hC, hA⟩ := id B
  unfold f_X1_follow at h
  refine lv_aload_n hx hb dX1_follow_0 rfl (lv_at hl 0 rfl) ?_
  refine wx_get (own := RX1) hx hb hts i_X1_follow_1 hown hC.1 Z (o := 13) (ci := 1) rfl (rfl : vwCl[1]? = some (RX1, TX1, 3)) 0 (by decide) (hts _ k_X1_follow_w0) (fun _ h9 => h9) (f := 0) rfl rfl dX1_follow_1 ?_
  refine lv_iconst (v := 0) hx hb dX1_follow_4 (by decide) ?_
  obtain ⟨v5, ev5, iv5, h⟩ := wx_rI_ok h
  refine wx_iald hx hb hC.1 Z (o := 13) (k := 0) (n := 4) rfl rfl iv5 dX1_follow_5 ev5 ?_
  refine lv_aload_n hx hb dX1_follow_6 rfl (lv_at hl 1 rfl) ?_
  refine lv_iconst (v := 0) hx hb dX1_follow_7 (by decide) ?_
  obtain ⟨v8, ev8, iv8, h⟩ := wx_rI_ok h
  refine wx_iald hx hb hC.1 Z (o := o1) (k := k1) (n := 4) (wx_hal hal hs1) rfl iv8 dX1_follow_8 ev8 ?_
  refine lv_icmp_ne (tgt := 37) hx hb dX1_follow_9 (by decide) (fun c9 => ?_) (fun c9 => ?_)
  · replace h := wx_iff c9 h
    exact b_X1_follow_37 B hs1 h Z hS (lv_sub hl [0, 1] rfl) hal
  · replace h := wx_ift c9 h
    refine lv_aload_n hx hb dX1_follow_12 rfl (lv_at hl 0 rfl) ?_
    refine wx_get (own := RX1) hx hb hts i_X1_follow_1 hown hC.1 Z (o := 13) (ci := 1) rfl (rfl : vwCl[1]? = some (RX1, TX1, 3)) 0 (by decide) (hts _ k_X1_follow_w0) (fun _ h9 => h9) (f := 0) rfl rfl dX1_follow_13 ?_
    refine lv_iconst (v := 1) hx hb dX1_follow_16 (by decide) ?_
    obtain ⟨v17, ev17, iv17, h⟩ := wx_rI_ok h
    refine wx_iald hx hb hC.1 Z (o := 13) (k := 0) (n := 4) rfl rfl iv17 dX1_follow_17 ev17 ?_
    refine lv_aload_n hx hb dX1_follow_18 rfl (lv_at hl 1 rfl) ?_
    refine lv_iconst (v := 1) hx hb dX1_follow_19 (by decide) ?_
    obtain ⟨v20, ev20, iv20, h⟩ := wx_rI_ok h
    refine wx_iald hx hb hC.1 Z (o := o1) (k := k1) (n := 4) (wx_hal hal hs1) rfl iv20 dX1_follow_20 ev20 ?_
    refine lv_icmp_ne (tgt := 37) hx hb dX1_follow_21 (by decide) (fun c21 => ?_) (fun c21 => ?_)
    · replace h := wx_iff c21 h
      exact b_X1_follow_37 B hs1 h Z hS (lv_sub hl [0, 1] rfl) hal
    · replace h := wx_ift c21 h
      refine lv_aload_n hx hb dX1_follow_24 rfl (lv_at hl 0 rfl) ?_
      refine wx_get (own := RX1) hx hb hts i_X1_follow_1 hown hC.1 Z (o := 13) (ci := 1) rfl (rfl : vwCl[1]? = some (RX1, TX1, 3)) 0 (by decide) (hts _ k_X1_follow_w0) (fun _ h9 => h9) (f := 0) rfl rfl dX1_follow_25 ?_
      refine lv_iconst (v := 2) hx hb dX1_follow_28 (by decide) ?_
      obtain ⟨v29, ev29, iv29, h⟩ := wx_rI_ok h
      refine wx_iald hx hb hC.1 Z (o := 13) (k := 0) (n := 4) rfl rfl iv29 dX1_follow_29 ev29 ?_
      refine lv_aload_n hx hb dX1_follow_30 rfl (lv_at hl 1 rfl) ?_
      refine lv_iconst (v := 2) hx hb dX1_follow_31 (by decide) ?_
      obtain ⟨v32, ev32, iv32, h⟩ := wx_rI_ok h
      refine wx_iald hx hb hC.1 Z (o := o1) (k := k1) (n := 4) (wx_hal hal hs1) rfl iv32 dX1_follow_32 ev32 ?_
      refine lv_icmp_ne (tgt := 37) hx hb dX1_follow_33 (by decide) (fun c33 => ?_) (fun c33 => ?_)
      · replace h := wx_iff c33 h
        exact b_X1_follow_37 B hs1 h Z hS (lv_sub hl [0, 1] rfl) hal
      · replace h := wx_ift c33 h
        obtain ⟨-, rfl⟩ := wx_ret_ok h
        exact W.vret hx hb hr (fun t ht hW => ⟨rfl, by rw [ht]; exact Z, hS.F ht⟩) hS.2.2 dX1_follow_36
set_option maxRecDepth 20000 in
theorem c_X1_follow (l : Launch) {D : va_G} {ad : Nat → Nat → Nat} {rd : Nat → Nat} {ca : Nat → ClassId} {A : Nat → Prop} {σ : wx_St} {o1 : Nat} {k1 : Nat} {al : Nat → Bool} (hs1 : wx_sh al o1 k1 = (1, 4)) (hal : σ.2.2.2.2 = al)   {σ' : wx_St} (h : f_X1_follow o1 k1 σ = some ((), σ')) : wx_M l yX1_follow wsX1_follow 1 26 D ad rd ca A [.ref (ad 13 99), .ref (wx_ad ad rd o1 k1)] σ none σ' := by
  refine Met.ofW (cc := cX1_follow) (maxL := 3) (ret := none) (by decide) rfl ?_
  intro p e s m args below meth c s₁ B0 hml hv
  obtain ⟨rfl, hC, Z, hA⟩ := hv
  have hl := lv_entry ([.ref (ad 13 99), .ref (wx_ad ad rd o1 k1)]) (n := 3) (Nat.le_of_ble_eq_true rfl)
  rw [lg_entry_eq]
  generalize (lg_sl ([.ref (ad 13 99), .ref (wx_ad ad rd o1 k1)]) ++ List.replicate (3 - (lg_sl ([.ref (ad 13 99), .ref (wx_ad ad rd o1 k1)])).length) Slot.unset).toArray = ls at hl ⊢
  exact b_X1_follow_0 ⟨B0.exec, B0.bytes, hml, B0.returns, atoms_spec (ws := wsX1_follow) B0.pre, findClass_of_methodNamed B0.named, B0.notSynchronized, hC, hA⟩ hs1  h Z va_S.rf hl hal
theorem k_X5_readOf_w0 : Cond.constantFloat RX5 258 (1092616192) ∈ wsX5_readOf := by decide +kernel
set_option maxRecDepth 20000 in
set_option maxHeartbeats 4000000 in
theorem b_X5_readOf_0 (B : wx_B p s m args meth c cX5_readOf 1 (some .int) wsX5_readOf RX5 D ad ca A)    {r : Int32} {σ : wx_St}  {x0 : UInt32}   (h : f_X5_readOf x0 = some r) {H : Heap} {locs : List Loc} (Z : wx_Z D ad rd ca A σ H) (hS : va_S A s.heap H locs) {ls : Array Slot} (hl : lv_has ls 1 [(0, .float x0)]) : W p l e ({ frames := 0, cells := 0, slots := 0, locals := 0 } : Room) s m args below meth c H locs 0 0 (MQ below (wx_Q D ad rd ca A (some (.int r)) σ) args s 0 0 A) (F0 m 0 ls []) := by
  obtain ⟨hx, hb, hml, hr, hts, hown, hlk, hC, hA⟩ := id B
  unfold f_X5_readOf at h
  refine lv_fload_n hx hb dX5_readOf_0 rfl (lv_at hl 0 rfl) ?_
  refine wx_ldcwF hx hb hown (hts _ k_X5_readOf_w0) dX5_readOf_1 ?_
  obtain ⟨v4, ev4, nv4, h⟩ := wx_f_ok h
  refine wx_fmul hx hb dX5_readOf_4 ev4 nv4 ?_
  refine lv_f2i hx hb dX5_readOf_5 ?_
  obtain rfl := Option.some.inj h
  exact W.iret hx hb hr (fun t ht hW => ⟨rfl, by rw [ht]; exact Z, hS.F ht⟩) hS.2.2 dX5_readOf_6
set_option maxRecDepth 20000 in
theorem c_X5_readOf (l : Launch) {D : va_G} {ad : Nat → Nat → Nat} {rd : Nat → Nat} {ca : Nat → ClassId} {A : Nat → Prop} {σ : wx_St}    {x0 : UInt32} {r : Int32} (h : f_X5_readOf x0 = some r) : wx_M l yX5_readOf wsX5_readOf 0 0 D ad rd ca A [.float x0] σ (some (.int r)) σ := by
  refine Met.ofW (cc := cX5_readOf) (maxL := 1) (ret := (some .int)) (by decide) rfl ?_
  intro p e s m args below meth c s₁ B0 hml hv
  obtain ⟨rfl, hC, Z, hA⟩ := hv
  have hl := lv_entry ([.float x0]) (n := 1) (Nat.le_of_ble_eq_true rfl)
  rw [lg_entry_eq]
  generalize (lg_sl ([.float x0]) ++ List.replicate (1 - (lg_sl ([.float x0])).length) Slot.unset).toArray = ls at hl ⊢
  exact b_X5_readOf_0 ⟨B0.exec, B0.bytes, hml, B0.returns, atoms_spec (ws := wsX5_readOf) B0.pre, findClass_of_methodNamed B0.named, B0.notSynchronized, hC, hA⟩   h Z va_S.rf hl
theorem i_X4_fits_0 : ∀ w ∈ wsX00, w ∈ wsX4_fits := by decide +kernel
theorem i_X4_fits_4 : ∀ w ∈ wsX40, w ∈ wsX4_fits := by decide +kernel
theorem k_X4_fits_w0 : Cond.fieldLink RX4 12 "WarmProbes$Suspicion" "lone" "LWarmProbes$Lone;" ∈ wsX4_fits := by decide +kernel
theorem k_X4_fits_w1 : Cond.initialized RX1 ∈ wsX4_fits := by decide +kernel
theorem k_X4_fits_w2 : Cond.instanceMethod yX1_follow ∈ wsX4_fits := by decide +kernel
theorem k_X4_fits_w3 : Cond.selects RX1 yX1_follow yX1_follow ∈ wsX4_fits := by decide +kernel
theorem k_X4_fits_w4 : Cond.instanceMethod yX1_warmthBy ∈ wsX4_fits := by decide +kernel
theorem k_X4_fits_w5 : Cond.selects RX1 yX1_warmthBy yX1_warmthBy ∈ wsX4_fits := by decide +kernel
theorem k_X4_fits_w6 : Cond.initialized RX5 ∈ wsX4_fits := by decide +kernel
theorem k_X4_fits_w7 : Cond.static yX5_readOf ∈ wsX4_fits := by decide +kernel
theorem k_X4_fits_w8 : Cond.methodLink RX4 81 Lib.Math.abs.name ∈ wsX4_fits := by decide +kernel
theorem k_X4_fits_w9 : Cond.static Lib.Math.abs.name ∈ wsX4_fits := by decide +kernel
theorem k_X4_fits_w10 : Cond.initialized "java/lang/Math" ∈ wsX4_fits := by decide +kernel
theorem k_X4_fits_w11 : Cond.code Lib.Math.abs.name Lib.Math.abs.code 1 (some .int) ∈ wsX4_fits := by decide +kernel
set_option maxRecDepth 20000 in
set_option maxHeartbeats 4000000 in
theorem m_X4_fits_80 {b1 : Nat} {r : Int32} {σ' : wx_St} {K14 : Int32 → Int32 → Int32 → wx_St → Option (Int32 × wx_St)} (mK14 : ∀ {x2 : Int32} {x3 : Int32} {x4 : Int32} {σ : wx_St}, K14 x2 x3 x4 σ = some (r, σ') → wx_n σ.2.2.2.2 ≤ wx_n σ'.2.2.2.2) {x2 : Int32} {x3 : Int32} {x4 : Int32} {x5 : UInt32} {σ : wx_St} (h : f_X4_fits_80 b1 K14 x2 x3 x4 x5 σ = some (r, σ')) : wx_n σ.2.2.2.2 ≤ wx_n σ'.2.2.2.2 := by
  unfold f_X4_fits_80 at h
  obtain ⟨v82, hc82, h⟩ := wx_o_ok h
  obtain ⟨v91, ev91, iv91, h⟩ := wx_rI_ok h
  obtain ⟨v101, ev101, iv101, h⟩ := wx_rI_ok h
  by_cases c102 : (if 0 ≤ (v82 - v91) then (v82 - v91) else 0 - (v82 - v91)) ≤ v101
  · replace h := wx_ift c102 h
    exact mK14 h
  · replace h := wx_iff c102 h
    obtain ⟨rfl, rfl⟩ := wx_ret_ok h
    exact Nat.le_refl _
set_option maxRecDepth 20000 in
set_option maxHeartbeats 4000000 in
theorem b_X4_fits_80 (B : wx_B p s m args meth c cX4_fits 6 (some .boolean) wsX4_fits RX4 D ad ca A) {b1 : Nat}  (hb1 : b1 < 11) {r : Int32} {σ' : wx_St} {mc : Nat} {K14 : Int32 → Int32 → Int32 → wx_St → Option (Int32 × wx_St)} (hK14 : ∀ {x2 : Int32} {x3 : Int32} {x4 : Int32} {σ : wx_St} {k : Nat} (hk : k + wx_n σ'.2.2.2.2 ≤ mc + wx_n σ.2.2.2.2)  (h : K14 x2 x3 x4 σ = some (r, σ')) {rd : Nat → Nat} {H : Heap} {locs : List Loc} (Z : wx_Z D ad rd ca A σ H) (hS : va_S A s.heap H locs) {ls : Array Slot} (hl : lv_has ls 6 [(0, .ref (ad 12 99)), (1, .ref (ad b1 99)), (2, .int x2), (3, .int x3), (4, .int x4)]), W p l e ({ frames := 3, cells := mc, slots := 6464 * mc, locals := 81 } : Room) s m args below meth c H locs k (6464 * k) (MQ below (wx_QA D ad ca A (some (.int r)) σ') args s mc (6464 * mc) A) (F0 m 14 ls [])) (mK14 : ∀ {x2 : Int32} {x3 : Int32} {x4 : Int32} {σ : wx_St}, K14 x2 x3 x4 σ = some (r, σ') → wx_n σ.2.2.2.2 ≤ wx_n σ'.2.2.2.2) {x2 : Int32} {x3 : Int32} {x4 : Int32} {x5 : UInt32} {σ : wx_St} {k : Nat} (hk : k + wx_n σ'.2.2.2.2 ≤ mc + wx_n σ.2.2.2.2)  (h : f_X4_fits_80 b1 K14 x2 x3 x4 x5 σ = some (r, σ')) {rd : Nat → Nat} {H : Heap} {locs : List Loc} (Z : wx_Z D ad rd ca A σ H) (hS : va_S A s.heap H locs) {ls : Array Slot} (hl : lv_has ls 6 [(0, .ref (ad 12 99)), (1, .ref (ad b1 99)), (2, .int x2), (3, .int x3), (4, .int x4), (5, .float x5)]) : W p l e ({ frames := 3, cells := mc, slots := 6464 * mc, locals := 81 } : Room) s m args below meth c H locs k (6464 * k) (MQ below (wx_QA D ad ca A (some (.int r)) σ') args s mc (6464 * mc) A) (F0 m 80 ls []) := by
  obtain ⟨hx, hb, hml, hr, hts, hown, hlk, hC, hA⟩ := id B
  have hm := m_X4_fits_80 (K14 := K14) @mK14 h
  unfold f_X4_fits_80 at h
  refine lv_fload hx hb dX4_fits_80 (lv_at hl 5 rfl) ?_
  obtain ⟨v82, hc82, h⟩ := wx_o_ok h
  refine wx_call (va_runSN (As := [.float x5]) (rest := []) ⟨hx, hb, hml, hown, hts⟩ (c_X5_readOf l (D := D) (ad := ad) (rd := rd) (ca := ca) (A := A) (σ := σ) hc82) ⟨va_cnB 1 hts gX4_fits_X5_readOf_n74 rfl rfl rfl (hC.1.2.1 _ (List.mem_of_getElem? (i := 52) rfl)) (hts _ k_X4_fits_w6) (by decide +kernel) ⟨Nat.le_of_ble_eq_true rfl, Nat.le_of_ble_eq_true rfl⟩, hts _ k_X4_fits_w7, trivial⟩ (wx_preS hC Z hS hA) rfl rfl hl.1 rfl (lv_room (Nat.le_of_ble_eq_true rfl)) dX4_fits_82 ⟨(by show k + 0 ≤ mc; omega), (by show 6464 * k + 0 ≤ 6464 * mc; omega)⟩) hS (fun H locs Z hS => ?_)
  refine lv_aload_n hx hb dX4_fits_85 rfl (lv_at hl 1 rfl) ?_
  refine wx_getN (own := RX4) hx hb hts i_X4_fits_0 hown hC.1 Z (o := b1) (ci := 0) (wx_sbo hb1 99) (rfl : vwCl[0]? = some (RX0, TX0, 13)) 11 (by decide) (wx_nst hC 16 rfl rfl) (fun _ h9 => h9) (f := 0) rfl rfl dX4_fits_86 ?_
  refine lv_iload hx hb dX4_fits_89 (lv_at hl 4 rfl) ?_
  obtain ⟨v91, ev91, iv91, h⟩ := wx_rI_ok h
  refine wx_iald hx hb hC.1 Z (o := b1) (k := 11) (n := 8) (wx_sbo hb1 11) rfl iv91 dX4_fits_91 ev91 ?_
  refine lv_isub hx hb dX4_fits_92 ?_
  refine va_mabs (own := RX4) hx hb (hml.trans hl.1.symm) hown (hts _ k_X4_fits_w8) (hts _ k_X4_fits_w9) (hts _ k_X4_fits_w10) (hts _ k_X4_fits_w11) (Nat.le_of_ble_eq_true rfl) (Nat.le_of_ble_eq_true rfl) (by show k ≤ mc; omega) (by show 6464 * k ≤ 6464 * mc; omega) dX4_fits_93 ?_
  refine lv_aload_n hx hb dX4_fits_96 rfl (lv_at hl 1 rfl) ?_
  refine wx_getN (own := RX4) hx hb hts i_X4_fits_0 hown hC.1 Z (o := b1) (ci := 0) (wx_sbo hb1 99) (rfl : vwCl[0]? = some (RX0, TX0, 13)) 0 (by decide) (wx_nst hC 2 rfl rfl) (fun _ h9 => h9) (f := 0) rfl rfl dX4_fits_97 ?_
  refine lv_iconst (v := 3) hx hb dX4_fits_100 (by decide) ?_
  obtain ⟨v101, ev101, iv101, h⟩ := wx_rI_ok h
  refine wx_iald hx hb hC.1 Z (o := b1) (k := 0) (n := 4) (wx_sbo hb1 0) rfl iv101 dX4_fits_101 ev101 ?_
  refine lv_icmp_le (tgt := 107) hx hb dX4_fits_102 (by decide) (fun c102 => ?_) (fun c102 => ?_)
  · replace h := wx_ift c102 h
    refine lv_iinc (v := x4 + 1) (lv' := [(4, .int (x4 + 1)), (0, .ref (ad 12 99)), (1, .ref (ad b1 99)), (2, .int x2), (3, .int x3), (5, .float x5)]) hx hb dX4_fits_107 hl (k := 4) rfl rfl (by decide) rfl (fun ls hl => ?_)
    refine lv_goto (tgt := 14) hx hb dX4_fits_110 (by decide) ?_
    exact hK14 (k := k) hk h Z hS (lv_sub hl [1, 2, 3, 4, 0] rfl)
  · replace h := wx_iff c102 h
    refine lv_iconst (v := 0) hx hb dX4_fits_105 (by decide) ?_
    obtain ⟨rfl, rfl⟩ := wx_ret_ok h
    refine W.widen (k := mc) (n := 6464 * mc) (by omega) (by omega) ?_
    exact W.zret hx hb hr rfl (fun t ht hW => ⟨rfl, ⟨_, by rw [ht]; exact Z⟩, hS.F ht⟩) hS.2.2 dX4_fits_106
set_option maxRecDepth 20000 in
set_option maxHeartbeats 4000000 in
theorem m_X4_fits_77 {b1 : Nat} {r : Int32} {σ' : wx_St} {K14 : Int32 → Int32 → Int32 → wx_St → Option (Int32 × wx_St)} (mK14 : ∀ {x2 : Int32} {x3 : Int32} {x4 : Int32} {σ : wx_St}, K14 x2 x3 x4 σ = some (r, σ') → wx_n σ.2.2.2.2 ≤ wx_n σ'.2.2.2.2) {x2 : Int32} {x3 : Int32} {x4 : Int32} {x5 : UInt32} {y0 : UInt32} {y1 : UInt32} {σ : wx_St} (h : f_X4_fits_77 b1 K14 x2 x3 x4 x5 y0 y1 σ = some (r, σ')) : wx_n σ.2.2.2.2 ≤ wx_n σ'.2.2.2.2 := by
  unfold f_X4_fits_77 at h
  obtain ⟨v77, ev77, nv77, h⟩ := wx_f_ok h
  exact m_X4_fits_80 (K14 := K14) @mK14 h
set_option maxRecDepth 20000 in
set_option maxHeartbeats 4000000 in
theorem b_X4_fits_77 (B : wx_B p s m args meth c cX4_fits 6 (some .boolean) wsX4_fits RX4 D ad ca A) {b1 : Nat}  (hb1 : b1 < 11) {r : Int32} {σ' : wx_St} {mc : Nat} {K14 : Int32 → Int32 → Int32 → wx_St → Option (Int32 × wx_St)} (hK14 : ∀ {x2 : Int32} {x3 : Int32} {x4 : Int32} {σ : wx_St} {k : Nat} (hk : k + wx_n σ'.2.2.2.2 ≤ mc + wx_n σ.2.2.2.2)  (h : K14 x2 x3 x4 σ = some (r, σ')) {rd : Nat → Nat} {H : Heap} {locs : List Loc} (Z : wx_Z D ad rd ca A σ H) (hS : va_S A s.heap H locs) {ls : Array Slot} (hl : lv_has ls 6 [(0, .ref (ad 12 99)), (1, .ref (ad b1 99)), (2, .int x2), (3, .int x3), (4, .int x4)]), W p l e ({ frames := 3, cells := mc, slots := 6464 * mc, locals := 81 } : Room) s m args below meth c H locs k (6464 * k) (MQ below (wx_QA D ad ca A (some (.int r)) σ') args s mc (6464 * mc) A) (F0 m 14 ls [])) (mK14 : ∀ {x2 : Int32} {x3 : Int32} {x4 : Int32} {σ : wx_St}, K14 x2 x3 x4 σ = some (r, σ') → wx_n σ.2.2.2.2 ≤ wx_n σ'.2.2.2.2) {x2 : Int32} {x3 : Int32} {x4 : Int32} {x5 : UInt32} {y0 : UInt32} {y1 : UInt32} {σ : wx_St} {k : Nat} (hk : k + wx_n σ'.2.2.2.2 ≤ mc + wx_n σ.2.2.2.2)  (h : f_X4_fits_77 b1 K14 x2 x3 x4 x5 y0 y1 σ = some (r, σ')) {rd : Nat → Nat} {H : Heap} {locs : List Loc} (Z : wx_Z D ad rd ca A σ H) (hS : va_S A s.heap H locs) {ls : Array Slot} (hl : lv_has ls 6 [(0, .ref (ad 12 99)), (1, .ref (ad b1 99)), (2, .int x2), (3, .int x3), (4, .int x4), (5, .float x5)]) : W p l e ({ frames := 3, cells := mc, slots := 6464 * mc, locals := 81 } : Room) s m args below meth c H locs k (6464 * k) (MQ below (wx_QA D ad ca A (some (.int r)) σ') args s mc (6464 * mc) A) (F0 m 77 ls [.float y1, .float y0]) := by
  obtain ⟨hx, hb, hml, hr, hts, hown, hlk, hC, hA⟩ := id B
  have hm := m_X4_fits_77 (K14 := K14) @mK14 h
  unfold f_X4_fits_77 at h
  obtain ⟨v77, ev77, nv77, h⟩ := wx_f_ok h
  refine wx_fadd hx hb dX4_fits_77 ev77 nv77 ?_
  refine lv_fstore (lv' := [(5, .float v77), (0, .ref (ad 12 99)), (1, .ref (ad b1 99)), (2, .int x2), (3, .int x3), (4, .int x4)]) hx hb dX4_fits_78 hl (by decide) rfl (fun ls hl => ?_)
  exact b_X4_fits_80 B hb1 (K14 := K14) @hK14 @mK14 (k := k) hk h Z hS (lv_sub hl [1, 2, 3, 4, 5, 0] rfl)
set_option maxRecDepth 20000 in
set_option maxHeartbeats 4000000 in
theorem m_X4_fits_45 {b1 : Nat} {r : Int32} {σ' : wx_St} {K14 : Int32 → Int32 → Int32 → wx_St → Option (Int32 × wx_St)} (mK14 : ∀ {x2 : Int32} {x3 : Int32} {x4 : Int32} {σ : wx_St}, K14 x2 x3 x4 σ = some (r, σ') → wx_n σ.2.2.2.2 ≤ wx_n σ'.2.2.2.2) {x2 : Int32} {x3 : Int32} {x4 : Int32} {y0 : UInt32} {σ : wx_St} (h : f_X4_fits_45 b1 K14 x2 x3 x4 y0 σ = some (r, σ')) : wx_n σ.2.2.2.2 ≤ wx_n σ'.2.2.2.2 := by
  unfold f_X4_fits_45 at h
  by_cases c50 : x3 = (-6)
  · replace h := wx_ift c50 h
    exact m_X4_fits_80 (K14 := K14) @mK14 h
  · replace h := wx_iff c50 h
    obtain ⟨v66, ev66, iv66, h⟩ := wx_rI_ok h
    obtain ⟨v73, ev73, iv73, h⟩ := wx_rI_ok h
    obtain ⟨v74, σ74, hc74, h⟩ := wx_b_ok h
    refine Nat.le_trans (m_X1_warmthBy_0 hc74) ?_
    exact m_X4_fits_77 (K14 := K14) @mK14 h
set_option maxRecDepth 20000 in
set_option maxHeartbeats 4000000 in
theorem b_X4_fits_45 (B : wx_B p s m args meth c cX4_fits 6 (some .boolean) wsX4_fits RX4 D ad ca A) {b1 : Nat}  (hb1 : b1 < 11) {r : Int32} {σ' : wx_St} {mc : Nat} {K14 : Int32 → Int32 → Int32 → wx_St → Option (Int32 × wx_St)} (hK14 : ∀ {x2 : Int32} {x3 : Int32} {x4 : Int32} {σ : wx_St} {k : Nat} (hk : k + wx_n σ'.2.2.2.2 ≤ mc + wx_n σ.2.2.2.2)  (h : K14 x2 x3 x4 σ = some (r, σ')) {rd : Nat → Nat} {H : Heap} {locs : List Loc} (Z : wx_Z D ad rd ca A σ H) (hS : va_S A s.heap H locs) {ls : Array Slot} (hl : lv_has ls 6 [(0, .ref (ad 12 99)), (1, .ref (ad b1 99)), (2, .int x2), (3, .int x3), (4, .int x4)]), W p l e ({ frames := 3, cells := mc, slots := 6464 * mc, locals := 81 } : Room) s m args below meth c H locs k (6464 * k) (MQ below (wx_QA D ad ca A (some (.int r)) σ') args s mc (6464 * mc) A) (F0 m 14 ls [])) (mK14 : ∀ {x2 : Int32} {x3 : Int32} {x4 : Int32} {σ : wx_St}, K14 x2 x3 x4 σ = some (r, σ') → wx_n σ.2.2.2.2 ≤ wx_n σ'.2.2.2.2) {x2 : Int32} {x3 : Int32} {x4 : Int32} {y0 : UInt32} {σ : wx_St} {k : Nat} (hk : k + wx_n σ'.2.2.2.2 ≤ mc + wx_n σ.2.2.2.2)  (h : f_X4_fits_45 b1 K14 x2 x3 x4 y0 σ = some (r, σ')) {rd : Nat → Nat} {H : Heap} {locs : List Loc} (Z : wx_Z D ad rd ca A σ H) (hS : va_S A s.heap H locs) {ls : Array Slot} (hl : lv_has ls 6 [(0, .ref (ad 12 99)), (1, .ref (ad b1 99)), (2, .int x2), (3, .int x3), (4, .int x4)]) : W p l e ({ frames := 3, cells := mc, slots := 6464 * mc, locals := 81 } : Room) s m args below meth c H locs k (6464 * k) (MQ below (wx_QA D ad ca A (some (.int r)) σ') args s mc (6464 * mc) A) (F0 m 45 ls [.float y0]) := by
  obtain ⟨hx, hb, hml, hr, hts, hown, hlk, hC, hA⟩ := id B
  have hm := m_X4_fits_45 (K14 := K14) @mK14 h
  unfold f_X4_fits_45 at h
  refine lv_fstore (lv' := [(5, .float y0), (0, .ref (ad 12 99)), (1, .ref (ad b1 99)), (2, .int x2), (3, .int x3), (4, .int x4)]) hx hb dX4_fits_45 hl (by decide) rfl (fun ls hl => ?_)
  refine lv_iload_n hx hb dX4_fits_47 rfl (lv_at hl 4 rfl) ?_
  refine lv_bipush (v := (-6)) hx hb dX4_fits_48 (by decide) ?_
  refine lv_icmp_eq (tgt := 80) hx hb dX4_fits_50 (by decide) (fun c50 => ?_) (fun c50 => ?_)
  · replace h := wx_ift c50 h
    exact b_X4_fits_80 B hb1 (K14 := K14) @hK14 @mK14 (k := k) hk h Z hS (lv_sub hl [1, 2, 3, 4, 5, 0] rfl)
  · replace h := wx_iff c50 h
    refine lv_fload hx hb dX4_fits_53 (lv_at hl 0 rfl) ?_
    refine lv_aload_n hx hb dX4_fits_55 rfl (lv_at hl 1 rfl) ?_
    refine wx_get (own := RX4) hx hb hts i_X4_fits_4 hown hC.1 Z (o := 12) (ci := 4) rfl (rfl : vwCl[4]? = some (RX4, TX4, 2)) 0 (by decide) (hts _ k_X4_fits_w0) (fun _ h9 => h9) (f := 113) rfl rfl dX4_fits_56 ?_
    refine lv_iload_n hx hb dX4_fits_59 rfl (lv_at hl 4 rfl) ?_
    refine lv_aload_n hx hb dX4_fits_60 rfl (lv_at hl 2 rfl) ?_
    refine wx_getN (own := RX4) hx hb hts i_X4_fits_0 hown hC.1 Z (o := b1) (ci := 0) (wx_sbo hb1 99) (rfl : vwCl[0]? = some (RX0, TX0, 13)) 12 (by decide) (wx_nst hC 18 rfl rfl) (fun _ h9 => h9) (f := 0) rfl rfl dX4_fits_61 ?_
    refine lv_iload hx hb dX4_fits_64 (lv_at hl 5 rfl) ?_
    obtain ⟨v66, ev66, iv66, h⟩ := wx_rI_ok h
    refine wx_iald hx hb hC.1 Z (o := b1) (k := 12) (n := 8) (wx_sbo hb1 12) rfl iv66 dX4_fits_66 ev66 ?_
    refine lv_aload_n hx hb dX4_fits_67 rfl (lv_at hl 2 rfl) ?_
    refine wx_getN (own := RX4) hx hb hts i_X4_fits_0 hown hC.1 Z (o := b1) (ci := 0) (wx_sbo hb1 99) (rfl : vwCl[0]? = some (RX0, TX0, 13)) 10 (by decide) (wx_nst hC 14 rfl rfl) (fun _ h9 => h9) (f := 0) rfl rfl dX4_fits_68 ?_
    refine lv_iload hx hb dX4_fits_71 (lv_at hl 5 rfl) ?_
    obtain ⟨v73, ev73, iv73, h⟩ := wx_rI_ok h
    refine wx_iald hx hb hC.1 Z (o := b1) (k := 10) (n := 8) (wx_sbo hb1 10) rfl iv73 dX4_fits_73 ev73 ?_
    obtain ⟨v74, σ74, hc74, h⟩ := wx_b_ok h
    have m1 := m_X1_warmthBy_0 hc74
    have m2 := m_X4_fits_77 (K14 := K14) @mK14 h
    refine wx_callA (va_runVN (As := [.int x3, .int v66, .int v73]) (rest := [.float y0]) ⟨hx, hb, hml, hown, hts⟩ (c_X1_warmthBy l (D := D) (ad := ad) (rd := rd) (ca := ca) (A := A) (σ := σ) hc74) ⟨va_cnB 3 hts gX4_fits_X1_warmthBy_n70 rfl rfl rfl (hC.1.2.1 _ (List.mem_of_getElem? (i := 50) rfl)) (hts _ k_X4_fits_w1) (by decide +kernel) ⟨Nat.le_of_ble_eq_true rfl, Nat.le_of_ble_eq_true rfl⟩, hts _ k_X4_fits_w4, hts _ k_X4_fits_w5⟩ (wx_preV hC Z hS hA rfl (rfl : vwCl[1]? = some (RX1, TX1, 3))) rfl rfl hl.1 rfl (lv_room (Nat.le_of_ble_eq_true rfl)) dX4_fits_74 ⟨(by show k + (wx_n σ74.2.2.2.2 - wx_n σ.2.2.2.2) ≤ mc; omega), (by show 6464 * k + 6464 * (wx_n σ74.2.2.2.2 - wx_n σ.2.2.2.2) ≤ 6464 * mc; omega)⟩) hS (fun rd H locs Z hS => ?_)
    refine W.widen (k := k + (wx_n σ74.2.2.2.2 - wx_n σ.2.2.2.2)) (n := 6464 * (k + (wx_n σ74.2.2.2.2 - wx_n σ.2.2.2.2))) (Nat.le_refl _) (by omega) ?_
    exact b_X4_fits_77 B hb1 (K14 := K14) @hK14 @mK14 (k := k + (wx_n σ74.2.2.2.2 - wx_n σ.2.2.2.2)) (by omega) h Z hS (lv_sub hl [1, 2, 3, 4, 5, 0] rfl)
set_option maxRecDepth 20000 in
set_option maxHeartbeats 4000000 in
theorem m_X4_fits_14 {b1 : Nat} {r : Int32} {σ' : wx_St}  :
    ∀ {n : Nat} {x2 : Int32} {x3 : Int32} {x4 : Int32} {σ : wx_St} (h : f_X4_fits_14 b1 n x2 x3 x4 σ = some (r, σ')), wx_n σ.2.2.2.2 ≤ wx_n σ'.2.2.2.2 := by
  intro n
  induction n with
  | zero => intro x2 x3 x4 σ h; exact wx_no h
  | succ n ih =>
    intro x2 x3 x4 σ h
    rw [f_X4_fits_14] at h
    by_cases c20 : (σ.2.2.1 b1 9) ≤ x4
    · replace h := wx_ift c20 h
      obtain ⟨rfl, rfl⟩ := wx_ret_ok h
      exact Nat.le_refl _
    · replace h := wx_iff c20 h
      obtain ⟨v34, ev34, iv34, h⟩ := wx_rI_ok h
      obtain ⟨v41, ev41, iv41, h⟩ := wx_rI_ok h
      obtain ⟨v42, σ42, hc42, h⟩ := wx_b_ok h
      refine Nat.le_trans (m_X1_warmthBy_0 hc42) ?_
      exact m_X4_fits_45 (K14 := (f_X4_fits_14 b1 n)) @ih h
set_option maxRecDepth 20000 in
set_option maxHeartbeats 4000000 in
theorem b_X4_fits_14 (B : wx_B p s m args meth c cX4_fits 6 (some .boolean) wsX4_fits RX4 D ad ca A) {b1 : Nat}  (hb1 : b1 < 11) {r : Int32} {σ' : wx_St} {mc : Nat}   :
    ∀ {n : Nat} {x2 : Int32} {x3 : Int32} {x4 : Int32} {σ : wx_St} {k : Nat} (hk : k + wx_n σ'.2.2.2.2 ≤ mc + wx_n σ.2.2.2.2)  (h : f_X4_fits_14 b1 n x2 x3 x4 σ = some (r, σ')) {rd : Nat → Nat} {H : Heap} {locs : List Loc} (Z : wx_Z D ad rd ca A σ H) (hS : va_S A s.heap H locs) {ls : Array Slot} (hl : lv_has ls 6 [(0, .ref (ad 12 99)), (1, .ref (ad b1 99)), (2, .int x2), (3, .int x3), (4, .int x4)]), W p l e ({ frames := 3, cells := mc, slots := 6464 * mc, locals := 81 } : Room) s m args below meth c H locs k (6464 * k) (MQ below (wx_QA D ad ca A (some (.int r)) σ') args s mc (6464 * mc) A) (F0 m 14 ls []) := by
  obtain ⟨hx, hb, hml, hr, hts, hown, hlk, hC, hA⟩ := id B
  intro n
  induction n with
  | zero => intro x2 x3 x4 σ k hk  h rd H locs Z hS ls hl; exact wx_no h
  | succ n ih =>
    intro x2 x3 x4 σ k hk  h rd H locs Z hS ls hl
    have hm := m_X4_fits_14 h
    have mih : ∀ {x2 : Int32} {x3 : Int32} {x4 : Int32} {σ : wx_St}, f_X4_fits_14 b1 n x2 x3 x4 σ = some (r, σ') → wx_n σ.2.2.2.2 ≤ wx_n σ'.2.2.2.2 := fun h => m_X4_fits_14 h
    rw [f_X4_fits_14] at h
    refine lv_iload hx hb dX4_fits_14 (lv_at hl 4 rfl) ?_
    refine lv_aload_n hx hb dX4_fits_16 rfl (lv_at hl 1 rfl) ?_
    refine wx_getN (own := RX4) hx hb hts i_X4_fits_0 hown hC.1 Z (o := b1) (ci := 0) (wx_sbo hb1 99) (rfl : vwCl[0]? = some (RX0, TX0, 13)) 9 (by decide) (wx_nst hC 12 rfl rfl) (fun _ h9 => h9) (f := 1) rfl rfl dX4_fits_17 ?_
    refine lv_icmp_ge (tgt := 113) hx hb dX4_fits_20 (by decide) (fun c20 => ?_) (fun c20 => ?_)
    · replace h := wx_ift c20 h
      refine lv_iconst (v := 1) hx hb dX4_fits_113 (by decide) ?_
      obtain ⟨rfl, rfl⟩ := wx_ret_ok h
      refine W.widen (k := mc) (n := 6464 * mc) (by omega) (by omega) ?_
      exact W.zret hx hb hr rfl (fun t ht hW => ⟨rfl, ⟨_, by rw [ht]; exact Z⟩, hS.F ht⟩) hS.2.2 dX4_fits_114
    · replace h := wx_iff c20 h
      refine lv_aload_n hx hb dX4_fits_23 rfl (lv_at hl 0 rfl) ?_
      refine wx_get (own := RX4) hx hb hts i_X4_fits_4 hown hC.1 Z (o := 12) (ci := 4) rfl (rfl : vwCl[4]? = some (RX4, TX4, 2)) 0 (by decide) (hts _ k_X4_fits_w0) (fun _ h9 => h9) (f := 113) rfl rfl dX4_fits_24 ?_
      refine lv_iload_n hx hb dX4_fits_27 rfl (lv_at hl 2 rfl) ?_
      refine lv_aload_n hx hb dX4_fits_28 rfl (lv_at hl 1 rfl) ?_
      refine wx_getN (own := RX4) hx hb hts i_X4_fits_0 hown hC.1 Z (o := b1) (ci := 0) (wx_sbo hb1 99) (rfl : vwCl[0]? = some (RX0, TX0, 13)) 12 (by decide) (wx_nst hC 18 rfl rfl) (fun _ h9 => h9) (f := 0) rfl rfl dX4_fits_29 ?_
      refine lv_iload hx hb dX4_fits_32 (lv_at hl 4 rfl) ?_
      obtain ⟨v34, ev34, iv34, h⟩ := wx_rI_ok h
      refine wx_iald hx hb hC.1 Z (o := b1) (k := 12) (n := 8) (wx_sbo hb1 12) rfl iv34 dX4_fits_34 ev34 ?_
      refine lv_aload_n hx hb dX4_fits_35 rfl (lv_at hl 1 rfl) ?_
      refine wx_getN (own := RX4) hx hb hts i_X4_fits_0 hown hC.1 Z (o := b1) (ci := 0) (wx_sbo hb1 99) (rfl : vwCl[0]? = some (RX0, TX0, 13)) 10 (by decide) (wx_nst hC 14 rfl rfl) (fun _ h9 => h9) (f := 0) rfl rfl dX4_fits_36 ?_
      refine lv_iload hx hb dX4_fits_39 (lv_at hl 4 rfl) ?_
      obtain ⟨v41, ev41, iv41, h⟩ := wx_rI_ok h
      refine wx_iald hx hb hC.1 Z (o := b1) (k := 10) (n := 8) (wx_sbo hb1 10) rfl iv41 dX4_fits_41 ev41 ?_
      obtain ⟨v42, σ42, hc42, h⟩ := wx_b_ok h
      have m1 := m_X1_warmthBy_0 hc42
      have m2 := m_X4_fits_45 (K14 := (f_X4_fits_14 b1 n)) mih h
      refine wx_callA (va_runVN (As := [.int x2, .int v34, .int v41]) (rest := []) ⟨hx, hb, hml, hown, hts⟩ (c_X1_warmthBy l (D := D) (ad := ad) (rd := rd) (ca := ca) (A := A) (σ := σ) hc42) ⟨va_cnB 3 hts gX4_fits_X1_warmthBy_n70 rfl rfl rfl (hC.1.2.1 _ (List.mem_of_getElem? (i := 50) rfl)) (hts _ k_X4_fits_w1) (by decide +kernel) ⟨Nat.le_of_ble_eq_true rfl, Nat.le_of_ble_eq_true rfl⟩, hts _ k_X4_fits_w4, hts _ k_X4_fits_w5⟩ (wx_preV hC Z hS hA rfl (rfl : vwCl[1]? = some (RX1, TX1, 3))) rfl rfl hl.1 rfl (lv_room (Nat.le_of_ble_eq_true rfl)) dX4_fits_42 ⟨(by show k + (wx_n σ42.2.2.2.2 - wx_n σ.2.2.2.2) ≤ mc; omega), (by show 6464 * k + 6464 * (wx_n σ42.2.2.2.2 - wx_n σ.2.2.2.2) ≤ 6464 * mc; omega)⟩) hS (fun rd H locs Z hS => ?_)
      refine W.widen (k := k + (wx_n σ42.2.2.2.2 - wx_n σ.2.2.2.2)) (n := 6464 * (k + (wx_n σ42.2.2.2.2 - wx_n σ.2.2.2.2))) (Nat.le_refl _) (by omega) ?_
      exact b_X4_fits_45 B hb1 (K14 := (f_X4_fits_14 b1 n)) @ih mih (k := k + (wx_n σ42.2.2.2.2 - wx_n σ.2.2.2.2)) (by omega) h Z hS (lv_sub hl [0, 1, 2, 3, 4] rfl)
set_option maxRecDepth 20000 in
set_option maxHeartbeats 4000000 in
theorem m_X4_fits_0 {b1 : Nat} {r : Int32} {σ' : wx_St}  {x2 : Int32} {x3 : Int32} {σ : wx_St} (h : f_X4_fits b1 x2 x3 σ = some (r, σ')) : wx_n σ.2.2.2.2 ≤ wx_n σ'.2.2.2.2 := by
  unfold f_X4_fits at h
  obtain ⟨v8, σ8, hc8, h⟩ := wx_b_ok h
  refine Nat.le_trans (Nat.le_of_eq (congrArg wx_n (show σ8.2.2.2.2 = σ.2.2.2.2 from m_X1_follow_0 hc8)).symm) ?_
  exact m_X4_fits_14 h
set_option maxRecDepth 20000 in
set_option maxHeartbeats 4000000 in
theorem b_X4_fits_0 (B : wx_B p s m args meth c cX4_fits 6 (some .boolean) wsX4_fits RX4 D ad ca A) {b1 : Nat}  (hb1 : b1 < 11) {r : Int32} {σ' : wx_St} {mc : Nat}  {x2 : Int32} {x3 : Int32} {σ : wx_St} {k : Nat} (hk : k + wx_n σ'.2.2.2.2 ≤ mc + wx_n σ.2.2.2.2)  (h : f_X4_fits b1 x2 x3 σ = some (r, σ')) {rd : Nat → Nat} {H : Heap} {locs : List Loc} (Z : wx_Z D ad rd ca A σ H) (hS : va_S A s.heap H locs) {ls : Array Slot} (hl : lv_has ls 6 [(0, .ref (ad 12 99)), (1, .ref (ad b1 99)), (2, .int x2), (3, .int x3)]) : W p l e ({ frames := 3, cells := mc, slots := 6464 * mc, locals := 81 } : Room) s m args below meth c H locs k (6464 * k) (MQ below (wx_QA D ad ca A (some (.int r)) σ') args s mc (6464 * mc) A) (F0 m 0 ls []) := by
  obtain ⟨hx, hb, hml, hr, hts, hown, hlk, hC, hA⟩ := id B
  have hm := m_X4_fits_0 h
  unfold f_X4_fits at h
  refine lv_aload_n hx hb dX4_fits_0 rfl (lv_at hl 0 rfl) ?_
  refine wx_get (own := RX4) hx hb hts i_X4_fits_4 hown hC.1 Z (o := 12) (ci := 4) rfl (rfl : vwCl[4]? = some (RX4, TX4, 2)) 0 (by decide) (hts _ k_X4_fits_w0) (fun _ h9 => h9) (f := 113) rfl rfl dX4_fits_1 ?_
  refine lv_aload_n hx hb dX4_fits_4 rfl (lv_at hl 1 rfl) ?_
  refine wx_getN (own := RX4) hx hb hts i_X4_fits_0 hown hC.1 Z (o := b1) (ci := 0) (wx_sbo hb1 99) (rfl : vwCl[0]? = some (RX0, TX0, 13)) 0 (by decide) (wx_nst hC 2 rfl rfl) (fun _ h9 => h9) (f := 0) rfl rfl dX4_fits_5 ?_
  obtain ⟨v8, σ8, hc8, h⟩ := wx_b_ok h
  refine wx_call (va_runVN (As := [.ref (ad b1 0)]) (rest := []) ⟨hx, hb, hml, hown, hts⟩ (c_X1_follow l (D := D) (ad := ad) (rd := rd) (ca := ca) (A := A) (σ := σ) (o1 := b1) (k1 := 0) (al := σ.2.2.2.2) (wx_sbo hb1 0) rfl hc8) ⟨va_cnB 1 hts gX4_fits_X1_follow_n56 rfl rfl rfl (hC.1.2.1 _ (List.mem_of_getElem? (i := 49) rfl)) (hts _ k_X4_fits_w1) (by decide +kernel) ⟨Nat.le_of_ble_eq_true rfl, Nat.le_of_ble_eq_true rfl⟩, hts _ k_X4_fits_w2, hts _ k_X4_fits_w3⟩ (wx_preV hC Z hS hA rfl (rfl : vwCl[1]? = some (RX1, TX1, 3))) rfl rfl hl.1 rfl (lv_room (Nat.le_of_ble_eq_true rfl)) dX4_fits_8 ⟨(by show k + 0 ≤ mc; omega), (by show 6464 * k + 0 ≤ 6464 * mc; omega)⟩) hS (fun H locs Z hS => ?_)
  have hqσ8 := congrArg wx_n (show σ8.2.2.2.2 = σ.2.2.2.2 from m_X1_follow_0 hc8)
  rw [← hqσ8] at hk hm
  refine lv_iconst (v := 0) hx hb dX4_fits_11 (by decide) ?_
  refine lv_istore (lv' := [(4, .int 0), (0, .ref (ad 12 99)), (1, .ref (ad b1 99)), (2, .int x2), (3, .int x3)]) hx hb dX4_fits_12 hl (by decide) rfl (fun ls hl => ?_)
  exact b_X4_fits_14 B hb1 (k := k) hk h Z hS (lv_sub hl [1, 2, 3, 4, 0] rfl)
set_option maxRecDepth 20000 in
theorem c_X4_fits (l : Launch) {D : va_G} {ad : Nat → Nat → Nat} {rd : Nat → Nat} {ca : Nat → ClassId} {A : Nat → Prop} {σ : wx_St} {b1 : Nat}  (hb1 : b1 < 11) {x2 : Int32} {x3 : Int32} {r : Int32} {σ' : wx_St} (h : f_X4_fits b1 x2 x3 σ = some (r, σ')) : wx_MA l yX4_fits wsX4_fits 3 81 D ad rd ca A [.ref (ad 12 99), .ref (ad b1 99), .int x2, .int x3] σ (some (.int r)) σ' := by
  refine Met.ofW (cc := cX4_fits) (maxL := 6) (ret := (some .boolean)) (by decide) rfl ?_
  intro p e s m args below meth c s₁ B0 hml hv
  obtain ⟨rfl, hC, Z, hA⟩ := hv
  have hl := lv_entry ([.ref (ad 12 99), .ref (ad b1 99), .int x2, .int x3]) (n := 6) (Nat.le_of_ble_eq_true rfl)
  rw [lg_entry_eq]
  generalize (lg_sl ([.ref (ad 12 99), .ref (ad b1 99), .int x2, .int x3]) ++ List.replicate (6 - (lg_sl ([.ref (ad 12 99), .ref (ad b1 99), .int x2, .int x3])).length) Slot.unset).toArray = ls at hl ⊢
  exact b_X4_fits_0 ⟨B0.exec, B0.bytes, hml, B0.returns, atoms_spec (ws := wsX4_fits) B0.pre, findClass_of_methodNamed B0.named, B0.notSynchronized, hC, hA⟩ hb1 (k := 0) (by have hm := m_X4_fits_0 h; omega) h Z va_S.rf hl
theorem i_X0_isFed_0 : ∀ w ∈ wsX00, w ∈ wsX0_isFed := by decide +kernel
theorem k_X0_isFed_w0 : Cond.fieldLink RX0 18 "WarmProbes$Board" "fed" "[I" ∈ wsX0_isFed := by decide +kernel
set_option maxRecDepth 20000 in
set_option maxHeartbeats 4000000 in
theorem b_X0_isFed_18 (B : wx_B p s m args meth c cX0_isFed 3 (some .boolean) wsX0_isFed RX0 D ad ca A) {o : Nat}  (ho : o < 11) {r : Int32} {σ : wx_St}  {x1 : Int32} {x2 : Int32} {y0 : Int32}   (h : f_X0_isFed_18 o x1 x2 y0 σ = some r) {H : Heap} {locs : List Loc} (Z : wx_Z D ad rd ca A σ H) (hS : va_S A s.heap H locs) {ls : Array Slot} (hl : lv_has ls 3 [(0, .ref (ad o 99)), (1, .int x1), (2, .int x2)]) : W p l e ({ frames := 0, cells := 0, slots := 0, locals := 0 } : Room) s m args below meth c H locs 0 0 (MQ below (wx_Q D ad rd ca A (some (.int r)) σ) args s 0 0 A) (F0 m 18 ls [.int y0]) := by
  obtain ⟨hx, hb, hml, hr, hts, hown, hlk, hC, hA⟩ := id B
  unfold f_X0_isFed_18 at h
  obtain ⟨hz, h⟩ := wx_z_ok h
  obtain rfl := Option.some.inj h
  exact W.zret hx hb hr (wx_nb hz) (fun t ht hW => ⟨rfl, by rw [ht]; exact Z, hS.F ht⟩) hS.2.2 dX0_isFed_18
set_option maxRecDepth 20000 in
set_option maxHeartbeats 4000000 in
theorem b_X0_isFed_0 (B : wx_B p s m args meth c cX0_isFed 3 (some .boolean) wsX0_isFed RX0 D ad ca A) {o : Nat}  (ho : o < 11) {r : Int32} {σ : wx_St}  {x1 : Int32} {x2 : Int32}   (h : f_X0_isFed o x1 x2 σ = some r) {H : Heap} {locs : List Loc} (Z : wx_Z D ad rd ca A σ H) (hS : va_S A s.heap H locs) {ls : Array Slot} (hl : lv_has ls 3 [(0, .ref (ad o 99)), (1, .int x1), (2, .int x2)]) : W p l e ({ frames := 0, cells := 0, slots := 0, locals := 0 } : Room) s m args below meth c H locs 0 0 (MQ below (wx_Q D ad rd ca A (some (.int r)) σ) args s 0 0 A) (F0 m 0 ls []) := by
  obtain ⟨hx, hb, hml, hr, hts, hown, hlk, hC, hA⟩ := id B
  unfold f_X0_isFed at h
  refine lv_aload_n hx hb dX0_isFed_0 rfl (lv_at hl 0 rfl) ?_
  refine wx_get (own := RX0) hx hb hts i_X0_isFed_0 hown hC.1 Z (o := o) (ci := 0) (wx_sbo ho 99) (rfl : vwCl[0]? = some (RX0, TX0, 13)) 2 (by decide) (hts _ k_X0_isFed_w0) (fun _ h9 => h9) (f := 0) rfl rfl dX0_isFed_1 ?_
  refine lv_iload_n hx hb dX0_isFed_4 rfl (lv_at hl 1 rfl) ?_
  obtain ⟨v5, ev5, iv5, h⟩ := wx_rI_ok h
  refine wx_iald hx hb hC.1 Z (o := o) (k := 2) (n := 8) (wx_sbo ho 2) rfl iv5 dX0_isFed_5 ev5 ?_
  refine lv_iload_n hx hb dX0_isFed_6 rfl (lv_at hl 2 rfl) ?_
  refine lv_iushr (v := (v5.toUInt32 >>> (x2.toUInt32 &&& Int32.toUInt32 31)).toInt32) hx hb dX0_isFed_7 rfl ?_
  refine lv_iconst (v := 1) hx hb dX0_isFed_8 (by decide) ?_
  refine lv_iand hx hb dX0_isFed_9 ?_
  refine lv_if_eq (tgt := 17) hx hb dX0_isFed_10 (by decide) (fun c10 => ?_) (fun c10 => ?_)
  · replace h := wx_ift c10 h
    refine lv_iconst (v := 0) hx hb dX0_isFed_17 (by decide) ?_
    exact b_X0_isFed_18 B ho h Z hS (lv_sub hl [0, 1, 2] rfl)
  · replace h := wx_iff c10 h
    refine lv_iconst (v := 1) hx hb dX0_isFed_13 (by decide) ?_
    refine lv_goto (tgt := 18) hx hb dX0_isFed_14 (by decide) ?_
    exact b_X0_isFed_18 B ho h Z hS (lv_sub hl [0, 1, 2] rfl)
set_option maxRecDepth 20000 in
theorem c_X0_isFed (l : Launch) {D : va_G} {ad : Nat → Nat → Nat} {rd : Nat → Nat} {ca : Nat → ClassId} {A : Nat → Prop} {σ : wx_St} {o : Nat}  (ho : o < 11) {x1 : Int32} {x2 : Int32} {r : Int32} (h : f_X0_isFed o x1 x2 σ = some r) : wx_M l yX0_isFed wsX0_isFed 0 0 D ad rd ca A [.ref (ad o 99), .int x1, .int x2] σ (some (.int r)) σ := by
  refine Met.ofW (cc := cX0_isFed) (maxL := 3) (ret := (some .boolean)) (by decide) rfl ?_
  intro p e s m args below meth c s₁ B0 hml hv
  obtain ⟨rfl, hC, Z, hA⟩ := hv
  have hl := lv_entry ([.ref (ad o 99), .int x1, .int x2]) (n := 3) (Nat.le_of_ble_eq_true rfl)
  rw [lg_entry_eq]
  generalize (lg_sl ([.ref (ad o 99), .int x1, .int x2]) ++ List.replicate (3 - (lg_sl ([.ref (ad o 99), .int x1, .int x2])).length) Slot.unset).toArray = ls at hl ⊢
  exact b_X0_isFed_0 ⟨B0.exec, B0.bytes, hml, B0.returns, atoms_spec (ws := wsX0_isFed) B0.pre, findClass_of_methodNamed B0.named, B0.notSynchronized, hC, hA⟩ ho  h Z va_S.rf hl
set_option maxRecDepth 20000 in
set_option maxHeartbeats 4000000 in
theorem b_X5_neighbourOf_43 (B : wx_B p s m args meth c cX5_neighbourOf 2 (some .int) wsX5_neighbourOf RX5 D ad ca A)    {r : Int32} {σ : wx_St}  {x0 : Int32} {x1 : Int32} {y0 : Int32}   (h : f_X5_neighbourOf_43 x0 x1 y0 = some r) {H : Heap} {locs : List Loc} (Z : wx_Z D ad rd ca A σ H) (hS : va_S A s.heap H locs) {ls : Array Slot} (hl : lv_has ls 2 [(0, .int x0), (1, .int x1)]) : W p l e ({ frames := 0, cells := 0, slots := 0, locals := 0 } : Room) s m args below meth c H locs 0 0 (MQ below (wx_Q D ad rd ca A (some (.int r)) σ) args s 0 0 A) (F0 m 43 ls [.int y0]) := by
  obtain ⟨hx, hb, hml, hr, hts, hown, hlk, hC, hA⟩ := id B
  unfold f_X5_neighbourOf_43 at h
  obtain rfl := Option.some.inj h
  exact W.iret hx hb hr (fun t ht hW => ⟨rfl, by rw [ht]; exact Z, hS.F ht⟩) hS.2.2 dX5_neighbourOf_43
set_option maxRecDepth 20000 in
set_option maxHeartbeats 4000000 in
theorem b_X5_neighbourOf_59 (B : wx_B p s m args meth c cX5_neighbourOf 2 (some .int) wsX5_neighbourOf RX5 D ad ca A)    {r : Int32} {σ : wx_St}  {x0 : Int32} {x1 : Int32} {y0 : Int32}   (h : f_X5_neighbourOf_59 x0 x1 y0 = some r) {H : Heap} {locs : List Loc} (Z : wx_Z D ad rd ca A σ H) (hS : va_S A s.heap H locs) {ls : Array Slot} (hl : lv_has ls 2 [(0, .int x0), (1, .int x1)]) : W p l e ({ frames := 0, cells := 0, slots := 0, locals := 0 } : Room) s m args below meth c H locs 0 0 (MQ below (wx_Q D ad rd ca A (some (.int r)) σ) args s 0 0 A) (F0 m 59 ls [.int y0]) := by
  obtain ⟨hx, hb, hml, hr, hts, hown, hlk, hC, hA⟩ := id B
  unfold f_X5_neighbourOf_59 at h
  obtain rfl := Option.some.inj h
  exact W.iret hx hb hr (fun t ht hW => ⟨rfl, by rw [ht]; exact Z, hS.F ht⟩) hS.2.2 dX5_neighbourOf_59
set_option maxRecDepth 20000 in
set_option maxHeartbeats 4000000 in
theorem b_X5_neighbourOf_75 (B : wx_B p s m args meth c cX5_neighbourOf 2 (some .int) wsX5_neighbourOf RX5 D ad ca A)    {r : Int32} {σ : wx_St}  {x0 : Int32} {x1 : Int32} {y0 : Int32}   (h : f_X5_neighbourOf_75 x0 x1 y0 = some r) {H : Heap} {locs : List Loc} (Z : wx_Z D ad rd ca A σ H) (hS : va_S A s.heap H locs) {ls : Array Slot} (hl : lv_has ls 2 [(0, .int x0), (1, .int x1)]) : W p l e ({ frames := 0, cells := 0, slots := 0, locals := 0 } : Room) s m args below meth c H locs 0 0 (MQ below (wx_Q D ad rd ca A (some (.int r)) σ) args s 0 0 A) (F0 m 75 ls [.int y0]) := by
  obtain ⟨hx, hb, hml, hr, hts, hown, hlk, hC, hA⟩ := id B
  unfold f_X5_neighbourOf_75 at h
  obtain rfl := Option.some.inj h
  exact W.iret hx hb hr (fun t ht hW => ⟨rfl, by rw [ht]; exact Z, hS.F ht⟩) hS.2.2 dX5_neighbourOf_75
set_option maxRecDepth 20000 in
set_option maxHeartbeats 4000000 in
theorem b_X5_neighbourOf_93 (B : wx_B p s m args meth c cX5_neighbourOf 2 (some .int) wsX5_neighbourOf RX5 D ad ca A)    {r : Int32} {σ : wx_St}  {x0 : Int32} {x1 : Int32} {y0 : Int32}   (h : f_X5_neighbourOf_93 x0 x1 y0 = some r) {H : Heap} {locs : List Loc} (Z : wx_Z D ad rd ca A σ H) (hS : va_S A s.heap H locs) {ls : Array Slot} (hl : lv_has ls 2 [(0, .int x0), (1, .int x1)]) : W p l e ({ frames := 0, cells := 0, slots := 0, locals := 0 } : Room) s m args below meth c H locs 0 0 (MQ below (wx_Q D ad rd ca A (some (.int r)) σ) args s 0 0 A) (F0 m 93 ls [.int y0]) := by
  obtain ⟨hx, hb, hml, hr, hts, hown, hlk, hC, hA⟩ := id B
  unfold f_X5_neighbourOf_93 at h
  obtain rfl := Option.some.inj h
  exact W.iret hx hb hr (fun t ht hW => ⟨rfl, by rw [ht]; exact Z, hS.F ht⟩) hS.2.2 dX5_neighbourOf_93
set_option maxRecDepth 20000 in
set_option maxHeartbeats 4000000 in
theorem b_X5_neighbourOf_0 (B : wx_B p s m args meth c cX5_neighbourOf 2 (some .int) wsX5_neighbourOf RX5 D ad ca A)    {r : Int32} {σ : wx_St}  {x0 : Int32} {x1 : Int32}   (h : f_X5_neighbourOf x0 x1 = some r) {H : Heap} {locs : List Loc} (Z : wx_Z D ad rd ca A σ H) (hS : va_S A s.heap H locs) {ls : Array Slot} (hl : lv_has ls 2 [(0, .int x0), (1, .int x1)]) : W p l e ({ frames := 0, cells := 0, slots := 0, locals := 0 } : Room) s m args below meth c H locs 0 0 (MQ below (wx_Q D ad rd ca A (some (.int r)) σ) args s 0 0 A) (F0 m 0 ls []) := by
  obtain ⟨hx, hb, hml, hr, hts, hown, hlk, hC, hA⟩ := id B
  unfold f_X5_neighbourOf at h
  refine lv_iload_n hx hb dX5_neighbourOf_0 rfl (lv_at hl 1 rfl) ?_
  by_cases c1_0 : x1 = 0
  · replace h := wx_ift c1_0 h
    refine lv_tableIn (off := 27) (tgt := 28) hx hb dX5_neighbourOf_1 (by rw [c1_0]; decide) (by rw [c1_0]; decide) (by rw [c1_0]; rfl) (by decide) ?_
    refine lv_iload_n hx hb dX5_neighbourOf_28 rfl (lv_at hl 0 rfl) ?_
    refine lv_bipush (v := 8) hx hb dX5_neighbourOf_29 (by decide) ?_
    refine lv_icmp_lt (tgt := 41) hx hb dX5_neighbourOf_31 (by decide) (fun c31 => ?_) (fun c31 => ?_)
    · replace h := wx_ift c31 h
      refine lv_bipush (v := (-6)) hx hb dX5_neighbourOf_41 (by decide) ?_
      exact b_X5_neighbourOf_43 B h Z hS (lv_sub hl [0, 1] rfl)
    · replace h := wx_iff c31 h
      refine lv_iload_n hx hb dX5_neighbourOf_34 rfl (lv_at hl 0 rfl) ?_
      refine lv_bipush (v := 8) hx hb dX5_neighbourOf_35 (by decide) ?_
      refine lv_isub hx hb dX5_neighbourOf_37 ?_
      refine lv_goto (tgt := 43) hx hb dX5_neighbourOf_38 (by decide) ?_
      exact b_X5_neighbourOf_43 B h Z hS (lv_sub hl [0, 1] rfl)
  · replace h := wx_iff c1_0 h
    by_cases c1_1 : x1 = 1
    · replace h := wx_ift c1_1 h
      refine lv_tableIn (off := 43) (tgt := 44) hx hb dX5_neighbourOf_1 (by rw [c1_1]; decide) (by rw [c1_1]; decide) (by rw [c1_1]; rfl) (by decide) ?_
      refine lv_iload_n hx hb dX5_neighbourOf_44 rfl (lv_at hl 0 rfl) ?_
      refine lv_bipush (v := 56) hx hb dX5_neighbourOf_45 (by decide) ?_
      refine lv_icmp_ge (tgt := 57) hx hb dX5_neighbourOf_47 (by decide) (fun c47 => ?_) (fun c47 => ?_)
      · replace h := wx_ift c47 h
        refine lv_bipush (v := (-6)) hx hb dX5_neighbourOf_57 (by decide) ?_
        exact b_X5_neighbourOf_59 B h Z hS (lv_sub hl [0, 1] rfl)
      · replace h := wx_iff c47 h
        refine lv_iload_n hx hb dX5_neighbourOf_50 rfl (lv_at hl 0 rfl) ?_
        refine lv_bipush (v := 8) hx hb dX5_neighbourOf_51 (by decide) ?_
        refine lv_iadd hx hb dX5_neighbourOf_53 ?_
        refine lv_goto (tgt := 59) hx hb dX5_neighbourOf_54 (by decide) ?_
        exact b_X5_neighbourOf_59 B h Z hS (lv_sub hl [0, 1] rfl)
    · replace h := wx_iff c1_1 h
      by_cases c1_2 : x1 = 2
      · replace h := wx_ift c1_2 h
        refine lv_tableIn (off := 59) (tgt := 60) hx hb dX5_neighbourOf_1 (by rw [c1_2]; decide) (by rw [c1_2]; decide) (by rw [c1_2]; rfl) (by decide) ?_
        refine lv_iload_n hx hb dX5_neighbourOf_60 rfl (lv_at hl 0 rfl) ?_
        refine lv_bipush (v := 8) hx hb dX5_neighbourOf_61 (by decide) ?_
        refine lv_irem hx hb dX5_neighbourOf_63 (by decide) ?_
        refine lv_if_le (tgt := 73) hx hb dX5_neighbourOf_64 (by decide) (fun c64 => ?_) (fun c64 => ?_)
        · replace h := wx_ift c64 h
          refine lv_bipush (v := (-6)) hx hb dX5_neighbourOf_73 (by decide) ?_
          exact b_X5_neighbourOf_75 B h Z hS (lv_sub hl [0, 1] rfl)
        · replace h := wx_iff c64 h
          refine lv_iload_n hx hb dX5_neighbourOf_67 rfl (lv_at hl 0 rfl) ?_
          refine lv_iconst (v := 1) hx hb dX5_neighbourOf_68 (by decide) ?_
          refine lv_isub hx hb dX5_neighbourOf_69 ?_
          refine lv_goto (tgt := 75) hx hb dX5_neighbourOf_70 (by decide) ?_
          exact b_X5_neighbourOf_75 B h Z hS (lv_sub hl [0, 1] rfl)
      · replace h := wx_iff c1_2 h
        have n1_0 := wx_ni c1_0
        have n1_1 := wx_ni c1_1
        have n1_2 := wx_ni c1_2
        rw [show (0 : Int32).toInt = 0 from by decide] at n1_0
        rw [show (1 : Int32).toInt = 1 from by decide] at n1_1
        rw [show (2 : Int32).toInt = 2 from by decide] at n1_2
        refine lv_tableOut (tgt := 76) hx hb dX5_neighbourOf_1 (by omega) (by decide) ?_
        refine lv_iload_n hx hb dX5_neighbourOf_76 rfl (lv_at hl 0 rfl) ?_
        refine lv_bipush (v := 8) hx hb dX5_neighbourOf_77 (by decide) ?_
        refine lv_irem hx hb dX5_neighbourOf_79 (by decide) ?_
        refine lv_bipush (v := 7) hx hb dX5_neighbourOf_80 (by decide) ?_
        refine lv_icmp_ge (tgt := 91) hx hb dX5_neighbourOf_82 (by decide) (fun c82 => ?_) (fun c82 => ?_)
        · replace h := wx_ift c82 h
          refine lv_bipush (v := (-6)) hx hb dX5_neighbourOf_91 (by decide) ?_
          exact b_X5_neighbourOf_93 B h Z hS (lv_sub hl [0, 1] rfl)
        · replace h := wx_iff c82 h
          refine lv_iload_n hx hb dX5_neighbourOf_85 rfl (lv_at hl 0 rfl) ?_
          refine lv_iconst (v := 1) hx hb dX5_neighbourOf_86 (by decide) ?_
          refine lv_iadd hx hb dX5_neighbourOf_87 ?_
          refine lv_goto (tgt := 93) hx hb dX5_neighbourOf_88 (by decide) ?_
          exact b_X5_neighbourOf_93 B h Z hS (lv_sub hl [0, 1] rfl)
set_option maxRecDepth 20000 in
theorem c_X5_neighbourOf (l : Launch) {D : va_G} {ad : Nat → Nat → Nat} {rd : Nat → Nat} {ca : Nat → ClassId} {A : Nat → Prop} {σ : wx_St}    {x0 : Int32} {x1 : Int32} {r : Int32} (h : f_X5_neighbourOf x0 x1 = some r) : wx_M l yX5_neighbourOf wsX5_neighbourOf 0 0 D ad rd ca A [.int x0, .int x1] σ (some (.int r)) σ := by
  refine Met.ofW (cc := cX5_neighbourOf) (maxL := 2) (ret := (some .int)) (by decide) rfl ?_
  intro p e s m args below meth c s₁ B0 hml hv
  obtain ⟨rfl, hC, Z, hA⟩ := hv
  have hl := lv_entry ([.int x0, .int x1]) (n := 2) (Nat.le_of_ble_eq_true rfl)
  rw [lg_entry_eq]
  generalize (lg_sl ([.int x0, .int x1]) ++ List.replicate (2 - (lg_sl ([.int x0, .int x1])).length) Slot.unset).toArray = ls at hl ⊢
  exact b_X5_neighbourOf_0 ⟨B0.exec, B0.bytes, hml, B0.returns, atoms_spec (ws := wsX5_neighbourOf) B0.pre, findClass_of_methodNamed B0.named, B0.notSynchronized, hC, hA⟩   h Z va_S.rf hl
theorem i_X0_isSuspect_0 : ∀ w ∈ wsX00, w ∈ wsX0_isSuspect := by decide +kernel
theorem k_X0_isSuspect_w0 : Cond.initialized RX5 ∈ wsX0_isSuspect := by decide +kernel
theorem k_X0_isSuspect_w1 : Cond.static yX5_neighbourOf ∈ wsX0_isSuspect := by decide +kernel
theorem k_X0_isSuspect_w2 : Cond.fieldLink RX0 15 "WarmProbes$Board" "nets" "[I" ∈ wsX0_isSuspect := by decide +kernel
set_option maxRecDepth 20000 in
set_option maxHeartbeats 4000000 in
theorem b_X0_isSuspect_38 (B : wx_B p s m args meth c cX0_isSuspect 4 (some .boolean) wsX0_isSuspect RX0 D ad ca A) {o : Nat}  (ho : o < 11) {r : Int32} {σ : wx_St} {K2 : Int32 → Int32 → wx_St → Option Int32} (hK2 : ∀ {x1 : Int32} {x2 : Int32}   (h : K2 x1 x2 σ = some r) {H : Heap} {locs : List Loc} (Z : wx_Z D ad rd ca A σ H) (hS : va_S A s.heap H locs) {ls : Array Slot} (hl : lv_has ls 4 [(0, .ref (ad o 99)), (1, .int x1), (2, .int x2)]), W p l e ({ frames := 1, cells := 0, slots := 0, locals := 22 } : Room) s m args below meth c H locs 0 0 (MQ below (wx_Q D ad rd ca A (some (.int r)) σ) args s 0 0 A) (F0 m 2 ls [])) {x1 : Int32} {x2 : Int32} {x3 : Int32}   (h : f_X0_isSuspect_38 o K2 x1 x2 x3 σ = some r) {H : Heap} {locs : List Loc} (Z : wx_Z D ad rd ca A σ H) (hS : va_S A s.heap H locs) {ls : Array Slot} (hl : lv_has ls 4 [(0, .ref (ad o 99)), (1, .int x1), (2, .int x2), (3, .int x3)]) : W p l e ({ frames := 1, cells := 0, slots := 0, locals := 22 } : Room) s m args below meth c H locs 0 0 (MQ below (wx_Q D ad rd ca A (some (.int r)) σ) args s 0 0 A) (F0 m 38 ls []) := by
  obtain ⟨hx, hb, hml, hr, hts, hown, hlk, hC, hA⟩ := id B
  unfold f_X0_isSuspect_38 at h
  refine lv_iinc (v := x2 + 1) (lv' := [(2, .int (x2 + 1)), (0, .ref (ad o 99)), (1, .int x1), (3, .int x3)]) hx hb dX0_isSuspect_38 hl (k := 2) rfl rfl (by decide) rfl (fun ls hl => ?_)
  refine lv_goto (tgt := 2) hx hb dX0_isSuspect_41 (by decide) ?_
  exact hK2 h Z hS (lv_sub hl [1, 2, 0] rfl)
set_option maxRecDepth 20000 in
set_option maxHeartbeats 4000000 in
theorem b_X0_isSuspect_2 (B : wx_B p s m args meth c cX0_isSuspect 4 (some .boolean) wsX0_isSuspect RX0 D ad ca A) {o : Nat}  (ho : o < 11) {r : Int32} {σ : wx_St}   :
    ∀ {n : Nat} {x1 : Int32} {x2 : Int32}   (h : f_X0_isSuspect_2 o n x1 x2 σ = some r) {H : Heap} {locs : List Loc} (Z : wx_Z D ad rd ca A σ H) (hS : va_S A s.heap H locs) {ls : Array Slot} (hl : lv_has ls 4 [(0, .ref (ad o 99)), (1, .int x1), (2, .int x2)]), W p l e ({ frames := 1, cells := 0, slots := 0, locals := 22 } : Room) s m args below meth c H locs 0 0 (MQ below (wx_Q D ad rd ca A (some (.int r)) σ) args s 0 0 A) (F0 m 2 ls []) := by
  obtain ⟨hx, hb, hml, hr, hts, hown, hlk, hC, hA⟩ := id B
  intro n
  induction n with
  | zero => intro x1 x2   h H locs Z hS ls hl; exact wx_no h
  | succ n ih =>
    intro x1 x2   h H locs Z hS ls hl
    rw [f_X0_isSuspect_2] at h
    refine lv_iload_n hx hb dX0_isSuspect_2 rfl (lv_at hl 2 rfl) ?_
    refine lv_iconst (v := 4) hx hb dX0_isSuspect_3 (by decide) ?_
    refine lv_icmp_ge (tgt := 44) hx hb dX0_isSuspect_4 (by decide) (fun c4 => ?_) (fun c4 => ?_)
    · replace h := wx_ift c4 h
      refine lv_iconst (v := 0) hx hb dX0_isSuspect_44 (by decide) ?_
      obtain rfl := Option.some.inj h
      exact W.zret hx hb hr rfl (fun t ht hW => ⟨rfl, by rw [ht]; exact Z, hS.F ht⟩) hS.2.2 dX0_isSuspect_45
    · replace h := wx_iff c4 h
      refine lv_iload_n hx hb dX0_isSuspect_7 rfl (lv_at hl 1 rfl) ?_
      refine lv_iload_n hx hb dX0_isSuspect_8 rfl (lv_at hl 2 rfl) ?_
      obtain ⟨v9, hc9, h⟩ := wx_o_ok h
      refine wx_call (va_runSN (As := [.int x1, .int x2]) (rest := []) ⟨hx, hb, hml, hown, hts⟩ (c_X5_neighbourOf l (D := D) (ad := ad) (rd := rd) (ca := ca) (A := A) (σ := σ) hc9) ⟨va_cnB 2 hts gX0_isSuspect_X5_neighbourOf_n93 rfl rfl rfl (hC.1.2.1 _ (List.mem_of_getElem? (i := 38) rfl)) (hts _ k_X0_isSuspect_w0) (by decide +kernel) ⟨Nat.le_of_ble_eq_true rfl, Nat.le_of_ble_eq_true rfl⟩, hts _ k_X0_isSuspect_w1, trivial⟩ (wx_preS hC Z hS hA) rfl rfl hl.1 rfl (lv_room (Nat.le_of_ble_eq_true rfl)) dX0_isSuspect_9 ⟨Nat.zero_le _, Nat.zero_le _⟩) hS (fun H locs Z hS => ?_)
      refine lv_istore_n (lv' := [(3, .int v9), (0, .ref (ad o 99)), (1, .int x1), (2, .int x2)]) hx hb dX0_isSuspect_12 rfl hl (by decide) rfl (fun ls hl => ?_)
      refine lv_iload_n hx hb dX0_isSuspect_13 rfl (lv_at hl 0 rfl) ?_
      refine lv_if_lt (tgt := 38) hx hb dX0_isSuspect_14 (by decide) (fun c14 => ?_) (fun c14 => ?_)
      · replace h := wx_ift c14 h
        exact b_X0_isSuspect_38 B ho (K2 := (f_X0_isSuspect_2 o n)) @ih h Z hS (lv_sub hl [1, 2, 3, 0] rfl)
      · replace h := wx_iff c14 h
        refine lv_aload_n hx hb dX0_isSuspect_17 rfl (lv_at hl 1 rfl) ?_
        refine lv_aload_n hx hb dX0_isSuspect_18 rfl (lv_at hl 1 rfl) ?_
        refine wx_get (own := RX0) hx hb hts i_X0_isSuspect_0 hown hC.1 Z (o := o) (ci := 0) (wx_sbo ho 99) (rfl : vwCl[0]? = some (RX0, TX0, 13)) 1 (by decide) (hts _ k_X0_isSuspect_w2) (fun _ h9 => h9) (f := 0) rfl rfl dX0_isSuspect_19 ?_
        refine lv_iload_n hx hb dX0_isSuspect_22 rfl (lv_at hl 2 rfl) ?_
        obtain ⟨v23, ev23, iv23, h⟩ := wx_rI_ok h
        refine wx_iald hx hb hC.1 Z (o := o) (k := 1) (n := 64) (wx_sbo ho 1) rfl iv23 dX0_isSuspect_23 ev23 ?_
        refine lv_aload_n hx hb dX0_isSuspect_24 rfl (lv_at hl 1 rfl) ?_
        refine wx_get (own := RX0) hx hb hts i_X0_isSuspect_0 hown hC.1 Z (o := o) (ci := 0) (wx_sbo ho 99) (rfl : vwCl[0]? = some (RX0, TX0, 13)) 1 (by decide) (hts _ k_X0_isSuspect_w2) (fun _ h9 => h9) (f := 0) rfl rfl dX0_isSuspect_25 ?_
        refine lv_iload_n hx hb dX0_isSuspect_28 rfl (lv_at hl 0 rfl) ?_
        obtain ⟨v29, ev29, iv29, h⟩ := wx_rI_ok h
        refine wx_iald hx hb hC.1 Z (o := o) (k := 1) (n := 64) (wx_sbo ho 1) rfl iv29 dX0_isSuspect_29 ev29 ?_
        obtain ⟨v30, hc30, h⟩ := wx_o_ok h
        refine wx_call (va_runV (As := [.int v23, .int v29]) (rest := []) ⟨hx, hb, hml, hown, hts⟩ (c_X0_isFed l (D := D) (ad := ad) (rd := rd) (ca := ca) (A := A) (σ := σ) (o := o) ho hc30) (cwV 2 hts gX0_isSuspect_X0_isFed rfl rfl rfl (by decide +kernel) ⟨Nat.le_of_ble_eq_true rfl, Nat.le_of_ble_eq_true rfl⟩) (wx_preV hC Z hS hA (wx_sbo ho 99) (rfl : vwCl[0]? = some (RX0, TX0, 13))) rfl rfl hl.1 rfl (lv_room (Nat.le_of_ble_eq_true rfl)) dX0_isSuspect_30 ⟨Nat.zero_le _, Nat.zero_le _⟩) hS (fun H locs Z hS => ?_)
        refine lv_if_eq (tgt := 38) hx hb dX0_isSuspect_33 (by decide) (fun c33 => ?_) (fun c33 => ?_)
        · replace h := wx_ift c33 h
          exact b_X0_isSuspect_38 B ho (K2 := (f_X0_isSuspect_2 o n)) @ih h Z hS (lv_sub hl [1, 2, 3, 0] rfl)
        · replace h := wx_iff c33 h
          refine lv_iconst (v := 1) hx hb dX0_isSuspect_36 (by decide) ?_
          obtain rfl := Option.some.inj h
          exact W.zret hx hb hr rfl (fun t ht hW => ⟨rfl, by rw [ht]; exact Z, hS.F ht⟩) hS.2.2 dX0_isSuspect_37
set_option maxRecDepth 20000 in
set_option maxHeartbeats 4000000 in
theorem b_X0_isSuspect_0 (B : wx_B p s m args meth c cX0_isSuspect 4 (some .boolean) wsX0_isSuspect RX0 D ad ca A) {o : Nat}  (ho : o < 11) {r : Int32} {σ : wx_St}  {x1 : Int32}   (h : f_X0_isSuspect o x1 σ = some r) {H : Heap} {locs : List Loc} (Z : wx_Z D ad rd ca A σ H) (hS : va_S A s.heap H locs) {ls : Array Slot} (hl : lv_has ls 4 [(0, .ref (ad o 99)), (1, .int x1)]) : W p l e ({ frames := 1, cells := 0, slots := 0, locals := 22 } : Room) s m args below meth c H locs 0 0 (MQ below (wx_Q D ad rd ca A (some (.int r)) σ) args s 0 0 A) (F0 m 0 ls []) := by
  obtain ⟨hx, hb, hml, hr, hts, hown, hlk, hC, hA⟩ := id B
  unfold f_X0_isSuspect at h
  refine lv_iconst (v := 0) hx hb dX0_isSuspect_0 (by decide) ?_
  refine lv_istore_n (lv' := [(2, .int 0), (0, .ref (ad o 99)), (1, .int x1)]) hx hb dX0_isSuspect_1 rfl hl (by decide) rfl (fun ls hl => ?_)
  exact b_X0_isSuspect_2 B ho h Z hS (lv_sub hl [1, 2, 0] rfl)
set_option maxRecDepth 20000 in
theorem c_X0_isSuspect (l : Launch) {D : va_G} {ad : Nat → Nat → Nat} {rd : Nat → Nat} {ca : Nat → ClassId} {A : Nat → Prop} {σ : wx_St} {o : Nat}  (ho : o < 11) {x1 : Int32} {r : Int32} (h : f_X0_isSuspect o x1 σ = some r) : wx_M l yX0_isSuspect wsX0_isSuspect 1 22 D ad rd ca A [.ref (ad o 99), .int x1] σ (some (.int r)) σ := by
  refine Met.ofW (cc := cX0_isSuspect) (maxL := 4) (ret := (some .boolean)) (by decide) rfl ?_
  intro p e s m args below meth c s₁ B0 hml hv
  obtain ⟨rfl, hC, Z, hA⟩ := hv
  have hl := lv_entry ([.ref (ad o 99), .int x1]) (n := 4) (Nat.le_of_ble_eq_true rfl)
  rw [lg_entry_eq]
  generalize (lg_sl ([.ref (ad o 99), .int x1]) ++ List.replicate (4 - (lg_sl ([.ref (ad o 99), .int x1])).length) Slot.unset).toArray = ls at hl ⊢
  exact b_X0_isSuspect_0 ⟨B0.exec, B0.bytes, hml, B0.returns, atoms_spec (ws := wsX0_isSuspect) B0.pre, findClass_of_methodNamed B0.named, B0.notSynchronized, hC, hA⟩ ho  h Z va_S.rf hl
theorem k_X4_couldBe_w0 : Cond.initialized RX0 ∈ wsX4_couldBe := by decide +kernel
theorem k_X4_couldBe_w1 : Cond.instanceMethod yX0_isSuspect ∈ wsX4_couldBe := by decide +kernel
theorem k_X4_couldBe_w2 : Cond.selects RX0 yX0_isSuspect yX0_isSuspect ∈ wsX4_couldBe := by decide +kernel
set_option maxRecDepth 20000 in
set_option maxHeartbeats 4000000 in
theorem m_X4_couldBe_24 {b1 : Nat} {r : Int32} {σ' : wx_St}  {x2 : Int32} {y0 : Int32} {σ : wx_St} (h : f_X4_couldBe_24 b1 x2 y0 σ = some (r, σ')) : wx_n σ.2.2.2.2 ≤ wx_n σ'.2.2.2.2 := by
  unfold f_X4_couldBe_24 at h
  obtain ⟨hz, h⟩ := wx_z_ok h
  obtain ⟨rfl, rfl⟩ := wx_ret_ok h
  exact Nat.le_refl _
set_option maxRecDepth 20000 in
set_option maxHeartbeats 4000000 in
theorem b_X4_couldBe_24 (B : wx_B p s m args meth c cX4_couldBe 3 (some .boolean) wsX4_couldBe RX4 D ad ca A) {b1 : Nat}  (hb1 : b1 < 11) {r : Int32} {σ' : wx_St} {mc : Nat}  {x2 : Int32} {y0 : Int32} {σ : wx_St} {k : Nat} (hk : k + wx_n σ'.2.2.2.2 ≤ mc + wx_n σ.2.2.2.2)  (h : f_X4_couldBe_24 b1 x2 y0 σ = some (r, σ')) {rd : Nat → Nat} {H : Heap} {locs : List Loc} (Z : wx_Z D ad rd ca A σ H) (hS : va_S A s.heap H locs) {ls : Array Slot} (hl : lv_has ls 3 [(0, .ref (ad 12 99)), (1, .ref (ad b1 99)), (2, .int x2)]) : W p l e ({ frames := 4, cells := mc, slots := 6464 * mc, locals := 106 } : Room) s m args below meth c H locs k (6464 * k) (MQ below (wx_QA D ad ca A (some (.int r)) σ') args s mc (6464 * mc) A) (F0 m 24 ls [.int y0]) := by
  obtain ⟨hx, hb, hml, hr, hts, hown, hlk, hC, hA⟩ := id B
  have hm := m_X4_couldBe_24 h
  unfold f_X4_couldBe_24 at h
  obtain ⟨hz, h⟩ := wx_z_ok h
  obtain ⟨rfl, rfl⟩ := wx_ret_ok h
  refine W.widen (k := mc) (n := 6464 * mc) (by omega) (by omega) ?_
  exact W.zret hx hb hr (wx_nb hz) (fun t ht hW => ⟨rfl, ⟨_, by rw [ht]; exact Z⟩, hS.F ht⟩) hS.2.2 dX4_couldBe_24
set_option maxRecDepth 20000 in
set_option maxHeartbeats 4000000 in
theorem m_X4_couldBe_23 {b1 : Nat} {r : Int32} {σ' : wx_St}  {x2 : Int32} {σ : wx_St} (h : f_X4_couldBe_23 b1 x2 σ = some (r, σ')) : wx_n σ.2.2.2.2 ≤ wx_n σ'.2.2.2.2 := by
  unfold f_X4_couldBe_23 at h
  exact m_X4_couldBe_24 h
set_option maxRecDepth 20000 in
set_option maxHeartbeats 4000000 in
theorem b_X4_couldBe_23 (B : wx_B p s m args meth c cX4_couldBe 3 (some .boolean) wsX4_couldBe RX4 D ad ca A) {b1 : Nat}  (hb1 : b1 < 11) {r : Int32} {σ' : wx_St} {mc : Nat}  {x2 : Int32} {σ : wx_St} {k : Nat} (hk : k + wx_n σ'.2.2.2.2 ≤ mc + wx_n σ.2.2.2.2)  (h : f_X4_couldBe_23 b1 x2 σ = some (r, σ')) {rd : Nat → Nat} {H : Heap} {locs : List Loc} (Z : wx_Z D ad rd ca A σ H) (hS : va_S A s.heap H locs) {ls : Array Slot} (hl : lv_has ls 3 [(0, .ref (ad 12 99)), (1, .ref (ad b1 99)), (2, .int x2)]) : W p l e ({ frames := 4, cells := mc, slots := 6464 * mc, locals := 106 } : Room) s m args below meth c H locs k (6464 * k) (MQ below (wx_QA D ad ca A (some (.int r)) σ') args s mc (6464 * mc) A) (F0 m 23 ls []) := by
  obtain ⟨hx, hb, hml, hr, hts, hown, hlk, hC, hA⟩ := id B
  have hm := m_X4_couldBe_23 h
  unfold f_X4_couldBe_23 at h
  refine lv_iconst (v := 0) hx hb dX4_couldBe_23 (by decide) ?_
  exact b_X4_couldBe_24 B hb1 (k := k) hk h Z hS (lv_sub hl [0, 1, 2] rfl)
set_option maxRecDepth 20000 in
set_option maxHeartbeats 4000000 in
theorem m_X4_couldBe_16 {b1 : Nat} {r : Int32} {σ' : wx_St}  {x2 : Int32} {y0 : Int32} {σ : wx_St} (h : f_X4_couldBe_16 b1 x2 y0 σ = some (r, σ')) : wx_n σ.2.2.2.2 ≤ wx_n σ'.2.2.2.2 := by
  unfold f_X4_couldBe_16 at h
  by_cases c16 : y0 = 0
  · replace h := wx_ift c16 h
    exact m_X4_couldBe_23 h
  · replace h := wx_iff c16 h
    exact m_X4_couldBe_24 h
set_option maxRecDepth 20000 in
set_option maxHeartbeats 4000000 in
theorem b_X4_couldBe_16 (B : wx_B p s m args meth c cX4_couldBe 3 (some .boolean) wsX4_couldBe RX4 D ad ca A) {b1 : Nat}  (hb1 : b1 < 11) {r : Int32} {σ' : wx_St} {mc : Nat}  {x2 : Int32} {y0 : Int32} {σ : wx_St} {k : Nat} (hk : k + wx_n σ'.2.2.2.2 ≤ mc + wx_n σ.2.2.2.2)  (h : f_X4_couldBe_16 b1 x2 y0 σ = some (r, σ')) {rd : Nat → Nat} {H : Heap} {locs : List Loc} (Z : wx_Z D ad rd ca A σ H) (hS : va_S A s.heap H locs) {ls : Array Slot} (hl : lv_has ls 3 [(0, .ref (ad 12 99)), (1, .ref (ad b1 99)), (2, .int x2)]) : W p l e ({ frames := 4, cells := mc, slots := 6464 * mc, locals := 106 } : Room) s m args below meth c H locs k (6464 * k) (MQ below (wx_QA D ad ca A (some (.int r)) σ') args s mc (6464 * mc) A) (F0 m 16 ls [.int y0]) := by
  obtain ⟨hx, hb, hml, hr, hts, hown, hlk, hC, hA⟩ := id B
  have hm := m_X4_couldBe_16 h
  unfold f_X4_couldBe_16 at h
  refine lv_if_eq (tgt := 23) hx hb dX4_couldBe_16 (by decide) (fun c16 => ?_) (fun c16 => ?_)
  · replace h := wx_ift c16 h
    exact b_X4_couldBe_23 B hb1 (k := k) hk h Z hS (lv_sub hl [0, 1, 2] rfl)
  · replace h := wx_iff c16 h
    refine lv_iconst (v := 1) hx hb dX4_couldBe_19 (by decide) ?_
    refine lv_goto (tgt := 24) hx hb dX4_couldBe_20 (by decide) ?_
    exact b_X4_couldBe_24 B hb1 (k := k) hk h Z hS (lv_sub hl [0, 1, 2] rfl)
set_option maxRecDepth 20000 in
set_option maxHeartbeats 4000000 in
theorem m_X4_couldBe_0 {b1 : Nat} {r : Int32} {σ' : wx_St}  {x2 : Int32} {σ : wx_St} (h : f_X4_couldBe b1 x2 σ = some (r, σ')) : wx_n σ.2.2.2.2 ≤ wx_n σ'.2.2.2.2 := by
  unfold f_X4_couldBe at h
  obtain ⟨v2, hc2, h⟩ := wx_o_ok h
  by_cases c5 : v2 = 0
  · replace h := wx_ift c5 h
    exact m_X4_couldBe_23 h
  · replace h := wx_iff c5 h
    obtain ⟨v13, σ13, hc13, h⟩ := wx_b_ok h
    refine Nat.le_trans (m_X4_fits_0 hc13) ?_
    exact m_X4_couldBe_16 h
set_option maxRecDepth 20000 in
set_option maxHeartbeats 4000000 in
theorem b_X4_couldBe_0 (B : wx_B p s m args meth c cX4_couldBe 3 (some .boolean) wsX4_couldBe RX4 D ad ca A) {b1 : Nat}  (hb1 : b1 < 11) {r : Int32} {σ' : wx_St} {mc : Nat}  {x2 : Int32} {σ : wx_St} {k : Nat} (hk : k + wx_n σ'.2.2.2.2 ≤ mc + wx_n σ.2.2.2.2)  (h : f_X4_couldBe b1 x2 σ = some (r, σ')) {rd : Nat → Nat} {H : Heap} {locs : List Loc} (Z : wx_Z D ad rd ca A σ H) (hS : va_S A s.heap H locs) {ls : Array Slot} (hl : lv_has ls 3 [(0, .ref (ad 12 99)), (1, .ref (ad b1 99)), (2, .int x2)]) : W p l e ({ frames := 4, cells := mc, slots := 6464 * mc, locals := 106 } : Room) s m args below meth c H locs k (6464 * k) (MQ below (wx_QA D ad ca A (some (.int r)) σ') args s mc (6464 * mc) A) (F0 m 0 ls []) := by
  obtain ⟨hx, hb, hml, hr, hts, hown, hlk, hC, hA⟩ := id B
  have hm := m_X4_couldBe_0 h
  unfold f_X4_couldBe at h
  refine lv_aload_n hx hb dX4_couldBe_0 rfl (lv_at hl 1 rfl) ?_
  refine lv_iload_n hx hb dX4_couldBe_1 rfl (lv_at hl 2 rfl) ?_
  obtain ⟨v2, hc2, h⟩ := wx_o_ok h
  refine wx_call (va_runVN (As := [.int x2]) (rest := []) ⟨hx, hb, hml, hown, hts⟩ (c_X0_isSuspect l (D := D) (ad := ad) (rd := rd) (ca := ca) (A := A) (σ := σ) (o := b1) hb1 hc2) ⟨va_cnB 1 hts gX4_couldBe_X0_isSuspect_n22 rfl rfl rfl (hC.1.2.1 _ (List.mem_of_getElem? (i := 48) rfl)) (hts _ k_X4_couldBe_w0) (by decide +kernel) ⟨Nat.le_of_ble_eq_true rfl, Nat.le_of_ble_eq_true rfl⟩, hts _ k_X4_couldBe_w1, hts _ k_X4_couldBe_w2⟩ (wx_preV hC Z hS hA (wx_sbo hb1 99) (rfl : vwCl[0]? = some (RX0, TX0, 13))) rfl rfl hl.1 rfl (lv_room (Nat.le_of_ble_eq_true rfl)) dX4_couldBe_2 ⟨(by show k + 0 ≤ mc; omega), (by show 6464 * k + 0 ≤ 6464 * mc; omega)⟩) hS (fun H locs Z hS => ?_)
  refine lv_if_eq (tgt := 23) hx hb dX4_couldBe_5 (by decide) (fun c5 => ?_) (fun c5 => ?_)
  · replace h := wx_ift c5 h
    exact b_X4_couldBe_23 B hb1 (k := k) hk h Z hS (lv_sub hl [0, 1, 2] rfl)
  · replace h := wx_iff c5 h
    refine lv_aload_n hx hb dX4_couldBe_8 rfl (lv_at hl 0 rfl) ?_
    refine lv_aload_n hx hb dX4_couldBe_9 rfl (lv_at hl 1 rfl) ?_
    refine lv_iload_n hx hb dX4_couldBe_10 rfl (lv_at hl 2 rfl) ?_
    refine lv_bipush (v := (-6)) hx hb dX4_couldBe_11 (by decide) ?_
    obtain ⟨v13, σ13, hc13, h⟩ := wx_b_ok h
    have m1 := m_X4_fits_0 hc13
    have m2 := m_X4_couldBe_16 h
    refine wx_callA (va_runV (As := [.ref (ad b1 99), .int x2, .int (-6)]) (rest := []) ⟨hx, hb, hml, hown, hts⟩ (c_X4_fits l (D := D) (ad := ad) (rd := rd) (ca := ca) (A := A) (σ := σ) (b1 := b1) hb1 hc13) (cwV 3 hts gX4_couldBe_X4_fits rfl rfl rfl (by decide +kernel) ⟨Nat.le_of_ble_eq_true rfl, Nat.le_of_ble_eq_true rfl⟩) (wx_preV hC Z hS hA rfl (rfl : vwCl[4]? = some (RX4, TX4, 2))) rfl rfl hl.1 rfl (lv_room (Nat.le_of_ble_eq_true rfl)) dX4_couldBe_13 ⟨(by show k + (wx_n σ13.2.2.2.2 - wx_n σ.2.2.2.2) ≤ mc; omega), (by show 6464 * k + 6464 * (wx_n σ13.2.2.2.2 - wx_n σ.2.2.2.2) ≤ 6464 * mc; omega)⟩) hS (fun rd H locs Z hS => ?_)
    refine W.widen (k := k + (wx_n σ13.2.2.2.2 - wx_n σ.2.2.2.2)) (n := 6464 * (k + (wx_n σ13.2.2.2.2 - wx_n σ.2.2.2.2))) (Nat.le_refl _) (by omega) ?_
    exact b_X4_couldBe_16 B hb1 (k := k + (wx_n σ13.2.2.2.2 - wx_n σ.2.2.2.2)) (by omega) h Z hS (lv_sub hl [0, 1, 2] rfl)
set_option maxRecDepth 20000 in
theorem c_X4_couldBe (l : Launch) {D : va_G} {ad : Nat → Nat → Nat} {rd : Nat → Nat} {ca : Nat → ClassId} {A : Nat → Prop} {σ : wx_St} {b1 : Nat}  (hb1 : b1 < 11) {x2 : Int32} {r : Int32} {σ' : wx_St} (h : f_X4_couldBe b1 x2 σ = some (r, σ')) : wx_MA l yX4_couldBe wsX4_couldBe 4 106 D ad rd ca A [.ref (ad 12 99), .ref (ad b1 99), .int x2] σ (some (.int r)) σ' := by
  refine Met.ofW (cc := cX4_couldBe) (maxL := 3) (ret := (some .boolean)) (by decide) rfl ?_
  intro p e s m args below meth c s₁ B0 hml hv
  obtain ⟨rfl, hC, Z, hA⟩ := hv
  have hl := lv_entry ([.ref (ad 12 99), .ref (ad b1 99), .int x2]) (n := 3) (Nat.le_of_ble_eq_true rfl)
  rw [lg_entry_eq]
  generalize (lg_sl ([.ref (ad 12 99), .ref (ad b1 99), .int x2]) ++ List.replicate (3 - (lg_sl ([.ref (ad 12 99), .ref (ad b1 99), .int x2])).length) Slot.unset).toArray = ls at hl ⊢
  exact b_X4_couldBe_0 ⟨B0.exec, B0.bytes, hml, B0.returns, atoms_spec (ws := wsX4_couldBe) B0.pre, findClass_of_methodNamed B0.named, B0.notSynchronized, hC, hA⟩ hb1 (k := 0) (by have hm := m_X4_couldBe_0 h; omega) h Z va_S.rf hl
set_option maxRecDepth 20000 in
set_option maxHeartbeats 4000000 in
theorem m_X4_fitting_29 {b1 : Nat} {r : Int64} {σ' : wx_St} {K5 : Int64 → Int32 → wx_St → Option (Int64 × wx_St)} (mK5 : ∀ {x2 : Int64} {x4 : Int32} {σ : wx_St}, K5 x2 x4 σ = some (r, σ') → wx_n σ.2.2.2.2 ≤ wx_n σ'.2.2.2.2) {x2 : Int64} {x4 : Int32} {σ : wx_St} (h : f_X4_fitting_29 b1 K5 x2 x4 σ = some (r, σ')) : wx_n σ.2.2.2.2 ≤ wx_n σ'.2.2.2.2 := by
  unfold f_X4_fitting_29 at h
  exact mK5 h
set_option maxRecDepth 20000 in
set_option maxHeartbeats 4000000 in
theorem b_X4_fitting_29 (B : wx_B p s m args meth c cX4_fitting 5 (some .long) wsX4_fitting RX4 D ad ca A) {b1 : Nat}  (hb1 : b1 < 11) {r : Int64} {σ' : wx_St} {mc : Nat} {K5 : Int64 → Int32 → wx_St → Option (Int64 × wx_St)} (hK5 : ∀ {x2 : Int64} {x4 : Int32} {σ : wx_St} {k : Nat} (hk : k + wx_n σ'.2.2.2.2 ≤ mc + wx_n σ.2.2.2.2)  (h : K5 x2 x4 σ = some (r, σ')) {rd : Nat → Nat} {H : Heap} {locs : List Loc} (Z : wx_Z D ad rd ca A σ H) (hS : va_S A s.heap H locs) {ls : Array Slot} (hl : lv_has ls 5 [(0, .ref (ad 12 99)), (1, .ref (ad b1 99)), (2, .long x2), (4, .int x4)]), W p l e ({ frames := 5, cells := mc, slots := 6464 * mc, locals := 128 } : Room) s m args below meth c H locs k (6464 * k) (MQ below (wx_QA D ad ca A (some (.long r)) σ') args s mc (6464 * mc) A) (F0 m 5 ls [])) (mK5 : ∀ {x2 : Int64} {x4 : Int32} {σ : wx_St}, K5 x2 x4 σ = some (r, σ') → wx_n σ.2.2.2.2 ≤ wx_n σ'.2.2.2.2) {x2 : Int64} {x4 : Int32} {σ : wx_St} {k : Nat} (hk : k + wx_n σ'.2.2.2.2 ≤ mc + wx_n σ.2.2.2.2)  (h : f_X4_fitting_29 b1 K5 x2 x4 σ = some (r, σ')) {rd : Nat → Nat} {H : Heap} {locs : List Loc} (Z : wx_Z D ad rd ca A σ H) (hS : va_S A s.heap H locs) {ls : Array Slot} (hl : lv_has ls 5 [(0, .ref (ad 12 99)), (1, .ref (ad b1 99)), (2, .long x2), (4, .int x4)]) : W p l e ({ frames := 5, cells := mc, slots := 6464 * mc, locals := 128 } : Room) s m args below meth c H locs k (6464 * k) (MQ below (wx_QA D ad ca A (some (.long r)) σ') args s mc (6464 * mc) A) (F0 m 29 ls []) := by
  obtain ⟨hx, hb, hml, hr, hts, hown, hlk, hC, hA⟩ := id B
  have hm := m_X4_fitting_29 (K5 := K5) @mK5 h
  unfold f_X4_fitting_29 at h
  refine lv_iinc (v := x4 + 1) (lv' := [(4, .int (x4 + 1)), (0, .ref (ad 12 99)), (1, .ref (ad b1 99)), (2, .long x2)]) hx hb dX4_fitting_29 hl (k := 3) rfl rfl (by decide) rfl (fun ls hl => ?_)
  refine lv_goto (tgt := 5) hx hb dX4_fitting_32 (by decide) ?_
  exact hK5 (k := k) hk h Z hS (lv_sub hl [1, 2, 3, 0] rfl)
set_option maxRecDepth 20000 in
set_option maxHeartbeats 4000000 in
theorem m_X4_fitting_19 {b1 : Nat} {r : Int64} {σ' : wx_St} {K5 : Int64 → Int32 → wx_St → Option (Int64 × wx_St)} (mK5 : ∀ {x2 : Int64} {x4 : Int32} {σ : wx_St}, K5 x2 x4 σ = some (r, σ') → wx_n σ.2.2.2.2 ≤ wx_n σ'.2.2.2.2) {x2 : Int64} {x4 : Int32} {y0 : Int32} {σ : wx_St} (h : f_X4_fitting_19 b1 K5 x2 x4 y0 σ = some (r, σ')) : wx_n σ.2.2.2.2 ≤ wx_n σ'.2.2.2.2 := by
  unfold f_X4_fitting_19 at h
  by_cases c19 : y0 = 0
  · replace h := wx_ift c19 h
    exact m_X4_fitting_29 (K5 := K5) @mK5 h
  · replace h := wx_iff c19 h
    exact m_X4_fitting_29 (K5 := K5) @mK5 h
set_option maxRecDepth 20000 in
set_option maxHeartbeats 4000000 in
theorem b_X4_fitting_19 (B : wx_B p s m args meth c cX4_fitting 5 (some .long) wsX4_fitting RX4 D ad ca A) {b1 : Nat}  (hb1 : b1 < 11) {r : Int64} {σ' : wx_St} {mc : Nat} {K5 : Int64 → Int32 → wx_St → Option (Int64 × wx_St)} (hK5 : ∀ {x2 : Int64} {x4 : Int32} {σ : wx_St} {k : Nat} (hk : k + wx_n σ'.2.2.2.2 ≤ mc + wx_n σ.2.2.2.2)  (h : K5 x2 x4 σ = some (r, σ')) {rd : Nat → Nat} {H : Heap} {locs : List Loc} (Z : wx_Z D ad rd ca A σ H) (hS : va_S A s.heap H locs) {ls : Array Slot} (hl : lv_has ls 5 [(0, .ref (ad 12 99)), (1, .ref (ad b1 99)), (2, .long x2), (4, .int x4)]), W p l e ({ frames := 5, cells := mc, slots := 6464 * mc, locals := 128 } : Room) s m args below meth c H locs k (6464 * k) (MQ below (wx_QA D ad ca A (some (.long r)) σ') args s mc (6464 * mc) A) (F0 m 5 ls [])) (mK5 : ∀ {x2 : Int64} {x4 : Int32} {σ : wx_St}, K5 x2 x4 σ = some (r, σ') → wx_n σ.2.2.2.2 ≤ wx_n σ'.2.2.2.2) {x2 : Int64} {x4 : Int32} {y0 : Int32} {σ : wx_St} {k : Nat} (hk : k + wx_n σ'.2.2.2.2 ≤ mc + wx_n σ.2.2.2.2)  (h : f_X4_fitting_19 b1 K5 x2 x4 y0 σ = some (r, σ')) {rd : Nat → Nat} {H : Heap} {locs : List Loc} (Z : wx_Z D ad rd ca A σ H) (hS : va_S A s.heap H locs) {ls : Array Slot} (hl : lv_has ls 5 [(0, .ref (ad 12 99)), (1, .ref (ad b1 99)), (2, .long x2), (4, .int x4)]) : W p l e ({ frames := 5, cells := mc, slots := 6464 * mc, locals := 128 } : Room) s m args below meth c H locs k (6464 * k) (MQ below (wx_QA D ad ca A (some (.long r)) σ') args s mc (6464 * mc) A) (F0 m 19 ls [.int y0]) := by
  obtain ⟨hx, hb, hml, hr, hts, hown, hlk, hC, hA⟩ := id B
  have hm := m_X4_fitting_19 (K5 := K5) @mK5 h
  unfold f_X4_fitting_19 at h
  refine lv_if_eq (tgt := 29) hx hb dX4_fitting_19 (by decide) (fun c19 => ?_) (fun c19 => ?_)
  · replace h := wx_ift c19 h
    exact b_X4_fitting_29 B hb1 (K5 := K5) @hK5 @mK5 (k := k) hk h Z hS (lv_sub hl [0, 1, 2, 3] rfl)
  · replace h := wx_iff c19 h
    refine lv_lload_n hx hb dX4_fitting_22 rfl (lv_at hl 2 rfl) ?_
    refine lv_lconst (v := 1) hx hb dX4_fitting_23 (by decide) ?_
    refine lv_iload hx hb dX4_fitting_24 (lv_at hl 3 rfl) ?_
    refine lv_lshl (v := ((1 : Int64) <<< (x4.toInt64 &&& 63))) hx hb dX4_fitting_26 rfl ?_
    refine lv_lor hx hb dX4_fitting_27 ?_
    refine lv_lstore_n (lv' := [(2, .long (x2 ||| ((1 : Int64) <<< (x4.toInt64 &&& 63)))), (0, .ref (ad 12 99)), (1, .ref (ad b1 99)), (4, .int x4)]) hx hb dX4_fitting_28 rfl hl (by decide) rfl (fun ls hl => ?_)
    exact b_X4_fitting_29 B hb1 (K5 := K5) @hK5 @mK5 (k := k) hk h Z hS (lv_sub hl [1, 2, 0, 3] rfl)
set_option maxRecDepth 20000 in
set_option maxHeartbeats 4000000 in
theorem m_X4_fitting_5 {b1 : Nat} {r : Int64} {σ' : wx_St}  :
    ∀ {n : Nat} {x2 : Int64} {x4 : Int32} {σ : wx_St} (h : f_X4_fitting_5 b1 n x2 x4 σ = some (r, σ')), wx_n σ.2.2.2.2 ≤ wx_n σ'.2.2.2.2 := by
  intro n
  induction n with
  | zero => intro x2 x4 σ h; exact wx_no h
  | succ n ih =>
    intro x2 x4 σ h
    rw [f_X4_fitting_5] at h
    by_cases c9 : 64 ≤ x4
    · replace h := wx_ift c9 h
      obtain ⟨rfl, rfl⟩ := wx_ret_ok h
      exact Nat.le_refl _
    · replace h := wx_iff c9 h
      obtain ⟨v16, σ16, hc16, h⟩ := wx_b_ok h
      refine Nat.le_trans (m_X4_couldBe_0 hc16) ?_
      exact m_X4_fitting_19 (K5 := (f_X4_fitting_5 b1 n)) @ih h
set_option maxRecDepth 20000 in
set_option maxHeartbeats 4000000 in
theorem b_X4_fitting_5 (B : wx_B p s m args meth c cX4_fitting 5 (some .long) wsX4_fitting RX4 D ad ca A) {b1 : Nat}  (hb1 : b1 < 11) {r : Int64} {σ' : wx_St} {mc : Nat}   :
    ∀ {n : Nat} {x2 : Int64} {x4 : Int32} {σ : wx_St} {k : Nat} (hk : k + wx_n σ'.2.2.2.2 ≤ mc + wx_n σ.2.2.2.2)  (h : f_X4_fitting_5 b1 n x2 x4 σ = some (r, σ')) {rd : Nat → Nat} {H : Heap} {locs : List Loc} (Z : wx_Z D ad rd ca A σ H) (hS : va_S A s.heap H locs) {ls : Array Slot} (hl : lv_has ls 5 [(0, .ref (ad 12 99)), (1, .ref (ad b1 99)), (2, .long x2), (4, .int x4)]), W p l e ({ frames := 5, cells := mc, slots := 6464 * mc, locals := 128 } : Room) s m args below meth c H locs k (6464 * k) (MQ below (wx_QA D ad ca A (some (.long r)) σ') args s mc (6464 * mc) A) (F0 m 5 ls []) := by
  obtain ⟨hx, hb, hml, hr, hts, hown, hlk, hC, hA⟩ := id B
  intro n
  induction n with
  | zero => intro x2 x4 σ k hk  h rd H locs Z hS ls hl; exact wx_no h
  | succ n ih =>
    intro x2 x4 σ k hk  h rd H locs Z hS ls hl
    have hm := m_X4_fitting_5 h
    have mih : ∀ {x2 : Int64} {x4 : Int32} {σ : wx_St}, f_X4_fitting_5 b1 n x2 x4 σ = some (r, σ') → wx_n σ.2.2.2.2 ≤ wx_n σ'.2.2.2.2 := fun h => m_X4_fitting_5 h
    rw [f_X4_fitting_5] at h
    refine lv_iload hx hb dX4_fitting_5 (lv_at hl 3 rfl) ?_
    refine lv_bipush (v := 64) hx hb dX4_fitting_7 (by decide) ?_
    refine lv_icmp_ge (tgt := 35) hx hb dX4_fitting_9 (by decide) (fun c9 => ?_) (fun c9 => ?_)
    · replace h := wx_ift c9 h
      refine lv_lload_n hx hb dX4_fitting_35 rfl (lv_at hl 2 rfl) ?_
      obtain ⟨rfl, rfl⟩ := wx_ret_ok h
      refine W.widen (k := mc) (n := 6464 * mc) (by omega) (by omega) ?_
      exact W.lret hx hb hr (fun t ht hW => ⟨rfl, ⟨_, by rw [ht]; exact Z⟩, hS.F ht⟩) hS.2.2 dX4_fitting_36
    · replace h := wx_iff c9 h
      refine lv_aload_n hx hb dX4_fitting_12 rfl (lv_at hl 0 rfl) ?_
      refine lv_aload_n hx hb dX4_fitting_13 rfl (lv_at hl 1 rfl) ?_
      refine lv_iload hx hb dX4_fitting_14 (lv_at hl 3 rfl) ?_
      obtain ⟨v16, σ16, hc16, h⟩ := wx_b_ok h
      have m1 := m_X4_couldBe_0 hc16
      have m2 := m_X4_fitting_19 (K5 := (f_X4_fitting_5 b1 n)) mih h
      refine wx_callA (va_runV (As := [.ref (ad b1 99), .int x4]) (rest := []) ⟨hx, hb, hml, hown, hts⟩ (c_X4_couldBe l (D := D) (ad := ad) (rd := rd) (ca := ca) (A := A) (σ := σ) (b1 := b1) hb1 hc16) (cwV 2 hts gX4_fitting_X4_couldBe rfl rfl rfl (by decide +kernel) ⟨Nat.le_of_ble_eq_true rfl, Nat.le_of_ble_eq_true rfl⟩) (wx_preV hC Z hS hA rfl (rfl : vwCl[4]? = some (RX4, TX4, 2))) rfl rfl hl.1 rfl (lv_room (Nat.le_of_ble_eq_true rfl)) dX4_fitting_16 ⟨(by show k + (wx_n σ16.2.2.2.2 - wx_n σ.2.2.2.2) ≤ mc; omega), (by show 6464 * k + 6464 * (wx_n σ16.2.2.2.2 - wx_n σ.2.2.2.2) ≤ 6464 * mc; omega)⟩) hS (fun rd H locs Z hS => ?_)
      refine W.widen (k := k + (wx_n σ16.2.2.2.2 - wx_n σ.2.2.2.2)) (n := 6464 * (k + (wx_n σ16.2.2.2.2 - wx_n σ.2.2.2.2))) (Nat.le_refl _) (by omega) ?_
      exact b_X4_fitting_19 B hb1 (K5 := (f_X4_fitting_5 b1 n)) @ih mih (k := k + (wx_n σ16.2.2.2.2 - wx_n σ.2.2.2.2)) (by omega) h Z hS (lv_sub hl [0, 1, 2, 3] rfl)
set_option maxRecDepth 20000 in
set_option maxHeartbeats 4000000 in
theorem m_X4_fitting_0 {b1 : Nat} {r : Int64} {σ' : wx_St}   {σ : wx_St} (h : f_X4_fitting b1 σ = some (r, σ')) : wx_n σ.2.2.2.2 ≤ wx_n σ'.2.2.2.2 := by
  unfold f_X4_fitting at h
  exact m_X4_fitting_5 h
set_option maxRecDepth 20000 in
set_option maxHeartbeats 4000000 in
theorem b_X4_fitting_0 (B : wx_B p s m args meth c cX4_fitting 5 (some .long) wsX4_fitting RX4 D ad ca A) {b1 : Nat}  (hb1 : b1 < 11) {r : Int64} {σ' : wx_St} {mc : Nat}   {σ : wx_St} {k : Nat} (hk : k + wx_n σ'.2.2.2.2 ≤ mc + wx_n σ.2.2.2.2)  (h : f_X4_fitting b1 σ = some (r, σ')) {rd : Nat → Nat} {H : Heap} {locs : List Loc} (Z : wx_Z D ad rd ca A σ H) (hS : va_S A s.heap H locs) {ls : Array Slot} (hl : lv_has ls 5 [(0, .ref (ad 12 99)), (1, .ref (ad b1 99))]) : W p l e ({ frames := 5, cells := mc, slots := 6464 * mc, locals := 128 } : Room) s m args below meth c H locs k (6464 * k) (MQ below (wx_QA D ad ca A (some (.long r)) σ') args s mc (6464 * mc) A) (F0 m 0 ls []) := by
  obtain ⟨hx, hb, hml, hr, hts, hown, hlk, hC, hA⟩ := id B
  have hm := m_X4_fitting_0 h
  unfold f_X4_fitting at h
  refine lv_lconst (v := 0) hx hb dX4_fitting_0 (by decide) ?_
  refine lv_lstore_n (lv' := [(2, .long (0 : Int64)), (0, .ref (ad 12 99)), (1, .ref (ad b1 99))]) hx hb dX4_fitting_1 rfl hl (by decide) rfl (fun ls hl => ?_)
  refine lv_iconst (v := 0) hx hb dX4_fitting_2 (by decide) ?_
  refine lv_istore (lv' := [(4, .int 0), (2, .long (0 : Int64)), (0, .ref (ad 12 99)), (1, .ref (ad b1 99))]) hx hb dX4_fitting_3 hl (by decide) rfl (fun ls hl => ?_)
  exact b_X4_fitting_5 B hb1 (k := k) hk h Z hS (lv_sub hl [2, 3, 1, 0] rfl)
set_option maxRecDepth 20000 in
theorem c_X4_fitting (l : Launch) {D : va_G} {ad : Nat → Nat → Nat} {rd : Nat → Nat} {ca : Nat → ClassId} {A : Nat → Prop} {σ : wx_St} {b1 : Nat}  (hb1 : b1 < 11)  {r : Int64} {σ' : wx_St} (h : f_X4_fitting b1 σ = some (r, σ')) : wx_MA l yX4_fitting wsX4_fitting 5 128 D ad rd ca A [.ref (ad 12 99), .ref (ad b1 99)] σ (some (.long r)) σ' := by
  refine Met.ofW (cc := cX4_fitting) (maxL := 5) (ret := (some .long)) (by decide) rfl ?_
  intro p e s m args below meth c s₁ B0 hml hv
  obtain ⟨rfl, hC, Z, hA⟩ := hv
  have hl := lv_entry ([.ref (ad 12 99), .ref (ad b1 99)]) (n := 5) (Nat.le_of_ble_eq_true rfl)
  rw [lg_entry_eq]
  generalize (lg_sl ([.ref (ad 12 99), .ref (ad b1 99)]) ++ List.replicate (5 - (lg_sl ([.ref (ad 12 99), .ref (ad b1 99)])).length) Slot.unset).toArray = ls at hl ⊢
  exact b_X4_fitting_0 ⟨B0.exec, B0.bytes, hml, B0.returns, atoms_spec (ws := wsX4_fitting) B0.pre, findClass_of_methodNamed B0.named, B0.notSynchronized, hC, hA⟩ hb1 (k := 0) (by have hm := m_X4_fitting_0 h; omega) h Z va_S.rf hl
