def f_L_law_239 (ad : Nat → Nat → Nat) (K62 : Int64 → Int32 → wx_St → Option (Int32 × wx_St)) (K191 : Int64 → Int32 → Int32 → Int32 → Int32 → Int32 → Int32 → Int32 → Int32 → Int32 → Int32 → Int32 → wx_St → Option (Int32 × wx_St)) (x7 : Int64) (x9 : Int32) (x10 : Int32) (x11 : Int32) (x12 : Int32) (x13 : Int32) (x14 : Int32) (x15 : Int32) (x16 : Int32) (x17 : Int32) (x18 : Int32) (x19 : Int32) (y0 : Int32) (σ : wx_St) : Option (Int32 × wx_St) :=
  K191 x7 x9 x10 x11 x12 x13 x14 x15 x16 x17 y0 (x19 + 1) σ
def f_L_law_234 (ad : Nat → Nat → Nat) (K62 : Int64 → Int32 → wx_St → Option (Int32 × wx_St)) (K191 : Int64 → Int32 → Int32 → Int32 → Int32 → Int32 → Int32 → Int32 → Int32 → Int32 → Int32 → Int32 → wx_St → Option (Int32 × wx_St)) (x7 : Int64) (x9 : Int32) (x10 : Int32) (x11 : Int32) (x12 : Int32) (x13 : Int32) (x14 : Int32) (x15 : Int32) (x16 : Int32) (x17 : Int32) (x18 : Int32) (x19 : Int32) (σ : wx_St) : Option (Int32 × wx_St) :=
  f_L_law_239 ad K62 K191 x7 x9 x10 x11 x12 x13 x14 x15 x16 x17 x18 x19 1 σ
def f_L_law_238 (ad : Nat → Nat → Nat) (K62 : Int64 → Int32 → wx_St → Option (Int32 × wx_St)) (K191 : Int64 → Int32 → Int32 → Int32 → Int32 → Int32 → Int32 → Int32 → Int32 → Int32 → Int32 → Int32 → wx_St → Option (Int32 × wx_St)) (x7 : Int64) (x9 : Int32) (x10 : Int32) (x11 : Int32) (x12 : Int32) (x13 : Int32) (x14 : Int32) (x15 : Int32) (x16 : Int32) (x17 : Int32) (x18 : Int32) (x19 : Int32) (σ : wx_St) : Option (Int32 × wx_St) :=
  f_L_law_239 ad K62 K191 x7 x9 x10 x11 x12 x13 x14 x15 x16 x17 x18 x19 0 σ
def f_L_law_1279 (ad : Nat → Nat → Nat) (K62 : Int64 → Int32 → wx_St → Option (Int32 × wx_St)) (x7 : Int64) (x9 : Int32) (x10 : Int32) (x11 : Int32) (x12 : Int32) (x13 : Int32) (x14 : Int32) (x15 : Int32) (x16 : Int32) (y0 : Int32) (σ : wx_St) : Option (Int32 × wx_St) :=
  if y0 = 0 then
    some (0, σ)
   else
    K62 x7 (x9 + 1) σ
def f_L_law_1265 (ad : Nat → Nat → Nat) (K62 : Int64 → Int32 → wx_St → Option (Int32 × wx_St)) (x7 : Int64) (x9 : Int32) (x10 : Int32) (x11 : Int32) (x12 : Int32) (x13 : Int32) (x14 : Int32) (x15 : Int32) (x16 : Int32) (σ : wx_St) : Option (Int32 × wx_St) :=
  wx_b (f_L_same x7 σ) (fun v1276 σ1276 => f_L_law_1279 ad K62 x7 x9 x10 x11 x12 x13 x14 x15 x16 v1276 σ1276)
def f_L_law_1246 (ad : Nat → Nat → Nat) (K62 : Int64 → Int32 → wx_St → Option (Int32 × wx_St)) (x7 : Int64) (x9 : Int32) (x10 : Int32) (x11 : Int32) (x12 : Int32) (x13 : Int32) (x14 : Int32) (x15 : Int32) (x16 : Int32) (σ : wx_St) : Option (Int32 × wx_St) :=
  if x16 = 0 then
    f_L_law_1265 ad K62 x7 x9 x10 x11 x12 x13 x14 x15 x16 σ
   else
    wx_w (wx_sI σ 16 0 (Int32.toNatClampNeg 4) 0) 7 4 (fun σ1254 => wx_w (wx_sI σ1254 16 0 (Int32.toNatClampNeg 6) 0) 7 6 (fun σ1259 => f_L_law_1265 ad K62 (-1 : Int64) x9 x10 x11 x12 x13 x14 x15 x16 σ1259))
def f_L_law_308 (ad : Nat → Nat → Nat) (K62 : Int64 → Int32 → wx_St → Option (Int32 × wx_St)) (x7 : Int64) (x9 : Int32) (x10 : Int32) (x11 : Int32) (x12 : Int32) (x13 : Int32) (x14 : Int32) (x15 : Int32) (x16 : Int32) (x17 : Int32) (x18 : Int32) (x19 : Int32) (y1 : Int32) (y2 : Int32) (σ : wx_St) : Option (Int32 × wx_St) :=
  wx_w (wx_sI σ 16 3 (Int32.toNatClampNeg y1) y2) 64 y1 (fun σ308 => f_L_law_1246 ad K62 x7 x9 x10 x11 x12 x13 x14 x15 x16 σ308)
def f_L_law_287 (ad : Nat → Nat → Nat) (K62 : Int64 → Int32 → wx_St → Option (Int32 × wx_St)) (x7 : Int64) (x9 : Int32) (x10 : Int32) (x11 : Int32) (x12 : Int32) (x13 : Int32) (x14 : Int32) (x15 : Int32) (x16 : Int32) (x17 : Int32) (x18 : Int32) (x19 : Int32) (y0 : Int32) (σ : wx_St) : Option (Int32 × wx_St) :=
  if x18 = 0 then
    f_L_law_308 ad K62 x7 x9 x10 x11 x12 x13 x14 x15 y0 x17 x18 x19 x15 x17 σ
   else
    wx_rI σ 16 3 64 x15 (fun v302 => f_L_law_308 ad K62 x7 x9 x10 x11 x12 x13 x14 x15 y0 x17 x18 x19 x15 v302 σ)
def f_L_law_272 (ad : Nat → Nat → Nat) (K62 : Int64 → Int32 → wx_St → Option (Int32 × wx_St)) (x7 : Int64) (x9 : Int32) (x10 : Int32) (x11 : Int32) (x12 : Int32) (x13 : Int32) (x14 : Int32) (x15 : Int32) (x16 : Int32) (x17 : Int32) (x18 : Int32) (x19 : Int32) (y0 : Int32) (y1 : Int32) (σ : wx_St) : Option (Int32 × wx_St) :=
  if y0 = y1 then
    if x18 = 0 then
      f_L_law_287 ad K62 x7 x9 x10 x11 x12 x13 x14 x15 x16 x17 x18 x19 1 σ
     else
      f_L_law_287 ad K62 x7 x9 x10 x11 x12 x13 x14 x15 x16 x17 x18 x19 0 σ
   else
    some (0, σ)
def f_L_law_191 (ad : Nat → Nat → Nat) (K62 : Int64 → Int32 → wx_St → Option (Int32 × wx_St)) : Nat → Int64 → Int32 → Int32 → Int32 → Int32 → Int32 → Int32 → Int32 → Int32 → Int32 → Int32 → Int32 → wx_St → Option (Int32 × wx_St)
  | 0, _, _, _, _, _, _, _, _, _, _, _, _, _ => none
  | n + 1, x7, x9, x10, x11, x12, x13, x14, x15, x16, x17, x18, x19, σ =>
  wx_rI σ 16 0 7 5 (fun v195 => if v195 ≤ x19 then
    wx_b (f_X5_track x13 x14 x17 σ) (fun v254 σ254 => if x18 = 0 then
      wx_rI σ254 16 3 64 x15 (fun v271 => f_L_law_272 ad K62 x7 x9 x10 x11 x12 x13 x14 x15 x16 x17 x18 x19 v254 v271 σ254)
     else
      f_L_law_272 ad K62 x7 x9 x10 x11 x12 x13 x14 x15 x16 x17 x18 x19 v254 (-5) σ254)
   else
    if x18 = 0 then
      wx_rI σ 16 1 6 (2 * x19) (fun v211 => wx_o (f_L_near x15 v211) (fun v212 => if v212 = 0 then
        f_L_law_238 ad K62 (f_L_law_191 ad K62 n) x7 x9 x10 x11 x12 x13 x14 x15 x16 x17 x18 x19 σ
       else
        wx_rI σ 16 1 6 ((2 * x19) + 1) (fun v225 => wx_rI σ 16 3 64 x15 (fun v230 => if v225 = v230 then
          f_L_law_234 ad K62 (f_L_law_191 ad K62 n) x7 x9 x10 x11 x12 x13 x14 x15 x16 x17 x18 x19 σ
         else
          f_L_law_238 ad K62 (f_L_law_191 ad K62 n) x7 x9 x10 x11 x12 x13 x14 x15 x16 x17 x18 x19 σ))))
     else
      f_L_law_234 ad K62 (f_L_law_191 ad K62 n) x7 x9 x10 x11 x12 x13 x14 x15 x16 x17 x18 x19 σ)
def f_L_law_186 (ad : Nat → Nat → Nat) (K62 : Int64 → Int32 → wx_St → Option (Int32 × wx_St)) (x7 : Int64) (x9 : Int32) (x10 : Int32) (x11 : Int32) (x12 : Int32) (x13 : Int32) (x14 : Int32) (x15 : Int32) (x16 : Int32) (x17 : Int32) (y0 : Int32) (σ : wx_St) : Option (Int32 × wx_St) :=
  f_L_law_191 ad K62 2000 x7 x9 x10 x11 x12 x13 x14 x15 x16 x17 y0 0 σ
def f_L_law_389 (ad : Nat → Nat → Nat)  (x7 : Int64) (x9 : Int32) (x10 : Int32) (x11 : Int32) (x12 : Int32) (x13 : Int32) (x14 : Int32) (x15 : Int32) (x16 : Int32) (x17 : Int32) (x18 : Int32) (x19 : Int32) (σ : wx_St) : Option (Int32 × wx_St) :=
  some (0, σ)
def f_L_law_425 (ad : Nat → Nat → Nat) (K62 : Int64 → Int32 → wx_St → Option (Int32 × wx_St)) (x7 : Int64) (x9 : Int32) (x10 : Int32) (x11 : Int32) (x12 : Int32) (x13 : Int32) (x14 : Int32) (x15 : Int32) (x16 : Int32) (x17 : Int32) (x18 : Int32) (x19 : Int32) (σ : wx_St) : Option (Int32 × wx_St) :=
  f_L_law_1246 ad K62 x7 x9 x10 x11 x12 x13 x14 x15 x16 σ
def f_L_law_391 (ad : Nat → Nat → Nat) (K62 : Int64 → Int32 → wx_St → Option (Int32 × wx_St)) (x7 : Int64) (x9 : Int32) (x10 : Int32) (x11 : Int32) (x12 : Int32) (x13 : Int32) (x14 : Int32) (x15 : Int32) (x16 : Int32) (x17 : Int32) (x18 : Int32) (x19 : Int32) (σ : wx_St) : Option (Int32 × wx_St) :=
  if x17 = x18 then
    f_L_law_425 ad K62 x7 x9 x10 x11 x12 x13 x14 x15 x16 x17 x18 x19 σ
   else
    wx_rI σ 16 4 8 x17 (fun v403 => wx_w (wx_sI σ 16 4 (Int32.toNatClampNeg x17) (v403 ^^^ (1 <<< (x18 &&& 31)))) 8 x17 (fun σ409 => wx_rI σ409 16 4 8 x18 (fun v415 => wx_w (wx_sI σ409 16 4 (Int32.toNatClampNeg x18) (v415 ^^^ (1 <<< (x17 &&& 31)))) 8 x18 (fun σ421 => f_L_law_425 ad K62 x7 x9 x10 x11 x12 x13 x14 x15 1 x17 x18 x19 σ421))))
def f_L_law_386 (ad : Nat → Nat → Nat) (K62 : Int64 → Int32 → wx_St → Option (Int32 × wx_St)) (x7 : Int64) (x9 : Int32) (x10 : Int32) (x11 : Int32) (x12 : Int32) (x13 : Int32) (x14 : Int32) (x15 : Int32) (x16 : Int32) (x17 : Int32) (x18 : Int32) (x19 : Int32) (y0 : Int32) (y1 : Int32) (σ : wx_St) : Option (Int32 × wx_St) :=
  if y0 = y1 then
    f_L_law_391 ad K62 x7 x9 x10 x11 x12 x13 x14 x15 x16 x17 x18 x19 σ
   else
    f_L_law_389 ad x7 x9 x10 x11 x12 x13 x14 x15 x16 x17 x18 x19 σ
def f_L_law_617 (ad : Nat → Nat → Nat) (K62 : Int64 → Int32 → wx_St → Option (Int32 × wx_St)) (x7 : Int64) (x9 : Int32) (x10 : Int32) (x11 : Int32) (x12 : Int32) (x13 : Int32) (x14 : Int32) (x15 : Int32) (x16 : Int32) (x17 : Int32) (x18 : Int32) (σ : wx_St) : Option (Int32 × wx_St) :=
  f_L_law_1246 ad K62 x7 x9 x10 x11 x12 x13 x14 x15 x16 σ
def f_L_law_570 (ad : Nat → Nat → Nat) (K62 : Int64 → Int32 → wx_St → Option (Int32 × wx_St)) (x7 : Int64) (x9 : Int32) (x10 : Int32) (x11 : Int32) (x12 : Int32) (x13 : Int32) (x14 : Int32) (x15 : Int32) (x16 : Int32) (x17 : Int32) (x18 : Int32) (y0 : Int32) (y1 : Int32) (σ : wx_St) : Option (Int32 × wx_St) :=
  if y0 = y1 then
    if x18 = 0 then
      f_L_law_617 ad K62 x7 x9 x10 x11 x12 x13 x14 x15 x16 x17 x18 σ
     else
      wx_rI σ 16 0 7 5 (fun v582 => if 3 ≤ v582 then
        f_L_law_617 ad K62 x7 x9 x10 x11 x12 x13 x14 x15 x16 x17 x18 σ
       else
        wx_rI σ 16 0 7 5 (fun v591 => wx_w (wx_sI σ 16 1 (Int32.toNatClampNeg (2 * v591)) x15) 6 (2 * v591) (fun σ595 => wx_rI σ595 16 0 7 5 (fun v600 => wx_w (wx_sI σ595 16 1 (Int32.toNatClampNeg ((2 * v600) + 1)) x17) 6 ((2 * v600) + 1) (fun σ606 => wx_rI σ606 16 0 7 5 (fun v610 => wx_w (wx_sI σ606 16 0 (Int32.toNatClampNeg 5) (v610 + 1)) 7 5 (fun σ613 => f_L_law_617 ad K62 x7 x9 x10 x11 x12 x13 x14 x15 1 x17 x18 σ613)))))))
   else
    some (0, σ)
def f_L_law_533 (ad : Nat → Nat → Nat) (K62 : Int64 → Int32 → wx_St → Option (Int32 × wx_St)) (x7 : Int64) (x9 : Int32) (x10 : Int32) (x11 : Int32) (x12 : Int32) (x13 : Int32) (x14 : Int32) (x15 : Int32) (x16 : Int32) (x17 : Int32) (y0 : Int32) (σ : wx_St) : Option (Int32 × wx_St) :=
  wx_b (f_X5_touch x13 x14 x17 σ) (fun v542 σ542 => if y0 = 0 then
    f_L_law_570 ad K62 x7 x9 x10 x11 x12 x13 x14 x15 x16 x17 y0 v542 (-5) σ542
   else
    wx_rI σ542 16 0 7 5 (fun v557 => if v557 = 3 then
      f_L_law_570 ad K62 x7 x9 x10 x11 x12 x13 x14 x15 x16 x17 y0 v542 (-4) σ542
     else
      wx_rI σ542 16 0 7 5 (fun v569 => f_L_law_570 ad K62 x7 x9 x10 x11 x12 x13 x14 x15 x16 x17 y0 v542 v569 σ542)))
def f_L_law_528 (ad : Nat → Nat → Nat) (K62 : Int64 → Int32 → wx_St → Option (Int32 × wx_St)) (x7 : Int64) (x9 : Int32) (x10 : Int32) (x11 : Int32) (x12 : Int32) (x13 : Int32) (x14 : Int32) (x15 : Int32) (x16 : Int32) (x17 : Int32) (σ : wx_St) : Option (Int32 × wx_St) :=
  f_L_law_533 ad K62 x7 x9 x10 x11 x12 x13 x14 x15 x16 x17 1 σ
def f_L_law_532 (ad : Nat → Nat → Nat) (K62 : Int64 → Int32 → wx_St → Option (Int32 × wx_St)) (x7 : Int64) (x9 : Int32) (x10 : Int32) (x11 : Int32) (x12 : Int32) (x13 : Int32) (x14 : Int32) (x15 : Int32) (x16 : Int32) (x17 : Int32) (σ : wx_St) : Option (Int32 × wx_St) :=
  f_L_law_533 ad K62 x7 x9 x10 x11 x12 x13 x14 x15 x16 x17 0 σ
def f_L_law_718 (ad : Nat → Nat → Nat) (K62 : Int64 → Int32 → wx_St → Option (Int32 × wx_St)) (x7 : Int64) (x9 : Int32) (x10 : Int32) (x11 : Int32) (x12 : Int32) (x13 : Int32) (x14 : Int32) (x15 : Int32) (x16 : Int32) (x17 : Int32) (x18 : Int32) (x19 : Int32) (y0 : Int32) (y1 : Int32) (σ : wx_St) : Option (Int32 × wx_St) :=
  if y0 = y1 then
    f_L_law_1246 ad K62 x7 x9 x10 x11 x12 x13 x14 x15 x18 σ
   else
    some (0, σ)
def f_L_law_698 (ad : Nat → Nat → Nat) (K62 : Int64 → Int32 → wx_St → Option (Int32 × wx_St)) (x7 : Int64) (x9 : Int32) (x10 : Int32) (x11 : Int32) (x12 : Int32) (x13 : Int32) (x14 : Int32) (x15 : Int32) (x16 : Int32) (x17 : Int32) (x18 : Int32) (x19 : Int32) (y1 : Int32) (y2 : Int32) (y3 : Int32) (σ : wx_St) : Option (Int32 × wx_St) :=
  wx_w (wx_sI σ 16 0 (Int32.toNatClampNeg y1) (y2 - y3)) 7 y1 (fun σ699 => wx_b (f_X5_mend x17 σ699) (fun v703 σ703 => if x18 = 0 then
    f_L_law_718 ad K62 x7 x9 x10 x11 x12 x13 x14 x15 x16 x17 x18 x19 v703 (-1) σ703
   else
    wx_rI σ703 16 0 7 5 (fun v713 => f_L_law_718 ad K62 x7 x9 x10 x11 x12 x13 x14 x15 x16 x17 x18 x19 v703 v713 σ703)))
def f_L_law_656 (ad : Nat → Nat → Nat) (K62 : Int64 → Int32 → wx_St → Option (Int32 × wx_St)) : Nat → Int64 → Int32 → Int32 → Int32 → Int32 → Int32 → Int32 → Int32 → Int32 → Int32 → Int32 → Int32 → wx_St → Option (Int32 × wx_St)
  | 0, _, _, _, _, _, _, _, _, _, _, _, _, _ => none
  | n + 1, x7, x9, x10, x11, x12, x13, x14, x15, x16, x17, x18, x19, σ =>
  wx_rI σ 16 0 7 5 (fun v661 => if ((2 * v661) - 2) ≤ x19 then
    wx_rI σ 16 0 7 5 (fun v687 => if x18 = 0 then
      f_L_law_698 ad K62 x7 x9 x10 x11 x12 x13 x14 x15 x16 x17 x18 x19 5 v687 0 σ
     else
      f_L_law_698 ad K62 x7 x9 x10 x11 x12 x13 x14 x15 x16 x17 x18 x19 5 v687 1 σ)
   else
    wx_rI σ 16 1 6 (x19 + 2) (fun v676 => wx_w (wx_sI σ 16 1 (Int32.toNatClampNeg x19) v676) 6 x19 (fun σ677 => (f_L_law_656 ad K62 n) x7 x9 x10 x11 x12 x13 x14 x15 x16 x17 x18 (x19 + 1) σ677)))
def f_L_law_648 (ad : Nat → Nat → Nat) (K62 : Int64 → Int32 → wx_St → Option (Int32 × wx_St)) (x7 : Int64) (x9 : Int32) (x10 : Int32) (x11 : Int32) (x12 : Int32) (x13 : Int32) (x14 : Int32) (x15 : Int32) (x16 : Int32) (x17 : Int32) (y0 : Int32) (σ : wx_St) : Option (Int32 × wx_St) :=
  f_L_law_656 ad K62 2000 x7 x9 x10 x11 x12 x13 x14 x15 x16 x17 y0 (2 * x17) σ
def f_L_law_808 (ad : Nat → Nat → Nat) (K62 : Int64 → Int32 → wx_St → Option (Int32 × wx_St)) (x7 : Int64) (x9 : Int32) (x10 : Int32) (x11 : Int32) (x12 : Int32) (x13 : Int32) (x14 : Int32) (x15 : Int32) (x16 : Int32) (x17 : Int32) (x18 : Int32) (y1 : Int32) (y2 : Int32) (y3 : Int32) (σ : wx_St) : Option (Int32 × wx_St) :=
  wx_w (wx_sI σ 16 0 (Int32.toNatClampNeg y1) (y2 + y3)) 7 y1 (fun σ809 => f_L_law_1246 ad K62 x7 x9 x10 x11 x12 x13 x14 x15 x16 σ809)
def f_L_law_788 (ad : Nat → Nat → Nat) (K62 : Int64 → Int32 → wx_St → Option (Int32 × wx_St)) (x7 : Int64) (x9 : Int32) (x10 : Int32) (x11 : Int32) (x12 : Int32) (x13 : Int32) (x14 : Int32) (x15 : Int32) (x16 : Int32) (x17 : Int32) (x18 : Int32) (y0 : Int32) (y1 : Int32) (σ : wx_St) : Option (Int32 × wx_St) :=
  if y0 = y1 then
    wx_rI σ 16 0 7 4 (fun v796 => if x18 = 0 then
      f_L_law_808 ad K62 x7 x9 x10 x11 x12 x13 x14 x15 x16 x17 x18 4 v796 0 σ
     else
      f_L_law_808 ad K62 x7 x9 x10 x11 x12 x13 x14 x15 x16 x17 x18 4 v796 x17 σ)
   else
    some (0, σ)
def f_L_law_764 (ad : Nat → Nat → Nat) (K62 : Int64 → Int32 → wx_St → Option (Int32 × wx_St)) (x7 : Int64) (x9 : Int32) (x10 : Int32) (x11 : Int32) (x12 : Int32) (x13 : Int32) (x14 : Int32) (x15 : Int32) (x16 : Int32) (x17 : Int32) (y0 : Int32) (σ : wx_St) : Option (Int32 × wx_St) :=
  wx_b (f_X5_warm x17 σ) (fun v769 σ769 => if y0 = 0 then
    f_L_law_788 ad K62 x7 x9 x10 x11 x12 x13 x14 x15 x16 x17 y0 v769 (-5) σ769
   else
    wx_rI σ769 16 0 7 4 (fun v779 => f_L_law_788 ad K62 x7 x9 x10 x11 x12 x13 x14 x15 x16 x17 y0 v769 (v779 + x17) σ769))
def f_L_law_1051 (ad : Nat → Nat → Nat) (K62 : Int64 → Int32 → wx_St → Option (Int32 × wx_St)) (K918 : Int64 → Int32 → Int32 → Int32 → Int32 → Int32 → Int32 → Int32 → Int32 → Int32 → Int32 → wx_St → Option (Int32 × wx_St)) (x7 : Int64) (x9 : Int32) (x10 : Int32) (x11 : Int32) (x12 : Int32) (x13 : Int32) (x14 : Int32) (x15 : Int32) (x16 : Int32) (x17 : Int32) (x18 : Int32) (σ : wx_St) : Option (Int32 × wx_St) :=
  K918 x7 x9 x10 x11 x12 x13 x14 x15 x16 x17 (x18 + 1) σ
def f_L_law_993 (ad : Nat → Nat → Nat) (K62 : Int64 → Int32 → wx_St → Option (Int32 × wx_St)) (K918 : Int64 → Int32 → Int32 → Int32 → Int32 → Int32 → Int32 → Int32 → Int32 → Int32 → Int32 → wx_St → Option (Int32 × wx_St)) (x7 : Int64) (x9 : Int32) (x10 : Int32) (x11 : Int32) (x12 : Int32) (x13 : Int32) (x14 : Int32) (x15 : Int32) (x16 : Int32) (x17 : Int32) (x18 : Int32) (x19 : Int32) (σ : wx_St) : Option (Int32 × wx_St) :=
  wx_o (f_L_live σ) (fun v999 => if v999 = 1 then
    wx_o (f_L_touch x18 σ) (fun v1013 => if v1013 < 0 then
      f_L_law_1051 ad K62 K918 x7 x9 x10 x11 x12 x13 x14 x15 x16 x17 x18 σ
     else
      wx_rI σ 16 3 64 x18 (fun v1027 => wx_rI σ 16 1 6 ((2 * v1013) + 1) (fun v1035 => wx_o (f_L_fed v1027 v1035 σ) (fun v1038 => if v1038 = 0 then
        f_L_law_1051 ad K62 K918 x7 x9 x10 x11 x12 x13 x14 x15 x16 x17 x18 σ
       else
        if x19 = 0 then
          f_L_law_1051 ad K62 K918 x7 x9 x10 x11 x12 x13 x14 x15 x16 x17 x18 σ
         else
          some (0, σ)))))
   else
    f_L_law_1051 ad K62 K918 x7 x9 x10 x11 x12 x13 x14 x15 x16 x17 x18 σ)
def f_L_law_980 (ad : Nat → Nat → Nat) (K62 : Int64 → Int32 → wx_St → Option (Int32 × wx_St)) (K918 : Int64 → Int32 → Int32 → Int32 → Int32 → Int32 → Int32 → Int32 → Int32 → Int32 → Int32 → wx_St → Option (Int32 × wx_St)) (x7 : Int64) (x9 : Int32) (x10 : Int32) (x11 : Int32) (x12 : Int32) (x13 : Int32) (x14 : Int32) (x15 : Int32) (x16 : Int32) (x17 : Int32) (x18 : Int32) (x19 : Int32) (σ : wx_St) : Option (Int32 × wx_St) :=
  f_L_law_993 ad K62 K918 (x7 &&& (((1 : Int64) <<< (x18.toInt64 &&& 63)) ^^^ (-1 : Int64))) x9 x10 x11 x12 x13 x14 x15 x16 x17 x18 x19 σ
def f_L_law_958 (ad : Nat → Nat → Nat) (K62 : Int64 → Int32 → wx_St → Option (Int32 × wx_St)) (K918 : Int64 → Int32 → Int32 → Int32 → Int32 → Int32 → Int32 → Int32 → Int32 → Int32 → Int32 → wx_St → Option (Int32 × wx_St)) (x7 : Int64) (x9 : Int32) (x10 : Int32) (x11 : Int32) (x12 : Int32) (x13 : Int32) (x14 : Int32) (x15 : Int32) (x16 : Int32) (x17 : Int32) (x18 : Int32) (y0 : Int32) (σ : wx_St) : Option (Int32 × wx_St) :=
  wx_rI σ 16 0 7 3 (fun v967 => if v967 < (y0 - x17) then
    f_L_law_980 ad K62 K918 x7 x9 x10 x11 x12 x13 x14 x15 x16 x17 x18 (y0 - x17) σ
   else
    wx_rI σ 16 0 7 3 (fun v976 => if (-(y0 - x17)) ≤ v976 then
      f_L_law_993 ad K62 K918 x7 x9 x10 x11 x12 x13 x14 x15 x16 x17 x18 (y0 - x17) σ
     else
      f_L_law_980 ad K62 K918 x7 x9 x10 x11 x12 x13 x14 x15 x16 x17 x18 (y0 - x17) σ))
def f_L_law_1057 (ad : Nat → Nat → Nat) (K62 : Int64 → Int32 → wx_St → Option (Int32 × wx_St)) (x7 : Int64) (x9 : Int32) (x10 : Int32) (x11 : Int32) (x12 : Int32) (x13 : Int32) (x14 : Int32) (x15 : Int32) (x16 : Int32) (x17 : Int32) (σ : wx_St) : Option (Int32 × wx_St) :=
  f_L_law_1246 ad K62 x7 x9 x10 x11 x12 x13 x14 x15 x16 σ
def f_L_law_918 (ad : Nat → Nat → Nat) (K62 : Int64 → Int32 → wx_St → Option (Int32 × wx_St)) : Nat → Int64 → Int32 → Int32 → Int32 → Int32 → Int32 → Int32 → Int32 → Int32 → Int32 → Int32 → wx_St → Option (Int32 × wx_St)
  | 0, _, _, _, _, _, _, _, _, _, _, _, _ => none
  | n + 1, x7, x9, x10, x11, x12, x13, x14, x15, x16, x17, x18, σ =>
  if 64 ≤ x18 then
    f_L_law_1057 ad K62 x7 x9 x10 x11 x12 x13 x14 x15 x16 x17 σ
   else
    wx_o (f_L_suspect x18 σ) (fun v931 => if v931 = 0 then
      f_L_law_1051 ad K62 (f_L_law_918 ad K62 n) x7 x9 x10 x11 x12 x13 x14 x15 x16 x17 x18 σ
     else
      wx_b (f_X5_wouldRead x13 x14 (x18 / 8) (x18 - x18 / 8 * 8) σ) (fun v955 σ955 => f_L_law_958 ad K62 (f_L_law_918 ad K62 n) x7 x9 x10 x11 x12 x13 x14 x15 x16 x17 x18 v955 σ955))
def f_L_law_855 (ad : Nat → Nat → Nat) (K62 : Int64 → Int32 → wx_St → Option (Int32 × wx_St)) (x7 : Int64) (x9 : Int32) (x10 : Int32) (x11 : Int32) (x12 : Int32) (x13 : Int32) (x14 : Int32) (x15 : Int32) (x16 : Int32) (x17 : Int32) (y0 : Int32) (y1 : Int32) (σ : wx_St) : Option (Int32 × wx_St) :=
  if y0 = y1 then
    wx_rI σ 16 0 7 6 (fun v863 => if 8 ≤ v863 then
      f_L_law_1057 ad K62 x7 x9 x10 x11 x12 x13 x14 x15 x16 x17 σ
     else
      wx_rI σ 16 0 7 6 (fun v875 => wx_w (wx_sI σ 16 2 (Int32.toNatClampNeg (3 * v875)) x15) 24 (3 * v875) (fun σ879 => wx_rI σ879 16 0 7 6 (fun v886 => wx_w (wx_sI σ879 16 2 (Int32.toNatClampNeg ((3 * v886) + 1)) x17) 24 ((3 * v886) + 1) (fun σ892 => wx_rI σ892 16 0 7 6 (fun v899 => wx_rI σ892 16 0 7 4 (fun v905 => wx_w (wx_sI σ892 16 2 (Int32.toNatClampNeg ((3 * v899) + 2)) v905) 24 ((3 * v899) + 2) (fun σ906 => wx_rI σ906 16 0 7 6 (fun v911 => wx_w (wx_sI σ906 16 0 (Int32.toNatClampNeg 6) (v911 + 1)) 7 6 (fun σ914 => f_L_law_918 ad K62 2000 x7 x9 x10 x11 x12 x13 x14 x15 x16 x17 0 σ914))))))))))
   else
    some (0, σ)
def f_L_law_829 (ad : Nat → Nat → Nat) (K62 : Int64 → Int32 → wx_St → Option (Int32 × wx_St)) (x7 : Int64) (x9 : Int32) (x10 : Int32) (x11 : Int32) (x12 : Int32) (x13 : Int32) (x14 : Int32) (x15 : Int32) (x16 : Int32) (y0 : Int32) (σ : wx_St) : Option (Int32 × wx_St) :=
  wx_b (f_X5_probe x13 x14 σ) (fun v836 σ836 => wx_rI σ836 16 0 7 6 (fun v842 => if v842 = 8 then
    f_L_law_855 ad K62 x7 x9 x10 x11 x12 x13 x14 x15 x16 y0 v836 (-4) σ836
   else
    f_L_law_855 ad K62 x7 x9 x10 x11 x12 x13 x14 x15 x16 y0 v836 y0 σ836))
def f_L_law_1228 (ad : Nat → Nat → Nat) (K62 : Int64 → Int32 → wx_St → Option (Int32 × wx_St)) (x7 : Int64) (x9 : Int32) (x10 : Int32) (x11 : Int32) (x12 : Int32) (x13 : Int32) (x14 : Int32) (x15 : Int32) (x16 : Int32) (x17 : Int32) (x18 : Int32) (σ : wx_St) : Option (Int32 × wx_St) :=
  f_L_law_1246 ad K62 x7 x9 x10 x11 x12 x13 x14 x15 x16 σ
def f_L_law_1205 (ad : Nat → Nat → Nat) (K62 : Int64 → Int32 → wx_St → Option (Int32 × wx_St)) (x7 : Int64) (x9 : Int32) (x10 : Int32) (x11 : Int32) (x12 : Int32) (x13 : Int32) (x14 : Int32) (x15 : Int32) (x16 : Int32) (x17 : Int32) (x18 : Int32) (y0 : Int32) (σ : wx_St) : Option (Int32 × wx_St) :=
  if x17 = 3 then
    wx_b (f_X5_cool σ) (fun v1214 σ1214 => wx_rI σ1214 16 0 7 4 (fun v1219 => if v1214 = v1219 then
      f_L_law_1228 ad K62 x7 x9 x10 x11 x12 x13 x14 x15 1 x17 x18 σ1214
     else
      some (0, σ1214)))
   else
    f_L_law_1228 ad K62 x7 x9 x10 x11 x12 x13 x14 x15 y0 x17 x18 σ
def f_L_law_1169 (ad : Nat → Nat → Nat) (K62 : Int64 → Int32 → wx_St → Option (Int32 × wx_St)) (x7 : Int64) (x9 : Int32) (x10 : Int32) (x11 : Int32) (x12 : Int32) (x13 : Int32) (x14 : Int32) (x15 : Int32) (x16 : Int32) (x17 : Int32) (y0 : Int32) (σ : wx_St) : Option (Int32 × wx_St) :=
  wx_b (f_X5_set x17 y0 σ) (fun v1176 σ1176 => wx_rI σ1176 16 0 7 x17 (fun v1182 => if v1176 = v1182 then
    wx_w (wx_sI σ1176 16 0 (Int32.toNatClampNeg x17) y0) 7 x17 (fun σ1193 => if 3 ≤ x17 then
      f_L_law_1205 ad K62 x7 x9 x10 x11 x12 x13 x14 x15 x16 x17 y0 0 σ1193
     else
      f_L_law_1205 ad K62 x7 x9 x10 x11 x12 x13 x14 x15 x16 x17 y0 1 σ1193)
   else
    some (0, σ1176)))
def f_L_law_121 (ad : Nat → Nat → Nat) (K62 : Int64 → Int32 → wx_St → Option (Int32 × wx_St)) (x7 : Int64) (x9 : Int32) (x10 : Int32) (x11 : Int32) (y0 : Int32) (σ : wx_St) : Option (Int32 × wx_St) :=
  wx_o (f_L_low x11 5) (fun v126 => wx_o (f_L_low (x11 >>> (4 &&& 31)) 5) (fun v136 => if 3 ≤ y0 then
    if 5 ≤ y0 then
      if 7 ≤ y0 then
        if y0 = 7 then
          wx_o (f_L_low x11 3) (fun v630 => wx_rI σ 16 0 7 5 (fun v639 => if v639 ≤ v630 then
            f_L_law_648 ad K62 x7 x9 x10 x11 y0 v126 v136 ((8 * v126) + v136) 0 v630 0 σ
           else
            f_L_law_648 ad K62 x7 x9 x10 x11 y0 v126 v136 ((8 * v126) + v136) 0 v630 1 σ))
         else
          if 10 ≤ y0 then
            if 13 ≤ y0 then
              if y0 = 13 then
                wx_o (f_L_low x11 4) (fun v1070 => if v1070 = 0 then
                  wx_o (f_L_low (x11 >>> (3 &&& 31)) 3) (fun v1085 => if v1085 = 0 then
                    f_L_law_1169 ad K62 x7 x9 x10 x11 y0 v126 v136 ((8 * v126) + v136) 0 v1070 0 σ
                   else
                    wx_o (f_L_low (x11 >>> (5 &&& 31)) 25) (fun v1101 => f_L_law_1169 ad K62 x7 x9 x10 x11 y0 v126 v136 ((8 * v126) + v136) 0 v1070 v1101 σ))
                 else
                  if v1070 = 1 then
                    wx_o (f_L_low (x11 >>> (3 &&& 31)) 3) (fun v1118 => if v1118 = 0 then
                      f_L_law_1169 ad K62 x7 x9 x10 x11 y0 v126 v136 ((8 * v126) + v136) 0 v1070 0 σ
                     else
                      wx_o (f_L_low (x11 >>> (5 &&& 31)) 51) (fun v1134 => f_L_law_1169 ad K62 x7 x9 x10 x11 y0 v126 v136 ((8 * v126) + v136) 0 v1070 v1134 σ))
                   else
                    if v1070 = 2 then
                      wx_o (f_L_low (x11 >>> (5 &&& 31)) 99) (fun v1153 => f_L_law_1169 ad K62 x7 x9 x10 x11 y0 v126 v136 ((8 * v126) + v136) 0 v1070 (1 + v1153) σ)
                     else
                      wx_o (f_L_low (x11 >>> (5 &&& 31)) 20) (fun v1166 => f_L_law_1169 ad K62 x7 x9 x10 x11 y0 v126 v136 ((8 * v126) + v136) 0 v1070 v1166 σ))
               else
                wx_b (f_X5_cool σ) (fun v1232 σ1232 => wx_rI σ1232 16 0 7 4 (fun v1237 => if v1232 = v1237 then
                  f_L_law_1246 ad K62 x7 x9 x10 x11 y0 v126 v136 ((8 * v126) + v136) 1 σ1232
                 else
                  some (0, σ1232)))
             else
              wx_b (f_X5_at v126 v136 2 σ) (fun v826 σ826 => f_L_law_829 ad K62 x7 x9 x10 x11 y0 v126 v136 ((8 * v126) + v136) 0 v826 σ826)
           else
            wx_o (f_L_low x11 12) (fun v742 => wx_rI σ 16 0 7 4 (fun v750 => if 100 < (v750 + (1 + v742)) then
              f_L_law_764 ad K62 x7 x9 x10 x11 y0 v126 v136 ((8 * v126) + v136) 0 (1 + v742) 0 σ
             else
              f_L_law_764 ad K62 x7 x9 x10 x11 y0 v126 v136 ((8 * v126) + v136) 0 (1 + v742) 1 σ))
       else
        wx_o (f_L_low (x11 >>> (9 &&& 31)) 4) (fun v442 => wx_rI σ 16 3 64 ((8 * v126) + v136) (fun v452 => if v452 ≤ 0 then
          f_L_law_532 ad K62 x7 x9 x10 x11 y0 v126 v136 ((8 * v126) + v136) 0 (1 + v442) σ
         else
          wx_rI σ 16 3 64 ((8 * v126) + v136) (fun v460 => if v460 = (1 + v442) then
            f_L_law_532 ad K62 x7 x9 x10 x11 y0 v126 v136 ((8 * v126) + v136) 0 (1 + v442) σ
           else
            wx_o (f_L_touch ((8 * v126) + v136) σ) (fun v470 => if 0 ≤ v470 then
              f_L_law_532 ad K62 x7 x9 x10 x11 y0 v126 v136 ((8 * v126) + v136) 0 (1 + v442) σ
             else
              wx_o (f_L_beside ((8 * v126) + v136) 0 σ) (fun v481 => if v481 = (1 + v442) then
                f_L_law_528 ad K62 x7 x9 x10 x11 y0 v126 v136 ((8 * v126) + v136) 0 (1 + v442) σ
               else
                wx_o (f_L_beside ((8 * v126) + v136) 1 σ) (fun v494 => if v494 = (1 + v442) then
                  f_L_law_528 ad K62 x7 x9 x10 x11 y0 v126 v136 ((8 * v126) + v136) 0 (1 + v442) σ
                 else
                  wx_o (f_L_beside ((8 * v126) + v136) 2 σ) (fun v507 => if v507 = (1 + v442) then
                    f_L_law_528 ad K62 x7 x9 x10 x11 y0 v126 v136 ((8 * v126) + v136) 0 (1 + v442) σ
                   else
                    wx_o (f_L_beside ((8 * v126) + v136) 3 σ) (fun v520 => if v520 = (1 + v442) then
                      f_L_law_528 ad K62 x7 x9 x10 x11 y0 v126 v136 ((8 * v126) + v136) 0 (1 + v442) σ
                     else
                      f_L_law_532 ad K62 x7 x9 x10 x11 y0 v126 v136 ((8 * v126) + v136) 0 (1 + v442) σ))))))))
     else
      wx_o (f_L_low x11 4) (fun v322 => wx_o (f_L_low (x11 >>> (5 &&& 31)) 4) (fun v334 => wx_b (f_X5_feed (1 + v322) (1 + v334) σ) (fun v345 σ345 => if (1 + v322) = (1 + v334) then
        if v345 = (-2) then
          f_L_law_391 ad K62 x7 x9 x10 x11 y0 v126 v136 ((8 * v126) + v136) 0 (1 + v322) (1 + v334) v345 σ345
         else
          f_L_law_389 ad x7 x9 x10 x11 y0 v126 v136 ((8 * v126) + v136) 0 (1 + v322) (1 + v334) v345 σ345
       else
        wx_o (f_L_fed (1 + v322) (1 + v334) σ345) (fun v375 => if v375 = 0 then
          f_L_law_386 ad K62 x7 x9 x10 x11 y0 v126 v136 ((8 * v126) + v136) 0 (1 + v322) (1 + v334) v345 v345 1 σ345
         else
          f_L_law_386 ad K62 x7 x9 x10 x11 y0 v126 v136 ((8 * v126) + v136) 0 (1 + v322) (1 + v334) v345 v345 0 σ345))))
   else
    wx_o (f_L_low (x11 >>> (8 &&& 31)) 5) (fun v166 => wx_o (f_L_touch ((8 * v126) + v136) σ) (fun v175 => if v175 < 0 then
      f_L_law_186 ad K62 x7 x9 x10 x11 y0 v126 v136 ((8 * v126) + v136) 0 v166 0 σ
     else
      f_L_law_186 ad K62 x7 x9 x10 x11 y0 v126 v136 ((8 * v126) + v136) 0 v166 1 σ))))
def f_L_law_62 (ad : Nat → Nat → Nat)  : Nat → Int64 → Int32 → wx_St → Option (Int32 × wx_St)
  | 0, _, _, _ => none
  | n + 1, x7, x9, σ =>
  if 34 ≤ x9 then
    some (1, σ)
   else
    wx_o (f_L_cell ad (2 * x9)) (fun v74 => wx_o (f_L_cell ad ((2 * x9) + 1)) (fun v86 => if 8 ≤ x9 then
      wx_o (f_L_low v74 15) (fun v118 => f_L_law_121 ad (f_L_law_62 ad n) x7 x9 v74 v86 v118 σ)
     else
      if (x9 - x9 / 4 * 4) = 3 then
        f_L_law_121 ad (f_L_law_62 ad n) x7 x9 v74 v86 3 σ
       else
        f_L_law_121 ad (f_L_law_62 ad n) x7 x9 v74 v86 0 σ))
variable {p : Program} {l : Launch} {e : Env} {s : State} {m : MethodId} {args : Array Value} {below : List Frame} {meth : Method} {c : Code} {D : va_G} {ad : Nat → Nat → Nat} {rd : Nat → Nat} {ca : Nat → ClassId} {A : Nat → Prop}
variable {b : Nat}
theorem k_L_law_w0 : Cond.constantLong RL 59 (-1) ∈ wsL_law := by decide +kernel
set_option maxRecDepth 20000 in
set_option maxHeartbeats 4000000 in
theorem m_L_law_239   {σ' : wx_St} {K62 : Int64 → Int32 → wx_St → Option (Int32 × wx_St)} (mK62 : ∀ {x7 : Int64} {x9 : Int32} {σ : wx_St}, K62 x7 x9 σ = some ((1 : Int32), σ') → wx_n σ.2.2.2.2 ≤ wx_n σ'.2.2.2.2) {K191 : Int64 → Int32 → Int32 → Int32 → Int32 → Int32 → Int32 → Int32 → Int32 → Int32 → Int32 → Int32 → wx_St → Option (Int32 × wx_St)} (mK191 : ∀ {x7 : Int64} {x9 : Int32} {x10 : Int32} {x11 : Int32} {x12 : Int32} {x13 : Int32} {x14 : Int32} {x15 : Int32} {x16 : Int32} {x17 : Int32} {x18 : Int32} {x19 : Int32} {σ : wx_St}, K191 x7 x9 x10 x11 x12 x13 x14 x15 x16 x17 x18 x19 σ = some ((1 : Int32), σ') → wx_n σ.2.2.2.2 ≤ wx_n σ'.2.2.2.2) {x7 : Int64} {x9 : Int32} {x10 : Int32} {x11 : Int32} {x12 : Int32} {x13 : Int32} {x14 : Int32} {x15 : Int32} {x16 : Int32} {x17 : Int32} {x18 : Int32} {x19 : Int32} {y0 : Int32} {σ : wx_St} (h : f_L_law_239 ad K62 K191 x7 x9 x10 x11 x12 x13 x14 x15 x16 x17 x18 x19 y0 σ = some ((1 : Int32), σ')) : wx_n σ.2.2.2.2 ≤ wx_n σ'.2.2.2.2 := by
  unfold f_L_law_239 at h
  exact mK191 h
set_option maxRecDepth 20000 in
set_option maxHeartbeats 4000000 in
theorem b_L_law_239 (B : wx_B p s m #[Value.ref b] meth c cL_law 21 (some .boolean) wsL_law RL D ad ca (fun q : Nat => s.heap.size ≤ q))     {σ' : wx_St} {K62 : Int64 → Int32 → wx_St → Option (Int32 × wx_St)} (hK62 : ∀ {x7 : Int64} {x9 : Int32} {σ : wx_St} {k : Nat} (hk : k + wx_n σ'.2.2.2.2 ≤ 1000 + wx_n σ.2.2.2.2)  (h : K62 x7 x9 σ = some ((1 : Int32), σ')) {rd : Nat → Nat} {H : Heap} {locs : List Loc} (Z : wx_Z D ad rd ca (fun q : Nat => s.heap.size ≤ q) σ H) (hS : va_S (fun q : Nat => s.heap.size ≤ q) s.heap H locs) {ls : Array Slot} (hl : lv_has ls 21 [(0, .ref (ad 18 0)), (1, .ref (ad 11 99)), (2, .ref (ad 16 0)), (3, .ref (ad 16 1)), (4, .ref (ad 16 2)), (5, .ref (ad 16 3)), (6, .ref (ad 16 4)), (7, .long x7), (9, .int x9)]), W p l e room_1 s m #[Value.ref b] below meth c H locs k (6464 * k) (lw_Z below #[Value.ref b] s) (F0 m 62 ls [])) (mK62 : ∀ {x7 : Int64} {x9 : Int32} {σ : wx_St}, K62 x7 x9 σ = some ((1 : Int32), σ') → wx_n σ.2.2.2.2 ≤ wx_n σ'.2.2.2.2) {K191 : Int64 → Int32 → Int32 → Int32 → Int32 → Int32 → Int32 → Int32 → Int32 → Int32 → Int32 → Int32 → wx_St → Option (Int32 × wx_St)} (hK191 : ∀ {x7 : Int64} {x9 : Int32} {x10 : Int32} {x11 : Int32} {x12 : Int32} {x13 : Int32} {x14 : Int32} {x15 : Int32} {x16 : Int32} {x17 : Int32} {x18 : Int32} {x19 : Int32} {σ : wx_St} {k : Nat} (hk : k + wx_n σ'.2.2.2.2 ≤ 1000 + wx_n σ.2.2.2.2)  (h : K191 x7 x9 x10 x11 x12 x13 x14 x15 x16 x17 x18 x19 σ = some ((1 : Int32), σ')) {rd : Nat → Nat} {H : Heap} {locs : List Loc} (Z : wx_Z D ad rd ca (fun q : Nat => s.heap.size ≤ q) σ H) (hS : va_S (fun q : Nat => s.heap.size ≤ q) s.heap H locs) {ls : Array Slot} (hl : lv_has ls 21 [(0, .ref (ad 18 0)), (1, .ref (ad 11 99)), (2, .ref (ad 16 0)), (3, .ref (ad 16 1)), (4, .ref (ad 16 2)), (5, .ref (ad 16 3)), (6, .ref (ad 16 4)), (7, .long x7), (9, .int x9), (10, .int x10), (11, .int x11), (12, .int x12), (13, .int x13), (14, .int x14), (15, .int x15), (16, .int x16), (17, .int x17), (18, .int x18), (19, .int x19)]), W p l e room_1 s m #[Value.ref b] below meth c H locs k (6464 * k) (lw_Z below #[Value.ref b] s) (F0 m 191 ls [])) (mK191 : ∀ {x7 : Int64} {x9 : Int32} {x10 : Int32} {x11 : Int32} {x12 : Int32} {x13 : Int32} {x14 : Int32} {x15 : Int32} {x16 : Int32} {x17 : Int32} {x18 : Int32} {x19 : Int32} {σ : wx_St}, K191 x7 x9 x10 x11 x12 x13 x14 x15 x16 x17 x18 x19 σ = some ((1 : Int32), σ') → wx_n σ.2.2.2.2 ≤ wx_n σ'.2.2.2.2) {x7 : Int64} {x9 : Int32} {x10 : Int32} {x11 : Int32} {x12 : Int32} {x13 : Int32} {x14 : Int32} {x15 : Int32} {x16 : Int32} {x17 : Int32} {x18 : Int32} {x19 : Int32} {y0 : Int32} {σ : wx_St} {k : Nat} (hk : k + wx_n σ'.2.2.2.2 ≤ 1000 + wx_n σ.2.2.2.2)  (h : f_L_law_239 ad K62 K191 x7 x9 x10 x11 x12 x13 x14 x15 x16 x17 x18 x19 y0 σ = some ((1 : Int32), σ')) {rd : Nat → Nat} {H : Heap} {locs : List Loc} (Z : wx_Z D ad rd ca (fun q : Nat => s.heap.size ≤ q) σ H) (hS : va_S (fun q : Nat => s.heap.size ≤ q) s.heap H locs) {ls : Array Slot} (hl : lv_has ls 21 [(0, .ref (ad 18 0)), (1, .ref (ad 11 99)), (2, .ref (ad 16 0)), (3, .ref (ad 16 1)), (4, .ref (ad 16 2)), (5, .ref (ad 16 3)), (6, .ref (ad 16 4)), (7, .long x7), (9, .int x9), (10, .int x10), (11, .int x11), (12, .int x12), (13, .int x13), (14, .int x14), (15, .int x15), (16, .int x16), (17, .int x17), (18, .int x18), (19, .int x19)]) : W p l e room_1 s m #[Value.ref b] below meth c H locs k (6464 * k) (lw_Z below #[Value.ref b] s) (F0 m 239 ls [.int y0]) := by
  obtain ⟨hx, hb, hml, hr, hts, hown, hlk, hC, hA⟩ := id B
  have hm := m_L_law_239 (K62 := K62) @mK62 (K191 := K191) @mK191 h
  unfold f_L_law_239 at h
  refine lv_istore (lv' := [(18, .int y0), (0, .ref (ad 18 0)), (1, .ref (ad 11 99)), (2, .ref (ad 16 0)), (3, .ref (ad 16 1)), (4, .ref (ad 16 2)), (5, .ref (ad 16 3)), (6, .ref (ad 16 4)), (7, .long x7), (9, .int x9), (10, .int x10), (11, .int x11), (12, .int x12), (13, .int x13), (14, .int x14), (15, .int x15), (16, .int x16), (17, .int x17), (19, .int x19)]) hx hb dL_law_239 hl (by decide) rfl (fun ls hl => ?_)
  refine lv_iinc (v := x19 + 1) (lv' := [(19, .int (x19 + 1)), (18, .int y0), (0, .ref (ad 18 0)), (1, .ref (ad 11 99)), (2, .ref (ad 16 0)), (3, .ref (ad 16 1)), (4, .ref (ad 16 2)), (5, .ref (ad 16 3)), (6, .ref (ad 16 4)), (7, .long x7), (9, .int x9), (10, .int x10), (11, .int x11), (12, .int x12), (13, .int x13), (14, .int x14), (15, .int x15), (16, .int x16), (17, .int x17)]) hx hb dL_law_241 hl (k := 18) rfl rfl (by decide) rfl (fun ls hl => ?_)
  refine lv_goto (tgt := 191) hx hb dL_law_244 (by decide) ?_
  exact hK191 (k := k) hk h Z hS (lv_sub hl [2, 3, 4, 5, 6, 7, 8, 9, 10, 11, 12, 13, 14, 15, 16, 17, 18, 1, 0] rfl)
set_option maxRecDepth 20000 in
set_option maxHeartbeats 4000000 in
theorem m_L_law_234   {σ' : wx_St} {K62 : Int64 → Int32 → wx_St → Option (Int32 × wx_St)} (mK62 : ∀ {x7 : Int64} {x9 : Int32} {σ : wx_St}, K62 x7 x9 σ = some ((1 : Int32), σ') → wx_n σ.2.2.2.2 ≤ wx_n σ'.2.2.2.2) {K191 : Int64 → Int32 → Int32 → Int32 → Int32 → Int32 → Int32 → Int32 → Int32 → Int32 → Int32 → Int32 → wx_St → Option (Int32 × wx_St)} (mK191 : ∀ {x7 : Int64} {x9 : Int32} {x10 : Int32} {x11 : Int32} {x12 : Int32} {x13 : Int32} {x14 : Int32} {x15 : Int32} {x16 : Int32} {x17 : Int32} {x18 : Int32} {x19 : Int32} {σ : wx_St}, K191 x7 x9 x10 x11 x12 x13 x14 x15 x16 x17 x18 x19 σ = some ((1 : Int32), σ') → wx_n σ.2.2.2.2 ≤ wx_n σ'.2.2.2.2) {x7 : Int64} {x9 : Int32} {x10 : Int32} {x11 : Int32} {x12 : Int32} {x13 : Int32} {x14 : Int32} {x15 : Int32} {x16 : Int32} {x17 : Int32} {x18 : Int32} {x19 : Int32} {σ : wx_St} (h : f_L_law_234 ad K62 K191 x7 x9 x10 x11 x12 x13 x14 x15 x16 x17 x18 x19 σ = some ((1 : Int32), σ')) : wx_n σ.2.2.2.2 ≤ wx_n σ'.2.2.2.2 := by
  unfold f_L_law_234 at h
  exact m_L_law_239 (K62 := K62) @mK62 (K191 := K191) @mK191 h
set_option maxRecDepth 20000 in
set_option maxHeartbeats 4000000 in
theorem b_L_law_234 (B : wx_B p s m #[Value.ref b] meth c cL_law 21 (some .boolean) wsL_law RL D ad ca (fun q : Nat => s.heap.size ≤ q))     {σ' : wx_St} {K62 : Int64 → Int32 → wx_St → Option (Int32 × wx_St)} (hK62 : ∀ {x7 : Int64} {x9 : Int32} {σ : wx_St} {k : Nat} (hk : k + wx_n σ'.2.2.2.2 ≤ 1000 + wx_n σ.2.2.2.2)  (h : K62 x7 x9 σ = some ((1 : Int32), σ')) {rd : Nat → Nat} {H : Heap} {locs : List Loc} (Z : wx_Z D ad rd ca (fun q : Nat => s.heap.size ≤ q) σ H) (hS : va_S (fun q : Nat => s.heap.size ≤ q) s.heap H locs) {ls : Array Slot} (hl : lv_has ls 21 [(0, .ref (ad 18 0)), (1, .ref (ad 11 99)), (2, .ref (ad 16 0)), (3, .ref (ad 16 1)), (4, .ref (ad 16 2)), (5, .ref (ad 16 3)), (6, .ref (ad 16 4)), (7, .long x7), (9, .int x9)]), W p l e room_1 s m #[Value.ref b] below meth c H locs k (6464 * k) (lw_Z below #[Value.ref b] s) (F0 m 62 ls [])) (mK62 : ∀ {x7 : Int64} {x9 : Int32} {σ : wx_St}, K62 x7 x9 σ = some ((1 : Int32), σ') → wx_n σ.2.2.2.2 ≤ wx_n σ'.2.2.2.2) {K191 : Int64 → Int32 → Int32 → Int32 → Int32 → Int32 → Int32 → Int32 → Int32 → Int32 → Int32 → Int32 → wx_St → Option (Int32 × wx_St)} (hK191 : ∀ {x7 : Int64} {x9 : Int32} {x10 : Int32} {x11 : Int32} {x12 : Int32} {x13 : Int32} {x14 : Int32} {x15 : Int32} {x16 : Int32} {x17 : Int32} {x18 : Int32} {x19 : Int32} {σ : wx_St} {k : Nat} (hk : k + wx_n σ'.2.2.2.2 ≤ 1000 + wx_n σ.2.2.2.2)  (h : K191 x7 x9 x10 x11 x12 x13 x14 x15 x16 x17 x18 x19 σ = some ((1 : Int32), σ')) {rd : Nat → Nat} {H : Heap} {locs : List Loc} (Z : wx_Z D ad rd ca (fun q : Nat => s.heap.size ≤ q) σ H) (hS : va_S (fun q : Nat => s.heap.size ≤ q) s.heap H locs) {ls : Array Slot} (hl : lv_has ls 21 [(0, .ref (ad 18 0)), (1, .ref (ad 11 99)), (2, .ref (ad 16 0)), (3, .ref (ad 16 1)), (4, .ref (ad 16 2)), (5, .ref (ad 16 3)), (6, .ref (ad 16 4)), (7, .long x7), (9, .int x9), (10, .int x10), (11, .int x11), (12, .int x12), (13, .int x13), (14, .int x14), (15, .int x15), (16, .int x16), (17, .int x17), (18, .int x18), (19, .int x19)]), W p l e room_1 s m #[Value.ref b] below meth c H locs k (6464 * k) (lw_Z below #[Value.ref b] s) (F0 m 191 ls [])) (mK191 : ∀ {x7 : Int64} {x9 : Int32} {x10 : Int32} {x11 : Int32} {x12 : Int32} {x13 : Int32} {x14 : Int32} {x15 : Int32} {x16 : Int32} {x17 : Int32} {x18 : Int32} {x19 : Int32} {σ : wx_St}, K191 x7 x9 x10 x11 x12 x13 x14 x15 x16 x17 x18 x19 σ = some ((1 : Int32), σ') → wx_n σ.2.2.2.2 ≤ wx_n σ'.2.2.2.2) {x7 : Int64} {x9 : Int32} {x10 : Int32} {x11 : Int32} {x12 : Int32} {x13 : Int32} {x14 : Int32} {x15 : Int32} {x16 : Int32} {x17 : Int32} {x18 : Int32} {x19 : Int32} {σ : wx_St} {k : Nat} (hk : k + wx_n σ'.2.2.2.2 ≤ 1000 + wx_n σ.2.2.2.2)  (h : f_L_law_234 ad K62 K191 x7 x9 x10 x11 x12 x13 x14 x15 x16 x17 x18 x19 σ = some ((1 : Int32), σ')) {rd : Nat → Nat} {H : Heap} {locs : List Loc} (Z : wx_Z D ad rd ca (fun q : Nat => s.heap.size ≤ q) σ H) (hS : va_S (fun q : Nat => s.heap.size ≤ q) s.heap H locs) {ls : Array Slot} (hl : lv_has ls 21 [(0, .ref (ad 18 0)), (1, .ref (ad 11 99)), (2, .ref (ad 16 0)), (3, .ref (ad 16 1)), (4, .ref (ad 16 2)), (5, .ref (ad 16 3)), (6, .ref (ad 16 4)), (7, .long x7), (9, .int x9), (10, .int x10), (11, .int x11), (12, .int x12), (13, .int x13), (14, .int x14), (15, .int x15), (16, .int x16), (17, .int x17), (18, .int x18), (19, .int x19)]) : W p l e room_1 s m #[Value.ref b] below meth c H locs k (6464 * k) (lw_Z below #[Value.ref b] s) (F0 m 234 ls []) := by
  obtain ⟨hx, hb, hml, hr, hts, hown, hlk, hC, hA⟩ := id B
  have hm := m_L_law_234 (K62 := K62) @mK62 (K191 := K191) @mK191 h
  unfold f_L_law_234 at h
  refine lv_iconst (v := 1) hx hb dL_law_234 (by decide) ?_
  refine lv_goto (tgt := 239) hx hb dL_law_235 (by decide) ?_
  exact b_L_law_239 B (K62 := K62) @hK62 @mK62 (K191 := K191) @hK191 @mK191 (k := k) hk h Z hS (lv_sub hl [0, 1, 2, 3, 4, 5, 6, 7, 8, 9, 10, 11, 12, 13, 14, 15, 16, 17, 18] rfl)
set_option maxRecDepth 20000 in
set_option maxHeartbeats 4000000 in
theorem m_L_law_238   {σ' : wx_St} {K62 : Int64 → Int32 → wx_St → Option (Int32 × wx_St)} (mK62 : ∀ {x7 : Int64} {x9 : Int32} {σ : wx_St}, K62 x7 x9 σ = some ((1 : Int32), σ') → wx_n σ.2.2.2.2 ≤ wx_n σ'.2.2.2.2) {K191 : Int64 → Int32 → Int32 → Int32 → Int32 → Int32 → Int32 → Int32 → Int32 → Int32 → Int32 → Int32 → wx_St → Option (Int32 × wx_St)} (mK191 : ∀ {x7 : Int64} {x9 : Int32} {x10 : Int32} {x11 : Int32} {x12 : Int32} {x13 : Int32} {x14 : Int32} {x15 : Int32} {x16 : Int32} {x17 : Int32} {x18 : Int32} {x19 : Int32} {σ : wx_St}, K191 x7 x9 x10 x11 x12 x13 x14 x15 x16 x17 x18 x19 σ = some ((1 : Int32), σ') → wx_n σ.2.2.2.2 ≤ wx_n σ'.2.2.2.2) {x7 : Int64} {x9 : Int32} {x10 : Int32} {x11 : Int32} {x12 : Int32} {x13 : Int32} {x14 : Int32} {x15 : Int32} {x16 : Int32} {x17 : Int32} {x18 : Int32} {x19 : Int32} {σ : wx_St} (h : f_L_law_238 ad K62 K191 x7 x9 x10 x11 x12 x13 x14 x15 x16 x17 x18 x19 σ = some ((1 : Int32), σ')) : wx_n σ.2.2.2.2 ≤ wx_n σ'.2.2.2.2 := by
  unfold f_L_law_238 at h
  exact m_L_law_239 (K62 := K62) @mK62 (K191 := K191) @mK191 h
set_option maxRecDepth 20000 in
set_option maxHeartbeats 4000000 in
theorem b_L_law_238 (B : wx_B p s m #[Value.ref b] meth c cL_law 21 (some .boolean) wsL_law RL D ad ca (fun q : Nat => s.heap.size ≤ q))     {σ' : wx_St} {K62 : Int64 → Int32 → wx_St → Option (Int32 × wx_St)} (hK62 : ∀ {x7 : Int64} {x9 : Int32} {σ : wx_St} {k : Nat} (hk : k + wx_n σ'.2.2.2.2 ≤ 1000 + wx_n σ.2.2.2.2)  (h : K62 x7 x9 σ = some ((1 : Int32), σ')) {rd : Nat → Nat} {H : Heap} {locs : List Loc} (Z : wx_Z D ad rd ca (fun q : Nat => s.heap.size ≤ q) σ H) (hS : va_S (fun q : Nat => s.heap.size ≤ q) s.heap H locs) {ls : Array Slot} (hl : lv_has ls 21 [(0, .ref (ad 18 0)), (1, .ref (ad 11 99)), (2, .ref (ad 16 0)), (3, .ref (ad 16 1)), (4, .ref (ad 16 2)), (5, .ref (ad 16 3)), (6, .ref (ad 16 4)), (7, .long x7), (9, .int x9)]), W p l e room_1 s m #[Value.ref b] below meth c H locs k (6464 * k) (lw_Z below #[Value.ref b] s) (F0 m 62 ls [])) (mK62 : ∀ {x7 : Int64} {x9 : Int32} {σ : wx_St}, K62 x7 x9 σ = some ((1 : Int32), σ') → wx_n σ.2.2.2.2 ≤ wx_n σ'.2.2.2.2) {K191 : Int64 → Int32 → Int32 → Int32 → Int32 → Int32 → Int32 → Int32 → Int32 → Int32 → Int32 → Int32 → wx_St → Option (Int32 × wx_St)} (hK191 : ∀ {x7 : Int64} {x9 : Int32} {x10 : Int32} {x11 : Int32} {x12 : Int32} {x13 : Int32} {x14 : Int32} {x15 : Int32} {x16 : Int32} {x17 : Int32} {x18 : Int32} {x19 : Int32} {σ : wx_St} {k : Nat} (hk : k + wx_n σ'.2.2.2.2 ≤ 1000 + wx_n σ.2.2.2.2)  (h : K191 x7 x9 x10 x11 x12 x13 x14 x15 x16 x17 x18 x19 σ = some ((1 : Int32), σ')) {rd : Nat → Nat} {H : Heap} {locs : List Loc} (Z : wx_Z D ad rd ca (fun q : Nat => s.heap.size ≤ q) σ H) (hS : va_S (fun q : Nat => s.heap.size ≤ q) s.heap H locs) {ls : Array Slot} (hl : lv_has ls 21 [(0, .ref (ad 18 0)), (1, .ref (ad 11 99)), (2, .ref (ad 16 0)), (3, .ref (ad 16 1)), (4, .ref (ad 16 2)), (5, .ref (ad 16 3)), (6, .ref (ad 16 4)), (7, .long x7), (9, .int x9), (10, .int x10), (11, .int x11), (12, .int x12), (13, .int x13), (14, .int x14), (15, .int x15), (16, .int x16), (17, .int x17), (18, .int x18), (19, .int x19)]), W p l e room_1 s m #[Value.ref b] below meth c H locs k (6464 * k) (lw_Z below #[Value.ref b] s) (F0 m 191 ls [])) (mK191 : ∀ {x7 : Int64} {x9 : Int32} {x10 : Int32} {x11 : Int32} {x12 : Int32} {x13 : Int32} {x14 : Int32} {x15 : Int32} {x16 : Int32} {x17 : Int32} {x18 : Int32} {x19 : Int32} {σ : wx_St}, K191 x7 x9 x10 x11 x12 x13 x14 x15 x16 x17 x18 x19 σ = some ((1 : Int32), σ') → wx_n σ.2.2.2.2 ≤ wx_n σ'.2.2.2.2) {x7 : Int64} {x9 : Int32} {x10 : Int32} {x11 : Int32} {x12 : Int32} {x13 : Int32} {x14 : Int32} {x15 : Int32} {x16 : Int32} {x17 : Int32} {x18 : Int32} {x19 : Int32} {σ : wx_St} {k : Nat} (hk : k + wx_n σ'.2.2.2.2 ≤ 1000 + wx_n σ.2.2.2.2)  (h : f_L_law_238 ad K62 K191 x7 x9 x10 x11 x12 x13 x14 x15 x16 x17 x18 x19 σ = some ((1 : Int32), σ')) {rd : Nat → Nat} {H : Heap} {locs : List Loc} (Z : wx_Z D ad rd ca (fun q : Nat => s.heap.size ≤ q) σ H) (hS : va_S (fun q : Nat => s.heap.size ≤ q) s.heap H locs) {ls : Array Slot} (hl : lv_has ls 21 [(0, .ref (ad 18 0)), (1, .ref (ad 11 99)), (2, .ref (ad 16 0)), (3, .ref (ad 16 1)), (4, .ref (ad 16 2)), (5, .ref (ad 16 3)), (6, .ref (ad 16 4)), (7, .long x7), (9, .int x9), (10, .int x10), (11, .int x11), (12, .int x12), (13, .int x13), (14, .int x14), (15, .int x15), (16, .int x16), (17, .int x17), (18, .int x18), (19, .int x19)]) : W p l e room_1 s m #[Value.ref b] below meth c H locs k (6464 * k) (lw_Z below #[Value.ref b] s) (F0 m 238 ls []) := by
  obtain ⟨hx, hb, hml, hr, hts, hown, hlk, hC, hA⟩ := id B
  have hm := m_L_law_238 (K62 := K62) @mK62 (K191 := K191) @mK191 h
  unfold f_L_law_238 at h
  refine lv_iconst (v := 0) hx hb dL_law_238 (by decide) ?_
  exact b_L_law_239 B (K62 := K62) @hK62 @mK62 (K191 := K191) @hK191 @mK191 (k := k) hk h Z hS (lv_sub hl [0, 1, 2, 3, 4, 5, 6, 7, 8, 9, 10, 11, 12, 13, 14, 15, 16, 17, 18] rfl)
set_option maxRecDepth 20000 in
set_option maxHeartbeats 4000000 in
theorem m_L_law_1279   {σ' : wx_St} {K62 : Int64 → Int32 → wx_St → Option (Int32 × wx_St)} (mK62 : ∀ {x7 : Int64} {x9 : Int32} {σ : wx_St}, K62 x7 x9 σ = some ((1 : Int32), σ') → wx_n σ.2.2.2.2 ≤ wx_n σ'.2.2.2.2) {x7 : Int64} {x9 : Int32} {x10 : Int32} {x11 : Int32} {x12 : Int32} {x13 : Int32} {x14 : Int32} {x15 : Int32} {x16 : Int32} {y0 : Int32} {σ : wx_St} (h : f_L_law_1279 ad K62 x7 x9 x10 x11 x12 x13 x14 x15 x16 y0 σ = some ((1 : Int32), σ')) : wx_n σ.2.2.2.2 ≤ wx_n σ'.2.2.2.2 := by
  unfold f_L_law_1279 at h
  by_cases c1279 : y0 = 0
  · replace h := wx_ift c1279 h
    exact absurd (wx_ret_ok h).1 (by decide)
  · replace h := wx_iff c1279 h
    exact mK62 h
set_option maxRecDepth 20000 in
set_option maxHeartbeats 4000000 in
theorem b_L_law_1279 (B : wx_B p s m #[Value.ref b] meth c cL_law 21 (some .boolean) wsL_law RL D ad ca (fun q : Nat => s.heap.size ≤ q))     {σ' : wx_St} {K62 : Int64 → Int32 → wx_St → Option (Int32 × wx_St)} (hK62 : ∀ {x7 : Int64} {x9 : Int32} {σ : wx_St} {k : Nat} (hk : k + wx_n σ'.2.2.2.2 ≤ 1000 + wx_n σ.2.2.2.2)  (h : K62 x7 x9 σ = some ((1 : Int32), σ')) {rd : Nat → Nat} {H : Heap} {locs : List Loc} (Z : wx_Z D ad rd ca (fun q : Nat => s.heap.size ≤ q) σ H) (hS : va_S (fun q : Nat => s.heap.size ≤ q) s.heap H locs) {ls : Array Slot} (hl : lv_has ls 21 [(0, .ref (ad 18 0)), (1, .ref (ad 11 99)), (2, .ref (ad 16 0)), (3, .ref (ad 16 1)), (4, .ref (ad 16 2)), (5, .ref (ad 16 3)), (6, .ref (ad 16 4)), (7, .long x7), (9, .int x9)]), W p l e room_1 s m #[Value.ref b] below meth c H locs k (6464 * k) (lw_Z below #[Value.ref b] s) (F0 m 62 ls [])) (mK62 : ∀ {x7 : Int64} {x9 : Int32} {σ : wx_St}, K62 x7 x9 σ = some ((1 : Int32), σ') → wx_n σ.2.2.2.2 ≤ wx_n σ'.2.2.2.2) {x7 : Int64} {x9 : Int32} {x10 : Int32} {x11 : Int32} {x12 : Int32} {x13 : Int32} {x14 : Int32} {x15 : Int32} {x16 : Int32} {y0 : Int32} {σ : wx_St} {k : Nat} (hk : k + wx_n σ'.2.2.2.2 ≤ 1000 + wx_n σ.2.2.2.2)  (h : f_L_law_1279 ad K62 x7 x9 x10 x11 x12 x13 x14 x15 x16 y0 σ = some ((1 : Int32), σ')) {rd : Nat → Nat} {H : Heap} {locs : List Loc} (Z : wx_Z D ad rd ca (fun q : Nat => s.heap.size ≤ q) σ H) (hS : va_S (fun q : Nat => s.heap.size ≤ q) s.heap H locs) {ls : Array Slot} (hl : lv_has ls 21 [(0, .ref (ad 18 0)), (1, .ref (ad 11 99)), (2, .ref (ad 16 0)), (3, .ref (ad 16 1)), (4, .ref (ad 16 2)), (5, .ref (ad 16 3)), (6, .ref (ad 16 4)), (7, .long x7), (9, .int x9), (10, .int x10), (11, .int x11), (12, .int x12), (13, .int x13), (14, .int x14), (15, .int x15), (16, .int x16)]) : W p l e room_1 s m #[Value.ref b] below meth c H locs k (6464 * k) (lw_Z below #[Value.ref b] s) (F0 m 1279 ls [.int y0]) := by
  obtain ⟨hx, hb, hml, hr, hts, hown, hlk, hC, hA⟩ := id B
  have hm := m_L_law_1279 (K62 := K62) @mK62 h
  unfold f_L_law_1279 at h
  refine lv_if_ne (tgt := 1284) hx hb dL_law_1279 (by decide) (fun c1279 => ?_) (fun c1279 => ?_)
  · replace h := wx_iff c1279 h
    refine lv_iinc (v := x9 + 1) (lv' := [(9, .int (x9 + 1)), (0, .ref (ad 18 0)), (1, .ref (ad 11 99)), (2, .ref (ad 16 0)), (3, .ref (ad 16 1)), (4, .ref (ad 16 2)), (5, .ref (ad 16 3)), (6, .ref (ad 16 4)), (7, .long x7), (10, .int x10), (11, .int x11), (12, .int x12), (13, .int x13), (14, .int x14), (15, .int x15), (16, .int x16)]) hx hb dL_law_1284 hl (k := 8) rfl rfl (by decide) rfl (fun ls hl => ?_)
    refine lv_goto (tgt := 62) hx hb dL_law_1287 (by decide) ?_
    exact hK62 (k := k) hk h Z hS (lv_sub hl [1, 2, 3, 4, 5, 6, 7, 8, 0] rfl)
  · replace h := wx_ift c1279 h
    refine lv_iconst (v := 0) hx hb dL_law_1282 (by decide) ?_
    exact absurd (wx_ret_ok h).1 (by decide)
set_option maxRecDepth 20000 in
set_option maxHeartbeats 4000000 in
theorem m_L_law_1265   {σ' : wx_St} {K62 : Int64 → Int32 → wx_St → Option (Int32 × wx_St)} (mK62 : ∀ {x7 : Int64} {x9 : Int32} {σ : wx_St}, K62 x7 x9 σ = some ((1 : Int32), σ') → wx_n σ.2.2.2.2 ≤ wx_n σ'.2.2.2.2) {x7 : Int64} {x9 : Int32} {x10 : Int32} {x11 : Int32} {x12 : Int32} {x13 : Int32} {x14 : Int32} {x15 : Int32} {x16 : Int32} {σ : wx_St} (h : f_L_law_1265 ad K62 x7 x9 x10 x11 x12 x13 x14 x15 x16 σ = some ((1 : Int32), σ')) : wx_n σ.2.2.2.2 ≤ wx_n σ'.2.2.2.2 := by
  unfold f_L_law_1265 at h
  obtain ⟨v1276, σ1276, hc1276, h⟩ := wx_b_ok h
  refine Nat.le_trans (m_L_same_0 hc1276) ?_
  exact m_L_law_1279 (K62 := K62) @mK62 h
set_option maxRecDepth 20000 in
set_option maxHeartbeats 4000000 in
theorem b_L_law_1265 (B : wx_B p s m #[Value.ref b] meth c cL_law 21 (some .boolean) wsL_law RL D ad ca (fun q : Nat => s.heap.size ≤ q))     {σ' : wx_St} {K62 : Int64 → Int32 → wx_St → Option (Int32 × wx_St)} (hK62 : ∀ {x7 : Int64} {x9 : Int32} {σ : wx_St} {k : Nat} (hk : k + wx_n σ'.2.2.2.2 ≤ 1000 + wx_n σ.2.2.2.2)  (h : K62 x7 x9 σ = some ((1 : Int32), σ')) {rd : Nat → Nat} {H : Heap} {locs : List Loc} (Z : wx_Z D ad rd ca (fun q : Nat => s.heap.size ≤ q) σ H) (hS : va_S (fun q : Nat => s.heap.size ≤ q) s.heap H locs) {ls : Array Slot} (hl : lv_has ls 21 [(0, .ref (ad 18 0)), (1, .ref (ad 11 99)), (2, .ref (ad 16 0)), (3, .ref (ad 16 1)), (4, .ref (ad 16 2)), (5, .ref (ad 16 3)), (6, .ref (ad 16 4)), (7, .long x7), (9, .int x9)]), W p l e room_1 s m #[Value.ref b] below meth c H locs k (6464 * k) (lw_Z below #[Value.ref b] s) (F0 m 62 ls [])) (mK62 : ∀ {x7 : Int64} {x9 : Int32} {σ : wx_St}, K62 x7 x9 σ = some ((1 : Int32), σ') → wx_n σ.2.2.2.2 ≤ wx_n σ'.2.2.2.2) {x7 : Int64} {x9 : Int32} {x10 : Int32} {x11 : Int32} {x12 : Int32} {x13 : Int32} {x14 : Int32} {x15 : Int32} {x16 : Int32} {σ : wx_St} {k : Nat} (hk : k + wx_n σ'.2.2.2.2 ≤ 1000 + wx_n σ.2.2.2.2)  (h : f_L_law_1265 ad K62 x7 x9 x10 x11 x12 x13 x14 x15 x16 σ = some ((1 : Int32), σ')) {rd : Nat → Nat} {H : Heap} {locs : List Loc} (Z : wx_Z D ad rd ca (fun q : Nat => s.heap.size ≤ q) σ H) (hS : va_S (fun q : Nat => s.heap.size ≤ q) s.heap H locs) {ls : Array Slot} (hl : lv_has ls 21 [(0, .ref (ad 18 0)), (1, .ref (ad 11 99)), (2, .ref (ad 16 0)), (3, .ref (ad 16 1)), (4, .ref (ad 16 2)), (5, .ref (ad 16 3)), (6, .ref (ad 16 4)), (7, .long x7), (9, .int x9), (10, .int x10), (11, .int x11), (12, .int x12), (13, .int x13), (14, .int x14), (15, .int x15), (16, .int x16)]) : W p l e room_1 s m #[Value.ref b] below meth c H locs k (6464 * k) (lw_Z below #[Value.ref b] s) (F0 m 1265 ls []) := by
  obtain ⟨hx, hb, hml, hr, hts, hown, hlk, hC, hA⟩ := id B
  have hm := m_L_law_1265 (K62 := K62) @mK62 h
  unfold f_L_law_1265 at h
  refine lv_aload_n hx hb dL_law_1265 rfl (lv_at hl 1 rfl) ?_
  refine lv_lload hx hb dL_law_1266 (lv_at hl 7 rfl) ?_
  refine lv_aload_n hx hb dL_law_1268 rfl (lv_at hl 2 rfl) ?_
  refine lv_aload_n hx hb dL_law_1269 rfl (lv_at hl 3 rfl) ?_
  refine lv_aload hx hb dL_law_1270 (lv_at hl 4 rfl) ?_
  refine lv_aload hx hb dL_law_1272 (lv_at hl 5 rfl) ?_
  refine lv_aload hx hb dL_law_1274 (lv_at hl 6 rfl) ?_
  obtain ⟨v1276, σ1276, hc1276, h⟩ := wx_b_ok h
  have m1 := m_L_same_0 hc1276
  have m2 := m_L_law_1279 (K62 := K62) @mK62 h
  refine wx_callA (va_runS (As := [.ref (ad 11 99), .long x7, .ref (ad 16 0), .ref (ad 16 1), .ref (ad 16 2), .ref (ad 16 3), .ref (ad 16 4)]) (rest := []) ⟨hx, hb, hml, hown, hts⟩ (c_L_same l (D := D) (ad := ad) (rd := rd) (ca := ca) (A := (fun q : Nat => s.heap.size ≤ q)) (σ := σ) hc1276) (va_cwS 7 hts gL_law_L_same rfl rfl rfl (by decide +kernel) ⟨Nat.le_of_ble_eq_true rfl, Nat.le_of_ble_eq_true rfl⟩) (wx_preS hC Z hS hA) rfl rfl hl.1 rfl (lv_room (Nat.le_of_ble_eq_true rfl)) dL_law_1276 ⟨(by show k + (wx_n σ1276.2.2.2.2 - wx_n σ.2.2.2.2) ≤ 600000; omega), (by show 6464 * k + 6464 * (wx_n σ1276.2.2.2.2 - wx_n σ.2.2.2.2) ≤ 7302250; omega)⟩) hS (fun rd H locs Z hS => ?_)
  refine W.widen (k := k + (wx_n σ1276.2.2.2.2 - wx_n σ.2.2.2.2)) (n := 6464 * (k + (wx_n σ1276.2.2.2.2 - wx_n σ.2.2.2.2))) (Nat.le_refl _) (by omega) ?_
  exact b_L_law_1279 B (K62 := K62) @hK62 @mK62 (k := k + (wx_n σ1276.2.2.2.2 - wx_n σ.2.2.2.2)) (by omega) h Z hS (lv_sub hl [0, 1, 2, 3, 4, 5, 6, 7, 8, 9, 10, 11, 12, 13, 14, 15] rfl)
set_option maxRecDepth 20000 in
set_option maxHeartbeats 4000000 in
theorem m_L_law_1246   {σ' : wx_St} {K62 : Int64 → Int32 → wx_St → Option (Int32 × wx_St)} (mK62 : ∀ {x7 : Int64} {x9 : Int32} {σ : wx_St}, K62 x7 x9 σ = some ((1 : Int32), σ') → wx_n σ.2.2.2.2 ≤ wx_n σ'.2.2.2.2) {x7 : Int64} {x9 : Int32} {x10 : Int32} {x11 : Int32} {x12 : Int32} {x13 : Int32} {x14 : Int32} {x15 : Int32} {x16 : Int32} {σ : wx_St} (h : f_L_law_1246 ad K62 x7 x9 x10 x11 x12 x13 x14 x15 x16 σ = some ((1 : Int32), σ')) : wx_n σ.2.2.2.2 ≤ wx_n σ'.2.2.2.2 := by
  unfold f_L_law_1246 at h
  by_cases c1248 : x16 = 0
  · replace h := wx_ift c1248 h
    exact m_L_law_1265 (K62 := K62) @mK62 h
  · replace h := wx_iff c1248 h
    obtain ⟨σ1254, e1254, i1254, h⟩ := wx_w_ok h
    refine Nat.le_trans (Nat.le_of_eq (congrArg wx_n (show σ1254.2.2.2.2 = σ.2.2.2.2 from (congrArg (fun z : wx_St => z.2.2.2.2) e1254).trans rfl)).symm) ?_
    obtain ⟨σ1259, e1259, i1259, h⟩ := wx_w_ok h
    refine Nat.le_trans (Nat.le_of_eq (congrArg wx_n (show σ1259.2.2.2.2 = σ1254.2.2.2.2 from (congrArg (fun z : wx_St => z.2.2.2.2) e1259).trans rfl)).symm) ?_
    exact m_L_law_1265 (K62 := K62) @mK62 h
set_option maxRecDepth 20000 in
set_option maxHeartbeats 4000000 in
theorem b_L_law_1246 (B : wx_B p s m #[Value.ref b] meth c cL_law 21 (some .boolean) wsL_law RL D ad ca (fun q : Nat => s.heap.size ≤ q))     {σ' : wx_St} {K62 : Int64 → Int32 → wx_St → Option (Int32 × wx_St)} (hK62 : ∀ {x7 : Int64} {x9 : Int32} {σ : wx_St} {k : Nat} (hk : k + wx_n σ'.2.2.2.2 ≤ 1000 + wx_n σ.2.2.2.2)  (h : K62 x7 x9 σ = some ((1 : Int32), σ')) {rd : Nat → Nat} {H : Heap} {locs : List Loc} (Z : wx_Z D ad rd ca (fun q : Nat => s.heap.size ≤ q) σ H) (hS : va_S (fun q : Nat => s.heap.size ≤ q) s.heap H locs) {ls : Array Slot} (hl : lv_has ls 21 [(0, .ref (ad 18 0)), (1, .ref (ad 11 99)), (2, .ref (ad 16 0)), (3, .ref (ad 16 1)), (4, .ref (ad 16 2)), (5, .ref (ad 16 3)), (6, .ref (ad 16 4)), (7, .long x7), (9, .int x9)]), W p l e room_1 s m #[Value.ref b] below meth c H locs k (6464 * k) (lw_Z below #[Value.ref b] s) (F0 m 62 ls [])) (mK62 : ∀ {x7 : Int64} {x9 : Int32} {σ : wx_St}, K62 x7 x9 σ = some ((1 : Int32), σ') → wx_n σ.2.2.2.2 ≤ wx_n σ'.2.2.2.2) {x7 : Int64} {x9 : Int32} {x10 : Int32} {x11 : Int32} {x12 : Int32} {x13 : Int32} {x14 : Int32} {x15 : Int32} {x16 : Int32} {σ : wx_St} {k : Nat} (hk : k + wx_n σ'.2.2.2.2 ≤ 1000 + wx_n σ.2.2.2.2)  (h : f_L_law_1246 ad K62 x7 x9 x10 x11 x12 x13 x14 x15 x16 σ = some ((1 : Int32), σ')) {rd : Nat → Nat} {H : Heap} {locs : List Loc} (Z : wx_Z D ad rd ca (fun q : Nat => s.heap.size ≤ q) σ H) (hS : va_S (fun q : Nat => s.heap.size ≤ q) s.heap H locs) {ls : Array Slot} (hl : lv_has ls 21 [(0, .ref (ad 18 0)), (1, .ref (ad 11 99)), (2, .ref (ad 16 0)), (3, .ref (ad 16 1)), (4, .ref (ad 16 2)), (5, .ref (ad 16 3)), (6, .ref (ad 16 4)), (7, .long x7), (9, .int x9), (10, .int x10), (11, .int x11), (12, .int x12), (13, .int x13), (14, .int x14), (15, .int x15), (16, .int x16)]) : W p l e room_1 s m #[Value.ref b] below meth c H locs k (6464 * k) (lw_Z below #[Value.ref b] s) (F0 m 1246 ls []) := by
  obtain ⟨hx, hb, hml, hr, hts, hown, hlk, hC, hA⟩ := id B
  have hm := m_L_law_1246 (K62 := K62) @mK62 h
  unfold f_L_law_1246 at h
  refine lv_iload hx hb dL_law_1246 (lv_at hl 15 rfl) ?_
  refine lv_if_eq (tgt := 1265) hx hb dL_law_1248 (by decide) (fun c1248 => ?_) (fun c1248 => ?_)
  · replace h := wx_ift c1248 h
    exact b_L_law_1265 B (K62 := K62) @hK62 @mK62 (k := k) hk h Z hS (lv_sub hl [0, 1, 2, 3, 4, 5, 6, 7, 8, 9, 10, 11, 12, 13, 14, 15] rfl)
  · replace h := wx_iff c1248 h
    refine lv_aload_n hx hb dL_law_1251 rfl (lv_at hl 2 rfl) ?_
    refine lv_iconst (v := 4) hx hb dL_law_1252 (by decide) ?_
    refine lv_iconst (v := 0) hx hb dL_law_1253 (by decide) ?_
    obtain ⟨σ1254, e1254, i1254, h⟩ := wx_w_ok h
    refine wx_iast hx hb hC.1 Z hS (o := 16) (k := 0) (n := 7) rfl rfl i1254 dL_law_1254 e1254 (fun H locs Z hS => ?_)
    have hqσ1254 := congrArg wx_n (show σ1254.2.2.2.2 = σ.2.2.2.2 from (congrArg (fun z : wx_St => z.2.2.2.2) e1254).trans rfl)
    rw [← hqσ1254] at hk hm
    refine lv_aload_n hx hb dL_law_1255 rfl (lv_at hl 2 rfl) ?_
    refine lv_bipush (v := 6) hx hb dL_law_1256 (by decide) ?_
    refine lv_iconst (v := 0) hx hb dL_law_1258 (by decide) ?_
    obtain ⟨σ1259, e1259, i1259, h⟩ := wx_w_ok h
    refine wx_iast hx hb hC.1 Z hS (o := 16) (k := 0) (n := 7) rfl rfl i1259 dL_law_1259 e1259 (fun H locs Z hS => ?_)
    have hqσ1259 := congrArg wx_n (show σ1259.2.2.2.2 = σ1254.2.2.2.2 from (congrArg (fun z : wx_St => z.2.2.2.2) e1259).trans rfl)
    rw [← hqσ1259] at hk hm
    refine lv_ldc2 hx hb hown (hts _ k_L_law_w0) dL_law_1260 ?_
    refine lv_lstore (lv' := [(7, .long (-1 : Int64)), (0, .ref (ad 18 0)), (1, .ref (ad 11 99)), (2, .ref (ad 16 0)), (3, .ref (ad 16 1)), (4, .ref (ad 16 2)), (5, .ref (ad 16 3)), (6, .ref (ad 16 4)), (9, .int x9), (10, .int x10), (11, .int x11), (12, .int x12), (13, .int x13), (14, .int x14), (15, .int x15), (16, .int x16)]) hx hb dL_law_1263 hl (by decide) rfl (fun ls hl => ?_)
    exact b_L_law_1265 B (K62 := K62) @hK62 @mK62 (k := k) hk h Z hS (lv_sub hl [1, 2, 3, 4, 5, 6, 7, 0, 8, 9, 10, 11, 12, 13, 14, 15] rfl)
set_option maxRecDepth 20000 in
set_option maxHeartbeats 4000000 in
theorem m_L_law_308   {σ' : wx_St} {K62 : Int64 → Int32 → wx_St → Option (Int32 × wx_St)} (mK62 : ∀ {x7 : Int64} {x9 : Int32} {σ : wx_St}, K62 x7 x9 σ = some ((1 : Int32), σ') → wx_n σ.2.2.2.2 ≤ wx_n σ'.2.2.2.2) {x7 : Int64} {x9 : Int32} {x10 : Int32} {x11 : Int32} {x12 : Int32} {x13 : Int32} {x14 : Int32} {x15 : Int32} {x16 : Int32} {x17 : Int32} {x18 : Int32} {x19 : Int32} {y1 : Int32} {y2 : Int32} {σ : wx_St} (h : f_L_law_308 ad K62 x7 x9 x10 x11 x12 x13 x14 x15 x16 x17 x18 x19 y1 y2 σ = some ((1 : Int32), σ')) : wx_n σ.2.2.2.2 ≤ wx_n σ'.2.2.2.2 := by
  unfold f_L_law_308 at h
  obtain ⟨σ308, e308, i308, h⟩ := wx_w_ok h
  refine Nat.le_trans (Nat.le_of_eq (congrArg wx_n (show σ308.2.2.2.2 = σ.2.2.2.2 from (congrArg (fun z : wx_St => z.2.2.2.2) e308).trans rfl)).symm) ?_
  exact m_L_law_1246 (K62 := K62) @mK62 h
set_option maxRecDepth 20000 in
set_option maxHeartbeats 4000000 in
theorem b_L_law_308 (B : wx_B p s m #[Value.ref b] meth c cL_law 21 (some .boolean) wsL_law RL D ad ca (fun q : Nat => s.heap.size ≤ q))     {σ' : wx_St} {K62 : Int64 → Int32 → wx_St → Option (Int32 × wx_St)} (hK62 : ∀ {x7 : Int64} {x9 : Int32} {σ : wx_St} {k : Nat} (hk : k + wx_n σ'.2.2.2.2 ≤ 1000 + wx_n σ.2.2.2.2)  (h : K62 x7 x9 σ = some ((1 : Int32), σ')) {rd : Nat → Nat} {H : Heap} {locs : List Loc} (Z : wx_Z D ad rd ca (fun q : Nat => s.heap.size ≤ q) σ H) (hS : va_S (fun q : Nat => s.heap.size ≤ q) s.heap H locs) {ls : Array Slot} (hl : lv_has ls 21 [(0, .ref (ad 18 0)), (1, .ref (ad 11 99)), (2, .ref (ad 16 0)), (3, .ref (ad 16 1)), (4, .ref (ad 16 2)), (5, .ref (ad 16 3)), (6, .ref (ad 16 4)), (7, .long x7), (9, .int x9)]), W p l e room_1 s m #[Value.ref b] below meth c H locs k (6464 * k) (lw_Z below #[Value.ref b] s) (F0 m 62 ls [])) (mK62 : ∀ {x7 : Int64} {x9 : Int32} {σ : wx_St}, K62 x7 x9 σ = some ((1 : Int32), σ') → wx_n σ.2.2.2.2 ≤ wx_n σ'.2.2.2.2) {x7 : Int64} {x9 : Int32} {x10 : Int32} {x11 : Int32} {x12 : Int32} {x13 : Int32} {x14 : Int32} {x15 : Int32} {x16 : Int32} {x17 : Int32} {x18 : Int32} {x19 : Int32} {y1 : Int32} {y2 : Int32} {σ : wx_St} {k : Nat} (hk : k + wx_n σ'.2.2.2.2 ≤ 1000 + wx_n σ.2.2.2.2)  (h : f_L_law_308 ad K62 x7 x9 x10 x11 x12 x13 x14 x15 x16 x17 x18 x19 y1 y2 σ = some ((1 : Int32), σ')) {rd : Nat → Nat} {H : Heap} {locs : List Loc} (Z : wx_Z D ad rd ca (fun q : Nat => s.heap.size ≤ q) σ H) (hS : va_S (fun q : Nat => s.heap.size ≤ q) s.heap H locs) {ls : Array Slot} (hl : lv_has ls 21 [(0, .ref (ad 18 0)), (1, .ref (ad 11 99)), (2, .ref (ad 16 0)), (3, .ref (ad 16 1)), (4, .ref (ad 16 2)), (5, .ref (ad 16 3)), (6, .ref (ad 16 4)), (7, .long x7), (9, .int x9), (10, .int x10), (11, .int x11), (12, .int x12), (13, .int x13), (14, .int x14), (15, .int x15), (16, .int x16), (17, .int x17), (18, .int x18), (19, .int x19)]) : W p l e room_1 s m #[Value.ref b] below meth c H locs k (6464 * k) (lw_Z below #[Value.ref b] s) (F0 m 308 ls [.int y2, .int y1, .ref (ad 16 3)]) := by
  obtain ⟨hx, hb, hml, hr, hts, hown, hlk, hC, hA⟩ := id B
  have hm := m_L_law_308 (K62 := K62) @mK62 h
  unfold f_L_law_308 at h
  obtain ⟨σ308, e308, i308, h⟩ := wx_w_ok h
  refine wx_iast hx hb hC.1 Z hS (o := 16) (k := 3) (n := 64) rfl rfl i308 dL_law_308 e308 (fun H locs Z hS => ?_)
  have hqσ308 := congrArg wx_n (show σ308.2.2.2.2 = σ.2.2.2.2 from (congrArg (fun z : wx_St => z.2.2.2.2) e308).trans rfl)
  rw [← hqσ308] at hk hm
  refine lv_goto (tgt := 1246) hx hb dL_law_309 (by decide) ?_
  exact b_L_law_1246 B (K62 := K62) @hK62 @mK62 (k := k) hk h Z hS (lv_sub hl [0, 1, 2, 3, 4, 5, 6, 7, 8, 9, 10, 11, 12, 13, 14, 15] rfl)
set_option maxRecDepth 20000 in
set_option maxHeartbeats 4000000 in
theorem m_L_law_287   {σ' : wx_St} {K62 : Int64 → Int32 → wx_St → Option (Int32 × wx_St)} (mK62 : ∀ {x7 : Int64} {x9 : Int32} {σ : wx_St}, K62 x7 x9 σ = some ((1 : Int32), σ') → wx_n σ.2.2.2.2 ≤ wx_n σ'.2.2.2.2) {x7 : Int64} {x9 : Int32} {x10 : Int32} {x11 : Int32} {x12 : Int32} {x13 : Int32} {x14 : Int32} {x15 : Int32} {x16 : Int32} {x17 : Int32} {x18 : Int32} {x19 : Int32} {y0 : Int32} {σ : wx_St} (h : f_L_law_287 ad K62 x7 x9 x10 x11 x12 x13 x14 x15 x16 x17 x18 x19 y0 σ = some ((1 : Int32), σ')) : wx_n σ.2.2.2.2 ≤ wx_n σ'.2.2.2.2 := by
  unfold f_L_law_287 at h
  by_cases c295 : x18 = 0
  · replace h := wx_ift c295 h
    exact m_L_law_308 (K62 := K62) @mK62 h
  · replace h := wx_iff c295 h
    obtain ⟨v302, ev302, iv302, h⟩ := wx_rI_ok h
    exact m_L_law_308 (K62 := K62) @mK62 h
set_option maxRecDepth 20000 in
set_option maxHeartbeats 4000000 in
theorem b_L_law_287 (B : wx_B p s m #[Value.ref b] meth c cL_law 21 (some .boolean) wsL_law RL D ad ca (fun q : Nat => s.heap.size ≤ q))     {σ' : wx_St} {K62 : Int64 → Int32 → wx_St → Option (Int32 × wx_St)} (hK62 : ∀ {x7 : Int64} {x9 : Int32} {σ : wx_St} {k : Nat} (hk : k + wx_n σ'.2.2.2.2 ≤ 1000 + wx_n σ.2.2.2.2)  (h : K62 x7 x9 σ = some ((1 : Int32), σ')) {rd : Nat → Nat} {H : Heap} {locs : List Loc} (Z : wx_Z D ad rd ca (fun q : Nat => s.heap.size ≤ q) σ H) (hS : va_S (fun q : Nat => s.heap.size ≤ q) s.heap H locs) {ls : Array Slot} (hl : lv_has ls 21 [(0, .ref (ad 18 0)), (1, .ref (ad 11 99)), (2, .ref (ad 16 0)), (3, .ref (ad 16 1)), (4, .ref (ad 16 2)), (5, .ref (ad 16 3)), (6, .ref (ad 16 4)), (7, .long x7), (9, .int x9)]), W p l e room_1 s m #[Value.ref b] below meth c H locs k (6464 * k) (lw_Z below #[Value.ref b] s) (F0 m 62 ls [])) (mK62 : ∀ {x7 : Int64} {x9 : Int32} {σ : wx_St}, K62 x7 x9 σ = some ((1 : Int32), σ') → wx_n σ.2.2.2.2 ≤ wx_n σ'.2.2.2.2) {x7 : Int64} {x9 : Int32} {x10 : Int32} {x11 : Int32} {x12 : Int32} {x13 : Int32} {x14 : Int32} {x15 : Int32} {x16 : Int32} {x17 : Int32} {x18 : Int32} {x19 : Int32} {y0 : Int32} {σ : wx_St} {k : Nat} (hk : k + wx_n σ'.2.2.2.2 ≤ 1000 + wx_n σ.2.2.2.2)  (h : f_L_law_287 ad K62 x7 x9 x10 x11 x12 x13 x14 x15 x16 x17 x18 x19 y0 σ = some ((1 : Int32), σ')) {rd : Nat → Nat} {H : Heap} {locs : List Loc} (Z : wx_Z D ad rd ca (fun q : Nat => s.heap.size ≤ q) σ H) (hS : va_S (fun q : Nat => s.heap.size ≤ q) s.heap H locs) {ls : Array Slot} (hl : lv_has ls 21 [(0, .ref (ad 18 0)), (1, .ref (ad 11 99)), (2, .ref (ad 16 0)), (3, .ref (ad 16 1)), (4, .ref (ad 16 2)), (5, .ref (ad 16 3)), (6, .ref (ad 16 4)), (7, .long x7), (9, .int x9), (10, .int x10), (11, .int x11), (12, .int x12), (13, .int x13), (14, .int x14), (15, .int x15), (16, .int x16), (17, .int x17), (18, .int x18), (19, .int x19)]) : W p l e room_1 s m #[Value.ref b] below meth c H locs k (6464 * k) (lw_Z below #[Value.ref b] s) (F0 m 287 ls [.int y0]) := by
  obtain ⟨hx, hb, hml, hr, hts, hown, hlk, hC, hA⟩ := id B
  have hm := m_L_law_287 (K62 := K62) @mK62 h
  unfold f_L_law_287 at h
  refine lv_istore (lv' := [(16, .int y0), (0, .ref (ad 18 0)), (1, .ref (ad 11 99)), (2, .ref (ad 16 0)), (3, .ref (ad 16 1)), (4, .ref (ad 16 2)), (5, .ref (ad 16 3)), (6, .ref (ad 16 4)), (7, .long x7), (9, .int x9), (10, .int x10), (11, .int x11), (12, .int x12), (13, .int x13), (14, .int x14), (15, .int x15), (17, .int x17), (18, .int x18), (19, .int x19)]) hx hb dL_law_287 hl (by decide) rfl (fun ls hl => ?_)
  refine lv_aload hx hb dL_law_289 (lv_at hl 6 rfl) ?_
  refine lv_iload hx hb dL_law_291 (lv_at hl 15 rfl) ?_
  refine lv_iload hx hb dL_law_293 (lv_at hl 17 rfl) ?_
  refine lv_if_eq (tgt := 306) hx hb dL_law_295 (by decide) (fun c295 => ?_) (fun c295 => ?_)
  · replace h := wx_ift c295 h
    refine lv_iload hx hb dL_law_306 (lv_at hl 16 rfl) ?_
    exact b_L_law_308 B (K62 := K62) @hK62 @mK62 (k := k) hk h Z hS (lv_sub hl [1, 2, 3, 4, 5, 6, 7, 8, 9, 10, 11, 12, 13, 14, 15, 0, 16, 17, 18] rfl)
  · replace h := wx_iff c295 h
    refine lv_aload hx hb dL_law_298 (lv_at hl 6 rfl) ?_
    refine lv_iload hx hb dL_law_300 (lv_at hl 15 rfl) ?_
    obtain ⟨v302, ev302, iv302, h⟩ := wx_rI_ok h
    refine wx_iald hx hb hC.1 Z (o := 16) (k := 3) (n := 64) rfl rfl iv302 dL_law_302 ev302 ?_
    refine lv_goto (tgt := 308) hx hb dL_law_303 (by decide) ?_
    exact b_L_law_308 B (K62 := K62) @hK62 @mK62 (k := k) hk h Z hS (lv_sub hl [1, 2, 3, 4, 5, 6, 7, 8, 9, 10, 11, 12, 13, 14, 15, 0, 16, 17, 18] rfl)
set_option maxRecDepth 20000 in
set_option maxHeartbeats 4000000 in
theorem m_L_law_272   {σ' : wx_St} {K62 : Int64 → Int32 → wx_St → Option (Int32 × wx_St)} (mK62 : ∀ {x7 : Int64} {x9 : Int32} {σ : wx_St}, K62 x7 x9 σ = some ((1 : Int32), σ') → wx_n σ.2.2.2.2 ≤ wx_n σ'.2.2.2.2) {x7 : Int64} {x9 : Int32} {x10 : Int32} {x11 : Int32} {x12 : Int32} {x13 : Int32} {x14 : Int32} {x15 : Int32} {x16 : Int32} {x17 : Int32} {x18 : Int32} {x19 : Int32} {y0 : Int32} {y1 : Int32} {σ : wx_St} (h : f_L_law_272 ad K62 x7 x9 x10 x11 x12 x13 x14 x15 x16 x17 x18 x19 y0 y1 σ = some ((1 : Int32), σ')) : wx_n σ.2.2.2.2 ≤ wx_n σ'.2.2.2.2 := by
  unfold f_L_law_272 at h
  by_cases c272 : y0 = y1
  · replace h := wx_ift c272 h
    by_cases c279 : x18 = 0
    · replace h := wx_ift c279 h
      exact m_L_law_287 (K62 := K62) @mK62 h
    · replace h := wx_iff c279 h
      exact m_L_law_287 (K62 := K62) @mK62 h
  · replace h := wx_iff c272 h
    exact absurd (wx_ret_ok h).1 (by decide)
set_option maxRecDepth 20000 in
set_option maxHeartbeats 4000000 in
theorem b_L_law_272 (B : wx_B p s m #[Value.ref b] meth c cL_law 21 (some .boolean) wsL_law RL D ad ca (fun q : Nat => s.heap.size ≤ q))     {σ' : wx_St} {K62 : Int64 → Int32 → wx_St → Option (Int32 × wx_St)} (hK62 : ∀ {x7 : Int64} {x9 : Int32} {σ : wx_St} {k : Nat} (hk : k + wx_n σ'.2.2.2.2 ≤ 1000 + wx_n σ.2.2.2.2)  (h : K62 x7 x9 σ = some ((1 : Int32), σ')) {rd : Nat → Nat} {H : Heap} {locs : List Loc} (Z : wx_Z D ad rd ca (fun q : Nat => s.heap.size ≤ q) σ H) (hS : va_S (fun q : Nat => s.heap.size ≤ q) s.heap H locs) {ls : Array Slot} (hl : lv_has ls 21 [(0, .ref (ad 18 0)), (1, .ref (ad 11 99)), (2, .ref (ad 16 0)), (3, .ref (ad 16 1)), (4, .ref (ad 16 2)), (5, .ref (ad 16 3)), (6, .ref (ad 16 4)), (7, .long x7), (9, .int x9)]), W p l e room_1 s m #[Value.ref b] below meth c H locs k (6464 * k) (lw_Z below #[Value.ref b] s) (F0 m 62 ls [])) (mK62 : ∀ {x7 : Int64} {x9 : Int32} {σ : wx_St}, K62 x7 x9 σ = some ((1 : Int32), σ') → wx_n σ.2.2.2.2 ≤ wx_n σ'.2.2.2.2) {x7 : Int64} {x9 : Int32} {x10 : Int32} {x11 : Int32} {x12 : Int32} {x13 : Int32} {x14 : Int32} {x15 : Int32} {x16 : Int32} {x17 : Int32} {x18 : Int32} {x19 : Int32} {y0 : Int32} {y1 : Int32} {σ : wx_St} {k : Nat} (hk : k + wx_n σ'.2.2.2.2 ≤ 1000 + wx_n σ.2.2.2.2)  (h : f_L_law_272 ad K62 x7 x9 x10 x11 x12 x13 x14 x15 x16 x17 x18 x19 y0 y1 σ = some ((1 : Int32), σ')) {rd : Nat → Nat} {H : Heap} {locs : List Loc} (Z : wx_Z D ad rd ca (fun q : Nat => s.heap.size ≤ q) σ H) (hS : va_S (fun q : Nat => s.heap.size ≤ q) s.heap H locs) {ls : Array Slot} (hl : lv_has ls 21 [(0, .ref (ad 18 0)), (1, .ref (ad 11 99)), (2, .ref (ad 16 0)), (3, .ref (ad 16 1)), (4, .ref (ad 16 2)), (5, .ref (ad 16 3)), (6, .ref (ad 16 4)), (7, .long x7), (9, .int x9), (10, .int x10), (11, .int x11), (12, .int x12), (13, .int x13), (14, .int x14), (15, .int x15), (16, .int x16), (17, .int x17), (18, .int x18), (19, .int x19)]) : W p l e room_1 s m #[Value.ref b] below meth c H locs k (6464 * k) (lw_Z below #[Value.ref b] s) (F0 m 272 ls [.int y1, .int y0]) := by
  obtain ⟨hx, hb, hml, hr, hts, hown, hlk, hC, hA⟩ := id B
  have hm := m_L_law_272 (K62 := K62) @mK62 h
  unfold f_L_law_272 at h
  refine lv_icmp_eq (tgt := 277) hx hb dL_law_272 (by decide) (fun c272 => ?_) (fun c272 => ?_)
  · replace h := wx_ift c272 h
    refine lv_iload hx hb dL_law_277 (lv_at hl 17 rfl) ?_
    refine lv_if_ne (tgt := 286) hx hb dL_law_279 (by decide) (fun c279 => ?_) (fun c279 => ?_)
    · replace h := wx_iff c279 h
      refine lv_iconst (v := 0) hx hb dL_law_286 (by decide) ?_
      exact b_L_law_287 B (K62 := K62) @hK62 @mK62 (k := k) hk h Z hS (lv_sub hl [0, 1, 2, 3, 4, 5, 6, 7, 8, 9, 10, 11, 12, 13, 14, 15, 16, 17, 18] rfl)
    · replace h := wx_ift c279 h
      refine lv_iconst (v := 1) hx hb dL_law_282 (by decide) ?_
      refine lv_goto (tgt := 287) hx hb dL_law_283 (by decide) ?_
      exact b_L_law_287 B (K62 := K62) @hK62 @mK62 (k := k) hk h Z hS (lv_sub hl [0, 1, 2, 3, 4, 5, 6, 7, 8, 9, 10, 11, 12, 13, 14, 15, 16, 17, 18] rfl)
  · replace h := wx_iff c272 h
    refine lv_iconst (v := 0) hx hb dL_law_275 (by decide) ?_
    exact absurd (wx_ret_ok h).1 (by decide)
set_option maxRecDepth 20000 in
set_option maxHeartbeats 4000000 in
theorem m_L_law_191   {σ' : wx_St} {K62 : Int64 → Int32 → wx_St → Option (Int32 × wx_St)} (mK62 : ∀ {x7 : Int64} {x9 : Int32} {σ : wx_St}, K62 x7 x9 σ = some ((1 : Int32), σ') → wx_n σ.2.2.2.2 ≤ wx_n σ'.2.2.2.2) :
    ∀ {n : Nat} {x7 : Int64} {x9 : Int32} {x10 : Int32} {x11 : Int32} {x12 : Int32} {x13 : Int32} {x14 : Int32} {x15 : Int32} {x16 : Int32} {x17 : Int32} {x18 : Int32} {x19 : Int32} {σ : wx_St} (h : f_L_law_191 ad K62 n x7 x9 x10 x11 x12 x13 x14 x15 x16 x17 x18 x19 σ = some ((1 : Int32), σ')), wx_n σ.2.2.2.2 ≤ wx_n σ'.2.2.2.2 := by
  intro n
  induction n with
  | zero => intro x7 x9 x10 x11 x12 x13 x14 x15 x16 x17 x18 x19 σ h; exact wx_no h
  | succ n ih =>
    intro x7 x9 x10 x11 x12 x13 x14 x15 x16 x17 x18 x19 σ h
    rw [f_L_law_191] at h
    obtain ⟨v195, ev195, iv195, h⟩ := wx_rI_ok h
    by_cases c196 : v195 ≤ x19
    · replace h := wx_ift c196 h
      obtain ⟨v254, σ254, hc254, h⟩ := wx_b_ok h
      refine Nat.le_trans (Nat.le_of_eq (congrArg wx_n (show σ254.2.2.2.2 = σ.2.2.2.2 from m_X5_track_0 hc254)).symm) ?_
      by_cases c259 : x18 = 0
      · replace h := wx_ift c259 h
        obtain ⟨v271, ev271, iv271, h⟩ := wx_rI_ok h
        exact m_L_law_272 (K62 := K62) @mK62 h
      · replace h := wx_iff c259 h
        exact m_L_law_272 (K62 := K62) @mK62 h
    · replace h := wx_iff c196 h
      by_cases c201 : x18 = 0
      · replace h := wx_ift c201 h
        obtain ⟨v211, ev211, iv211, h⟩ := wx_rI_ok h
        obtain ⟨v212, hc212, h⟩ := wx_o_ok h
        by_cases c215 : v212 = 0
        · replace h := wx_ift c215 h
          exact m_L_law_238 (K62 := K62) @mK62 (K191 := (f_L_law_191 ad K62 n)) @ih h
        · replace h := wx_iff c215 h
          obtain ⟨v225, ev225, iv225, h⟩ := wx_rI_ok h
          obtain ⟨v230, ev230, iv230, h⟩ := wx_rI_ok h
          by_cases c231 : v225 = v230
          · replace h := wx_ift c231 h
            exact m_L_law_234 (K62 := K62) @mK62 (K191 := (f_L_law_191 ad K62 n)) @ih h
          · replace h := wx_iff c231 h
            exact m_L_law_238 (K62 := K62) @mK62 (K191 := (f_L_law_191 ad K62 n)) @ih h
      · replace h := wx_iff c201 h
        exact m_L_law_234 (K62 := K62) @mK62 (K191 := (f_L_law_191 ad K62 n)) @ih h
set_option maxRecDepth 20000 in
set_option maxHeartbeats 4000000 in
theorem b_L_law_191 (B : wx_B p s m #[Value.ref b] meth c cL_law 21 (some .boolean) wsL_law RL D ad ca (fun q : Nat => s.heap.size ≤ q))     {σ' : wx_St} {K62 : Int64 → Int32 → wx_St → Option (Int32 × wx_St)} (hK62 : ∀ {x7 : Int64} {x9 : Int32} {σ : wx_St} {k : Nat} (hk : k + wx_n σ'.2.2.2.2 ≤ 1000 + wx_n σ.2.2.2.2)  (h : K62 x7 x9 σ = some ((1 : Int32), σ')) {rd : Nat → Nat} {H : Heap} {locs : List Loc} (Z : wx_Z D ad rd ca (fun q : Nat => s.heap.size ≤ q) σ H) (hS : va_S (fun q : Nat => s.heap.size ≤ q) s.heap H locs) {ls : Array Slot} (hl : lv_has ls 21 [(0, .ref (ad 18 0)), (1, .ref (ad 11 99)), (2, .ref (ad 16 0)), (3, .ref (ad 16 1)), (4, .ref (ad 16 2)), (5, .ref (ad 16 3)), (6, .ref (ad 16 4)), (7, .long x7), (9, .int x9)]), W p l e room_1 s m #[Value.ref b] below meth c H locs k (6464 * k) (lw_Z below #[Value.ref b] s) (F0 m 62 ls [])) (mK62 : ∀ {x7 : Int64} {x9 : Int32} {σ : wx_St}, K62 x7 x9 σ = some ((1 : Int32), σ') → wx_n σ.2.2.2.2 ≤ wx_n σ'.2.2.2.2)  :
    ∀ {n : Nat} {x7 : Int64} {x9 : Int32} {x10 : Int32} {x11 : Int32} {x12 : Int32} {x13 : Int32} {x14 : Int32} {x15 : Int32} {x16 : Int32} {x17 : Int32} {x18 : Int32} {x19 : Int32} {σ : wx_St} {k : Nat} (hk : k + wx_n σ'.2.2.2.2 ≤ 1000 + wx_n σ.2.2.2.2)  (h : f_L_law_191 ad K62 n x7 x9 x10 x11 x12 x13 x14 x15 x16 x17 x18 x19 σ = some ((1 : Int32), σ')) {rd : Nat → Nat} {H : Heap} {locs : List Loc} (Z : wx_Z D ad rd ca (fun q : Nat => s.heap.size ≤ q) σ H) (hS : va_S (fun q : Nat => s.heap.size ≤ q) s.heap H locs) {ls : Array Slot} (hl : lv_has ls 21 [(0, .ref (ad 18 0)), (1, .ref (ad 11 99)), (2, .ref (ad 16 0)), (3, .ref (ad 16 1)), (4, .ref (ad 16 2)), (5, .ref (ad 16 3)), (6, .ref (ad 16 4)), (7, .long x7), (9, .int x9), (10, .int x10), (11, .int x11), (12, .int x12), (13, .int x13), (14, .int x14), (15, .int x15), (16, .int x16), (17, .int x17), (18, .int x18), (19, .int x19)]), W p l e room_1 s m #[Value.ref b] below meth c H locs k (6464 * k) (lw_Z below #[Value.ref b] s) (F0 m 191 ls []) := by
  obtain ⟨hx, hb, hml, hr, hts, hown, hlk, hC, hA⟩ := id B
  intro n
  induction n with
  | zero => intro x7 x9 x10 x11 x12 x13 x14 x15 x16 x17 x18 x19 σ k hk  h rd H locs Z hS ls hl; exact wx_no h
  | succ n ih =>
    intro x7 x9 x10 x11 x12 x13 x14 x15 x16 x17 x18 x19 σ k hk  h rd H locs Z hS ls hl
    have hm := m_L_law_191 (K62 := K62) @mK62 h
    have mih : ∀ {x7 : Int64} {x9 : Int32} {x10 : Int32} {x11 : Int32} {x12 : Int32} {x13 : Int32} {x14 : Int32} {x15 : Int32} {x16 : Int32} {x17 : Int32} {x18 : Int32} {x19 : Int32} {σ : wx_St}, f_L_law_191 ad K62 n x7 x9 x10 x11 x12 x13 x14 x15 x16 x17 x18 x19 σ = some ((1 : Int32), σ') → wx_n σ.2.2.2.2 ≤ wx_n σ'.2.2.2.2 := fun h => m_L_law_191 (K62 := K62) @mK62 h
    rw [f_L_law_191] at h
    refine lv_iload hx hb dL_law_191 (lv_at hl 18 rfl) ?_
    refine lv_aload_n hx hb dL_law_193 rfl (lv_at hl 2 rfl) ?_
    refine lv_iconst (v := 5) hx hb dL_law_194 (by decide) ?_
    obtain ⟨v195, ev195, iv195, h⟩ := wx_rI_ok h
    refine wx_iald hx hb hC.1 Z (o := 16) (k := 0) (n := 7) rfl rfl iv195 dL_law_195 ev195 ?_
    refine lv_icmp_ge (tgt := 247) hx hb dL_law_196 (by decide) (fun c196 => ?_) (fun c196 => ?_)
    · replace h := wx_ift c196 h
      refine lv_aload_n hx hb dL_law_247 rfl (lv_at hl 1 rfl) ?_
      refine lv_iload hx hb dL_law_248 (lv_at hl 12 rfl) ?_
      refine lv_iload hx hb dL_law_250 (lv_at hl 13 rfl) ?_
      refine lv_iload hx hb dL_law_252 (lv_at hl 16 rfl) ?_
      obtain ⟨v254, σ254, hc254, h⟩ := wx_b_ok h
      refine wx_call (va_runV (As := [.int x13, .int x14, .int x17]) (rest := []) ⟨hx, hb, hml, hown, hts⟩ (c_X5_track l (D := D) (ad := ad) (rd := rd) (ca := ca) (A := (fun q : Nat => s.heap.size ≤ q)) (σ := σ) hc254) (cwV 3 hts gL_law_X5_track rfl rfl rfl (by decide +kernel) ⟨Nat.le_of_ble_eq_true rfl, Nat.le_of_ble_eq_true rfl⟩) (wx_preV hC Z hS hA rfl (rfl : vwCl[5]? = some (RX5, TX5, 7))) rfl rfl hl.1 rfl (lv_room (Nat.le_of_ble_eq_true rfl)) dL_law_254 ⟨(by show k + 0 ≤ 600000; omega), (by show 6464 * k + 0 ≤ 7302250; omega)⟩) hS (fun H locs Z hS => ?_)
      have hqσ254 := congrArg wx_n (show σ254.2.2.2.2 = σ.2.2.2.2 from m_X5_track_0 hc254)
      rw [← hqσ254] at hk hm
      refine lv_iload hx hb dL_law_257 (lv_at hl 17 rfl) ?_
      refine lv_if_eq (tgt := 267) hx hb dL_law_259 (by decide) (fun c259 => ?_) (fun c259 => ?_)
      · replace h := wx_ift c259 h
        refine lv_aload hx hb dL_law_267 (lv_at hl 5 rfl) ?_
        refine lv_iload hx hb dL_law_269 (lv_at hl 14 rfl) ?_
        obtain ⟨v271, ev271, iv271, h⟩ := wx_rI_ok h
        refine wx_iald hx hb hC.1 Z (o := 16) (k := 3) (n := 64) rfl rfl iv271 dL_law_271 ev271 ?_
        exact b_L_law_272 B (K62 := K62) @hK62 @mK62 (k := k) hk h Z hS (lv_sub hl [0, 1, 2, 3, 4, 5, 6, 7, 8, 9, 10, 11, 12, 13, 14, 15, 16, 17, 18] rfl)
      · replace h := wx_iff c259 h
        refine lv_bipush (v := (-5)) hx hb dL_law_262 (by decide) ?_
        refine lv_goto (tgt := 272) hx hb dL_law_264 (by decide) ?_
        exact b_L_law_272 B (K62 := K62) @hK62 @mK62 (k := k) hk h Z hS (lv_sub hl [0, 1, 2, 3, 4, 5, 6, 7, 8, 9, 10, 11, 12, 13, 14, 15, 16, 17, 18] rfl)
    · replace h := wx_iff c196 h
      refine lv_iload hx hb dL_law_199 (lv_at hl 17 rfl) ?_
      refine lv_if_ne (tgt := 234) hx hb dL_law_201 (by decide) (fun c201 => ?_) (fun c201 => ?_)
      · replace h := wx_iff c201 h
        exact b_L_law_234 B (K62 := K62) @hK62 @mK62 (K191 := (f_L_law_191 ad K62 n)) @ih mih (k := k) hk h Z hS (lv_sub hl [0, 1, 2, 3, 4, 5, 6, 7, 8, 9, 10, 11, 12, 13, 14, 15, 16, 17, 18] rfl)
      · replace h := wx_ift c201 h
        refine lv_iload hx hb dL_law_204 (lv_at hl 14 rfl) ?_
        refine lv_aload_n hx hb dL_law_206 rfl (lv_at hl 3 rfl) ?_
        refine lv_iconst (v := 2) hx hb dL_law_207 (by decide) ?_
        refine lv_iload hx hb dL_law_208 (lv_at hl 18 rfl) ?_
        refine lv_imul hx hb dL_law_210 ?_
        obtain ⟨v211, ev211, iv211, h⟩ := wx_rI_ok h
        refine wx_iald hx hb hC.1 Z (o := 16) (k := 1) (n := 6) rfl rfl iv211 dL_law_211 ev211 ?_
        obtain ⟨v212, hc212, h⟩ := wx_o_ok h
        refine wx_call (va_runS (As := [.int x15, .int v211]) (rest := []) ⟨hx, hb, hml, hown, hts⟩ (c_L_near l (D := D) (ad := ad) (rd := rd) (ca := ca) (A := (fun q : Nat => s.heap.size ≤ q)) (σ := σ) hc212) (va_cwS 2 hts gL_law_L_near rfl rfl rfl (by decide +kernel) ⟨Nat.le_of_ble_eq_true rfl, Nat.le_of_ble_eq_true rfl⟩) (wx_preS hC Z hS hA) rfl rfl hl.1 rfl (lv_room (Nat.le_of_ble_eq_true rfl)) dL_law_212 ⟨(by show k + 0 ≤ 600000; omega), (by show 6464 * k + 0 ≤ 7302250; omega)⟩) hS (fun H locs Z hS => ?_)
        refine lv_if_eq (tgt := 238) hx hb dL_law_215 (by decide) (fun c215 => ?_) (fun c215 => ?_)
        · replace h := wx_ift c215 h
          exact b_L_law_238 B (K62 := K62) @hK62 @mK62 (K191 := (f_L_law_191 ad K62 n)) @ih mih (k := k) hk h Z hS (lv_sub hl [0, 1, 2, 3, 4, 5, 6, 7, 8, 9, 10, 11, 12, 13, 14, 15, 16, 17, 18] rfl)
        · replace h := wx_iff c215 h
          refine lv_aload_n hx hb dL_law_218 rfl (lv_at hl 3 rfl) ?_
          refine lv_iconst (v := 2) hx hb dL_law_219 (by decide) ?_
          refine lv_iload hx hb dL_law_220 (lv_at hl 18 rfl) ?_
          refine lv_imul hx hb dL_law_222 ?_
          refine lv_iconst (v := 1) hx hb dL_law_223 (by decide) ?_
          refine lv_iadd hx hb dL_law_224 ?_
          obtain ⟨v225, ev225, iv225, h⟩ := wx_rI_ok h
          refine wx_iald hx hb hC.1 Z (o := 16) (k := 1) (n := 6) rfl rfl iv225 dL_law_225 ev225 ?_
          refine lv_aload hx hb dL_law_226 (lv_at hl 5 rfl) ?_
          refine lv_iload hx hb dL_law_228 (lv_at hl 14 rfl) ?_
          obtain ⟨v230, ev230, iv230, h⟩ := wx_rI_ok h
          refine wx_iald hx hb hC.1 Z (o := 16) (k := 3) (n := 64) rfl rfl iv230 dL_law_230 ev230 ?_
          refine lv_icmp_ne (tgt := 238) hx hb dL_law_231 (by decide) (fun c231 => ?_) (fun c231 => ?_)
          · replace h := wx_iff c231 h
            exact b_L_law_238 B (K62 := K62) @hK62 @mK62 (K191 := (f_L_law_191 ad K62 n)) @ih mih (k := k) hk h Z hS (lv_sub hl [0, 1, 2, 3, 4, 5, 6, 7, 8, 9, 10, 11, 12, 13, 14, 15, 16, 17, 18] rfl)
          · replace h := wx_ift c231 h
            exact b_L_law_234 B (K62 := K62) @hK62 @mK62 (K191 := (f_L_law_191 ad K62 n)) @ih mih (k := k) hk h Z hS (lv_sub hl [0, 1, 2, 3, 4, 5, 6, 7, 8, 9, 10, 11, 12, 13, 14, 15, 16, 17, 18] rfl)
set_option maxRecDepth 20000 in
set_option maxHeartbeats 4000000 in
theorem m_L_law_186   {σ' : wx_St} {K62 : Int64 → Int32 → wx_St → Option (Int32 × wx_St)} (mK62 : ∀ {x7 : Int64} {x9 : Int32} {σ : wx_St}, K62 x7 x9 σ = some ((1 : Int32), σ') → wx_n σ.2.2.2.2 ≤ wx_n σ'.2.2.2.2) {x7 : Int64} {x9 : Int32} {x10 : Int32} {x11 : Int32} {x12 : Int32} {x13 : Int32} {x14 : Int32} {x15 : Int32} {x16 : Int32} {x17 : Int32} {y0 : Int32} {σ : wx_St} (h : f_L_law_186 ad K62 x7 x9 x10 x11 x12 x13 x14 x15 x16 x17 y0 σ = some ((1 : Int32), σ')) : wx_n σ.2.2.2.2 ≤ wx_n σ'.2.2.2.2 := by
  unfold f_L_law_186 at h
  exact m_L_law_191 (K62 := K62) @mK62 h
set_option maxRecDepth 20000 in
set_option maxHeartbeats 4000000 in
theorem b_L_law_186 (B : wx_B p s m #[Value.ref b] meth c cL_law 21 (some .boolean) wsL_law RL D ad ca (fun q : Nat => s.heap.size ≤ q))     {σ' : wx_St} {K62 : Int64 → Int32 → wx_St → Option (Int32 × wx_St)} (hK62 : ∀ {x7 : Int64} {x9 : Int32} {σ : wx_St} {k : Nat} (hk : k + wx_n σ'.2.2.2.2 ≤ 1000 + wx_n σ.2.2.2.2)  (h : K62 x7 x9 σ = some ((1 : Int32), σ')) {rd : Nat → Nat} {H : Heap} {locs : List Loc} (Z : wx_Z D ad rd ca (fun q : Nat => s.heap.size ≤ q) σ H) (hS : va_S (fun q : Nat => s.heap.size ≤ q) s.heap H locs) {ls : Array Slot} (hl : lv_has ls 21 [(0, .ref (ad 18 0)), (1, .ref (ad 11 99)), (2, .ref (ad 16 0)), (3, .ref (ad 16 1)), (4, .ref (ad 16 2)), (5, .ref (ad 16 3)), (6, .ref (ad 16 4)), (7, .long x7), (9, .int x9)]), W p l e room_1 s m #[Value.ref b] below meth c H locs k (6464 * k) (lw_Z below #[Value.ref b] s) (F0 m 62 ls [])) (mK62 : ∀ {x7 : Int64} {x9 : Int32} {σ : wx_St}, K62 x7 x9 σ = some ((1 : Int32), σ') → wx_n σ.2.2.2.2 ≤ wx_n σ'.2.2.2.2) {x7 : Int64} {x9 : Int32} {x10 : Int32} {x11 : Int32} {x12 : Int32} {x13 : Int32} {x14 : Int32} {x15 : Int32} {x16 : Int32} {x17 : Int32} {y0 : Int32} {σ : wx_St} {k : Nat} (hk : k + wx_n σ'.2.2.2.2 ≤ 1000 + wx_n σ.2.2.2.2)  (h : f_L_law_186 ad K62 x7 x9 x10 x11 x12 x13 x14 x15 x16 x17 y0 σ = some ((1 : Int32), σ')) {rd : Nat → Nat} {H : Heap} {locs : List Loc} (Z : wx_Z D ad rd ca (fun q : Nat => s.heap.size ≤ q) σ H) (hS : va_S (fun q : Nat => s.heap.size ≤ q) s.heap H locs) {ls : Array Slot} (hl : lv_has ls 21 [(0, .ref (ad 18 0)), (1, .ref (ad 11 99)), (2, .ref (ad 16 0)), (3, .ref (ad 16 1)), (4, .ref (ad 16 2)), (5, .ref (ad 16 3)), (6, .ref (ad 16 4)), (7, .long x7), (9, .int x9), (10, .int x10), (11, .int x11), (12, .int x12), (13, .int x13), (14, .int x14), (15, .int x15), (16, .int x16), (17, .int x17)]) : W p l e room_1 s m #[Value.ref b] below meth c H locs k (6464 * k) (lw_Z below #[Value.ref b] s) (F0 m 186 ls [.int y0]) := by
  obtain ⟨hx, hb, hml, hr, hts, hown, hlk, hC, hA⟩ := id B
  have hm := m_L_law_186 (K62 := K62) @mK62 h
  unfold f_L_law_186 at h
  refine lv_istore (lv' := [(18, .int y0), (0, .ref (ad 18 0)), (1, .ref (ad 11 99)), (2, .ref (ad 16 0)), (3, .ref (ad 16 1)), (4, .ref (ad 16 2)), (5, .ref (ad 16 3)), (6, .ref (ad 16 4)), (7, .long x7), (9, .int x9), (10, .int x10), (11, .int x11), (12, .int x12), (13, .int x13), (14, .int x14), (15, .int x15), (16, .int x16), (17, .int x17)]) hx hb dL_law_186 hl (by decide) rfl (fun ls hl => ?_)
  refine lv_iconst (v := 0) hx hb dL_law_188 (by decide) ?_
  refine lv_istore (lv' := [(19, .int 0), (18, .int y0), (0, .ref (ad 18 0)), (1, .ref (ad 11 99)), (2, .ref (ad 16 0)), (3, .ref (ad 16 1)), (4, .ref (ad 16 2)), (5, .ref (ad 16 3)), (6, .ref (ad 16 4)), (7, .long x7), (9, .int x9), (10, .int x10), (11, .int x11), (12, .int x12), (13, .int x13), (14, .int x14), (15, .int x15), (16, .int x16), (17, .int x17)]) hx hb dL_law_189 hl (by decide) rfl (fun ls hl => ?_)
  exact b_L_law_191 B (K62 := K62) @hK62 @mK62 (k := k) hk h Z hS (lv_sub hl [2, 3, 4, 5, 6, 7, 8, 9, 10, 11, 12, 13, 14, 15, 16, 17, 18, 1, 0] rfl)
set_option maxRecDepth 20000 in
set_option maxHeartbeats 4000000 in
theorem m_L_law_389   {σ' : wx_St}  {x7 : Int64} {x9 : Int32} {x10 : Int32} {x11 : Int32} {x12 : Int32} {x13 : Int32} {x14 : Int32} {x15 : Int32} {x16 : Int32} {x17 : Int32} {x18 : Int32} {x19 : Int32} {σ : wx_St} (h : f_L_law_389 ad x7 x9 x10 x11 x12 x13 x14 x15 x16 x17 x18 x19 σ = some ((1 : Int32), σ')) : wx_n σ.2.2.2.2 ≤ wx_n σ'.2.2.2.2 := by
  unfold f_L_law_389 at h
  exact absurd (wx_ret_ok h).1 (by decide)
set_option maxRecDepth 20000 in
set_option maxHeartbeats 4000000 in
theorem b_L_law_389 (B : wx_B p s m #[Value.ref b] meth c cL_law 21 (some .boolean) wsL_law RL D ad ca (fun q : Nat => s.heap.size ≤ q))     {σ' : wx_St}  {x7 : Int64} {x9 : Int32} {x10 : Int32} {x11 : Int32} {x12 : Int32} {x13 : Int32} {x14 : Int32} {x15 : Int32} {x16 : Int32} {x17 : Int32} {x18 : Int32} {x19 : Int32} {σ : wx_St} {k : Nat} (hk : k + wx_n σ'.2.2.2.2 ≤ 1000 + wx_n σ.2.2.2.2)  (h : f_L_law_389 ad x7 x9 x10 x11 x12 x13 x14 x15 x16 x17 x18 x19 σ = some ((1 : Int32), σ')) {rd : Nat → Nat} {H : Heap} {locs : List Loc} (Z : wx_Z D ad rd ca (fun q : Nat => s.heap.size ≤ q) σ H) (hS : va_S (fun q : Nat => s.heap.size ≤ q) s.heap H locs) {ls : Array Slot} (hl : lv_has ls 21 [(0, .ref (ad 18 0)), (1, .ref (ad 11 99)), (2, .ref (ad 16 0)), (3, .ref (ad 16 1)), (4, .ref (ad 16 2)), (5, .ref (ad 16 3)), (6, .ref (ad 16 4)), (7, .long x7), (9, .int x9), (10, .int x10), (11, .int x11), (12, .int x12), (13, .int x13), (14, .int x14), (15, .int x15), (16, .int x16), (17, .int x17), (18, .int x18), (19, .int x19)]) : W p l e room_1 s m #[Value.ref b] below meth c H locs k (6464 * k) (lw_Z below #[Value.ref b] s) (F0 m 389 ls []) := by
  obtain ⟨hx, hb, hml, hr, hts, hown, hlk, hC, hA⟩ := id B
  have hm := m_L_law_389 h
  unfold f_L_law_389 at h
  refine lv_iconst (v := 0) hx hb dL_law_389 (by decide) ?_
  exact absurd (wx_ret_ok h).1 (by decide)
set_option maxRecDepth 20000 in
set_option maxHeartbeats 4000000 in
theorem m_L_law_425   {σ' : wx_St} {K62 : Int64 → Int32 → wx_St → Option (Int32 × wx_St)} (mK62 : ∀ {x7 : Int64} {x9 : Int32} {σ : wx_St}, K62 x7 x9 σ = some ((1 : Int32), σ') → wx_n σ.2.2.2.2 ≤ wx_n σ'.2.2.2.2) {x7 : Int64} {x9 : Int32} {x10 : Int32} {x11 : Int32} {x12 : Int32} {x13 : Int32} {x14 : Int32} {x15 : Int32} {x16 : Int32} {x17 : Int32} {x18 : Int32} {x19 : Int32} {σ : wx_St} (h : f_L_law_425 ad K62 x7 x9 x10 x11 x12 x13 x14 x15 x16 x17 x18 x19 σ = some ((1 : Int32), σ')) : wx_n σ.2.2.2.2 ≤ wx_n σ'.2.2.2.2 := by
  unfold f_L_law_425 at h
  exact m_L_law_1246 (K62 := K62) @mK62 h
set_option maxRecDepth 20000 in
set_option maxHeartbeats 4000000 in
theorem b_L_law_425 (B : wx_B p s m #[Value.ref b] meth c cL_law 21 (some .boolean) wsL_law RL D ad ca (fun q : Nat => s.heap.size ≤ q))     {σ' : wx_St} {K62 : Int64 → Int32 → wx_St → Option (Int32 × wx_St)} (hK62 : ∀ {x7 : Int64} {x9 : Int32} {σ : wx_St} {k : Nat} (hk : k + wx_n σ'.2.2.2.2 ≤ 1000 + wx_n σ.2.2.2.2)  (h : K62 x7 x9 σ = some ((1 : Int32), σ')) {rd : Nat → Nat} {H : Heap} {locs : List Loc} (Z : wx_Z D ad rd ca (fun q : Nat => s.heap.size ≤ q) σ H) (hS : va_S (fun q : Nat => s.heap.size ≤ q) s.heap H locs) {ls : Array Slot} (hl : lv_has ls 21 [(0, .ref (ad 18 0)), (1, .ref (ad 11 99)), (2, .ref (ad 16 0)), (3, .ref (ad 16 1)), (4, .ref (ad 16 2)), (5, .ref (ad 16 3)), (6, .ref (ad 16 4)), (7, .long x7), (9, .int x9)]), W p l e room_1 s m #[Value.ref b] below meth c H locs k (6464 * k) (lw_Z below #[Value.ref b] s) (F0 m 62 ls [])) (mK62 : ∀ {x7 : Int64} {x9 : Int32} {σ : wx_St}, K62 x7 x9 σ = some ((1 : Int32), σ') → wx_n σ.2.2.2.2 ≤ wx_n σ'.2.2.2.2) {x7 : Int64} {x9 : Int32} {x10 : Int32} {x11 : Int32} {x12 : Int32} {x13 : Int32} {x14 : Int32} {x15 : Int32} {x16 : Int32} {x17 : Int32} {x18 : Int32} {x19 : Int32} {σ : wx_St} {k : Nat} (hk : k + wx_n σ'.2.2.2.2 ≤ 1000 + wx_n σ.2.2.2.2)  (h : f_L_law_425 ad K62 x7 x9 x10 x11 x12 x13 x14 x15 x16 x17 x18 x19 σ = some ((1 : Int32), σ')) {rd : Nat → Nat} {H : Heap} {locs : List Loc} (Z : wx_Z D ad rd ca (fun q : Nat => s.heap.size ≤ q) σ H) (hS : va_S (fun q : Nat => s.heap.size ≤ q) s.heap H locs) {ls : Array Slot} (hl : lv_has ls 21 [(0, .ref (ad 18 0)), (1, .ref (ad 11 99)), (2, .ref (ad 16 0)), (3, .ref (ad 16 1)), (4, .ref (ad 16 2)), (5, .ref (ad 16 3)), (6, .ref (ad 16 4)), (7, .long x7), (9, .int x9), (10, .int x10), (11, .int x11), (12, .int x12), (13, .int x13), (14, .int x14), (15, .int x15), (16, .int x16), (17, .int x17), (18, .int x18), (19, .int x19)]) : W p l e room_1 s m #[Value.ref b] below meth c H locs k (6464 * k) (lw_Z below #[Value.ref b] s) (F0 m 425 ls []) := by
  obtain ⟨hx, hb, hml, hr, hts, hown, hlk, hC, hA⟩ := id B
  have hm := m_L_law_425 (K62 := K62) @mK62 h
  unfold f_L_law_425 at h
  refine lv_goto (tgt := 1246) hx hb dL_law_425 (by decide) ?_
  exact b_L_law_1246 B (K62 := K62) @hK62 @mK62 (k := k) hk h Z hS (lv_sub hl [0, 1, 2, 3, 4, 5, 6, 7, 8, 9, 10, 11, 12, 13, 14, 15] rfl)
set_option maxRecDepth 20000 in
set_option maxHeartbeats 4000000 in
theorem m_L_law_391   {σ' : wx_St} {K62 : Int64 → Int32 → wx_St → Option (Int32 × wx_St)} (mK62 : ∀ {x7 : Int64} {x9 : Int32} {σ : wx_St}, K62 x7 x9 σ = some ((1 : Int32), σ') → wx_n σ.2.2.2.2 ≤ wx_n σ'.2.2.2.2) {x7 : Int64} {x9 : Int32} {x10 : Int32} {x11 : Int32} {x12 : Int32} {x13 : Int32} {x14 : Int32} {x15 : Int32} {x16 : Int32} {x17 : Int32} {x18 : Int32} {x19 : Int32} {σ : wx_St} (h : f_L_law_391 ad K62 x7 x9 x10 x11 x12 x13 x14 x15 x16 x17 x18 x19 σ = some ((1 : Int32), σ')) : wx_n σ.2.2.2.2 ≤ wx_n σ'.2.2.2.2 := by
  unfold f_L_law_391 at h
  by_cases c395 : x17 = x18
  · replace h := wx_ift c395 h
    exact m_L_law_425 (K62 := K62) @mK62 h
  · replace h := wx_iff c395 h
    obtain ⟨v403, ev403, iv403, h⟩ := wx_rI_ok h
    obtain ⟨σ409, e409, i409, h⟩ := wx_w_ok h
    refine Nat.le_trans (Nat.le_of_eq (congrArg wx_n (show σ409.2.2.2.2 = σ.2.2.2.2 from (congrArg (fun z : wx_St => z.2.2.2.2) e409).trans rfl)).symm) ?_
    obtain ⟨v415, ev415, iv415, h⟩ := wx_rI_ok h
    obtain ⟨σ421, e421, i421, h⟩ := wx_w_ok h
    refine Nat.le_trans (Nat.le_of_eq (congrArg wx_n (show σ421.2.2.2.2 = σ409.2.2.2.2 from (congrArg (fun z : wx_St => z.2.2.2.2) e421).trans rfl)).symm) ?_
    exact m_L_law_425 (K62 := K62) @mK62 h
set_option maxRecDepth 20000 in
set_option maxHeartbeats 4000000 in
theorem b_L_law_391 (B : wx_B p s m #[Value.ref b] meth c cL_law 21 (some .boolean) wsL_law RL D ad ca (fun q : Nat => s.heap.size ≤ q))     {σ' : wx_St} {K62 : Int64 → Int32 → wx_St → Option (Int32 × wx_St)} (hK62 : ∀ {x7 : Int64} {x9 : Int32} {σ : wx_St} {k : Nat} (hk : k + wx_n σ'.2.2.2.2 ≤ 1000 + wx_n σ.2.2.2.2)  (h : K62 x7 x9 σ = some ((1 : Int32), σ')) {rd : Nat → Nat} {H : Heap} {locs : List Loc} (Z : wx_Z D ad rd ca (fun q : Nat => s.heap.size ≤ q) σ H) (hS : va_S (fun q : Nat => s.heap.size ≤ q) s.heap H locs) {ls : Array Slot} (hl : lv_has ls 21 [(0, .ref (ad 18 0)), (1, .ref (ad 11 99)), (2, .ref (ad 16 0)), (3, .ref (ad 16 1)), (4, .ref (ad 16 2)), (5, .ref (ad 16 3)), (6, .ref (ad 16 4)), (7, .long x7), (9, .int x9)]), W p l e room_1 s m #[Value.ref b] below meth c H locs k (6464 * k) (lw_Z below #[Value.ref b] s) (F0 m 62 ls [])) (mK62 : ∀ {x7 : Int64} {x9 : Int32} {σ : wx_St}, K62 x7 x9 σ = some ((1 : Int32), σ') → wx_n σ.2.2.2.2 ≤ wx_n σ'.2.2.2.2) {x7 : Int64} {x9 : Int32} {x10 : Int32} {x11 : Int32} {x12 : Int32} {x13 : Int32} {x14 : Int32} {x15 : Int32} {x16 : Int32} {x17 : Int32} {x18 : Int32} {x19 : Int32} {σ : wx_St} {k : Nat} (hk : k + wx_n σ'.2.2.2.2 ≤ 1000 + wx_n σ.2.2.2.2)  (h : f_L_law_391 ad K62 x7 x9 x10 x11 x12 x13 x14 x15 x16 x17 x18 x19 σ = some ((1 : Int32), σ')) {rd : Nat → Nat} {H : Heap} {locs : List Loc} (Z : wx_Z D ad rd ca (fun q : Nat => s.heap.size ≤ q) σ H) (hS : va_S (fun q : Nat => s.heap.size ≤ q) s.heap H locs) {ls : Array Slot} (hl : lv_has ls 21 [(0, .ref (ad 18 0)), (1, .ref (ad 11 99)), (2, .ref (ad 16 0)), (3, .ref (ad 16 1)), (4, .ref (ad 16 2)), (5, .ref (ad 16 3)), (6, .ref (ad 16 4)), (7, .long x7), (9, .int x9), (10, .int x10), (11, .int x11), (12, .int x12), (13, .int x13), (14, .int x14), (15, .int x15), (16, .int x16), (17, .int x17), (18, .int x18), (19, .int x19)]) : W p l e room_1 s m #[Value.ref b] below meth c H locs k (6464 * k) (lw_Z below #[Value.ref b] s) (F0 m 391 ls []) := by
  obtain ⟨hx, hb, hml, hr, hts, hown, hlk, hC, hA⟩ := id B
  have hm := m_L_law_391 (K62 := K62) @mK62 h
  unfold f_L_law_391 at h
  refine lv_iload hx hb dL_law_391 (lv_at hl 16 rfl) ?_
  refine lv_iload hx hb dL_law_393 (lv_at hl 17 rfl) ?_
  refine lv_icmp_eq (tgt := 425) hx hb dL_law_395 (by decide) (fun c395 => ?_) (fun c395 => ?_)
  · replace h := wx_ift c395 h
    exact b_L_law_425 B (K62 := K62) @hK62 @mK62 (k := k) hk h Z hS (lv_sub hl [0, 1, 2, 3, 4, 5, 6, 7, 8, 9, 10, 11, 12, 13, 14, 15, 16, 17, 18] rfl)
  · replace h := wx_iff c395 h
    refine lv_aload hx hb dL_law_398 (lv_at hl 6 rfl) ?_
    refine lv_iload hx hb dL_law_400 (lv_at hl 16 rfl) ?_
    refine lv_dup2_11 hx hb dL_law_402 rfl rfl ?_
    obtain ⟨v403, ev403, iv403, h⟩ := wx_rI_ok h
    refine wx_iald hx hb hC.1 Z (o := 16) (k := 4) (n := 8) rfl rfl iv403 dL_law_403 ev403 ?_
    refine lv_iconst (v := 1) hx hb dL_law_404 (by decide) ?_
    refine lv_iload hx hb dL_law_405 (lv_at hl 17 rfl) ?_
    refine lv_ishl hx hb dL_law_407 ?_
    refine lv_ixor hx hb dL_law_408 ?_
    obtain ⟨σ409, e409, i409, h⟩ := wx_w_ok h
    refine wx_iast hx hb hC.1 Z hS (o := 16) (k := 4) (n := 8) rfl rfl i409 dL_law_409 e409 (fun H locs Z hS => ?_)
    have hqσ409 := congrArg wx_n (show σ409.2.2.2.2 = σ.2.2.2.2 from (congrArg (fun z : wx_St => z.2.2.2.2) e409).trans rfl)
    rw [← hqσ409] at hk hm
    refine lv_aload hx hb dL_law_410 (lv_at hl 6 rfl) ?_
    refine lv_iload hx hb dL_law_412 (lv_at hl 17 rfl) ?_
    refine lv_dup2_11 hx hb dL_law_414 rfl rfl ?_
    obtain ⟨v415, ev415, iv415, h⟩ := wx_rI_ok h
    refine wx_iald hx hb hC.1 Z (o := 16) (k := 4) (n := 8) rfl rfl iv415 dL_law_415 ev415 ?_
    refine lv_iconst (v := 1) hx hb dL_law_416 (by decide) ?_
    refine lv_iload hx hb dL_law_417 (lv_at hl 16 rfl) ?_
    refine lv_ishl hx hb dL_law_419 ?_
    refine lv_ixor hx hb dL_law_420 ?_
    obtain ⟨σ421, e421, i421, h⟩ := wx_w_ok h
    refine wx_iast hx hb hC.1 Z hS (o := 16) (k := 4) (n := 8) rfl rfl i421 dL_law_421 e421 (fun H locs Z hS => ?_)
    have hqσ421 := congrArg wx_n (show σ421.2.2.2.2 = σ409.2.2.2.2 from (congrArg (fun z : wx_St => z.2.2.2.2) e421).trans rfl)
    rw [← hqσ421] at hk hm
    refine lv_iconst (v := 1) hx hb dL_law_422 (by decide) ?_
    refine lv_istore (lv' := [(16, .int 1), (0, .ref (ad 18 0)), (1, .ref (ad 11 99)), (2, .ref (ad 16 0)), (3, .ref (ad 16 1)), (4, .ref (ad 16 2)), (5, .ref (ad 16 3)), (6, .ref (ad 16 4)), (7, .long x7), (9, .int x9), (10, .int x10), (11, .int x11), (12, .int x12), (13, .int x13), (14, .int x14), (15, .int x15), (17, .int x17), (18, .int x18), (19, .int x19)]) hx hb dL_law_423 hl (by decide) rfl (fun ls hl => ?_)
    exact b_L_law_425 B (K62 := K62) @hK62 @mK62 (k := k) hk h Z hS (lv_sub hl [1, 2, 3, 4, 5, 6, 7, 8, 9, 10, 11, 12, 13, 14, 15, 0, 16, 17, 18] rfl)
set_option maxRecDepth 20000 in
set_option maxHeartbeats 4000000 in
theorem m_L_law_386   {σ' : wx_St} {K62 : Int64 → Int32 → wx_St → Option (Int32 × wx_St)} (mK62 : ∀ {x7 : Int64} {x9 : Int32} {σ : wx_St}, K62 x7 x9 σ = some ((1 : Int32), σ') → wx_n σ.2.2.2.2 ≤ wx_n σ'.2.2.2.2) {x7 : Int64} {x9 : Int32} {x10 : Int32} {x11 : Int32} {x12 : Int32} {x13 : Int32} {x14 : Int32} {x15 : Int32} {x16 : Int32} {x17 : Int32} {x18 : Int32} {x19 : Int32} {y0 : Int32} {y1 : Int32} {σ : wx_St} (h : f_L_law_386 ad K62 x7 x9 x10 x11 x12 x13 x14 x15 x16 x17 x18 x19 y0 y1 σ = some ((1 : Int32), σ')) : wx_n σ.2.2.2.2 ≤ wx_n σ'.2.2.2.2 := by
  unfold f_L_law_386 at h
  by_cases c386 : y0 = y1
  · replace h := wx_ift c386 h
    exact m_L_law_391 (K62 := K62) @mK62 h
  · replace h := wx_iff c386 h
    exact m_L_law_389 h
set_option maxRecDepth 20000 in
set_option maxHeartbeats 4000000 in
theorem b_L_law_386 (B : wx_B p s m #[Value.ref b] meth c cL_law 21 (some .boolean) wsL_law RL D ad ca (fun q : Nat => s.heap.size ≤ q))     {σ' : wx_St} {K62 : Int64 → Int32 → wx_St → Option (Int32 × wx_St)} (hK62 : ∀ {x7 : Int64} {x9 : Int32} {σ : wx_St} {k : Nat} (hk : k + wx_n σ'.2.2.2.2 ≤ 1000 + wx_n σ.2.2.2.2)  (h : K62 x7 x9 σ = some ((1 : Int32), σ')) {rd : Nat → Nat} {H : Heap} {locs : List Loc} (Z : wx_Z D ad rd ca (fun q : Nat => s.heap.size ≤ q) σ H) (hS : va_S (fun q : Nat => s.heap.size ≤ q) s.heap H locs) {ls : Array Slot} (hl : lv_has ls 21 [(0, .ref (ad 18 0)), (1, .ref (ad 11 99)), (2, .ref (ad 16 0)), (3, .ref (ad 16 1)), (4, .ref (ad 16 2)), (5, .ref (ad 16 3)), (6, .ref (ad 16 4)), (7, .long x7), (9, .int x9)]), W p l e room_1 s m #[Value.ref b] below meth c H locs k (6464 * k) (lw_Z below #[Value.ref b] s) (F0 m 62 ls [])) (mK62 : ∀ {x7 : Int64} {x9 : Int32} {σ : wx_St}, K62 x7 x9 σ = some ((1 : Int32), σ') → wx_n σ.2.2.2.2 ≤ wx_n σ'.2.2.2.2) {x7 : Int64} {x9 : Int32} {x10 : Int32} {x11 : Int32} {x12 : Int32} {x13 : Int32} {x14 : Int32} {x15 : Int32} {x16 : Int32} {x17 : Int32} {x18 : Int32} {x19 : Int32} {y0 : Int32} {y1 : Int32} {σ : wx_St} {k : Nat} (hk : k + wx_n σ'.2.2.2.2 ≤ 1000 + wx_n σ.2.2.2.2)  (h : f_L_law_386 ad K62 x7 x9 x10 x11 x12 x13 x14 x15 x16 x17 x18 x19 y0 y1 σ = some ((1 : Int32), σ')) {rd : Nat → Nat} {H : Heap} {locs : List Loc} (Z : wx_Z D ad rd ca (fun q : Nat => s.heap.size ≤ q) σ H) (hS : va_S (fun q : Nat => s.heap.size ≤ q) s.heap H locs) {ls : Array Slot} (hl : lv_has ls 21 [(0, .ref (ad 18 0)), (1, .ref (ad 11 99)), (2, .ref (ad 16 0)), (3, .ref (ad 16 1)), (4, .ref (ad 16 2)), (5, .ref (ad 16 3)), (6, .ref (ad 16 4)), (7, .long x7), (9, .int x9), (10, .int x10), (11, .int x11), (12, .int x12), (13, .int x13), (14, .int x14), (15, .int x15), (16, .int x16), (17, .int x17), (18, .int x18), (19, .int x19)]) : W p l e room_1 s m #[Value.ref b] below meth c H locs k (6464 * k) (lw_Z below #[Value.ref b] s) (F0 m 386 ls [.int y1, .int y0]) := by
  obtain ⟨hx, hb, hml, hr, hts, hown, hlk, hC, hA⟩ := id B
  have hm := m_L_law_386 (K62 := K62) @mK62 h
  unfold f_L_law_386 at h
  refine lv_icmp_eq (tgt := 391) hx hb dL_law_386 (by decide) (fun c386 => ?_) (fun c386 => ?_)
  · replace h := wx_ift c386 h
    exact b_L_law_391 B (K62 := K62) @hK62 @mK62 (k := k) hk h Z hS (lv_sub hl [0, 1, 2, 3, 4, 5, 6, 7, 8, 9, 10, 11, 12, 13, 14, 15, 16, 17, 18] rfl)
  · replace h := wx_iff c386 h
    exact b_L_law_389 B (k := k) hk h Z hS (lv_sub hl [0, 1, 2, 3, 4, 5, 6, 7, 8, 9, 10, 11, 12, 13, 14, 15, 16, 17, 18] rfl)
set_option maxRecDepth 20000 in
set_option maxHeartbeats 4000000 in
theorem m_L_law_617   {σ' : wx_St} {K62 : Int64 → Int32 → wx_St → Option (Int32 × wx_St)} (mK62 : ∀ {x7 : Int64} {x9 : Int32} {σ : wx_St}, K62 x7 x9 σ = some ((1 : Int32), σ') → wx_n σ.2.2.2.2 ≤ wx_n σ'.2.2.2.2) {x7 : Int64} {x9 : Int32} {x10 : Int32} {x11 : Int32} {x12 : Int32} {x13 : Int32} {x14 : Int32} {x15 : Int32} {x16 : Int32} {x17 : Int32} {x18 : Int32} {σ : wx_St} (h : f_L_law_617 ad K62 x7 x9 x10 x11 x12 x13 x14 x15 x16 x17 x18 σ = some ((1 : Int32), σ')) : wx_n σ.2.2.2.2 ≤ wx_n σ'.2.2.2.2 := by
  unfold f_L_law_617 at h
  exact m_L_law_1246 (K62 := K62) @mK62 h
set_option maxRecDepth 20000 in
set_option maxHeartbeats 4000000 in
theorem b_L_law_617 (B : wx_B p s m #[Value.ref b] meth c cL_law 21 (some .boolean) wsL_law RL D ad ca (fun q : Nat => s.heap.size ≤ q))     {σ' : wx_St} {K62 : Int64 → Int32 → wx_St → Option (Int32 × wx_St)} (hK62 : ∀ {x7 : Int64} {x9 : Int32} {σ : wx_St} {k : Nat} (hk : k + wx_n σ'.2.2.2.2 ≤ 1000 + wx_n σ.2.2.2.2)  (h : K62 x7 x9 σ = some ((1 : Int32), σ')) {rd : Nat → Nat} {H : Heap} {locs : List Loc} (Z : wx_Z D ad rd ca (fun q : Nat => s.heap.size ≤ q) σ H) (hS : va_S (fun q : Nat => s.heap.size ≤ q) s.heap H locs) {ls : Array Slot} (hl : lv_has ls 21 [(0, .ref (ad 18 0)), (1, .ref (ad 11 99)), (2, .ref (ad 16 0)), (3, .ref (ad 16 1)), (4, .ref (ad 16 2)), (5, .ref (ad 16 3)), (6, .ref (ad 16 4)), (7, .long x7), (9, .int x9)]), W p l e room_1 s m #[Value.ref b] below meth c H locs k (6464 * k) (lw_Z below #[Value.ref b] s) (F0 m 62 ls [])) (mK62 : ∀ {x7 : Int64} {x9 : Int32} {σ : wx_St}, K62 x7 x9 σ = some ((1 : Int32), σ') → wx_n σ.2.2.2.2 ≤ wx_n σ'.2.2.2.2) {x7 : Int64} {x9 : Int32} {x10 : Int32} {x11 : Int32} {x12 : Int32} {x13 : Int32} {x14 : Int32} {x15 : Int32} {x16 : Int32} {x17 : Int32} {x18 : Int32} {σ : wx_St} {k : Nat} (hk : k + wx_n σ'.2.2.2.2 ≤ 1000 + wx_n σ.2.2.2.2)  (h : f_L_law_617 ad K62 x7 x9 x10 x11 x12 x13 x14 x15 x16 x17 x18 σ = some ((1 : Int32), σ')) {rd : Nat → Nat} {H : Heap} {locs : List Loc} (Z : wx_Z D ad rd ca (fun q : Nat => s.heap.size ≤ q) σ H) (hS : va_S (fun q : Nat => s.heap.size ≤ q) s.heap H locs) {ls : Array Slot} (hl : lv_has ls 21 [(0, .ref (ad 18 0)), (1, .ref (ad 11 99)), (2, .ref (ad 16 0)), (3, .ref (ad 16 1)), (4, .ref (ad 16 2)), (5, .ref (ad 16 3)), (6, .ref (ad 16 4)), (7, .long x7), (9, .int x9), (10, .int x10), (11, .int x11), (12, .int x12), (13, .int x13), (14, .int x14), (15, .int x15), (16, .int x16), (17, .int x17), (18, .int x18)]) : W p l e room_1 s m #[Value.ref b] below meth c H locs k (6464 * k) (lw_Z below #[Value.ref b] s) (F0 m 617 ls []) := by
  obtain ⟨hx, hb, hml, hr, hts, hown, hlk, hC, hA⟩ := id B
  have hm := m_L_law_617 (K62 := K62) @mK62 h
  unfold f_L_law_617 at h
  refine lv_goto (tgt := 1246) hx hb dL_law_617 (by decide) ?_
  exact b_L_law_1246 B (K62 := K62) @hK62 @mK62 (k := k) hk h Z hS (lv_sub hl [0, 1, 2, 3, 4, 5, 6, 7, 8, 9, 10, 11, 12, 13, 14, 15] rfl)
set_option maxRecDepth 20000 in
set_option maxHeartbeats 4000000 in
theorem m_L_law_570   {σ' : wx_St} {K62 : Int64 → Int32 → wx_St → Option (Int32 × wx_St)} (mK62 : ∀ {x7 : Int64} {x9 : Int32} {σ : wx_St}, K62 x7 x9 σ = some ((1 : Int32), σ') → wx_n σ.2.2.2.2 ≤ wx_n σ'.2.2.2.2) {x7 : Int64} {x9 : Int32} {x10 : Int32} {x11 : Int32} {x12 : Int32} {x13 : Int32} {x14 : Int32} {x15 : Int32} {x16 : Int32} {x17 : Int32} {x18 : Int32} {y0 : Int32} {y1 : Int32} {σ : wx_St} (h : f_L_law_570 ad K62 x7 x9 x10 x11 x12 x13 x14 x15 x16 x17 x18 y0 y1 σ = some ((1 : Int32), σ')) : wx_n σ.2.2.2.2 ≤ wx_n σ'.2.2.2.2 := by
  unfold f_L_law_570 at h
  by_cases c570 : y0 = y1
  · replace h := wx_ift c570 h
    by_cases c577 : x18 = 0
    · replace h := wx_ift c577 h
      exact m_L_law_617 (K62 := K62) @mK62 h
    · replace h := wx_iff c577 h
      obtain ⟨v582, ev582, iv582, h⟩ := wx_rI_ok h
      by_cases c584 : 3 ≤ v582
      · replace h := wx_ift c584 h
        exact m_L_law_617 (K62 := K62) @mK62 h
      · replace h := wx_iff c584 h
        obtain ⟨v591, ev591, iv591, h⟩ := wx_rI_ok h
        obtain ⟨σ595, e595, i595, h⟩ := wx_w_ok h
        refine Nat.le_trans (Nat.le_of_eq (congrArg wx_n (show σ595.2.2.2.2 = σ.2.2.2.2 from (congrArg (fun z : wx_St => z.2.2.2.2) e595).trans rfl)).symm) ?_
        obtain ⟨v600, ev600, iv600, h⟩ := wx_rI_ok h
        obtain ⟨σ606, e606, i606, h⟩ := wx_w_ok h
        refine Nat.le_trans (Nat.le_of_eq (congrArg wx_n (show σ606.2.2.2.2 = σ595.2.2.2.2 from (congrArg (fun z : wx_St => z.2.2.2.2) e606).trans rfl)).symm) ?_
        obtain ⟨v610, ev610, iv610, h⟩ := wx_rI_ok h
        obtain ⟨σ613, e613, i613, h⟩ := wx_w_ok h
        refine Nat.le_trans (Nat.le_of_eq (congrArg wx_n (show σ613.2.2.2.2 = σ606.2.2.2.2 from (congrArg (fun z : wx_St => z.2.2.2.2) e613).trans rfl)).symm) ?_
        exact m_L_law_617 (K62 := K62) @mK62 h
  · replace h := wx_iff c570 h
    exact absurd (wx_ret_ok h).1 (by decide)
set_option maxRecDepth 20000 in
set_option maxHeartbeats 4000000 in
theorem b_L_law_570 (B : wx_B p s m #[Value.ref b] meth c cL_law 21 (some .boolean) wsL_law RL D ad ca (fun q : Nat => s.heap.size ≤ q))     {σ' : wx_St} {K62 : Int64 → Int32 → wx_St → Option (Int32 × wx_St)} (hK62 : ∀ {x7 : Int64} {x9 : Int32} {σ : wx_St} {k : Nat} (hk : k + wx_n σ'.2.2.2.2 ≤ 1000 + wx_n σ.2.2.2.2)  (h : K62 x7 x9 σ = some ((1 : Int32), σ')) {rd : Nat → Nat} {H : Heap} {locs : List Loc} (Z : wx_Z D ad rd ca (fun q : Nat => s.heap.size ≤ q) σ H) (hS : va_S (fun q : Nat => s.heap.size ≤ q) s.heap H locs) {ls : Array Slot} (hl : lv_has ls 21 [(0, .ref (ad 18 0)), (1, .ref (ad 11 99)), (2, .ref (ad 16 0)), (3, .ref (ad 16 1)), (4, .ref (ad 16 2)), (5, .ref (ad 16 3)), (6, .ref (ad 16 4)), (7, .long x7), (9, .int x9)]), W p l e room_1 s m #[Value.ref b] below meth c H locs k (6464 * k) (lw_Z below #[Value.ref b] s) (F0 m 62 ls [])) (mK62 : ∀ {x7 : Int64} {x9 : Int32} {σ : wx_St}, K62 x7 x9 σ = some ((1 : Int32), σ') → wx_n σ.2.2.2.2 ≤ wx_n σ'.2.2.2.2) {x7 : Int64} {x9 : Int32} {x10 : Int32} {x11 : Int32} {x12 : Int32} {x13 : Int32} {x14 : Int32} {x15 : Int32} {x16 : Int32} {x17 : Int32} {x18 : Int32} {y0 : Int32} {y1 : Int32} {σ : wx_St} {k : Nat} (hk : k + wx_n σ'.2.2.2.2 ≤ 1000 + wx_n σ.2.2.2.2)  (h : f_L_law_570 ad K62 x7 x9 x10 x11 x12 x13 x14 x15 x16 x17 x18 y0 y1 σ = some ((1 : Int32), σ')) {rd : Nat → Nat} {H : Heap} {locs : List Loc} (Z : wx_Z D ad rd ca (fun q : Nat => s.heap.size ≤ q) σ H) (hS : va_S (fun q : Nat => s.heap.size ≤ q) s.heap H locs) {ls : Array Slot} (hl : lv_has ls 21 [(0, .ref (ad 18 0)), (1, .ref (ad 11 99)), (2, .ref (ad 16 0)), (3, .ref (ad 16 1)), (4, .ref (ad 16 2)), (5, .ref (ad 16 3)), (6, .ref (ad 16 4)), (7, .long x7), (9, .int x9), (10, .int x10), (11, .int x11), (12, .int x12), (13, .int x13), (14, .int x14), (15, .int x15), (16, .int x16), (17, .int x17), (18, .int x18)]) : W p l e room_1 s m #[Value.ref b] below meth c H locs k (6464 * k) (lw_Z below #[Value.ref b] s) (F0 m 570 ls [.int y1, .int y0]) := by
  obtain ⟨hx, hb, hml, hr, hts, hown, hlk, hC, hA⟩ := id B
  have hm := m_L_law_570 (K62 := K62) @mK62 h
  unfold f_L_law_570 at h
  refine lv_icmp_eq (tgt := 575) hx hb dL_law_570 (by decide) (fun c570 => ?_) (fun c570 => ?_)
  · replace h := wx_ift c570 h
    refine lv_iload hx hb dL_law_575 (lv_at hl 17 rfl) ?_
    refine lv_if_eq (tgt := 617) hx hb dL_law_577 (by decide) (fun c577 => ?_) (fun c577 => ?_)
    · replace h := wx_ift c577 h
      exact b_L_law_617 B (K62 := K62) @hK62 @mK62 (k := k) hk h Z hS (lv_sub hl [0, 1, 2, 3, 4, 5, 6, 7, 8, 9, 10, 11, 12, 13, 14, 15, 16, 17] rfl)
    · replace h := wx_iff c577 h
      refine lv_aload_n hx hb dL_law_580 rfl (lv_at hl 2 rfl) ?_
      refine lv_iconst (v := 5) hx hb dL_law_581 (by decide) ?_
      obtain ⟨v582, ev582, iv582, h⟩ := wx_rI_ok h
      refine wx_iald hx hb hC.1 Z (o := 16) (k := 0) (n := 7) rfl rfl iv582 dL_law_582 ev582 ?_
      refine lv_iconst (v := 3) hx hb dL_law_583 (by decide) ?_
      refine lv_icmp_ge (tgt := 617) hx hb dL_law_584 (by decide) (fun c584 => ?_) (fun c584 => ?_)
      · replace h := wx_ift c584 h
        exact b_L_law_617 B (K62 := K62) @hK62 @mK62 (k := k) hk h Z hS (lv_sub hl [0, 1, 2, 3, 4, 5, 6, 7, 8, 9, 10, 11, 12, 13, 14, 15, 16, 17] rfl)
      · replace h := wx_iff c584 h
        refine lv_aload_n hx hb dL_law_587 rfl (lv_at hl 3 rfl) ?_
        refine lv_iconst (v := 2) hx hb dL_law_588 (by decide) ?_
        refine lv_aload_n hx hb dL_law_589 rfl (lv_at hl 2 rfl) ?_
        refine lv_iconst (v := 5) hx hb dL_law_590 (by decide) ?_
        obtain ⟨v591, ev591, iv591, h⟩ := wx_rI_ok h
        refine wx_iald hx hb hC.1 Z (o := 16) (k := 0) (n := 7) rfl rfl iv591 dL_law_591 ev591 ?_
        refine lv_imul hx hb dL_law_592 ?_
        refine lv_iload hx hb dL_law_593 (lv_at hl 14 rfl) ?_
        obtain ⟨σ595, e595, i595, h⟩ := wx_w_ok h
        refine wx_iast hx hb hC.1 Z hS (o := 16) (k := 1) (n := 6) rfl rfl i595 dL_law_595 e595 (fun H locs Z hS => ?_)
        have hqσ595 := congrArg wx_n (show σ595.2.2.2.2 = σ.2.2.2.2 from (congrArg (fun z : wx_St => z.2.2.2.2) e595).trans rfl)
        rw [← hqσ595] at hk hm
        refine lv_aload_n hx hb dL_law_596 rfl (lv_at hl 3 rfl) ?_
        refine lv_iconst (v := 2) hx hb dL_law_597 (by decide) ?_
        refine lv_aload_n hx hb dL_law_598 rfl (lv_at hl 2 rfl) ?_
        refine lv_iconst (v := 5) hx hb dL_law_599 (by decide) ?_
        obtain ⟨v600, ev600, iv600, h⟩ := wx_rI_ok h
        refine wx_iald hx hb hC.1 Z (o := 16) (k := 0) (n := 7) rfl rfl iv600 dL_law_600 ev600 ?_
        refine lv_imul hx hb dL_law_601 ?_
        refine lv_iconst (v := 1) hx hb dL_law_602 (by decide) ?_
        refine lv_iadd hx hb dL_law_603 ?_
        refine lv_iload hx hb dL_law_604 (lv_at hl 16 rfl) ?_
        obtain ⟨σ606, e606, i606, h⟩ := wx_w_ok h
        refine wx_iast hx hb hC.1 Z hS (o := 16) (k := 1) (n := 6) rfl rfl i606 dL_law_606 e606 (fun H locs Z hS => ?_)
        have hqσ606 := congrArg wx_n (show σ606.2.2.2.2 = σ595.2.2.2.2 from (congrArg (fun z : wx_St => z.2.2.2.2) e606).trans rfl)
        rw [← hqσ606] at hk hm
        refine lv_aload_n hx hb dL_law_607 rfl (lv_at hl 2 rfl) ?_
        refine lv_iconst (v := 5) hx hb dL_law_608 (by decide) ?_
        refine lv_dup2_11 hx hb dL_law_609 rfl rfl ?_
        obtain ⟨v610, ev610, iv610, h⟩ := wx_rI_ok h
        refine wx_iald hx hb hC.1 Z (o := 16) (k := 0) (n := 7) rfl rfl iv610 dL_law_610 ev610 ?_
        refine lv_iconst (v := 1) hx hb dL_law_611 (by decide) ?_
        refine lv_iadd hx hb dL_law_612 ?_
        obtain ⟨σ613, e613, i613, h⟩ := wx_w_ok h
        refine wx_iast hx hb hC.1 Z hS (o := 16) (k := 0) (n := 7) rfl rfl i613 dL_law_613 e613 (fun H locs Z hS => ?_)
        have hqσ613 := congrArg wx_n (show σ613.2.2.2.2 = σ606.2.2.2.2 from (congrArg (fun z : wx_St => z.2.2.2.2) e613).trans rfl)
        rw [← hqσ613] at hk hm
        refine lv_iconst (v := 1) hx hb dL_law_614 (by decide) ?_
        refine lv_istore (lv' := [(16, .int 1), (0, .ref (ad 18 0)), (1, .ref (ad 11 99)), (2, .ref (ad 16 0)), (3, .ref (ad 16 1)), (4, .ref (ad 16 2)), (5, .ref (ad 16 3)), (6, .ref (ad 16 4)), (7, .long x7), (9, .int x9), (10, .int x10), (11, .int x11), (12, .int x12), (13, .int x13), (14, .int x14), (15, .int x15), (17, .int x17), (18, .int x18)]) hx hb dL_law_615 hl (by decide) rfl (fun ls hl => ?_)
        exact b_L_law_617 B (K62 := K62) @hK62 @mK62 (k := k) hk h Z hS (lv_sub hl [1, 2, 3, 4, 5, 6, 7, 8, 9, 10, 11, 12, 13, 14, 15, 0, 16, 17] rfl)
  · replace h := wx_iff c570 h
    refine lv_iconst (v := 0) hx hb dL_law_573 (by decide) ?_
    exact absurd (wx_ret_ok h).1 (by decide)
set_option maxRecDepth 20000 in
set_option maxHeartbeats 4000000 in
theorem m_L_law_533   {σ' : wx_St} {K62 : Int64 → Int32 → wx_St → Option (Int32 × wx_St)} (mK62 : ∀ {x7 : Int64} {x9 : Int32} {σ : wx_St}, K62 x7 x9 σ = some ((1 : Int32), σ') → wx_n σ.2.2.2.2 ≤ wx_n σ'.2.2.2.2) {x7 : Int64} {x9 : Int32} {x10 : Int32} {x11 : Int32} {x12 : Int32} {x13 : Int32} {x14 : Int32} {x15 : Int32} {x16 : Int32} {x17 : Int32} {y0 : Int32} {σ : wx_St} (h : f_L_law_533 ad K62 x7 x9 x10 x11 x12 x13 x14 x15 x16 x17 y0 σ = some ((1 : Int32), σ')) : wx_n σ.2.2.2.2 ≤ wx_n σ'.2.2.2.2 := by
  unfold f_L_law_533 at h
  obtain ⟨v542, σ542, hc542, h⟩ := wx_b_ok h
  refine Nat.le_trans (Nat.le_of_eq (congrArg wx_n (show σ542.2.2.2.2 = σ.2.2.2.2 from m_X5_touch_0 hc542)).symm) ?_
  by_cases c547 : y0 = 0
  · replace h := wx_ift c547 h
    exact m_L_law_570 (K62 := K62) @mK62 h
  · replace h := wx_iff c547 h
    obtain ⟨v557, ev557, iv557, h⟩ := wx_rI_ok h
    by_cases c559 : v557 = 3
    · replace h := wx_ift c559 h
      exact m_L_law_570 (K62 := K62) @mK62 h
    · replace h := wx_iff c559 h
      obtain ⟨v569, ev569, iv569, h⟩ := wx_rI_ok h
      exact m_L_law_570 (K62 := K62) @mK62 h
set_option maxRecDepth 20000 in
set_option maxHeartbeats 4000000 in
theorem b_L_law_533 (B : wx_B p s m #[Value.ref b] meth c cL_law 21 (some .boolean) wsL_law RL D ad ca (fun q : Nat => s.heap.size ≤ q))     {σ' : wx_St} {K62 : Int64 → Int32 → wx_St → Option (Int32 × wx_St)} (hK62 : ∀ {x7 : Int64} {x9 : Int32} {σ : wx_St} {k : Nat} (hk : k + wx_n σ'.2.2.2.2 ≤ 1000 + wx_n σ.2.2.2.2)  (h : K62 x7 x9 σ = some ((1 : Int32), σ')) {rd : Nat → Nat} {H : Heap} {locs : List Loc} (Z : wx_Z D ad rd ca (fun q : Nat => s.heap.size ≤ q) σ H) (hS : va_S (fun q : Nat => s.heap.size ≤ q) s.heap H locs) {ls : Array Slot} (hl : lv_has ls 21 [(0, .ref (ad 18 0)), (1, .ref (ad 11 99)), (2, .ref (ad 16 0)), (3, .ref (ad 16 1)), (4, .ref (ad 16 2)), (5, .ref (ad 16 3)), (6, .ref (ad 16 4)), (7, .long x7), (9, .int x9)]), W p l e room_1 s m #[Value.ref b] below meth c H locs k (6464 * k) (lw_Z below #[Value.ref b] s) (F0 m 62 ls [])) (mK62 : ∀ {x7 : Int64} {x9 : Int32} {σ : wx_St}, K62 x7 x9 σ = some ((1 : Int32), σ') → wx_n σ.2.2.2.2 ≤ wx_n σ'.2.2.2.2) {x7 : Int64} {x9 : Int32} {x10 : Int32} {x11 : Int32} {x12 : Int32} {x13 : Int32} {x14 : Int32} {x15 : Int32} {x16 : Int32} {x17 : Int32} {y0 : Int32} {σ : wx_St} {k : Nat} (hk : k + wx_n σ'.2.2.2.2 ≤ 1000 + wx_n σ.2.2.2.2)  (h : f_L_law_533 ad K62 x7 x9 x10 x11 x12 x13 x14 x15 x16 x17 y0 σ = some ((1 : Int32), σ')) {rd : Nat → Nat} {H : Heap} {locs : List Loc} (Z : wx_Z D ad rd ca (fun q : Nat => s.heap.size ≤ q) σ H) (hS : va_S (fun q : Nat => s.heap.size ≤ q) s.heap H locs) {ls : Array Slot} (hl : lv_has ls 21 [(0, .ref (ad 18 0)), (1, .ref (ad 11 99)), (2, .ref (ad 16 0)), (3, .ref (ad 16 1)), (4, .ref (ad 16 2)), (5, .ref (ad 16 3)), (6, .ref (ad 16 4)), (7, .long x7), (9, .int x9), (10, .int x10), (11, .int x11), (12, .int x12), (13, .int x13), (14, .int x14), (15, .int x15), (16, .int x16), (17, .int x17)]) : W p l e room_1 s m #[Value.ref b] below meth c H locs k (6464 * k) (lw_Z below #[Value.ref b] s) (F0 m 533 ls [.int y0]) := by
  obtain ⟨hx, hb, hml, hr, hts, hown, hlk, hC, hA⟩ := id B
  have hm := m_L_law_533 (K62 := K62) @mK62 h
  unfold f_L_law_533 at h
  refine lv_istore (lv' := [(18, .int y0), (0, .ref (ad 18 0)), (1, .ref (ad 11 99)), (2, .ref (ad 16 0)), (3, .ref (ad 16 1)), (4, .ref (ad 16 2)), (5, .ref (ad 16 3)), (6, .ref (ad 16 4)), (7, .long x7), (9, .int x9), (10, .int x10), (11, .int x11), (12, .int x12), (13, .int x13), (14, .int x14), (15, .int x15), (16, .int x16), (17, .int x17)]) hx hb dL_law_533 hl (by decide) rfl (fun ls hl => ?_)
  refine lv_aload_n hx hb dL_law_535 rfl (lv_at hl 2 rfl) ?_
  refine lv_iload hx hb dL_law_536 (lv_at hl 13 rfl) ?_
  refine lv_iload hx hb dL_law_538 (lv_at hl 14 rfl) ?_
  refine lv_iload hx hb dL_law_540 (lv_at hl 17 rfl) ?_
  obtain ⟨v542, σ542, hc542, h⟩ := wx_b_ok h
  refine wx_call (va_runV (As := [.int x13, .int x14, .int x17]) (rest := []) ⟨hx, hb, hml, hown, hts⟩ (c_X5_touch l (D := D) (ad := ad) (rd := rd) (ca := ca) (A := (fun q : Nat => s.heap.size ≤ q)) (σ := σ) hc542) (cwV 3 hts gL_law_X5_touch rfl rfl rfl (by decide +kernel) ⟨Nat.le_of_ble_eq_true rfl, Nat.le_of_ble_eq_true rfl⟩) (wx_preV hC Z hS hA rfl (rfl : vwCl[5]? = some (RX5, TX5, 7))) rfl rfl hl.1 rfl (lv_room (Nat.le_of_ble_eq_true rfl)) dL_law_542 ⟨(by show k + 0 ≤ 600000; omega), (by show 6464 * k + 0 ≤ 7302250; omega)⟩) hS (fun H locs Z hS => ?_)
  have hqσ542 := congrArg wx_n (show σ542.2.2.2.2 = σ.2.2.2.2 from m_X5_touch_0 hc542)
  rw [← hqσ542] at hk hm
  refine lv_iload hx hb dL_law_545 (lv_at hl 0 rfl) ?_
  refine lv_if_ne (tgt := 555) hx hb dL_law_547 (by decide) (fun c547 => ?_) (fun c547 => ?_)
  · replace h := wx_iff c547 h
    refine lv_aload_n hx hb dL_law_555 rfl (lv_at hl 3 rfl) ?_
    refine lv_iconst (v := 5) hx hb dL_law_556 (by decide) ?_
    obtain ⟨v557, ev557, iv557, h⟩ := wx_rI_ok h
    refine wx_iald hx hb hC.1 Z (o := 16) (k := 0) (n := 7) rfl rfl iv557 dL_law_557 ev557 ?_
    refine lv_iconst (v := 3) hx hb dL_law_558 (by decide) ?_
    refine lv_icmp_ne (tgt := 567) hx hb dL_law_559 (by decide) (fun c559 => ?_) (fun c559 => ?_)
    · replace h := wx_iff c559 h
      refine lv_aload_n hx hb dL_law_567 rfl (lv_at hl 3 rfl) ?_
      refine lv_iconst (v := 5) hx hb dL_law_568 (by decide) ?_
      obtain ⟨v569, ev569, iv569, h⟩ := wx_rI_ok h
      refine wx_iald hx hb hC.1 Z (o := 16) (k := 0) (n := 7) rfl rfl iv569 dL_law_569 ev569 ?_
      exact b_L_law_570 B (K62 := K62) @hK62 @mK62 (k := k) hk h Z hS (lv_sub hl [1, 2, 3, 4, 5, 6, 7, 8, 9, 10, 11, 12, 13, 14, 15, 16, 17, 0] rfl)
    · replace h := wx_ift c559 h
      refine lv_bipush (v := (-4)) hx hb dL_law_562 (by decide) ?_
      refine lv_goto (tgt := 570) hx hb dL_law_564 (by decide) ?_
      exact b_L_law_570 B (K62 := K62) @hK62 @mK62 (k := k) hk h Z hS (lv_sub hl [1, 2, 3, 4, 5, 6, 7, 8, 9, 10, 11, 12, 13, 14, 15, 16, 17, 0] rfl)
  · replace h := wx_ift c547 h
    refine lv_bipush (v := (-5)) hx hb dL_law_550 (by decide) ?_
    refine lv_goto (tgt := 570) hx hb dL_law_552 (by decide) ?_
    exact b_L_law_570 B (K62 := K62) @hK62 @mK62 (k := k) hk h Z hS (lv_sub hl [1, 2, 3, 4, 5, 6, 7, 8, 9, 10, 11, 12, 13, 14, 15, 16, 17, 0] rfl)
set_option maxRecDepth 20000 in
set_option maxHeartbeats 4000000 in
theorem m_L_law_528   {σ' : wx_St} {K62 : Int64 → Int32 → wx_St → Option (Int32 × wx_St)} (mK62 : ∀ {x7 : Int64} {x9 : Int32} {σ : wx_St}, K62 x7 x9 σ = some ((1 : Int32), σ') → wx_n σ.2.2.2.2 ≤ wx_n σ'.2.2.2.2) {x7 : Int64} {x9 : Int32} {x10 : Int32} {x11 : Int32} {x12 : Int32} {x13 : Int32} {x14 : Int32} {x15 : Int32} {x16 : Int32} {x17 : Int32} {σ : wx_St} (h : f_L_law_528 ad K62 x7 x9 x10 x11 x12 x13 x14 x15 x16 x17 σ = some ((1 : Int32), σ')) : wx_n σ.2.2.2.2 ≤ wx_n σ'.2.2.2.2 := by
  unfold f_L_law_528 at h
  exact m_L_law_533 (K62 := K62) @mK62 h
set_option maxRecDepth 20000 in
set_option maxHeartbeats 4000000 in
theorem b_L_law_528 (B : wx_B p s m #[Value.ref b] meth c cL_law 21 (some .boolean) wsL_law RL D ad ca (fun q : Nat => s.heap.size ≤ q))     {σ' : wx_St} {K62 : Int64 → Int32 → wx_St → Option (Int32 × wx_St)} (hK62 : ∀ {x7 : Int64} {x9 : Int32} {σ : wx_St} {k : Nat} (hk : k + wx_n σ'.2.2.2.2 ≤ 1000 + wx_n σ.2.2.2.2)  (h : K62 x7 x9 σ = some ((1 : Int32), σ')) {rd : Nat → Nat} {H : Heap} {locs : List Loc} (Z : wx_Z D ad rd ca (fun q : Nat => s.heap.size ≤ q) σ H) (hS : va_S (fun q : Nat => s.heap.size ≤ q) s.heap H locs) {ls : Array Slot} (hl : lv_has ls 21 [(0, .ref (ad 18 0)), (1, .ref (ad 11 99)), (2, .ref (ad 16 0)), (3, .ref (ad 16 1)), (4, .ref (ad 16 2)), (5, .ref (ad 16 3)), (6, .ref (ad 16 4)), (7, .long x7), (9, .int x9)]), W p l e room_1 s m #[Value.ref b] below meth c H locs k (6464 * k) (lw_Z below #[Value.ref b] s) (F0 m 62 ls [])) (mK62 : ∀ {x7 : Int64} {x9 : Int32} {σ : wx_St}, K62 x7 x9 σ = some ((1 : Int32), σ') → wx_n σ.2.2.2.2 ≤ wx_n σ'.2.2.2.2) {x7 : Int64} {x9 : Int32} {x10 : Int32} {x11 : Int32} {x12 : Int32} {x13 : Int32} {x14 : Int32} {x15 : Int32} {x16 : Int32} {x17 : Int32} {σ : wx_St} {k : Nat} (hk : k + wx_n σ'.2.2.2.2 ≤ 1000 + wx_n σ.2.2.2.2)  (h : f_L_law_528 ad K62 x7 x9 x10 x11 x12 x13 x14 x15 x16 x17 σ = some ((1 : Int32), σ')) {rd : Nat → Nat} {H : Heap} {locs : List Loc} (Z : wx_Z D ad rd ca (fun q : Nat => s.heap.size ≤ q) σ H) (hS : va_S (fun q : Nat => s.heap.size ≤ q) s.heap H locs) {ls : Array Slot} (hl : lv_has ls 21 [(0, .ref (ad 18 0)), (1, .ref (ad 11 99)), (2, .ref (ad 16 0)), (3, .ref (ad 16 1)), (4, .ref (ad 16 2)), (5, .ref (ad 16 3)), (6, .ref (ad 16 4)), (7, .long x7), (9, .int x9), (10, .int x10), (11, .int x11), (12, .int x12), (13, .int x13), (14, .int x14), (15, .int x15), (16, .int x16), (17, .int x17)]) : W p l e room_1 s m #[Value.ref b] below meth c H locs k (6464 * k) (lw_Z below #[Value.ref b] s) (F0 m 528 ls []) := by
  obtain ⟨hx, hb, hml, hr, hts, hown, hlk, hC, hA⟩ := id B
  have hm := m_L_law_528 (K62 := K62) @mK62 h
  unfold f_L_law_528 at h
  refine lv_iconst (v := 1) hx hb dL_law_528 (by decide) ?_
  refine lv_goto (tgt := 533) hx hb dL_law_529 (by decide) ?_
  exact b_L_law_533 B (K62 := K62) @hK62 @mK62 (k := k) hk h Z hS (lv_sub hl [0, 1, 2, 3, 4, 5, 6, 7, 8, 9, 10, 11, 12, 13, 14, 15, 16] rfl)
set_option maxRecDepth 20000 in
set_option maxHeartbeats 4000000 in
theorem m_L_law_532   {σ' : wx_St} {K62 : Int64 → Int32 → wx_St → Option (Int32 × wx_St)} (mK62 : ∀ {x7 : Int64} {x9 : Int32} {σ : wx_St}, K62 x7 x9 σ = some ((1 : Int32), σ') → wx_n σ.2.2.2.2 ≤ wx_n σ'.2.2.2.2) {x7 : Int64} {x9 : Int32} {x10 : Int32} {x11 : Int32} {x12 : Int32} {x13 : Int32} {x14 : Int32} {x15 : Int32} {x16 : Int32} {x17 : Int32} {σ : wx_St} (h : f_L_law_532 ad K62 x7 x9 x10 x11 x12 x13 x14 x15 x16 x17 σ = some ((1 : Int32), σ')) : wx_n σ.2.2.2.2 ≤ wx_n σ'.2.2.2.2 := by
  unfold f_L_law_532 at h
  exact m_L_law_533 (K62 := K62) @mK62 h
set_option maxRecDepth 20000 in
set_option maxHeartbeats 4000000 in
theorem b_L_law_532 (B : wx_B p s m #[Value.ref b] meth c cL_law 21 (some .boolean) wsL_law RL D ad ca (fun q : Nat => s.heap.size ≤ q))     {σ' : wx_St} {K62 : Int64 → Int32 → wx_St → Option (Int32 × wx_St)} (hK62 : ∀ {x7 : Int64} {x9 : Int32} {σ : wx_St} {k : Nat} (hk : k + wx_n σ'.2.2.2.2 ≤ 1000 + wx_n σ.2.2.2.2)  (h : K62 x7 x9 σ = some ((1 : Int32), σ')) {rd : Nat → Nat} {H : Heap} {locs : List Loc} (Z : wx_Z D ad rd ca (fun q : Nat => s.heap.size ≤ q) σ H) (hS : va_S (fun q : Nat => s.heap.size ≤ q) s.heap H locs) {ls : Array Slot} (hl : lv_has ls 21 [(0, .ref (ad 18 0)), (1, .ref (ad 11 99)), (2, .ref (ad 16 0)), (3, .ref (ad 16 1)), (4, .ref (ad 16 2)), (5, .ref (ad 16 3)), (6, .ref (ad 16 4)), (7, .long x7), (9, .int x9)]), W p l e room_1 s m #[Value.ref b] below meth c H locs k (6464 * k) (lw_Z below #[Value.ref b] s) (F0 m 62 ls [])) (mK62 : ∀ {x7 : Int64} {x9 : Int32} {σ : wx_St}, K62 x7 x9 σ = some ((1 : Int32), σ') → wx_n σ.2.2.2.2 ≤ wx_n σ'.2.2.2.2) {x7 : Int64} {x9 : Int32} {x10 : Int32} {x11 : Int32} {x12 : Int32} {x13 : Int32} {x14 : Int32} {x15 : Int32} {x16 : Int32} {x17 : Int32} {σ : wx_St} {k : Nat} (hk : k + wx_n σ'.2.2.2.2 ≤ 1000 + wx_n σ.2.2.2.2)  (h : f_L_law_532 ad K62 x7 x9 x10 x11 x12 x13 x14 x15 x16 x17 σ = some ((1 : Int32), σ')) {rd : Nat → Nat} {H : Heap} {locs : List Loc} (Z : wx_Z D ad rd ca (fun q : Nat => s.heap.size ≤ q) σ H) (hS : va_S (fun q : Nat => s.heap.size ≤ q) s.heap H locs) {ls : Array Slot} (hl : lv_has ls 21 [(0, .ref (ad 18 0)), (1, .ref (ad 11 99)), (2, .ref (ad 16 0)), (3, .ref (ad 16 1)), (4, .ref (ad 16 2)), (5, .ref (ad 16 3)), (6, .ref (ad 16 4)), (7, .long x7), (9, .int x9), (10, .int x10), (11, .int x11), (12, .int x12), (13, .int x13), (14, .int x14), (15, .int x15), (16, .int x16), (17, .int x17)]) : W p l e room_1 s m #[Value.ref b] below meth c H locs k (6464 * k) (lw_Z below #[Value.ref b] s) (F0 m 532 ls []) := by
  obtain ⟨hx, hb, hml, hr, hts, hown, hlk, hC, hA⟩ := id B
  have hm := m_L_law_532 (K62 := K62) @mK62 h
  unfold f_L_law_532 at h
  refine lv_iconst (v := 0) hx hb dL_law_532 (by decide) ?_
  exact b_L_law_533 B (K62 := K62) @hK62 @mK62 (k := k) hk h Z hS (lv_sub hl [0, 1, 2, 3, 4, 5, 6, 7, 8, 9, 10, 11, 12, 13, 14, 15, 16] rfl)
set_option maxRecDepth 20000 in
set_option maxHeartbeats 4000000 in
theorem m_L_law_718   {σ' : wx_St} {K62 : Int64 → Int32 → wx_St → Option (Int32 × wx_St)} (mK62 : ∀ {x7 : Int64} {x9 : Int32} {σ : wx_St}, K62 x7 x9 σ = some ((1 : Int32), σ') → wx_n σ.2.2.2.2 ≤ wx_n σ'.2.2.2.2) {x7 : Int64} {x9 : Int32} {x10 : Int32} {x11 : Int32} {x12 : Int32} {x13 : Int32} {x14 : Int32} {x15 : Int32} {x16 : Int32} {x17 : Int32} {x18 : Int32} {x19 : Int32} {y0 : Int32} {y1 : Int32} {σ : wx_St} (h : f_L_law_718 ad K62 x7 x9 x10 x11 x12 x13 x14 x15 x16 x17 x18 x19 y0 y1 σ = some ((1 : Int32), σ')) : wx_n σ.2.2.2.2 ≤ wx_n σ'.2.2.2.2 := by
  unfold f_L_law_718 at h
  by_cases c718 : y0 = y1
  · replace h := wx_ift c718 h
    exact m_L_law_1246 (K62 := K62) @mK62 h
  · replace h := wx_iff c718 h
    exact absurd (wx_ret_ok h).1 (by decide)
set_option maxRecDepth 20000 in
set_option maxHeartbeats 4000000 in
theorem b_L_law_718 (B : wx_B p s m #[Value.ref b] meth c cL_law 21 (some .boolean) wsL_law RL D ad ca (fun q : Nat => s.heap.size ≤ q))     {σ' : wx_St} {K62 : Int64 → Int32 → wx_St → Option (Int32 × wx_St)} (hK62 : ∀ {x7 : Int64} {x9 : Int32} {σ : wx_St} {k : Nat} (hk : k + wx_n σ'.2.2.2.2 ≤ 1000 + wx_n σ.2.2.2.2)  (h : K62 x7 x9 σ = some ((1 : Int32), σ')) {rd : Nat → Nat} {H : Heap} {locs : List Loc} (Z : wx_Z D ad rd ca (fun q : Nat => s.heap.size ≤ q) σ H) (hS : va_S (fun q : Nat => s.heap.size ≤ q) s.heap H locs) {ls : Array Slot} (hl : lv_has ls 21 [(0, .ref (ad 18 0)), (1, .ref (ad 11 99)), (2, .ref (ad 16 0)), (3, .ref (ad 16 1)), (4, .ref (ad 16 2)), (5, .ref (ad 16 3)), (6, .ref (ad 16 4)), (7, .long x7), (9, .int x9)]), W p l e room_1 s m #[Value.ref b] below meth c H locs k (6464 * k) (lw_Z below #[Value.ref b] s) (F0 m 62 ls [])) (mK62 : ∀ {x7 : Int64} {x9 : Int32} {σ : wx_St}, K62 x7 x9 σ = some ((1 : Int32), σ') → wx_n σ.2.2.2.2 ≤ wx_n σ'.2.2.2.2) {x7 : Int64} {x9 : Int32} {x10 : Int32} {x11 : Int32} {x12 : Int32} {x13 : Int32} {x14 : Int32} {x15 : Int32} {x16 : Int32} {x17 : Int32} {x18 : Int32} {x19 : Int32} {y0 : Int32} {y1 : Int32} {σ : wx_St} {k : Nat} (hk : k + wx_n σ'.2.2.2.2 ≤ 1000 + wx_n σ.2.2.2.2)  (h : f_L_law_718 ad K62 x7 x9 x10 x11 x12 x13 x14 x15 x16 x17 x18 x19 y0 y1 σ = some ((1 : Int32), σ')) {rd : Nat → Nat} {H : Heap} {locs : List Loc} (Z : wx_Z D ad rd ca (fun q : Nat => s.heap.size ≤ q) σ H) (hS : va_S (fun q : Nat => s.heap.size ≤ q) s.heap H locs) {ls : Array Slot} (hl : lv_has ls 21 [(0, .ref (ad 18 0)), (1, .ref (ad 11 99)), (2, .ref (ad 16 0)), (3, .ref (ad 16 1)), (4, .ref (ad 16 2)), (5, .ref (ad 16 3)), (6, .ref (ad 16 4)), (7, .long x7), (9, .int x9), (10, .int x10), (11, .int x11), (12, .int x12), (13, .int x13), (14, .int x14), (15, .int x15), (16, .int x16), (17, .int x17), (18, .int x18), (19, .int x19)]) : W p l e room_1 s m #[Value.ref b] below meth c H locs k (6464 * k) (lw_Z below #[Value.ref b] s) (F0 m 718 ls [.int y1, .int y0]) := by
  obtain ⟨hx, hb, hml, hr, hts, hown, hlk, hC, hA⟩ := id B
  have hm := m_L_law_718 (K62 := K62) @mK62 h
  unfold f_L_law_718 at h
  refine lv_icmp_eq (tgt := 723) hx hb dL_law_718 (by decide) (fun c718 => ?_) (fun c718 => ?_)
  · replace h := wx_ift c718 h
    refine lv_iload hx hb dL_law_723 (lv_at hl 17 rfl) ?_
    refine lv_istore (lv' := [(16, .int x18), (0, .ref (ad 18 0)), (1, .ref (ad 11 99)), (2, .ref (ad 16 0)), (3, .ref (ad 16 1)), (4, .ref (ad 16 2)), (5, .ref (ad 16 3)), (6, .ref (ad 16 4)), (7, .long x7), (9, .int x9), (10, .int x10), (11, .int x11), (12, .int x12), (13, .int x13), (14, .int x14), (15, .int x15), (17, .int x17), (18, .int x18), (19, .int x19)]) hx hb dL_law_725 hl (by decide) rfl (fun ls hl => ?_)
    refine lv_goto (tgt := 1246) hx hb dL_law_727 (by decide) ?_
    exact b_L_law_1246 B (K62 := K62) @hK62 @mK62 (k := k) hk h Z hS (lv_sub hl [1, 2, 3, 4, 5, 6, 7, 8, 9, 10, 11, 12, 13, 14, 15, 0] rfl)
  · replace h := wx_iff c718 h
    refine lv_iconst (v := 0) hx hb dL_law_721 (by decide) ?_
    exact absurd (wx_ret_ok h).1 (by decide)
set_option maxRecDepth 20000 in
set_option maxHeartbeats 4000000 in
theorem m_L_law_698   {σ' : wx_St} {K62 : Int64 → Int32 → wx_St → Option (Int32 × wx_St)} (mK62 : ∀ {x7 : Int64} {x9 : Int32} {σ : wx_St}, K62 x7 x9 σ = some ((1 : Int32), σ') → wx_n σ.2.2.2.2 ≤ wx_n σ'.2.2.2.2) {x7 : Int64} {x9 : Int32} {x10 : Int32} {x11 : Int32} {x12 : Int32} {x13 : Int32} {x14 : Int32} {x15 : Int32} {x16 : Int32} {x17 : Int32} {x18 : Int32} {x19 : Int32} {y1 : Int32} {y2 : Int32} {y3 : Int32} {σ : wx_St} (h : f_L_law_698 ad K62 x7 x9 x10 x11 x12 x13 x14 x15 x16 x17 x18 x19 y1 y2 y3 σ = some ((1 : Int32), σ')) : wx_n σ.2.2.2.2 ≤ wx_n σ'.2.2.2.2 := by
  unfold f_L_law_698 at h
  obtain ⟨σ699, e699, i699, h⟩ := wx_w_ok h
  refine Nat.le_trans (Nat.le_of_eq (congrArg wx_n (show σ699.2.2.2.2 = σ.2.2.2.2 from (congrArg (fun z : wx_St => z.2.2.2.2) e699).trans rfl)).symm) ?_
  obtain ⟨v703, σ703, hc703, h⟩ := wx_b_ok h
  refine Nat.le_trans (Nat.le_of_eq (congrArg wx_n (show σ703.2.2.2.2 = σ699.2.2.2.2 from m_X5_mend_0 hc703)).symm) ?_
  by_cases c708 : x18 = 0
  · replace h := wx_ift c708 h
    exact m_L_law_718 (K62 := K62) @mK62 h
  · replace h := wx_iff c708 h
    obtain ⟨v713, ev713, iv713, h⟩ := wx_rI_ok h
    exact m_L_law_718 (K62 := K62) @mK62 h
set_option maxRecDepth 20000 in
set_option maxHeartbeats 4000000 in
theorem b_L_law_698 (B : wx_B p s m #[Value.ref b] meth c cL_law 21 (some .boolean) wsL_law RL D ad ca (fun q : Nat => s.heap.size ≤ q))     {σ' : wx_St} {K62 : Int64 → Int32 → wx_St → Option (Int32 × wx_St)} (hK62 : ∀ {x7 : Int64} {x9 : Int32} {σ : wx_St} {k : Nat} (hk : k + wx_n σ'.2.2.2.2 ≤ 1000 + wx_n σ.2.2.2.2)  (h : K62 x7 x9 σ = some ((1 : Int32), σ')) {rd : Nat → Nat} {H : Heap} {locs : List Loc} (Z : wx_Z D ad rd ca (fun q : Nat => s.heap.size ≤ q) σ H) (hS : va_S (fun q : Nat => s.heap.size ≤ q) s.heap H locs) {ls : Array Slot} (hl : lv_has ls 21 [(0, .ref (ad 18 0)), (1, .ref (ad 11 99)), (2, .ref (ad 16 0)), (3, .ref (ad 16 1)), (4, .ref (ad 16 2)), (5, .ref (ad 16 3)), (6, .ref (ad 16 4)), (7, .long x7), (9, .int x9)]), W p l e room_1 s m #[Value.ref b] below meth c H locs k (6464 * k) (lw_Z below #[Value.ref b] s) (F0 m 62 ls [])) (mK62 : ∀ {x7 : Int64} {x9 : Int32} {σ : wx_St}, K62 x7 x9 σ = some ((1 : Int32), σ') → wx_n σ.2.2.2.2 ≤ wx_n σ'.2.2.2.2) {x7 : Int64} {x9 : Int32} {x10 : Int32} {x11 : Int32} {x12 : Int32} {x13 : Int32} {x14 : Int32} {x15 : Int32} {x16 : Int32} {x17 : Int32} {x18 : Int32} {x19 : Int32} {y1 : Int32} {y2 : Int32} {y3 : Int32} {σ : wx_St} {k : Nat} (hk : k + wx_n σ'.2.2.2.2 ≤ 1000 + wx_n σ.2.2.2.2)  (h : f_L_law_698 ad K62 x7 x9 x10 x11 x12 x13 x14 x15 x16 x17 x18 x19 y1 y2 y3 σ = some ((1 : Int32), σ')) {rd : Nat → Nat} {H : Heap} {locs : List Loc} (Z : wx_Z D ad rd ca (fun q : Nat => s.heap.size ≤ q) σ H) (hS : va_S (fun q : Nat => s.heap.size ≤ q) s.heap H locs) {ls : Array Slot} (hl : lv_has ls 21 [(0, .ref (ad 18 0)), (1, .ref (ad 11 99)), (2, .ref (ad 16 0)), (3, .ref (ad 16 1)), (4, .ref (ad 16 2)), (5, .ref (ad 16 3)), (6, .ref (ad 16 4)), (7, .long x7), (9, .int x9), (10, .int x10), (11, .int x11), (12, .int x12), (13, .int x13), (14, .int x14), (15, .int x15), (16, .int x16), (17, .int x17), (18, .int x18), (19, .int x19)]) : W p l e room_1 s m #[Value.ref b] below meth c H locs k (6464 * k) (lw_Z below #[Value.ref b] s) (F0 m 698 ls [.int y3, .int y2, .int y1, .ref (ad 16 0)]) := by
  obtain ⟨hx, hb, hml, hr, hts, hown, hlk, hC, hA⟩ := id B
  have hm := m_L_law_698 (K62 := K62) @mK62 h
  unfold f_L_law_698 at h
  refine lv_isub hx hb dL_law_698 ?_
  obtain ⟨σ699, e699, i699, h⟩ := wx_w_ok h
  refine wx_iast hx hb hC.1 Z hS (o := 16) (k := 0) (n := 7) rfl rfl i699 dL_law_699 e699 (fun H locs Z hS => ?_)
  have hqσ699 := congrArg wx_n (show σ699.2.2.2.2 = σ.2.2.2.2 from (congrArg (fun z : wx_St => z.2.2.2.2) e699).trans rfl)
  rw [← hqσ699] at hk hm
  refine lv_aload_n hx hb dL_law_700 rfl (lv_at hl 1 rfl) ?_
  refine lv_iload hx hb dL_law_701 (lv_at hl 16 rfl) ?_
  obtain ⟨v703, σ703, hc703, h⟩ := wx_b_ok h
  refine wx_call (va_runV (As := [.int x17]) (rest := []) ⟨hx, hb, hml, hown, hts⟩ (c_X5_mend l (D := D) (ad := ad) (rd := rd) (ca := ca) (A := (fun q : Nat => s.heap.size ≤ q)) (σ := σ699) hc703) (cwV 1 hts gL_law_X5_mend rfl rfl rfl (by decide +kernel) ⟨Nat.le_of_ble_eq_true rfl, Nat.le_of_ble_eq_true rfl⟩) (wx_preV hC Z hS hA rfl (rfl : vwCl[5]? = some (RX5, TX5, 7))) rfl rfl hl.1 rfl (lv_room (Nat.le_of_ble_eq_true rfl)) dL_law_703 ⟨(by show k + 0 ≤ 600000; omega), (by show 6464 * k + 0 ≤ 7302250; omega)⟩) hS (fun H locs Z hS => ?_)
  have hqσ703 := congrArg wx_n (show σ703.2.2.2.2 = σ699.2.2.2.2 from m_X5_mend_0 hc703)
  rw [← hqσ703] at hk hm
  refine lv_iload hx hb dL_law_706 (lv_at hl 17 rfl) ?_
  refine lv_if_eq (tgt := 717) hx hb dL_law_708 (by decide) (fun c708 => ?_) (fun c708 => ?_)
  · replace h := wx_ift c708 h
    refine lv_iconst (v := (-1)) hx hb dL_law_717 (by decide) ?_
    exact b_L_law_718 B (K62 := K62) @hK62 @mK62 (k := k) hk h Z hS (lv_sub hl [0, 1, 2, 3, 4, 5, 6, 7, 8, 9, 10, 11, 12, 13, 14, 15, 16, 17, 18] rfl)
  · replace h := wx_iff c708 h
    refine lv_aload_n hx hb dL_law_711 rfl (lv_at hl 2 rfl) ?_
    refine lv_iconst (v := 5) hx hb dL_law_712 (by decide) ?_
    obtain ⟨v713, ev713, iv713, h⟩ := wx_rI_ok h
    refine wx_iald hx hb hC.1 Z (o := 16) (k := 0) (n := 7) rfl rfl iv713 dL_law_713 ev713 ?_
    refine lv_goto (tgt := 718) hx hb dL_law_714 (by decide) ?_
    exact b_L_law_718 B (K62 := K62) @hK62 @mK62 (k := k) hk h Z hS (lv_sub hl [0, 1, 2, 3, 4, 5, 6, 7, 8, 9, 10, 11, 12, 13, 14, 15, 16, 17, 18] rfl)
set_option maxRecDepth 20000 in
set_option maxHeartbeats 4000000 in
theorem m_L_law_656   {σ' : wx_St} {K62 : Int64 → Int32 → wx_St → Option (Int32 × wx_St)} (mK62 : ∀ {x7 : Int64} {x9 : Int32} {σ : wx_St}, K62 x7 x9 σ = some ((1 : Int32), σ') → wx_n σ.2.2.2.2 ≤ wx_n σ'.2.2.2.2) :
    ∀ {n : Nat} {x7 : Int64} {x9 : Int32} {x10 : Int32} {x11 : Int32} {x12 : Int32} {x13 : Int32} {x14 : Int32} {x15 : Int32} {x16 : Int32} {x17 : Int32} {x18 : Int32} {x19 : Int32} {σ : wx_St} (h : f_L_law_656 ad K62 n x7 x9 x10 x11 x12 x13 x14 x15 x16 x17 x18 x19 σ = some ((1 : Int32), σ')), wx_n σ.2.2.2.2 ≤ wx_n σ'.2.2.2.2 := by
  intro n
  induction n with
  | zero => intro x7 x9 x10 x11 x12 x13 x14 x15 x16 x17 x18 x19 σ h; exact wx_no h
  | succ n ih =>
    intro x7 x9 x10 x11 x12 x13 x14 x15 x16 x17 x18 x19 σ h
    rw [f_L_law_656] at h
    obtain ⟨v661, ev661, iv661, h⟩ := wx_rI_ok h
    by_cases c665 : ((2 * v661) - 2) ≤ x19
    · replace h := wx_ift c665 h
      obtain ⟨v687, ev687, iv687, h⟩ := wx_rI_ok h
      by_cases c690 : x18 = 0
      · replace h := wx_ift c690 h
        exact m_L_law_698 (K62 := K62) @mK62 h
      · replace h := wx_iff c690 h
        exact m_L_law_698 (K62 := K62) @mK62 h
    · replace h := wx_iff c665 h
      obtain ⟨v676, ev676, iv676, h⟩ := wx_rI_ok h
      obtain ⟨σ677, e677, i677, h⟩ := wx_w_ok h
      refine Nat.le_trans (Nat.le_of_eq (congrArg wx_n (show σ677.2.2.2.2 = σ.2.2.2.2 from (congrArg (fun z : wx_St => z.2.2.2.2) e677).trans rfl)).symm) ?_
      exact ih h
set_option maxRecDepth 20000 in
set_option maxHeartbeats 4000000 in
theorem b_L_law_656 (B : wx_B p s m #[Value.ref b] meth c cL_law 21 (some .boolean) wsL_law RL D ad ca (fun q : Nat => s.heap.size ≤ q))     {σ' : wx_St} {K62 : Int64 → Int32 → wx_St → Option (Int32 × wx_St)} (hK62 : ∀ {x7 : Int64} {x9 : Int32} {σ : wx_St} {k : Nat} (hk : k + wx_n σ'.2.2.2.2 ≤ 1000 + wx_n σ.2.2.2.2)  (h : K62 x7 x9 σ = some ((1 : Int32), σ')) {rd : Nat → Nat} {H : Heap} {locs : List Loc} (Z : wx_Z D ad rd ca (fun q : Nat => s.heap.size ≤ q) σ H) (hS : va_S (fun q : Nat => s.heap.size ≤ q) s.heap H locs) {ls : Array Slot} (hl : lv_has ls 21 [(0, .ref (ad 18 0)), (1, .ref (ad 11 99)), (2, .ref (ad 16 0)), (3, .ref (ad 16 1)), (4, .ref (ad 16 2)), (5, .ref (ad 16 3)), (6, .ref (ad 16 4)), (7, .long x7), (9, .int x9)]), W p l e room_1 s m #[Value.ref b] below meth c H locs k (6464 * k) (lw_Z below #[Value.ref b] s) (F0 m 62 ls [])) (mK62 : ∀ {x7 : Int64} {x9 : Int32} {σ : wx_St}, K62 x7 x9 σ = some ((1 : Int32), σ') → wx_n σ.2.2.2.2 ≤ wx_n σ'.2.2.2.2)  :
    ∀ {n : Nat} {x7 : Int64} {x9 : Int32} {x10 : Int32} {x11 : Int32} {x12 : Int32} {x13 : Int32} {x14 : Int32} {x15 : Int32} {x16 : Int32} {x17 : Int32} {x18 : Int32} {x19 : Int32} {σ : wx_St} {k : Nat} (hk : k + wx_n σ'.2.2.2.2 ≤ 1000 + wx_n σ.2.2.2.2)  (h : f_L_law_656 ad K62 n x7 x9 x10 x11 x12 x13 x14 x15 x16 x17 x18 x19 σ = some ((1 : Int32), σ')) {rd : Nat → Nat} {H : Heap} {locs : List Loc} (Z : wx_Z D ad rd ca (fun q : Nat => s.heap.size ≤ q) σ H) (hS : va_S (fun q : Nat => s.heap.size ≤ q) s.heap H locs) {ls : Array Slot} (hl : lv_has ls 21 [(0, .ref (ad 18 0)), (1, .ref (ad 11 99)), (2, .ref (ad 16 0)), (3, .ref (ad 16 1)), (4, .ref (ad 16 2)), (5, .ref (ad 16 3)), (6, .ref (ad 16 4)), (7, .long x7), (9, .int x9), (10, .int x10), (11, .int x11), (12, .int x12), (13, .int x13), (14, .int x14), (15, .int x15), (16, .int x16), (17, .int x17), (18, .int x18), (19, .int x19)]), W p l e room_1 s m #[Value.ref b] below meth c H locs k (6464 * k) (lw_Z below #[Value.ref b] s) (F0 m 656 ls []) := by
  obtain ⟨hx, hb, hml, hr, hts, hown, hlk, hC, hA⟩ := id B
  intro n
  induction n with
  | zero => intro x7 x9 x10 x11 x12 x13 x14 x15 x16 x17 x18 x19 σ k hk  h rd H locs Z hS ls hl; exact wx_no h
  | succ n ih =>
    intro x7 x9 x10 x11 x12 x13 x14 x15 x16 x17 x18 x19 σ k hk  h rd H locs Z hS ls hl
    have hm := m_L_law_656 (K62 := K62) @mK62 h
    have mih : ∀ {x7 : Int64} {x9 : Int32} {x10 : Int32} {x11 : Int32} {x12 : Int32} {x13 : Int32} {x14 : Int32} {x15 : Int32} {x16 : Int32} {x17 : Int32} {x18 : Int32} {x19 : Int32} {σ : wx_St}, f_L_law_656 ad K62 n x7 x9 x10 x11 x12 x13 x14 x15 x16 x17 x18 x19 σ = some ((1 : Int32), σ') → wx_n σ.2.2.2.2 ≤ wx_n σ'.2.2.2.2 := fun h => m_L_law_656 (K62 := K62) @mK62 h
    rw [f_L_law_656] at h
    refine lv_iload hx hb dL_law_656 (lv_at hl 18 rfl) ?_
    refine lv_iconst (v := 2) hx hb dL_law_658 (by decide) ?_
    refine lv_aload_n hx hb dL_law_659 rfl (lv_at hl 2 rfl) ?_
    refine lv_iconst (v := 5) hx hb dL_law_660 (by decide) ?_
    obtain ⟨v661, ev661, iv661, h⟩ := wx_rI_ok h
    refine wx_iald hx hb hC.1 Z (o := 16) (k := 0) (n := 7) rfl rfl iv661 dL_law_661 ev661 ?_
    refine lv_imul hx hb dL_law_662 ?_
    refine lv_iconst (v := 2) hx hb dL_law_663 (by decide) ?_
    refine lv_isub hx hb dL_law_664 ?_
    refine lv_icmp_ge (tgt := 684) hx hb dL_law_665 (by decide) (fun c665 => ?_) (fun c665 => ?_)
    · replace h := wx_ift c665 h
      refine lv_aload_n hx hb dL_law_684 rfl (lv_at hl 2 rfl) ?_
      refine lv_iconst (v := 5) hx hb dL_law_685 (by decide) ?_
      refine lv_dup2_11 hx hb dL_law_686 rfl rfl ?_
      obtain ⟨v687, ev687, iv687, h⟩ := wx_rI_ok h
      refine wx_iald hx hb hC.1 Z (o := 16) (k := 0) (n := 7) rfl rfl iv687 dL_law_687 ev687 ?_
      refine lv_iload hx hb dL_law_688 (lv_at hl 17 rfl) ?_
      refine lv_if_eq (tgt := 697) hx hb dL_law_690 (by decide) (fun c690 => ?_) (fun c690 => ?_)
      · replace h := wx_ift c690 h
        refine lv_iconst (v := 0) hx hb dL_law_697 (by decide) ?_
        exact b_L_law_698 B (K62 := K62) @hK62 @mK62 (k := k) hk h Z hS (lv_sub hl [0, 1, 2, 3, 4, 5, 6, 7, 8, 9, 10, 11, 12, 13, 14, 15, 16, 17, 18] rfl)
      · replace h := wx_iff c690 h
        refine lv_iconst (v := 1) hx hb dL_law_693 (by decide) ?_
        refine lv_goto (tgt := 698) hx hb dL_law_694 (by decide) ?_
        exact b_L_law_698 B (K62 := K62) @hK62 @mK62 (k := k) hk h Z hS (lv_sub hl [0, 1, 2, 3, 4, 5, 6, 7, 8, 9, 10, 11, 12, 13, 14, 15, 16, 17, 18] rfl)
    · replace h := wx_iff c665 h
      refine lv_aload_n hx hb dL_law_668 rfl (lv_at hl 3 rfl) ?_
      refine lv_iload hx hb dL_law_669 (lv_at hl 18 rfl) ?_
      refine lv_aload_n hx hb dL_law_671 rfl (lv_at hl 3 rfl) ?_
      refine lv_iload hx hb dL_law_672 (lv_at hl 18 rfl) ?_
      refine lv_iconst (v := 2) hx hb dL_law_674 (by decide) ?_
      refine lv_iadd hx hb dL_law_675 ?_
      obtain ⟨v676, ev676, iv676, h⟩ := wx_rI_ok h
      refine wx_iald hx hb hC.1 Z (o := 16) (k := 1) (n := 6) rfl rfl iv676 dL_law_676 ev676 ?_
      obtain ⟨σ677, e677, i677, h⟩ := wx_w_ok h
      refine wx_iast hx hb hC.1 Z hS (o := 16) (k := 1) (n := 6) rfl rfl i677 dL_law_677 e677 (fun H locs Z hS => ?_)
      have hqσ677 := congrArg wx_n (show σ677.2.2.2.2 = σ.2.2.2.2 from (congrArg (fun z : wx_St => z.2.2.2.2) e677).trans rfl)
      rw [← hqσ677] at hk hm
      refine lv_iinc (v := x19 + 1) (lv' := [(19, .int (x19 + 1)), (0, .ref (ad 18 0)), (1, .ref (ad 11 99)), (2, .ref (ad 16 0)), (3, .ref (ad 16 1)), (4, .ref (ad 16 2)), (5, .ref (ad 16 3)), (6, .ref (ad 16 4)), (7, .long x7), (9, .int x9), (10, .int x10), (11, .int x11), (12, .int x12), (13, .int x13), (14, .int x14), (15, .int x15), (16, .int x16), (17, .int x17), (18, .int x18)]) hx hb dL_law_678 hl (k := 18) rfl rfl (by decide) rfl (fun ls hl => ?_)
      refine lv_goto (tgt := 656) hx hb dL_law_681 (by decide) ?_
      exact ih (k := k) hk h Z hS (lv_sub hl [1, 2, 3, 4, 5, 6, 7, 8, 9, 10, 11, 12, 13, 14, 15, 16, 17, 18, 0] rfl)
set_option maxRecDepth 20000 in
set_option maxHeartbeats 4000000 in
theorem m_L_law_648   {σ' : wx_St} {K62 : Int64 → Int32 → wx_St → Option (Int32 × wx_St)} (mK62 : ∀ {x7 : Int64} {x9 : Int32} {σ : wx_St}, K62 x7 x9 σ = some ((1 : Int32), σ') → wx_n σ.2.2.2.2 ≤ wx_n σ'.2.2.2.2) {x7 : Int64} {x9 : Int32} {x10 : Int32} {x11 : Int32} {x12 : Int32} {x13 : Int32} {x14 : Int32} {x15 : Int32} {x16 : Int32} {x17 : Int32} {y0 : Int32} {σ : wx_St} (h : f_L_law_648 ad K62 x7 x9 x10 x11 x12 x13 x14 x15 x16 x17 y0 σ = some ((1 : Int32), σ')) : wx_n σ.2.2.2.2 ≤ wx_n σ'.2.2.2.2 := by
  unfold f_L_law_648 at h
  exact m_L_law_656 (K62 := K62) @mK62 h
set_option maxRecDepth 20000 in
set_option maxHeartbeats 4000000 in
theorem b_L_law_648 (B : wx_B p s m #[Value.ref b] meth c cL_law 21 (some .boolean) wsL_law RL D ad ca (fun q : Nat => s.heap.size ≤ q))     {σ' : wx_St} {K62 : Int64 → Int32 → wx_St → Option (Int32 × wx_St)} (hK62 : ∀ {x7 : Int64} {x9 : Int32} {σ : wx_St} {k : Nat} (hk : k + wx_n σ'.2.2.2.2 ≤ 1000 + wx_n σ.2.2.2.2)  (h : K62 x7 x9 σ = some ((1 : Int32), σ')) {rd : Nat → Nat} {H : Heap} {locs : List Loc} (Z : wx_Z D ad rd ca (fun q : Nat => s.heap.size ≤ q) σ H) (hS : va_S (fun q : Nat => s.heap.size ≤ q) s.heap H locs) {ls : Array Slot} (hl : lv_has ls 21 [(0, .ref (ad 18 0)), (1, .ref (ad 11 99)), (2, .ref (ad 16 0)), (3, .ref (ad 16 1)), (4, .ref (ad 16 2)), (5, .ref (ad 16 3)), (6, .ref (ad 16 4)), (7, .long x7), (9, .int x9)]), W p l e room_1 s m #[Value.ref b] below meth c H locs k (6464 * k) (lw_Z below #[Value.ref b] s) (F0 m 62 ls [])) (mK62 : ∀ {x7 : Int64} {x9 : Int32} {σ : wx_St}, K62 x7 x9 σ = some ((1 : Int32), σ') → wx_n σ.2.2.2.2 ≤ wx_n σ'.2.2.2.2) {x7 : Int64} {x9 : Int32} {x10 : Int32} {x11 : Int32} {x12 : Int32} {x13 : Int32} {x14 : Int32} {x15 : Int32} {x16 : Int32} {x17 : Int32} {y0 : Int32} {σ : wx_St} {k : Nat} (hk : k + wx_n σ'.2.2.2.2 ≤ 1000 + wx_n σ.2.2.2.2)  (h : f_L_law_648 ad K62 x7 x9 x10 x11 x12 x13 x14 x15 x16 x17 y0 σ = some ((1 : Int32), σ')) {rd : Nat → Nat} {H : Heap} {locs : List Loc} (Z : wx_Z D ad rd ca (fun q : Nat => s.heap.size ≤ q) σ H) (hS : va_S (fun q : Nat => s.heap.size ≤ q) s.heap H locs) {ls : Array Slot} (hl : lv_has ls 21 [(0, .ref (ad 18 0)), (1, .ref (ad 11 99)), (2, .ref (ad 16 0)), (3, .ref (ad 16 1)), (4, .ref (ad 16 2)), (5, .ref (ad 16 3)), (6, .ref (ad 16 4)), (7, .long x7), (9, .int x9), (10, .int x10), (11, .int x11), (12, .int x12), (13, .int x13), (14, .int x14), (15, .int x15), (16, .int x16), (17, .int x17)]) : W p l e room_1 s m #[Value.ref b] below meth c H locs k (6464 * k) (lw_Z below #[Value.ref b] s) (F0 m 648 ls [.int y0]) := by
  obtain ⟨hx, hb, hml, hr, hts, hown, hlk, hC, hA⟩ := id B
  have hm := m_L_law_648 (K62 := K62) @mK62 h
  unfold f_L_law_648 at h
  refine lv_istore (lv' := [(18, .int y0), (0, .ref (ad 18 0)), (1, .ref (ad 11 99)), (2, .ref (ad 16 0)), (3, .ref (ad 16 1)), (4, .ref (ad 16 2)), (5, .ref (ad 16 3)), (6, .ref (ad 16 4)), (7, .long x7), (9, .int x9), (10, .int x10), (11, .int x11), (12, .int x12), (13, .int x13), (14, .int x14), (15, .int x15), (16, .int x16), (17, .int x17)]) hx hb dL_law_648 hl (by decide) rfl (fun ls hl => ?_)
  refine lv_iconst (v := 2) hx hb dL_law_650 (by decide) ?_
  refine lv_iload hx hb dL_law_651 (lv_at hl 17 rfl) ?_
  refine lv_imul hx hb dL_law_653 ?_
  refine lv_istore (lv' := [(19, .int (2 * x17)), (18, .int y0), (0, .ref (ad 18 0)), (1, .ref (ad 11 99)), (2, .ref (ad 16 0)), (3, .ref (ad 16 1)), (4, .ref (ad 16 2)), (5, .ref (ad 16 3)), (6, .ref (ad 16 4)), (7, .long x7), (9, .int x9), (10, .int x10), (11, .int x11), (12, .int x12), (13, .int x13), (14, .int x14), (15, .int x15), (16, .int x16), (17, .int x17)]) hx hb dL_law_654 hl (by decide) rfl (fun ls hl => ?_)
  exact b_L_law_656 B (K62 := K62) @hK62 @mK62 (k := k) hk h Z hS (lv_sub hl [2, 3, 4, 5, 6, 7, 8, 9, 10, 11, 12, 13, 14, 15, 16, 17, 18, 1, 0] rfl)
set_option maxRecDepth 20000 in
set_option maxHeartbeats 4000000 in
theorem m_L_law_808   {σ' : wx_St} {K62 : Int64 → Int32 → wx_St → Option (Int32 × wx_St)} (mK62 : ∀ {x7 : Int64} {x9 : Int32} {σ : wx_St}, K62 x7 x9 σ = some ((1 : Int32), σ') → wx_n σ.2.2.2.2 ≤ wx_n σ'.2.2.2.2) {x7 : Int64} {x9 : Int32} {x10 : Int32} {x11 : Int32} {x12 : Int32} {x13 : Int32} {x14 : Int32} {x15 : Int32} {x16 : Int32} {x17 : Int32} {x18 : Int32} {y1 : Int32} {y2 : Int32} {y3 : Int32} {σ : wx_St} (h : f_L_law_808 ad K62 x7 x9 x10 x11 x12 x13 x14 x15 x16 x17 x18 y1 y2 y3 σ = some ((1 : Int32), σ')) : wx_n σ.2.2.2.2 ≤ wx_n σ'.2.2.2.2 := by
  unfold f_L_law_808 at h
  obtain ⟨σ809, e809, i809, h⟩ := wx_w_ok h
  refine Nat.le_trans (Nat.le_of_eq (congrArg wx_n (show σ809.2.2.2.2 = σ.2.2.2.2 from (congrArg (fun z : wx_St => z.2.2.2.2) e809).trans rfl)).symm) ?_
  exact m_L_law_1246 (K62 := K62) @mK62 h
set_option maxRecDepth 20000 in
set_option maxHeartbeats 4000000 in
theorem b_L_law_808 (B : wx_B p s m #[Value.ref b] meth c cL_law 21 (some .boolean) wsL_law RL D ad ca (fun q : Nat => s.heap.size ≤ q))     {σ' : wx_St} {K62 : Int64 → Int32 → wx_St → Option (Int32 × wx_St)} (hK62 : ∀ {x7 : Int64} {x9 : Int32} {σ : wx_St} {k : Nat} (hk : k + wx_n σ'.2.2.2.2 ≤ 1000 + wx_n σ.2.2.2.2)  (h : K62 x7 x9 σ = some ((1 : Int32), σ')) {rd : Nat → Nat} {H : Heap} {locs : List Loc} (Z : wx_Z D ad rd ca (fun q : Nat => s.heap.size ≤ q) σ H) (hS : va_S (fun q : Nat => s.heap.size ≤ q) s.heap H locs) {ls : Array Slot} (hl : lv_has ls 21 [(0, .ref (ad 18 0)), (1, .ref (ad 11 99)), (2, .ref (ad 16 0)), (3, .ref (ad 16 1)), (4, .ref (ad 16 2)), (5, .ref (ad 16 3)), (6, .ref (ad 16 4)), (7, .long x7), (9, .int x9)]), W p l e room_1 s m #[Value.ref b] below meth c H locs k (6464 * k) (lw_Z below #[Value.ref b] s) (F0 m 62 ls [])) (mK62 : ∀ {x7 : Int64} {x9 : Int32} {σ : wx_St}, K62 x7 x9 σ = some ((1 : Int32), σ') → wx_n σ.2.2.2.2 ≤ wx_n σ'.2.2.2.2) {x7 : Int64} {x9 : Int32} {x10 : Int32} {x11 : Int32} {x12 : Int32} {x13 : Int32} {x14 : Int32} {x15 : Int32} {x16 : Int32} {x17 : Int32} {x18 : Int32} {y1 : Int32} {y2 : Int32} {y3 : Int32} {σ : wx_St} {k : Nat} (hk : k + wx_n σ'.2.2.2.2 ≤ 1000 + wx_n σ.2.2.2.2)  (h : f_L_law_808 ad K62 x7 x9 x10 x11 x12 x13 x14 x15 x16 x17 x18 y1 y2 y3 σ = some ((1 : Int32), σ')) {rd : Nat → Nat} {H : Heap} {locs : List Loc} (Z : wx_Z D ad rd ca (fun q : Nat => s.heap.size ≤ q) σ H) (hS : va_S (fun q : Nat => s.heap.size ≤ q) s.heap H locs) {ls : Array Slot} (hl : lv_has ls 21 [(0, .ref (ad 18 0)), (1, .ref (ad 11 99)), (2, .ref (ad 16 0)), (3, .ref (ad 16 1)), (4, .ref (ad 16 2)), (5, .ref (ad 16 3)), (6, .ref (ad 16 4)), (7, .long x7), (9, .int x9), (10, .int x10), (11, .int x11), (12, .int x12), (13, .int x13), (14, .int x14), (15, .int x15), (16, .int x16), (17, .int x17), (18, .int x18)]) : W p l e room_1 s m #[Value.ref b] below meth c H locs k (6464 * k) (lw_Z below #[Value.ref b] s) (F0 m 808 ls [.int y3, .int y2, .int y1, .ref (ad 16 0)]) := by
  obtain ⟨hx, hb, hml, hr, hts, hown, hlk, hC, hA⟩ := id B
  have hm := m_L_law_808 (K62 := K62) @mK62 h
  unfold f_L_law_808 at h
  refine lv_iadd hx hb dL_law_808 ?_
  obtain ⟨σ809, e809, i809, h⟩ := wx_w_ok h
  refine wx_iast hx hb hC.1 Z hS (o := 16) (k := 0) (n := 7) rfl rfl i809 dL_law_809 e809 (fun H locs Z hS => ?_)
  have hqσ809 := congrArg wx_n (show σ809.2.2.2.2 = σ.2.2.2.2 from (congrArg (fun z : wx_St => z.2.2.2.2) e809).trans rfl)
  rw [← hqσ809] at hk hm
  refine lv_goto (tgt := 1246) hx hb dL_law_810 (by decide) ?_
  exact b_L_law_1246 B (K62 := K62) @hK62 @mK62 (k := k) hk h Z hS (lv_sub hl [0, 1, 2, 3, 4, 5, 6, 7, 8, 9, 10, 11, 12, 13, 14, 15] rfl)
set_option maxRecDepth 20000 in
set_option maxHeartbeats 4000000 in
theorem m_L_law_788   {σ' : wx_St} {K62 : Int64 → Int32 → wx_St → Option (Int32 × wx_St)} (mK62 : ∀ {x7 : Int64} {x9 : Int32} {σ : wx_St}, K62 x7 x9 σ = some ((1 : Int32), σ') → wx_n σ.2.2.2.2 ≤ wx_n σ'.2.2.2.2) {x7 : Int64} {x9 : Int32} {x10 : Int32} {x11 : Int32} {x12 : Int32} {x13 : Int32} {x14 : Int32} {x15 : Int32} {x16 : Int32} {x17 : Int32} {x18 : Int32} {y0 : Int32} {y1 : Int32} {σ : wx_St} (h : f_L_law_788 ad K62 x7 x9 x10 x11 x12 x13 x14 x15 x16 x17 x18 y0 y1 σ = some ((1 : Int32), σ')) : wx_n σ.2.2.2.2 ≤ wx_n σ'.2.2.2.2 := by
  unfold f_L_law_788 at h
  by_cases c788 : y0 = y1
  · replace h := wx_ift c788 h
    obtain ⟨v796, ev796, iv796, h⟩ := wx_rI_ok h
    by_cases c799 : x18 = 0
    · replace h := wx_ift c799 h
      exact m_L_law_808 (K62 := K62) @mK62 h
    · replace h := wx_iff c799 h
      exact m_L_law_808 (K62 := K62) @mK62 h
  · replace h := wx_iff c788 h
    exact absurd (wx_ret_ok h).1 (by decide)
set_option maxRecDepth 20000 in
set_option maxHeartbeats 4000000 in
theorem b_L_law_788 (B : wx_B p s m #[Value.ref b] meth c cL_law 21 (some .boolean) wsL_law RL D ad ca (fun q : Nat => s.heap.size ≤ q))     {σ' : wx_St} {K62 : Int64 → Int32 → wx_St → Option (Int32 × wx_St)} (hK62 : ∀ {x7 : Int64} {x9 : Int32} {σ : wx_St} {k : Nat} (hk : k + wx_n σ'.2.2.2.2 ≤ 1000 + wx_n σ.2.2.2.2)  (h : K62 x7 x9 σ = some ((1 : Int32), σ')) {rd : Nat → Nat} {H : Heap} {locs : List Loc} (Z : wx_Z D ad rd ca (fun q : Nat => s.heap.size ≤ q) σ H) (hS : va_S (fun q : Nat => s.heap.size ≤ q) s.heap H locs) {ls : Array Slot} (hl : lv_has ls 21 [(0, .ref (ad 18 0)), (1, .ref (ad 11 99)), (2, .ref (ad 16 0)), (3, .ref (ad 16 1)), (4, .ref (ad 16 2)), (5, .ref (ad 16 3)), (6, .ref (ad 16 4)), (7, .long x7), (9, .int x9)]), W p l e room_1 s m #[Value.ref b] below meth c H locs k (6464 * k) (lw_Z below #[Value.ref b] s) (F0 m 62 ls [])) (mK62 : ∀ {x7 : Int64} {x9 : Int32} {σ : wx_St}, K62 x7 x9 σ = some ((1 : Int32), σ') → wx_n σ.2.2.2.2 ≤ wx_n σ'.2.2.2.2) {x7 : Int64} {x9 : Int32} {x10 : Int32} {x11 : Int32} {x12 : Int32} {x13 : Int32} {x14 : Int32} {x15 : Int32} {x16 : Int32} {x17 : Int32} {x18 : Int32} {y0 : Int32} {y1 : Int32} {σ : wx_St} {k : Nat} (hk : k + wx_n σ'.2.2.2.2 ≤ 1000 + wx_n σ.2.2.2.2)  (h : f_L_law_788 ad K62 x7 x9 x10 x11 x12 x13 x14 x15 x16 x17 x18 y0 y1 σ = some ((1 : Int32), σ')) {rd : Nat → Nat} {H : Heap} {locs : List Loc} (Z : wx_Z D ad rd ca (fun q : Nat => s.heap.size ≤ q) σ H) (hS : va_S (fun q : Nat => s.heap.size ≤ q) s.heap H locs) {ls : Array Slot} (hl : lv_has ls 21 [(0, .ref (ad 18 0)), (1, .ref (ad 11 99)), (2, .ref (ad 16 0)), (3, .ref (ad 16 1)), (4, .ref (ad 16 2)), (5, .ref (ad 16 3)), (6, .ref (ad 16 4)), (7, .long x7), (9, .int x9), (10, .int x10), (11, .int x11), (12, .int x12), (13, .int x13), (14, .int x14), (15, .int x15), (16, .int x16), (17, .int x17), (18, .int x18)]) : W p l e room_1 s m #[Value.ref b] below meth c H locs k (6464 * k) (lw_Z below #[Value.ref b] s) (F0 m 788 ls [.int y1, .int y0]) := by
  obtain ⟨hx, hb, hml, hr, hts, hown, hlk, hC, hA⟩ := id B
  have hm := m_L_law_788 (K62 := K62) @mK62 h
  unfold f_L_law_788 at h
  refine lv_icmp_eq (tgt := 793) hx hb dL_law_788 (by decide) (fun c788 => ?_) (fun c788 => ?_)
  · replace h := wx_ift c788 h
    refine lv_aload_n hx hb dL_law_793 rfl (lv_at hl 2 rfl) ?_
    refine lv_iconst (v := 4) hx hb dL_law_794 (by decide) ?_
    refine lv_dup2_11 hx hb dL_law_795 rfl rfl ?_
    obtain ⟨v796, ev796, iv796, h⟩ := wx_rI_ok h
    refine wx_iald hx hb hC.1 Z (o := 16) (k := 0) (n := 7) rfl rfl iv796 dL_law_796 ev796 ?_
    refine lv_iload hx hb dL_law_797 (lv_at hl 17 rfl) ?_
    refine lv_if_eq (tgt := 807) hx hb dL_law_799 (by decide) (fun c799 => ?_) (fun c799 => ?_)
    · replace h := wx_ift c799 h
      refine lv_iconst (v := 0) hx hb dL_law_807 (by decide) ?_
      exact b_L_law_808 B (K62 := K62) @hK62 @mK62 (k := k) hk h Z hS (lv_sub hl [0, 1, 2, 3, 4, 5, 6, 7, 8, 9, 10, 11, 12, 13, 14, 15, 16, 17] rfl)
    · replace h := wx_iff c799 h
      refine lv_iload hx hb dL_law_802 (lv_at hl 16 rfl) ?_
      refine lv_goto (tgt := 808) hx hb dL_law_804 (by decide) ?_
      exact b_L_law_808 B (K62 := K62) @hK62 @mK62 (k := k) hk h Z hS (lv_sub hl [0, 1, 2, 3, 4, 5, 6, 7, 8, 9, 10, 11, 12, 13, 14, 15, 16, 17] rfl)
  · replace h := wx_iff c788 h
    refine lv_iconst (v := 0) hx hb dL_law_791 (by decide) ?_
    exact absurd (wx_ret_ok h).1 (by decide)
set_option maxRecDepth 20000 in
set_option maxHeartbeats 4000000 in
theorem m_L_law_764   {σ' : wx_St} {K62 : Int64 → Int32 → wx_St → Option (Int32 × wx_St)} (mK62 : ∀ {x7 : Int64} {x9 : Int32} {σ : wx_St}, K62 x7 x9 σ = some ((1 : Int32), σ') → wx_n σ.2.2.2.2 ≤ wx_n σ'.2.2.2.2) {x7 : Int64} {x9 : Int32} {x10 : Int32} {x11 : Int32} {x12 : Int32} {x13 : Int32} {x14 : Int32} {x15 : Int32} {x16 : Int32} {x17 : Int32} {y0 : Int32} {σ : wx_St} (h : f_L_law_764 ad K62 x7 x9 x10 x11 x12 x13 x14 x15 x16 x17 y0 σ = some ((1 : Int32), σ')) : wx_n σ.2.2.2.2 ≤ wx_n σ'.2.2.2.2 := by
  unfold f_L_law_764 at h
  obtain ⟨v769, σ769, hc769, h⟩ := wx_b_ok h
  refine Nat.le_trans (Nat.le_of_eq (congrArg wx_n (show σ769.2.2.2.2 = σ.2.2.2.2 from m_X5_warm_0 hc769)).symm) ?_
  by_cases c774 : y0 = 0
  · replace h := wx_ift c774 h
    exact m_L_law_788 (K62 := K62) @mK62 h
  · replace h := wx_iff c774 h
    obtain ⟨v779, ev779, iv779, h⟩ := wx_rI_ok h
    exact m_L_law_788 (K62 := K62) @mK62 h
set_option maxRecDepth 20000 in
set_option maxHeartbeats 4000000 in
theorem b_L_law_764 (B : wx_B p s m #[Value.ref b] meth c cL_law 21 (some .boolean) wsL_law RL D ad ca (fun q : Nat => s.heap.size ≤ q))     {σ' : wx_St} {K62 : Int64 → Int32 → wx_St → Option (Int32 × wx_St)} (hK62 : ∀ {x7 : Int64} {x9 : Int32} {σ : wx_St} {k : Nat} (hk : k + wx_n σ'.2.2.2.2 ≤ 1000 + wx_n σ.2.2.2.2)  (h : K62 x7 x9 σ = some ((1 : Int32), σ')) {rd : Nat → Nat} {H : Heap} {locs : List Loc} (Z : wx_Z D ad rd ca (fun q : Nat => s.heap.size ≤ q) σ H) (hS : va_S (fun q : Nat => s.heap.size ≤ q) s.heap H locs) {ls : Array Slot} (hl : lv_has ls 21 [(0, .ref (ad 18 0)), (1, .ref (ad 11 99)), (2, .ref (ad 16 0)), (3, .ref (ad 16 1)), (4, .ref (ad 16 2)), (5, .ref (ad 16 3)), (6, .ref (ad 16 4)), (7, .long x7), (9, .int x9)]), W p l e room_1 s m #[Value.ref b] below meth c H locs k (6464 * k) (lw_Z below #[Value.ref b] s) (F0 m 62 ls [])) (mK62 : ∀ {x7 : Int64} {x9 : Int32} {σ : wx_St}, K62 x7 x9 σ = some ((1 : Int32), σ') → wx_n σ.2.2.2.2 ≤ wx_n σ'.2.2.2.2) {x7 : Int64} {x9 : Int32} {x10 : Int32} {x11 : Int32} {x12 : Int32} {x13 : Int32} {x14 : Int32} {x15 : Int32} {x16 : Int32} {x17 : Int32} {y0 : Int32} {σ : wx_St} {k : Nat} (hk : k + wx_n σ'.2.2.2.2 ≤ 1000 + wx_n σ.2.2.2.2)  (h : f_L_law_764 ad K62 x7 x9 x10 x11 x12 x13 x14 x15 x16 x17 y0 σ = some ((1 : Int32), σ')) {rd : Nat → Nat} {H : Heap} {locs : List Loc} (Z : wx_Z D ad rd ca (fun q : Nat => s.heap.size ≤ q) σ H) (hS : va_S (fun q : Nat => s.heap.size ≤ q) s.heap H locs) {ls : Array Slot} (hl : lv_has ls 21 [(0, .ref (ad 18 0)), (1, .ref (ad 11 99)), (2, .ref (ad 16 0)), (3, .ref (ad 16 1)), (4, .ref (ad 16 2)), (5, .ref (ad 16 3)), (6, .ref (ad 16 4)), (7, .long x7), (9, .int x9), (10, .int x10), (11, .int x11), (12, .int x12), (13, .int x13), (14, .int x14), (15, .int x15), (16, .int x16), (17, .int x17)]) : W p l e room_1 s m #[Value.ref b] below meth c H locs k (6464 * k) (lw_Z below #[Value.ref b] s) (F0 m 764 ls [.int y0]) := by
  obtain ⟨hx, hb, hml, hr, hts, hown, hlk, hC, hA⟩ := id B
  have hm := m_L_law_764 (K62 := K62) @mK62 h
  unfold f_L_law_764 at h
  refine lv_istore (lv' := [(18, .int y0), (0, .ref (ad 18 0)), (1, .ref (ad 11 99)), (2, .ref (ad 16 0)), (3, .ref (ad 16 1)), (4, .ref (ad 16 2)), (5, .ref (ad 16 3)), (6, .ref (ad 16 4)), (7, .long x7), (9, .int x9), (10, .int x10), (11, .int x11), (12, .int x12), (13, .int x13), (14, .int x14), (15, .int x15), (16, .int x16), (17, .int x17)]) hx hb dL_law_764 hl (by decide) rfl (fun ls hl => ?_)
  refine lv_aload_n hx hb dL_law_766 rfl (lv_at hl 2 rfl) ?_
  refine lv_iload hx hb dL_law_767 (lv_at hl 17 rfl) ?_
  obtain ⟨v769, σ769, hc769, h⟩ := wx_b_ok h
  refine wx_call (va_runV (As := [.int x17]) (rest := []) ⟨hx, hb, hml, hown, hts⟩ (c_X5_warm l (D := D) (ad := ad) (rd := rd) (ca := ca) (A := (fun q : Nat => s.heap.size ≤ q)) (σ := σ) hc769) (cwV 1 hts gL_law_X5_warm rfl rfl rfl (by decide +kernel) ⟨Nat.le_of_ble_eq_true rfl, Nat.le_of_ble_eq_true rfl⟩) (wx_preV hC Z hS hA rfl (rfl : vwCl[5]? = some (RX5, TX5, 7))) rfl rfl hl.1 rfl (lv_room (Nat.le_of_ble_eq_true rfl)) dL_law_769 ⟨(by show k + 0 ≤ 600000; omega), (by show 6464 * k + 0 ≤ 7302250; omega)⟩) hS (fun H locs Z hS => ?_)
  have hqσ769 := congrArg wx_n (show σ769.2.2.2.2 = σ.2.2.2.2 from m_X5_warm_0 hc769)
  rw [← hqσ769] at hk hm
  refine lv_iload hx hb dL_law_772 (lv_at hl 0 rfl) ?_
  refine lv_if_eq (tgt := 786) hx hb dL_law_774 (by decide) (fun c774 => ?_) (fun c774 => ?_)
  · replace h := wx_ift c774 h
    refine lv_bipush (v := (-5)) hx hb dL_law_786 (by decide) ?_
    exact b_L_law_788 B (K62 := K62) @hK62 @mK62 (k := k) hk h Z hS (lv_sub hl [1, 2, 3, 4, 5, 6, 7, 8, 9, 10, 11, 12, 13, 14, 15, 16, 17, 0] rfl)
  · replace h := wx_iff c774 h
    refine lv_aload_n hx hb dL_law_777 rfl (lv_at hl 3 rfl) ?_
    refine lv_iconst (v := 4) hx hb dL_law_778 (by decide) ?_
    obtain ⟨v779, ev779, iv779, h⟩ := wx_rI_ok h
    refine wx_iald hx hb hC.1 Z (o := 16) (k := 0) (n := 7) rfl rfl iv779 dL_law_779 ev779 ?_
    refine lv_iload hx hb dL_law_780 (lv_at hl 17 rfl) ?_
    refine lv_iadd hx hb dL_law_782 ?_
    refine lv_goto (tgt := 788) hx hb dL_law_783 (by decide) ?_
    exact b_L_law_788 B (K62 := K62) @hK62 @mK62 (k := k) hk h Z hS (lv_sub hl [1, 2, 3, 4, 5, 6, 7, 8, 9, 10, 11, 12, 13, 14, 15, 16, 17, 0] rfl)
set_option maxRecDepth 20000 in
set_option maxHeartbeats 4000000 in
theorem m_L_law_1051   {σ' : wx_St} {K62 : Int64 → Int32 → wx_St → Option (Int32 × wx_St)} (mK62 : ∀ {x7 : Int64} {x9 : Int32} {σ : wx_St}, K62 x7 x9 σ = some ((1 : Int32), σ') → wx_n σ.2.2.2.2 ≤ wx_n σ'.2.2.2.2) {K918 : Int64 → Int32 → Int32 → Int32 → Int32 → Int32 → Int32 → Int32 → Int32 → Int32 → Int32 → wx_St → Option (Int32 × wx_St)} (mK918 : ∀ {x7 : Int64} {x9 : Int32} {x10 : Int32} {x11 : Int32} {x12 : Int32} {x13 : Int32} {x14 : Int32} {x15 : Int32} {x16 : Int32} {x17 : Int32} {x18 : Int32} {σ : wx_St}, K918 x7 x9 x10 x11 x12 x13 x14 x15 x16 x17 x18 σ = some ((1 : Int32), σ') → wx_n σ.2.2.2.2 ≤ wx_n σ'.2.2.2.2) {x7 : Int64} {x9 : Int32} {x10 : Int32} {x11 : Int32} {x12 : Int32} {x13 : Int32} {x14 : Int32} {x15 : Int32} {x16 : Int32} {x17 : Int32} {x18 : Int32} {σ : wx_St} (h : f_L_law_1051 ad K62 K918 x7 x9 x10 x11 x12 x13 x14 x15 x16 x17 x18 σ = some ((1 : Int32), σ')) : wx_n σ.2.2.2.2 ≤ wx_n σ'.2.2.2.2 := by
  unfold f_L_law_1051 at h
  exact mK918 h
set_option maxRecDepth 20000 in
set_option maxHeartbeats 4000000 in
theorem b_L_law_1051 (B : wx_B p s m #[Value.ref b] meth c cL_law 21 (some .boolean) wsL_law RL D ad ca (fun q : Nat => s.heap.size ≤ q))     {σ' : wx_St} {K62 : Int64 → Int32 → wx_St → Option (Int32 × wx_St)} (hK62 : ∀ {x7 : Int64} {x9 : Int32} {σ : wx_St} {k : Nat} (hk : k + wx_n σ'.2.2.2.2 ≤ 1000 + wx_n σ.2.2.2.2)  (h : K62 x7 x9 σ = some ((1 : Int32), σ')) {rd : Nat → Nat} {H : Heap} {locs : List Loc} (Z : wx_Z D ad rd ca (fun q : Nat => s.heap.size ≤ q) σ H) (hS : va_S (fun q : Nat => s.heap.size ≤ q) s.heap H locs) {ls : Array Slot} (hl : lv_has ls 21 [(0, .ref (ad 18 0)), (1, .ref (ad 11 99)), (2, .ref (ad 16 0)), (3, .ref (ad 16 1)), (4, .ref (ad 16 2)), (5, .ref (ad 16 3)), (6, .ref (ad 16 4)), (7, .long x7), (9, .int x9)]), W p l e room_1 s m #[Value.ref b] below meth c H locs k (6464 * k) (lw_Z below #[Value.ref b] s) (F0 m 62 ls [])) (mK62 : ∀ {x7 : Int64} {x9 : Int32} {σ : wx_St}, K62 x7 x9 σ = some ((1 : Int32), σ') → wx_n σ.2.2.2.2 ≤ wx_n σ'.2.2.2.2) {K918 : Int64 → Int32 → Int32 → Int32 → Int32 → Int32 → Int32 → Int32 → Int32 → Int32 → Int32 → wx_St → Option (Int32 × wx_St)} (hK918 : ∀ {x7 : Int64} {x9 : Int32} {x10 : Int32} {x11 : Int32} {x12 : Int32} {x13 : Int32} {x14 : Int32} {x15 : Int32} {x16 : Int32} {x17 : Int32} {x18 : Int32} {σ : wx_St} {k : Nat} (hk : k + wx_n σ'.2.2.2.2 ≤ 1000 + wx_n σ.2.2.2.2)  (h : K918 x7 x9 x10 x11 x12 x13 x14 x15 x16 x17 x18 σ = some ((1 : Int32), σ')) {rd : Nat → Nat} {H : Heap} {locs : List Loc} (Z : wx_Z D ad rd ca (fun q : Nat => s.heap.size ≤ q) σ H) (hS : va_S (fun q : Nat => s.heap.size ≤ q) s.heap H locs) {ls : Array Slot} (hl : lv_has ls 21 [(0, .ref (ad 18 0)), (1, .ref (ad 11 99)), (2, .ref (ad 16 0)), (3, .ref (ad 16 1)), (4, .ref (ad 16 2)), (5, .ref (ad 16 3)), (6, .ref (ad 16 4)), (7, .long x7), (9, .int x9), (10, .int x10), (11, .int x11), (12, .int x12), (13, .int x13), (14, .int x14), (15, .int x15), (16, .int x16), (17, .int x17), (18, .int x18)]), W p l e room_1 s m #[Value.ref b] below meth c H locs k (6464 * k) (lw_Z below #[Value.ref b] s) (F0 m 918 ls [])) (mK918 : ∀ {x7 : Int64} {x9 : Int32} {x10 : Int32} {x11 : Int32} {x12 : Int32} {x13 : Int32} {x14 : Int32} {x15 : Int32} {x16 : Int32} {x17 : Int32} {x18 : Int32} {σ : wx_St}, K918 x7 x9 x10 x11 x12 x13 x14 x15 x16 x17 x18 σ = some ((1 : Int32), σ') → wx_n σ.2.2.2.2 ≤ wx_n σ'.2.2.2.2) {x7 : Int64} {x9 : Int32} {x10 : Int32} {x11 : Int32} {x12 : Int32} {x13 : Int32} {x14 : Int32} {x15 : Int32} {x16 : Int32} {x17 : Int32} {x18 : Int32} {σ : wx_St} {k : Nat} (hk : k + wx_n σ'.2.2.2.2 ≤ 1000 + wx_n σ.2.2.2.2)  (h : f_L_law_1051 ad K62 K918 x7 x9 x10 x11 x12 x13 x14 x15 x16 x17 x18 σ = some ((1 : Int32), σ')) {rd : Nat → Nat} {H : Heap} {locs : List Loc} (Z : wx_Z D ad rd ca (fun q : Nat => s.heap.size ≤ q) σ H) (hS : va_S (fun q : Nat => s.heap.size ≤ q) s.heap H locs) {ls : Array Slot} (hl : lv_has ls 21 [(0, .ref (ad 18 0)), (1, .ref (ad 11 99)), (2, .ref (ad 16 0)), (3, .ref (ad 16 1)), (4, .ref (ad 16 2)), (5, .ref (ad 16 3)), (6, .ref (ad 16 4)), (7, .long x7), (9, .int x9), (10, .int x10), (11, .int x11), (12, .int x12), (13, .int x13), (14, .int x14), (15, .int x15), (16, .int x16), (17, .int x17), (18, .int x18)]) : W p l e room_1 s m #[Value.ref b] below meth c H locs k (6464 * k) (lw_Z below #[Value.ref b] s) (F0 m 1051 ls []) := by
  obtain ⟨hx, hb, hml, hr, hts, hown, hlk, hC, hA⟩ := id B
  have hm := m_L_law_1051 (K62 := K62) @mK62 (K918 := K918) @mK918 h
  unfold f_L_law_1051 at h
  refine lv_iinc (v := x18 + 1) (lv' := [(18, .int (x18 + 1)), (0, .ref (ad 18 0)), (1, .ref (ad 11 99)), (2, .ref (ad 16 0)), (3, .ref (ad 16 1)), (4, .ref (ad 16 2)), (5, .ref (ad 16 3)), (6, .ref (ad 16 4)), (7, .long x7), (9, .int x9), (10, .int x10), (11, .int x11), (12, .int x12), (13, .int x13), (14, .int x14), (15, .int x15), (16, .int x16), (17, .int x17)]) hx hb dL_law_1051 hl (k := 17) rfl rfl (by decide) rfl (fun ls hl => ?_)
  refine lv_goto (tgt := 918) hx hb dL_law_1054 (by decide) ?_
  exact hK918 (k := k) hk h Z hS (lv_sub hl [1, 2, 3, 4, 5, 6, 7, 8, 9, 10, 11, 12, 13, 14, 15, 16, 17, 0] rfl)
set_option maxRecDepth 20000 in
set_option maxHeartbeats 4000000 in
theorem m_L_law_993   {σ' : wx_St} {K62 : Int64 → Int32 → wx_St → Option (Int32 × wx_St)} (mK62 : ∀ {x7 : Int64} {x9 : Int32} {σ : wx_St}, K62 x7 x9 σ = some ((1 : Int32), σ') → wx_n σ.2.2.2.2 ≤ wx_n σ'.2.2.2.2) {K918 : Int64 → Int32 → Int32 → Int32 → Int32 → Int32 → Int32 → Int32 → Int32 → Int32 → Int32 → wx_St → Option (Int32 × wx_St)} (mK918 : ∀ {x7 : Int64} {x9 : Int32} {x10 : Int32} {x11 : Int32} {x12 : Int32} {x13 : Int32} {x14 : Int32} {x15 : Int32} {x16 : Int32} {x17 : Int32} {x18 : Int32} {σ : wx_St}, K918 x7 x9 x10 x11 x12 x13 x14 x15 x16 x17 x18 σ = some ((1 : Int32), σ') → wx_n σ.2.2.2.2 ≤ wx_n σ'.2.2.2.2) {x7 : Int64} {x9 : Int32} {x10 : Int32} {x11 : Int32} {x12 : Int32} {x13 : Int32} {x14 : Int32} {x15 : Int32} {x16 : Int32} {x17 : Int32} {x18 : Int32} {x19 : Int32} {σ : wx_St} (h : f_L_law_993 ad K62 K918 x7 x9 x10 x11 x12 x13 x14 x15 x16 x17 x18 x19 σ = some ((1 : Int32), σ')) : wx_n σ.2.2.2.2 ≤ wx_n σ'.2.2.2.2 := by
  unfold f_L_law_993 at h
  obtain ⟨v999, hc999, h⟩ := wx_o_ok h
  by_cases c1003 : v999 = 1
  · replace h := wx_ift c1003 h
    obtain ⟨v1013, hc1013, h⟩ := wx_o_ok h
    by_cases c1020 : v1013 < 0
    · replace h := wx_ift c1020 h
      exact m_L_law_1051 (K62 := K62) @mK62 (K918 := K918) @mK918 h
    · replace h := wx_iff c1020 h
      obtain ⟨v1027, ev1027, iv1027, h⟩ := wx_rI_ok h
      obtain ⟨v1035, ev1035, iv1035, h⟩ := wx_rI_ok h
      obtain ⟨v1038, hc1038, h⟩ := wx_o_ok h
      by_cases c1041 : v1038 = 0
      · replace h := wx_ift c1041 h
        exact m_L_law_1051 (K62 := K62) @mK62 (K918 := K918) @mK918 h
      · replace h := wx_iff c1041 h
        by_cases c1046 : x19 = 0
        · replace h := wx_ift c1046 h
          exact m_L_law_1051 (K62 := K62) @mK62 (K918 := K918) @mK918 h
        · replace h := wx_iff c1046 h
          exact absurd (wx_ret_ok h).1 (by decide)
  · replace h := wx_iff c1003 h
    exact m_L_law_1051 (K62 := K62) @mK62 (K918 := K918) @mK918 h
set_option maxRecDepth 20000 in
set_option maxHeartbeats 4000000 in
theorem b_L_law_993 (B : wx_B p s m #[Value.ref b] meth c cL_law 21 (some .boolean) wsL_law RL D ad ca (fun q : Nat => s.heap.size ≤ q))     {σ' : wx_St} {K62 : Int64 → Int32 → wx_St → Option (Int32 × wx_St)} (hK62 : ∀ {x7 : Int64} {x9 : Int32} {σ : wx_St} {k : Nat} (hk : k + wx_n σ'.2.2.2.2 ≤ 1000 + wx_n σ.2.2.2.2)  (h : K62 x7 x9 σ = some ((1 : Int32), σ')) {rd : Nat → Nat} {H : Heap} {locs : List Loc} (Z : wx_Z D ad rd ca (fun q : Nat => s.heap.size ≤ q) σ H) (hS : va_S (fun q : Nat => s.heap.size ≤ q) s.heap H locs) {ls : Array Slot} (hl : lv_has ls 21 [(0, .ref (ad 18 0)), (1, .ref (ad 11 99)), (2, .ref (ad 16 0)), (3, .ref (ad 16 1)), (4, .ref (ad 16 2)), (5, .ref (ad 16 3)), (6, .ref (ad 16 4)), (7, .long x7), (9, .int x9)]), W p l e room_1 s m #[Value.ref b] below meth c H locs k (6464 * k) (lw_Z below #[Value.ref b] s) (F0 m 62 ls [])) (mK62 : ∀ {x7 : Int64} {x9 : Int32} {σ : wx_St}, K62 x7 x9 σ = some ((1 : Int32), σ') → wx_n σ.2.2.2.2 ≤ wx_n σ'.2.2.2.2) {K918 : Int64 → Int32 → Int32 → Int32 → Int32 → Int32 → Int32 → Int32 → Int32 → Int32 → Int32 → wx_St → Option (Int32 × wx_St)} (hK918 : ∀ {x7 : Int64} {x9 : Int32} {x10 : Int32} {x11 : Int32} {x12 : Int32} {x13 : Int32} {x14 : Int32} {x15 : Int32} {x16 : Int32} {x17 : Int32} {x18 : Int32} {σ : wx_St} {k : Nat} (hk : k + wx_n σ'.2.2.2.2 ≤ 1000 + wx_n σ.2.2.2.2)  (h : K918 x7 x9 x10 x11 x12 x13 x14 x15 x16 x17 x18 σ = some ((1 : Int32), σ')) {rd : Nat → Nat} {H : Heap} {locs : List Loc} (Z : wx_Z D ad rd ca (fun q : Nat => s.heap.size ≤ q) σ H) (hS : va_S (fun q : Nat => s.heap.size ≤ q) s.heap H locs) {ls : Array Slot} (hl : lv_has ls 21 [(0, .ref (ad 18 0)), (1, .ref (ad 11 99)), (2, .ref (ad 16 0)), (3, .ref (ad 16 1)), (4, .ref (ad 16 2)), (5, .ref (ad 16 3)), (6, .ref (ad 16 4)), (7, .long x7), (9, .int x9), (10, .int x10), (11, .int x11), (12, .int x12), (13, .int x13), (14, .int x14), (15, .int x15), (16, .int x16), (17, .int x17), (18, .int x18)]), W p l e room_1 s m #[Value.ref b] below meth c H locs k (6464 * k) (lw_Z below #[Value.ref b] s) (F0 m 918 ls [])) (mK918 : ∀ {x7 : Int64} {x9 : Int32} {x10 : Int32} {x11 : Int32} {x12 : Int32} {x13 : Int32} {x14 : Int32} {x15 : Int32} {x16 : Int32} {x17 : Int32} {x18 : Int32} {σ : wx_St}, K918 x7 x9 x10 x11 x12 x13 x14 x15 x16 x17 x18 σ = some ((1 : Int32), σ') → wx_n σ.2.2.2.2 ≤ wx_n σ'.2.2.2.2) {x7 : Int64} {x9 : Int32} {x10 : Int32} {x11 : Int32} {x12 : Int32} {x13 : Int32} {x14 : Int32} {x15 : Int32} {x16 : Int32} {x17 : Int32} {x18 : Int32} {x19 : Int32} {σ : wx_St} {k : Nat} (hk : k + wx_n σ'.2.2.2.2 ≤ 1000 + wx_n σ.2.2.2.2)  (h : f_L_law_993 ad K62 K918 x7 x9 x10 x11 x12 x13 x14 x15 x16 x17 x18 x19 σ = some ((1 : Int32), σ')) {rd : Nat → Nat} {H : Heap} {locs : List Loc} (Z : wx_Z D ad rd ca (fun q : Nat => s.heap.size ≤ q) σ H) (hS : va_S (fun q : Nat => s.heap.size ≤ q) s.heap H locs) {ls : Array Slot} (hl : lv_has ls 21 [(0, .ref (ad 18 0)), (1, .ref (ad 11 99)), (2, .ref (ad 16 0)), (3, .ref (ad 16 1)), (4, .ref (ad 16 2)), (5, .ref (ad 16 3)), (6, .ref (ad 16 4)), (7, .long x7), (9, .int x9), (10, .int x10), (11, .int x11), (12, .int x12), (13, .int x13), (14, .int x14), (15, .int x15), (16, .int x16), (17, .int x17), (18, .int x18), (19, .int x19)]) : W p l e room_1 s m #[Value.ref b] below meth c H locs k (6464 * k) (lw_Z below #[Value.ref b] s) (F0 m 993 ls []) := by
  obtain ⟨hx, hb, hml, hr, hts, hown, hlk, hC, hA⟩ := id B
  have hm := m_L_law_993 (K62 := K62) @mK62 (K918 := K918) @mK918 h
  unfold f_L_law_993 at h
  refine lv_aload_n hx hb dL_law_993 rfl (lv_at hl 2 rfl) ?_
  refine lv_aload_n hx hb dL_law_994 rfl (lv_at hl 3 rfl) ?_
  refine lv_aload hx hb dL_law_995 (lv_at hl 5 rfl) ?_
  refine lv_aload hx hb dL_law_997 (lv_at hl 6 rfl) ?_
  obtain ⟨v999, hc999, h⟩ := wx_o_ok h
  refine wx_call (va_runS (As := [.ref (ad 16 0), .ref (ad 16 1), .ref (ad 16 3), .ref (ad 16 4)]) (rest := []) ⟨hx, hb, hml, hown, hts⟩ (c_L_live l (D := D) (ad := ad) (rd := rd) (ca := ca) (A := (fun q : Nat => s.heap.size ≤ q)) (σ := σ) hc999) (va_cwS 4 hts gL_law_L_live rfl rfl rfl (by decide +kernel) ⟨Nat.le_of_ble_eq_true rfl, Nat.le_of_ble_eq_true rfl⟩) (wx_preS hC Z hS hA) rfl rfl hl.1 rfl (lv_room (Nat.le_of_ble_eq_true rfl)) dL_law_999 ⟨(by show k + 0 ≤ 600000; omega), (by show 6464 * k + 0 ≤ 7302250; omega)⟩) hS (fun H locs Z hS => ?_)
  refine lv_iconst (v := 1) hx hb dL_law_1002 (by decide) ?_
  refine lv_icmp_eq (tgt := 1009) hx hb dL_law_1003 (by decide) (fun c1003 => ?_) (fun c1003 => ?_)
  · replace h := wx_ift c1003 h
    refine lv_iload hx hb dL_law_1009 (lv_at hl 17 rfl) ?_
    refine lv_aload_n hx hb dL_law_1011 rfl (lv_at hl 2 rfl) ?_
    refine lv_aload_n hx hb dL_law_1012 rfl (lv_at hl 3 rfl) ?_
    obtain ⟨v1013, hc1013, h⟩ := wx_o_ok h
    refine wx_call (va_runS (As := [.int x18, .ref (ad 16 0), .ref (ad 16 1)]) (rest := []) ⟨hx, hb, hml, hown, hts⟩ (c_L_touch l (D := D) (ad := ad) (rd := rd) (ca := ca) (A := (fun q : Nat => s.heap.size ≤ q)) (σ := σ) hc1013) (va_cwS 3 hts gL_law_L_touch rfl rfl rfl (by decide +kernel) ⟨Nat.le_of_ble_eq_true rfl, Nat.le_of_ble_eq_true rfl⟩) (wx_preS hC Z hS hA) rfl rfl hl.1 rfl (lv_room (Nat.le_of_ble_eq_true rfl)) dL_law_1013 ⟨(by show k + 0 ≤ 600000; omega), (by show 6464 * k + 0 ≤ 7302250; omega)⟩) hS (fun H locs Z hS => ?_)
    refine lv_istore (lv' := [(20, .int v1013), (0, .ref (ad 18 0)), (1, .ref (ad 11 99)), (2, .ref (ad 16 0)), (3, .ref (ad 16 1)), (4, .ref (ad 16 2)), (5, .ref (ad 16 3)), (6, .ref (ad 16 4)), (7, .long x7), (9, .int x9), (10, .int x10), (11, .int x11), (12, .int x12), (13, .int x13), (14, .int x14), (15, .int x15), (16, .int x16), (17, .int x17), (18, .int x18), (19, .int x19)]) hx hb dL_law_1016 hl (by decide) rfl (fun ls hl => ?_)
    refine lv_iload hx hb dL_law_1018 (lv_at hl 0 rfl) ?_
    refine lv_if_lt (tgt := 1051) hx hb dL_law_1020 (by decide) (fun c1020 => ?_) (fun c1020 => ?_)
    · replace h := wx_ift c1020 h
      exact b_L_law_1051 B (K62 := K62) @hK62 @mK62 (K918 := K918) @hK918 @mK918 (k := k) hk h Z hS (lv_sub hl [1, 2, 3, 4, 5, 6, 7, 8, 9, 10, 11, 12, 13, 14, 15, 16, 17, 18] rfl)
    · replace h := wx_iff c1020 h
      refine lv_aload hx hb dL_law_1023 (lv_at hl 6 rfl) ?_
      refine lv_iload hx hb dL_law_1025 (lv_at hl 18 rfl) ?_
      obtain ⟨v1027, ev1027, iv1027, h⟩ := wx_rI_ok h
      refine wx_iald hx hb hC.1 Z (o := 16) (k := 3) (n := 64) rfl rfl iv1027 dL_law_1027 ev1027 ?_
      refine lv_aload_n hx hb dL_law_1028 rfl (lv_at hl 4 rfl) ?_
      refine lv_iconst (v := 2) hx hb dL_law_1029 (by decide) ?_
      refine lv_iload hx hb dL_law_1030 (lv_at hl 0 rfl) ?_
      refine lv_imul hx hb dL_law_1032 ?_
      refine lv_iconst (v := 1) hx hb dL_law_1033 (by decide) ?_
      refine lv_iadd hx hb dL_law_1034 ?_
      obtain ⟨v1035, ev1035, iv1035, h⟩ := wx_rI_ok h
      refine wx_iald hx hb hC.1 Z (o := 16) (k := 1) (n := 6) rfl rfl iv1035 dL_law_1035 ev1035 ?_
      refine lv_aload hx hb dL_law_1036 (lv_at hl 7 rfl) ?_
      obtain ⟨v1038, hc1038, h⟩ := wx_o_ok h
      refine wx_call (va_runS (As := [.int v1027, .int v1035, .ref (ad 16 4)]) (rest := []) ⟨hx, hb, hml, hown, hts⟩ (c_L_fed l (D := D) (ad := ad) (rd := rd) (ca := ca) (A := (fun q : Nat => s.heap.size ≤ q)) (σ := σ) hc1038) (va_cwS 3 hts gL_law_L_fed rfl rfl rfl (by decide +kernel) ⟨Nat.le_of_ble_eq_true rfl, Nat.le_of_ble_eq_true rfl⟩) (wx_preS hC Z hS hA) rfl rfl hl.1 rfl (lv_room (Nat.le_of_ble_eq_true rfl)) dL_law_1038 ⟨(by show k + 0 ≤ 600000; omega), (by show 6464 * k + 0 ≤ 7302250; omega)⟩) hS (fun H locs Z hS => ?_)
      refine lv_if_eq (tgt := 1051) hx hb dL_law_1041 (by decide) (fun c1041 => ?_) (fun c1041 => ?_)
      · replace h := wx_ift c1041 h
        exact b_L_law_1051 B (K62 := K62) @hK62 @mK62 (K918 := K918) @hK918 @mK918 (k := k) hk h Z hS (lv_sub hl [1, 2, 3, 4, 5, 6, 7, 8, 9, 10, 11, 12, 13, 14, 15, 16, 17, 18] rfl)
      · replace h := wx_iff c1041 h
        refine lv_iload hx hb dL_law_1044 (lv_at hl 19 rfl) ?_
        refine lv_if_eq (tgt := 1051) hx hb dL_law_1046 (by decide) (fun c1046 => ?_) (fun c1046 => ?_)
        · replace h := wx_ift c1046 h
          exact b_L_law_1051 B (K62 := K62) @hK62 @mK62 (K918 := K918) @hK918 @mK918 (k := k) hk h Z hS (lv_sub hl [1, 2, 3, 4, 5, 6, 7, 8, 9, 10, 11, 12, 13, 14, 15, 16, 17, 18] rfl)
        · replace h := wx_iff c1046 h
          refine lv_iconst (v := 0) hx hb dL_law_1049 (by decide) ?_
          exact absurd (wx_ret_ok h).1 (by decide)
  · replace h := wx_iff c1003 h
    refine lv_goto (tgt := 1051) hx hb dL_law_1006 (by decide) ?_
    exact b_L_law_1051 B (K62 := K62) @hK62 @mK62 (K918 := K918) @hK918 @mK918 (k := k) hk h Z hS (lv_sub hl [0, 1, 2, 3, 4, 5, 6, 7, 8, 9, 10, 11, 12, 13, 14, 15, 16, 17] rfl)
set_option maxRecDepth 20000 in
set_option maxHeartbeats 4000000 in
theorem m_L_law_980   {σ' : wx_St} {K62 : Int64 → Int32 → wx_St → Option (Int32 × wx_St)} (mK62 : ∀ {x7 : Int64} {x9 : Int32} {σ : wx_St}, K62 x7 x9 σ = some ((1 : Int32), σ') → wx_n σ.2.2.2.2 ≤ wx_n σ'.2.2.2.2) {K918 : Int64 → Int32 → Int32 → Int32 → Int32 → Int32 → Int32 → Int32 → Int32 → Int32 → Int32 → wx_St → Option (Int32 × wx_St)} (mK918 : ∀ {x7 : Int64} {x9 : Int32} {x10 : Int32} {x11 : Int32} {x12 : Int32} {x13 : Int32} {x14 : Int32} {x15 : Int32} {x16 : Int32} {x17 : Int32} {x18 : Int32} {σ : wx_St}, K918 x7 x9 x10 x11 x12 x13 x14 x15 x16 x17 x18 σ = some ((1 : Int32), σ') → wx_n σ.2.2.2.2 ≤ wx_n σ'.2.2.2.2) {x7 : Int64} {x9 : Int32} {x10 : Int32} {x11 : Int32} {x12 : Int32} {x13 : Int32} {x14 : Int32} {x15 : Int32} {x16 : Int32} {x17 : Int32} {x18 : Int32} {x19 : Int32} {σ : wx_St} (h : f_L_law_980 ad K62 K918 x7 x9 x10 x11 x12 x13 x14 x15 x16 x17 x18 x19 σ = some ((1 : Int32), σ')) : wx_n σ.2.2.2.2 ≤ wx_n σ'.2.2.2.2 := by
  unfold f_L_law_980 at h
  exact m_L_law_993 (K62 := K62) @mK62 (K918 := K918) @mK918 h
set_option maxRecDepth 20000 in
set_option maxHeartbeats 4000000 in
theorem b_L_law_980 (B : wx_B p s m #[Value.ref b] meth c cL_law 21 (some .boolean) wsL_law RL D ad ca (fun q : Nat => s.heap.size ≤ q))     {σ' : wx_St} {K62 : Int64 → Int32 → wx_St → Option (Int32 × wx_St)} (hK62 : ∀ {x7 : Int64} {x9 : Int32} {σ : wx_St} {k : Nat} (hk : k + wx_n σ'.2.2.2.2 ≤ 1000 + wx_n σ.2.2.2.2)  (h : K62 x7 x9 σ = some ((1 : Int32), σ')) {rd : Nat → Nat} {H : Heap} {locs : List Loc} (Z : wx_Z D ad rd ca (fun q : Nat => s.heap.size ≤ q) σ H) (hS : va_S (fun q : Nat => s.heap.size ≤ q) s.heap H locs) {ls : Array Slot} (hl : lv_has ls 21 [(0, .ref (ad 18 0)), (1, .ref (ad 11 99)), (2, .ref (ad 16 0)), (3, .ref (ad 16 1)), (4, .ref (ad 16 2)), (5, .ref (ad 16 3)), (6, .ref (ad 16 4)), (7, .long x7), (9, .int x9)]), W p l e room_1 s m #[Value.ref b] below meth c H locs k (6464 * k) (lw_Z below #[Value.ref b] s) (F0 m 62 ls [])) (mK62 : ∀ {x7 : Int64} {x9 : Int32} {σ : wx_St}, K62 x7 x9 σ = some ((1 : Int32), σ') → wx_n σ.2.2.2.2 ≤ wx_n σ'.2.2.2.2) {K918 : Int64 → Int32 → Int32 → Int32 → Int32 → Int32 → Int32 → Int32 → Int32 → Int32 → Int32 → wx_St → Option (Int32 × wx_St)} (hK918 : ∀ {x7 : Int64} {x9 : Int32} {x10 : Int32} {x11 : Int32} {x12 : Int32} {x13 : Int32} {x14 : Int32} {x15 : Int32} {x16 : Int32} {x17 : Int32} {x18 : Int32} {σ : wx_St} {k : Nat} (hk : k + wx_n σ'.2.2.2.2 ≤ 1000 + wx_n σ.2.2.2.2)  (h : K918 x7 x9 x10 x11 x12 x13 x14 x15 x16 x17 x18 σ = some ((1 : Int32), σ')) {rd : Nat → Nat} {H : Heap} {locs : List Loc} (Z : wx_Z D ad rd ca (fun q : Nat => s.heap.size ≤ q) σ H) (hS : va_S (fun q : Nat => s.heap.size ≤ q) s.heap H locs) {ls : Array Slot} (hl : lv_has ls 21 [(0, .ref (ad 18 0)), (1, .ref (ad 11 99)), (2, .ref (ad 16 0)), (3, .ref (ad 16 1)), (4, .ref (ad 16 2)), (5, .ref (ad 16 3)), (6, .ref (ad 16 4)), (7, .long x7), (9, .int x9), (10, .int x10), (11, .int x11), (12, .int x12), (13, .int x13), (14, .int x14), (15, .int x15), (16, .int x16), (17, .int x17), (18, .int x18)]), W p l e room_1 s m #[Value.ref b] below meth c H locs k (6464 * k) (lw_Z below #[Value.ref b] s) (F0 m 918 ls [])) (mK918 : ∀ {x7 : Int64} {x9 : Int32} {x10 : Int32} {x11 : Int32} {x12 : Int32} {x13 : Int32} {x14 : Int32} {x15 : Int32} {x16 : Int32} {x17 : Int32} {x18 : Int32} {σ : wx_St}, K918 x7 x9 x10 x11 x12 x13 x14 x15 x16 x17 x18 σ = some ((1 : Int32), σ') → wx_n σ.2.2.2.2 ≤ wx_n σ'.2.2.2.2) {x7 : Int64} {x9 : Int32} {x10 : Int32} {x11 : Int32} {x12 : Int32} {x13 : Int32} {x14 : Int32} {x15 : Int32} {x16 : Int32} {x17 : Int32} {x18 : Int32} {x19 : Int32} {σ : wx_St} {k : Nat} (hk : k + wx_n σ'.2.2.2.2 ≤ 1000 + wx_n σ.2.2.2.2)  (h : f_L_law_980 ad K62 K918 x7 x9 x10 x11 x12 x13 x14 x15 x16 x17 x18 x19 σ = some ((1 : Int32), σ')) {rd : Nat → Nat} {H : Heap} {locs : List Loc} (Z : wx_Z D ad rd ca (fun q : Nat => s.heap.size ≤ q) σ H) (hS : va_S (fun q : Nat => s.heap.size ≤ q) s.heap H locs) {ls : Array Slot} (hl : lv_has ls 21 [(0, .ref (ad 18 0)), (1, .ref (ad 11 99)), (2, .ref (ad 16 0)), (3, .ref (ad 16 1)), (4, .ref (ad 16 2)), (5, .ref (ad 16 3)), (6, .ref (ad 16 4)), (7, .long x7), (9, .int x9), (10, .int x10), (11, .int x11), (12, .int x12), (13, .int x13), (14, .int x14), (15, .int x15), (16, .int x16), (17, .int x17), (18, .int x18), (19, .int x19)]) : W p l e room_1 s m #[Value.ref b] below meth c H locs k (6464 * k) (lw_Z below #[Value.ref b] s) (F0 m 980 ls []) := by
  obtain ⟨hx, hb, hml, hr, hts, hown, hlk, hC, hA⟩ := id B
  have hm := m_L_law_980 (K62 := K62) @mK62 (K918 := K918) @mK918 h
  unfold f_L_law_980 at h
  refine lv_lload hx hb dL_law_980 (lv_at hl 7 rfl) ?_
  refine lv_lconst (v := 1) hx hb dL_law_982 (by decide) ?_
  refine lv_iload hx hb dL_law_983 (lv_at hl 17 rfl) ?_
  refine lv_lshl (v := ((1 : Int64) <<< (x18.toInt64 &&& 63))) hx hb dL_law_985 rfl ?_
  refine lv_ldc2 hx hb hown (hts _ k_L_law_w0) dL_law_986 ?_
  refine lv_lxor hx hb dL_law_989 ?_
  refine lv_land hx hb dL_law_990 ?_
  refine lv_lstore (lv' := [(7, .long (x7 &&& (((1 : Int64) <<< (x18.toInt64 &&& 63)) ^^^ (-1 : Int64)))), (0, .ref (ad 18 0)), (1, .ref (ad 11 99)), (2, .ref (ad 16 0)), (3, .ref (ad 16 1)), (4, .ref (ad 16 2)), (5, .ref (ad 16 3)), (6, .ref (ad 16 4)), (9, .int x9), (10, .int x10), (11, .int x11), (12, .int x12), (13, .int x13), (14, .int x14), (15, .int x15), (16, .int x16), (17, .int x17), (18, .int x18), (19, .int x19)]) hx hb dL_law_991 hl (by decide) rfl (fun ls hl => ?_)
  exact b_L_law_993 B (K62 := K62) @hK62 @mK62 (K918 := K918) @hK918 @mK918 (k := k) hk h Z hS (lv_sub hl [1, 2, 3, 4, 5, 6, 7, 0, 8, 9, 10, 11, 12, 13, 14, 15, 16, 17, 18] rfl)
set_option maxRecDepth 20000 in
set_option maxHeartbeats 4000000 in
theorem m_L_law_958   {σ' : wx_St} {K62 : Int64 → Int32 → wx_St → Option (Int32 × wx_St)} (mK62 : ∀ {x7 : Int64} {x9 : Int32} {σ : wx_St}, K62 x7 x9 σ = some ((1 : Int32), σ') → wx_n σ.2.2.2.2 ≤ wx_n σ'.2.2.2.2) {K918 : Int64 → Int32 → Int32 → Int32 → Int32 → Int32 → Int32 → Int32 → Int32 → Int32 → Int32 → wx_St → Option (Int32 × wx_St)} (mK918 : ∀ {x7 : Int64} {x9 : Int32} {x10 : Int32} {x11 : Int32} {x12 : Int32} {x13 : Int32} {x14 : Int32} {x15 : Int32} {x16 : Int32} {x17 : Int32} {x18 : Int32} {σ : wx_St}, K918 x7 x9 x10 x11 x12 x13 x14 x15 x16 x17 x18 σ = some ((1 : Int32), σ') → wx_n σ.2.2.2.2 ≤ wx_n σ'.2.2.2.2) {x7 : Int64} {x9 : Int32} {x10 : Int32} {x11 : Int32} {x12 : Int32} {x13 : Int32} {x14 : Int32} {x15 : Int32} {x16 : Int32} {x17 : Int32} {x18 : Int32} {y0 : Int32} {σ : wx_St} (h : f_L_law_958 ad K62 K918 x7 x9 x10 x11 x12 x13 x14 x15 x16 x17 x18 y0 σ = some ((1 : Int32), σ')) : wx_n σ.2.2.2.2 ≤ wx_n σ'.2.2.2.2 := by
  unfold f_L_law_958 at h
  obtain ⟨v967, ev967, iv967, h⟩ := wx_rI_ok h
  by_cases c968 : v967 < (y0 - x17)
  · replace h := wx_ift c968 h
    exact m_L_law_980 (K62 := K62) @mK62 (K918 := K918) @mK918 h
  · replace h := wx_iff c968 h
    obtain ⟨v976, ev976, iv976, h⟩ := wx_rI_ok h
    by_cases c977 : (-(y0 - x17)) ≤ v976
    · replace h := wx_ift c977 h
      exact m_L_law_993 (K62 := K62) @mK62 (K918 := K918) @mK918 h
    · replace h := wx_iff c977 h
      exact m_L_law_980 (K62 := K62) @mK62 (K918 := K918) @mK918 h
set_option maxRecDepth 20000 in
set_option maxHeartbeats 4000000 in
theorem b_L_law_958 (B : wx_B p s m #[Value.ref b] meth c cL_law 21 (some .boolean) wsL_law RL D ad ca (fun q : Nat => s.heap.size ≤ q))     {σ' : wx_St} {K62 : Int64 → Int32 → wx_St → Option (Int32 × wx_St)} (hK62 : ∀ {x7 : Int64} {x9 : Int32} {σ : wx_St} {k : Nat} (hk : k + wx_n σ'.2.2.2.2 ≤ 1000 + wx_n σ.2.2.2.2)  (h : K62 x7 x9 σ = some ((1 : Int32), σ')) {rd : Nat → Nat} {H : Heap} {locs : List Loc} (Z : wx_Z D ad rd ca (fun q : Nat => s.heap.size ≤ q) σ H) (hS : va_S (fun q : Nat => s.heap.size ≤ q) s.heap H locs) {ls : Array Slot} (hl : lv_has ls 21 [(0, .ref (ad 18 0)), (1, .ref (ad 11 99)), (2, .ref (ad 16 0)), (3, .ref (ad 16 1)), (4, .ref (ad 16 2)), (5, .ref (ad 16 3)), (6, .ref (ad 16 4)), (7, .long x7), (9, .int x9)]), W p l e room_1 s m #[Value.ref b] below meth c H locs k (6464 * k) (lw_Z below #[Value.ref b] s) (F0 m 62 ls [])) (mK62 : ∀ {x7 : Int64} {x9 : Int32} {σ : wx_St}, K62 x7 x9 σ = some ((1 : Int32), σ') → wx_n σ.2.2.2.2 ≤ wx_n σ'.2.2.2.2) {K918 : Int64 → Int32 → Int32 → Int32 → Int32 → Int32 → Int32 → Int32 → Int32 → Int32 → Int32 → wx_St → Option (Int32 × wx_St)} (hK918 : ∀ {x7 : Int64} {x9 : Int32} {x10 : Int32} {x11 : Int32} {x12 : Int32} {x13 : Int32} {x14 : Int32} {x15 : Int32} {x16 : Int32} {x17 : Int32} {x18 : Int32} {σ : wx_St} {k : Nat} (hk : k + wx_n σ'.2.2.2.2 ≤ 1000 + wx_n σ.2.2.2.2)  (h : K918 x7 x9 x10 x11 x12 x13 x14 x15 x16 x17 x18 σ = some ((1 : Int32), σ')) {rd : Nat → Nat} {H : Heap} {locs : List Loc} (Z : wx_Z D ad rd ca (fun q : Nat => s.heap.size ≤ q) σ H) (hS : va_S (fun q : Nat => s.heap.size ≤ q) s.heap H locs) {ls : Array Slot} (hl : lv_has ls 21 [(0, .ref (ad 18 0)), (1, .ref (ad 11 99)), (2, .ref (ad 16 0)), (3, .ref (ad 16 1)), (4, .ref (ad 16 2)), (5, .ref (ad 16 3)), (6, .ref (ad 16 4)), (7, .long x7), (9, .int x9), (10, .int x10), (11, .int x11), (12, .int x12), (13, .int x13), (14, .int x14), (15, .int x15), (16, .int x16), (17, .int x17), (18, .int x18)]), W p l e room_1 s m #[Value.ref b] below meth c H locs k (6464 * k) (lw_Z below #[Value.ref b] s) (F0 m 918 ls [])) (mK918 : ∀ {x7 : Int64} {x9 : Int32} {x10 : Int32} {x11 : Int32} {x12 : Int32} {x13 : Int32} {x14 : Int32} {x15 : Int32} {x16 : Int32} {x17 : Int32} {x18 : Int32} {σ : wx_St}, K918 x7 x9 x10 x11 x12 x13 x14 x15 x16 x17 x18 σ = some ((1 : Int32), σ') → wx_n σ.2.2.2.2 ≤ wx_n σ'.2.2.2.2) {x7 : Int64} {x9 : Int32} {x10 : Int32} {x11 : Int32} {x12 : Int32} {x13 : Int32} {x14 : Int32} {x15 : Int32} {x16 : Int32} {x17 : Int32} {x18 : Int32} {y0 : Int32} {σ : wx_St} {k : Nat} (hk : k + wx_n σ'.2.2.2.2 ≤ 1000 + wx_n σ.2.2.2.2)  (h : f_L_law_958 ad K62 K918 x7 x9 x10 x11 x12 x13 x14 x15 x16 x17 x18 y0 σ = some ((1 : Int32), σ')) {rd : Nat → Nat} {H : Heap} {locs : List Loc} (Z : wx_Z D ad rd ca (fun q : Nat => s.heap.size ≤ q) σ H) (hS : va_S (fun q : Nat => s.heap.size ≤ q) s.heap H locs) {ls : Array Slot} (hl : lv_has ls 21 [(0, .ref (ad 18 0)), (1, .ref (ad 11 99)), (2, .ref (ad 16 0)), (3, .ref (ad 16 1)), (4, .ref (ad 16 2)), (5, .ref (ad 16 3)), (6, .ref (ad 16 4)), (7, .long x7), (9, .int x9), (10, .int x10), (11, .int x11), (12, .int x12), (13, .int x13), (14, .int x14), (15, .int x15), (16, .int x16), (17, .int x17), (18, .int x18)]) : W p l e room_1 s m #[Value.ref b] below meth c H locs k (6464 * k) (lw_Z below #[Value.ref b] s) (F0 m 958 ls [.int y0]) := by
  obtain ⟨hx, hb, hml, hr, hts, hown, hlk, hC, hA⟩ := id B
  have hm := m_L_law_958 (K62 := K62) @mK62 (K918 := K918) @mK918 h
  unfold f_L_law_958 at h
  refine lv_iload hx hb dL_law_958 (lv_at hl 16 rfl) ?_
  refine lv_isub hx hb dL_law_960 ?_
  refine lv_istore (lv' := [(19, .int (y0 - x17)), (0, .ref (ad 18 0)), (1, .ref (ad 11 99)), (2, .ref (ad 16 0)), (3, .ref (ad 16 1)), (4, .ref (ad 16 2)), (5, .ref (ad 16 3)), (6, .ref (ad 16 4)), (7, .long x7), (9, .int x9), (10, .int x10), (11, .int x11), (12, .int x12), (13, .int x13), (14, .int x14), (15, .int x15), (16, .int x16), (17, .int x17), (18, .int x18)]) hx hb dL_law_961 hl (by decide) rfl (fun ls hl => ?_)
  refine lv_iload hx hb dL_law_963 (lv_at hl 0 rfl) ?_
  refine lv_aload_n hx hb dL_law_965 rfl (lv_at hl 3 rfl) ?_
  refine lv_iconst (v := 3) hx hb dL_law_966 (by decide) ?_
  obtain ⟨v967, ev967, iv967, h⟩ := wx_rI_ok h
  refine wx_iald hx hb hC.1 Z (o := 16) (k := 0) (n := 7) rfl rfl iv967 dL_law_967 ev967 ?_
  refine lv_icmp_gt (tgt := 980) hx hb dL_law_968 (by decide) (fun c968 => ?_) (fun c968 => ?_)
  · replace h := wx_ift c968 h
    exact b_L_law_980 B (K62 := K62) @hK62 @mK62 (K918 := K918) @hK918 @mK918 (k := k) hk h Z hS (lv_sub hl [1, 2, 3, 4, 5, 6, 7, 8, 9, 10, 11, 12, 13, 14, 15, 16, 17, 18, 0] rfl)
  · replace h := wx_iff c968 h
    refine lv_iload hx hb dL_law_971 (lv_at hl 0 rfl) ?_
    refine lv_ineg hx hb dL_law_973 ?_
    refine lv_aload_n hx hb dL_law_974 rfl (lv_at hl 3 rfl) ?_
    refine lv_iconst (v := 3) hx hb dL_law_975 (by decide) ?_
    obtain ⟨v976, ev976, iv976, h⟩ := wx_rI_ok h
    refine wx_iald hx hb hC.1 Z (o := 16) (k := 0) (n := 7) rfl rfl iv976 dL_law_976 ev976 ?_
    refine lv_icmp_le (tgt := 993) hx hb dL_law_977 (by decide) (fun c977 => ?_) (fun c977 => ?_)
    · replace h := wx_ift c977 h
      exact b_L_law_993 B (K62 := K62) @hK62 @mK62 (K918 := K918) @hK918 @mK918 (k := k) hk h Z hS (lv_sub hl [1, 2, 3, 4, 5, 6, 7, 8, 9, 10, 11, 12, 13, 14, 15, 16, 17, 18, 0] rfl)
    · replace h := wx_iff c977 h
      exact b_L_law_980 B (K62 := K62) @hK62 @mK62 (K918 := K918) @hK918 @mK918 (k := k) hk h Z hS (lv_sub hl [1, 2, 3, 4, 5, 6, 7, 8, 9, 10, 11, 12, 13, 14, 15, 16, 17, 18, 0] rfl)
set_option maxRecDepth 20000 in
set_option maxHeartbeats 4000000 in
theorem m_L_law_1057   {σ' : wx_St} {K62 : Int64 → Int32 → wx_St → Option (Int32 × wx_St)} (mK62 : ∀ {x7 : Int64} {x9 : Int32} {σ : wx_St}, K62 x7 x9 σ = some ((1 : Int32), σ') → wx_n σ.2.2.2.2 ≤ wx_n σ'.2.2.2.2) {x7 : Int64} {x9 : Int32} {x10 : Int32} {x11 : Int32} {x12 : Int32} {x13 : Int32} {x14 : Int32} {x15 : Int32} {x16 : Int32} {x17 : Int32} {σ : wx_St} (h : f_L_law_1057 ad K62 x7 x9 x10 x11 x12 x13 x14 x15 x16 x17 σ = some ((1 : Int32), σ')) : wx_n σ.2.2.2.2 ≤ wx_n σ'.2.2.2.2 := by
  unfold f_L_law_1057 at h
  exact m_L_law_1246 (K62 := K62) @mK62 h
set_option maxRecDepth 20000 in
set_option maxHeartbeats 4000000 in
theorem b_L_law_1057 (B : wx_B p s m #[Value.ref b] meth c cL_law 21 (some .boolean) wsL_law RL D ad ca (fun q : Nat => s.heap.size ≤ q))     {σ' : wx_St} {K62 : Int64 → Int32 → wx_St → Option (Int32 × wx_St)} (hK62 : ∀ {x7 : Int64} {x9 : Int32} {σ : wx_St} {k : Nat} (hk : k + wx_n σ'.2.2.2.2 ≤ 1000 + wx_n σ.2.2.2.2)  (h : K62 x7 x9 σ = some ((1 : Int32), σ')) {rd : Nat → Nat} {H : Heap} {locs : List Loc} (Z : wx_Z D ad rd ca (fun q : Nat => s.heap.size ≤ q) σ H) (hS : va_S (fun q : Nat => s.heap.size ≤ q) s.heap H locs) {ls : Array Slot} (hl : lv_has ls 21 [(0, .ref (ad 18 0)), (1, .ref (ad 11 99)), (2, .ref (ad 16 0)), (3, .ref (ad 16 1)), (4, .ref (ad 16 2)), (5, .ref (ad 16 3)), (6, .ref (ad 16 4)), (7, .long x7), (9, .int x9)]), W p l e room_1 s m #[Value.ref b] below meth c H locs k (6464 * k) (lw_Z below #[Value.ref b] s) (F0 m 62 ls [])) (mK62 : ∀ {x7 : Int64} {x9 : Int32} {σ : wx_St}, K62 x7 x9 σ = some ((1 : Int32), σ') → wx_n σ.2.2.2.2 ≤ wx_n σ'.2.2.2.2) {x7 : Int64} {x9 : Int32} {x10 : Int32} {x11 : Int32} {x12 : Int32} {x13 : Int32} {x14 : Int32} {x15 : Int32} {x16 : Int32} {x17 : Int32} {σ : wx_St} {k : Nat} (hk : k + wx_n σ'.2.2.2.2 ≤ 1000 + wx_n σ.2.2.2.2)  (h : f_L_law_1057 ad K62 x7 x9 x10 x11 x12 x13 x14 x15 x16 x17 σ = some ((1 : Int32), σ')) {rd : Nat → Nat} {H : Heap} {locs : List Loc} (Z : wx_Z D ad rd ca (fun q : Nat => s.heap.size ≤ q) σ H) (hS : va_S (fun q : Nat => s.heap.size ≤ q) s.heap H locs) {ls : Array Slot} (hl : lv_has ls 21 [(0, .ref (ad 18 0)), (1, .ref (ad 11 99)), (2, .ref (ad 16 0)), (3, .ref (ad 16 1)), (4, .ref (ad 16 2)), (5, .ref (ad 16 3)), (6, .ref (ad 16 4)), (7, .long x7), (9, .int x9), (10, .int x10), (11, .int x11), (12, .int x12), (13, .int x13), (14, .int x14), (15, .int x15), (16, .int x16), (17, .int x17)]) : W p l e room_1 s m #[Value.ref b] below meth c H locs k (6464 * k) (lw_Z below #[Value.ref b] s) (F0 m 1057 ls []) := by
  obtain ⟨hx, hb, hml, hr, hts, hown, hlk, hC, hA⟩ := id B
  have hm := m_L_law_1057 (K62 := K62) @mK62 h
  unfold f_L_law_1057 at h
  refine lv_goto (tgt := 1246) hx hb dL_law_1057 (by decide) ?_
  exact b_L_law_1246 B (K62 := K62) @hK62 @mK62 (k := k) hk h Z hS (lv_sub hl [0, 1, 2, 3, 4, 5, 6, 7, 8, 9, 10, 11, 12, 13, 14, 15] rfl)
set_option maxRecDepth 20000 in
set_option maxHeartbeats 4000000 in
theorem m_L_law_918   {σ' : wx_St} {K62 : Int64 → Int32 → wx_St → Option (Int32 × wx_St)} (mK62 : ∀ {x7 : Int64} {x9 : Int32} {σ : wx_St}, K62 x7 x9 σ = some ((1 : Int32), σ') → wx_n σ.2.2.2.2 ≤ wx_n σ'.2.2.2.2) :
    ∀ {n : Nat} {x7 : Int64} {x9 : Int32} {x10 : Int32} {x11 : Int32} {x12 : Int32} {x13 : Int32} {x14 : Int32} {x15 : Int32} {x16 : Int32} {x17 : Int32} {x18 : Int32} {σ : wx_St} (h : f_L_law_918 ad K62 n x7 x9 x10 x11 x12 x13 x14 x15 x16 x17 x18 σ = some ((1 : Int32), σ')), wx_n σ.2.2.2.2 ≤ wx_n σ'.2.2.2.2 := by
  intro n
  induction n with
  | zero => intro x7 x9 x10 x11 x12 x13 x14 x15 x16 x17 x18 σ h; exact wx_no h
  | succ n ih =>
    intro x7 x9 x10 x11 x12 x13 x14 x15 x16 x17 x18 σ h
    rw [f_L_law_918] at h
    by_cases c922 : 64 ≤ x18
    · replace h := wx_ift c922 h
      exact m_L_law_1057 (K62 := K62) @mK62 h
    · replace h := wx_iff c922 h
      obtain ⟨v931, hc931, h⟩ := wx_o_ok h
      by_cases c934 : v931 = 0
      · replace h := wx_ift c934 h
        exact m_L_law_1051 (K62 := K62) @mK62 (K918 := (f_L_law_918 ad K62 n)) @ih h
      · replace h := wx_iff c934 h
        obtain ⟨v955, σ955, hc955, h⟩ := wx_b_ok h
        refine Nat.le_trans (m_X5_wouldRead_0 hc955) ?_
        exact m_L_law_958 (K62 := K62) @mK62 (K918 := (f_L_law_918 ad K62 n)) @ih h
set_option maxRecDepth 20000 in
set_option maxHeartbeats 4000000 in
theorem b_L_law_918 (B : wx_B p s m #[Value.ref b] meth c cL_law 21 (some .boolean) wsL_law RL D ad ca (fun q : Nat => s.heap.size ≤ q))     {σ' : wx_St} {K62 : Int64 → Int32 → wx_St → Option (Int32 × wx_St)} (hK62 : ∀ {x7 : Int64} {x9 : Int32} {σ : wx_St} {k : Nat} (hk : k + wx_n σ'.2.2.2.2 ≤ 1000 + wx_n σ.2.2.2.2)  (h : K62 x7 x9 σ = some ((1 : Int32), σ')) {rd : Nat → Nat} {H : Heap} {locs : List Loc} (Z : wx_Z D ad rd ca (fun q : Nat => s.heap.size ≤ q) σ H) (hS : va_S (fun q : Nat => s.heap.size ≤ q) s.heap H locs) {ls : Array Slot} (hl : lv_has ls 21 [(0, .ref (ad 18 0)), (1, .ref (ad 11 99)), (2, .ref (ad 16 0)), (3, .ref (ad 16 1)), (4, .ref (ad 16 2)), (5, .ref (ad 16 3)), (6, .ref (ad 16 4)), (7, .long x7), (9, .int x9)]), W p l e room_1 s m #[Value.ref b] below meth c H locs k (6464 * k) (lw_Z below #[Value.ref b] s) (F0 m 62 ls [])) (mK62 : ∀ {x7 : Int64} {x9 : Int32} {σ : wx_St}, K62 x7 x9 σ = some ((1 : Int32), σ') → wx_n σ.2.2.2.2 ≤ wx_n σ'.2.2.2.2)  :
    ∀ {n : Nat} {x7 : Int64} {x9 : Int32} {x10 : Int32} {x11 : Int32} {x12 : Int32} {x13 : Int32} {x14 : Int32} {x15 : Int32} {x16 : Int32} {x17 : Int32} {x18 : Int32} {σ : wx_St} {k : Nat} (hk : k + wx_n σ'.2.2.2.2 ≤ 1000 + wx_n σ.2.2.2.2)  (h : f_L_law_918 ad K62 n x7 x9 x10 x11 x12 x13 x14 x15 x16 x17 x18 σ = some ((1 : Int32), σ')) {rd : Nat → Nat} {H : Heap} {locs : List Loc} (Z : wx_Z D ad rd ca (fun q : Nat => s.heap.size ≤ q) σ H) (hS : va_S (fun q : Nat => s.heap.size ≤ q) s.heap H locs) {ls : Array Slot} (hl : lv_has ls 21 [(0, .ref (ad 18 0)), (1, .ref (ad 11 99)), (2, .ref (ad 16 0)), (3, .ref (ad 16 1)), (4, .ref (ad 16 2)), (5, .ref (ad 16 3)), (6, .ref (ad 16 4)), (7, .long x7), (9, .int x9), (10, .int x10), (11, .int x11), (12, .int x12), (13, .int x13), (14, .int x14), (15, .int x15), (16, .int x16), (17, .int x17), (18, .int x18)]), W p l e room_1 s m #[Value.ref b] below meth c H locs k (6464 * k) (lw_Z below #[Value.ref b] s) (F0 m 918 ls []) := by
  obtain ⟨hx, hb, hml, hr, hts, hown, hlk, hC, hA⟩ := id B
  intro n
  induction n with
  | zero => intro x7 x9 x10 x11 x12 x13 x14 x15 x16 x17 x18 σ k hk  h rd H locs Z hS ls hl; exact wx_no h
  | succ n ih =>
    intro x7 x9 x10 x11 x12 x13 x14 x15 x16 x17 x18 σ k hk  h rd H locs Z hS ls hl
    have hm := m_L_law_918 (K62 := K62) @mK62 h
    have mih : ∀ {x7 : Int64} {x9 : Int32} {x10 : Int32} {x11 : Int32} {x12 : Int32} {x13 : Int32} {x14 : Int32} {x15 : Int32} {x16 : Int32} {x17 : Int32} {x18 : Int32} {σ : wx_St}, f_L_law_918 ad K62 n x7 x9 x10 x11 x12 x13 x14 x15 x16 x17 x18 σ = some ((1 : Int32), σ') → wx_n σ.2.2.2.2 ≤ wx_n σ'.2.2.2.2 := fun h => m_L_law_918 (K62 := K62) @mK62 h
    rw [f_L_law_918] at h
    refine lv_iload hx hb dL_law_918 (lv_at hl 17 rfl) ?_
    refine lv_bipush (v := 64) hx hb dL_law_920 (by decide) ?_
    refine lv_icmp_ge (tgt := 1057) hx hb dL_law_922 (by decide) (fun c922 => ?_) (fun c922 => ?_)
    · replace h := wx_ift c922 h
      exact b_L_law_1057 B (K62 := K62) @hK62 @mK62 (k := k) hk h Z hS (lv_sub hl [0, 1, 2, 3, 4, 5, 6, 7, 8, 9, 10, 11, 12, 13, 14, 15, 16] rfl)
    · replace h := wx_iff c922 h
      refine lv_iload hx hb dL_law_925 (lv_at hl 17 rfl) ?_
      refine lv_aload hx hb dL_law_927 (lv_at hl 5 rfl) ?_
      refine lv_aload hx hb dL_law_929 (lv_at hl 6 rfl) ?_
      obtain ⟨v931, hc931, h⟩ := wx_o_ok h
      refine wx_call (va_runS (As := [.int x18, .ref (ad 16 3), .ref (ad 16 4)]) (rest := []) ⟨hx, hb, hml, hown, hts⟩ (c_L_suspect l (D := D) (ad := ad) (rd := rd) (ca := ca) (A := (fun q : Nat => s.heap.size ≤ q)) (σ := σ) hc931) (va_cwS 3 hts gL_law_L_suspect rfl rfl rfl (by decide +kernel) ⟨Nat.le_of_ble_eq_true rfl, Nat.le_of_ble_eq_true rfl⟩) (wx_preS hC Z hS hA) rfl rfl hl.1 rfl (lv_room (Nat.le_of_ble_eq_true rfl)) dL_law_931 ⟨(by show k + 0 ≤ 600000; omega), (by show 6464 * k + 0 ≤ 7302250; omega)⟩) hS (fun H locs Z hS => ?_)
      refine lv_if_ne (tgt := 940) hx hb dL_law_934 (by decide) (fun c934 => ?_) (fun c934 => ?_)
      · replace h := wx_iff c934 h
        refine lv_aload_n hx hb dL_law_940 rfl (lv_at hl 1 rfl) ?_
        refine lv_iload hx hb dL_law_941 (lv_at hl 12 rfl) ?_
        refine lv_iload hx hb dL_law_943 (lv_at hl 13 rfl) ?_
        refine lv_iload hx hb dL_law_945 (lv_at hl 17 rfl) ?_
        refine lv_bipush (v := 8) hx hb dL_law_947 (by decide) ?_
        refine lv_idiv hx hb dL_law_949 (by decide) ?_
        refine lv_iload hx hb dL_law_950 (lv_at hl 17 rfl) ?_
        refine lv_bipush (v := 8) hx hb dL_law_952 (by decide) ?_
        refine lv_irem hx hb dL_law_954 (by decide) ?_
        obtain ⟨v955, σ955, hc955, h⟩ := wx_b_ok h
        have m1 := m_X5_wouldRead_0 hc955
        have m2 := m_L_law_958 (K62 := K62) @mK62 (K918 := (f_L_law_918 ad K62 n)) mih h
        refine wx_callA (va_runV (As := [.int x13, .int x14, .int (x18 / 8), .int (x18 - x18 / 8 * 8)]) (rest := []) ⟨hx, hb, hml, hown, hts⟩ (c_X5_wouldRead l (D := D) (ad := ad) (rd := rd) (ca := ca) (A := (fun q : Nat => s.heap.size ≤ q)) (σ := σ) hc955) (cwV 4 hts gL_law_X5_wouldRead rfl rfl rfl (by decide +kernel) ⟨Nat.le_of_ble_eq_true rfl, Nat.le_of_ble_eq_true rfl⟩) (wx_preV hC Z hS hA rfl (rfl : vwCl[5]? = some (RX5, TX5, 7))) rfl rfl hl.1 rfl (lv_room (Nat.le_of_ble_eq_true rfl)) dL_law_955 ⟨(by show k + (wx_n σ955.2.2.2.2 - wx_n σ.2.2.2.2) ≤ 600000; omega), (by show 6464 * k + 6464 * (wx_n σ955.2.2.2.2 - wx_n σ.2.2.2.2) ≤ 7302250; omega)⟩) hS (fun rd H locs Z hS => ?_)
        refine W.widen (k := k + (wx_n σ955.2.2.2.2 - wx_n σ.2.2.2.2)) (n := 6464 * (k + (wx_n σ955.2.2.2.2 - wx_n σ.2.2.2.2))) (Nat.le_refl _) (by omega) ?_
        exact b_L_law_958 B (K62 := K62) @hK62 @mK62 (K918 := (f_L_law_918 ad K62 n)) @ih mih (k := k + (wx_n σ955.2.2.2.2 - wx_n σ.2.2.2.2)) (by omega) h Z hS (lv_sub hl [0, 1, 2, 3, 4, 5, 6, 7, 8, 9, 10, 11, 12, 13, 14, 15, 16, 17] rfl)
      · replace h := wx_ift c934 h
        refine lv_goto (tgt := 1051) hx hb dL_law_937 (by decide) ?_
        exact b_L_law_1051 B (K62 := K62) @hK62 @mK62 (K918 := (f_L_law_918 ad K62 n)) @ih mih (k := k) hk h Z hS (lv_sub hl [0, 1, 2, 3, 4, 5, 6, 7, 8, 9, 10, 11, 12, 13, 14, 15, 16, 17] rfl)
set_option maxRecDepth 20000 in
set_option maxHeartbeats 4000000 in
theorem m_L_law_855   {σ' : wx_St} {K62 : Int64 → Int32 → wx_St → Option (Int32 × wx_St)} (mK62 : ∀ {x7 : Int64} {x9 : Int32} {σ : wx_St}, K62 x7 x9 σ = some ((1 : Int32), σ') → wx_n σ.2.2.2.2 ≤ wx_n σ'.2.2.2.2) {x7 : Int64} {x9 : Int32} {x10 : Int32} {x11 : Int32} {x12 : Int32} {x13 : Int32} {x14 : Int32} {x15 : Int32} {x16 : Int32} {x17 : Int32} {y0 : Int32} {y1 : Int32} {σ : wx_St} (h : f_L_law_855 ad K62 x7 x9 x10 x11 x12 x13 x14 x15 x16 x17 y0 y1 σ = some ((1 : Int32), σ')) : wx_n σ.2.2.2.2 ≤ wx_n σ'.2.2.2.2 := by
  unfold f_L_law_855 at h
  by_cases c855 : y0 = y1
  · replace h := wx_ift c855 h
    obtain ⟨v863, ev863, iv863, h⟩ := wx_rI_ok h
    by_cases c866 : 8 ≤ v863
    · replace h := wx_ift c866 h
      exact m_L_law_1057 (K62 := K62) @mK62 h
    · replace h := wx_iff c866 h
      obtain ⟨v875, ev875, iv875, h⟩ := wx_rI_ok h
      obtain ⟨σ879, e879, i879, h⟩ := wx_w_ok h
      refine Nat.le_trans (Nat.le_of_eq (congrArg wx_n (show σ879.2.2.2.2 = σ.2.2.2.2 from (congrArg (fun z : wx_St => z.2.2.2.2) e879).trans rfl)).symm) ?_
      obtain ⟨v886, ev886, iv886, h⟩ := wx_rI_ok h
      obtain ⟨σ892, e892, i892, h⟩ := wx_w_ok h
      refine Nat.le_trans (Nat.le_of_eq (congrArg wx_n (show σ892.2.2.2.2 = σ879.2.2.2.2 from (congrArg (fun z : wx_St => z.2.2.2.2) e892).trans rfl)).symm) ?_
      obtain ⟨v899, ev899, iv899, h⟩ := wx_rI_ok h
      obtain ⟨v905, ev905, iv905, h⟩ := wx_rI_ok h
      obtain ⟨σ906, e906, i906, h⟩ := wx_w_ok h
      refine Nat.le_trans (Nat.le_of_eq (congrArg wx_n (show σ906.2.2.2.2 = σ892.2.2.2.2 from (congrArg (fun z : wx_St => z.2.2.2.2) e906).trans rfl)).symm) ?_
      obtain ⟨v911, ev911, iv911, h⟩ := wx_rI_ok h
      obtain ⟨σ914, e914, i914, h⟩ := wx_w_ok h
      refine Nat.le_trans (Nat.le_of_eq (congrArg wx_n (show σ914.2.2.2.2 = σ906.2.2.2.2 from (congrArg (fun z : wx_St => z.2.2.2.2) e914).trans rfl)).symm) ?_
      exact m_L_law_918 (K62 := K62) @mK62 h
  · replace h := wx_iff c855 h
    exact absurd (wx_ret_ok h).1 (by decide)
set_option maxRecDepth 20000 in
set_option maxHeartbeats 4000000 in
theorem b_L_law_855 (B : wx_B p s m #[Value.ref b] meth c cL_law 21 (some .boolean) wsL_law RL D ad ca (fun q : Nat => s.heap.size ≤ q))     {σ' : wx_St} {K62 : Int64 → Int32 → wx_St → Option (Int32 × wx_St)} (hK62 : ∀ {x7 : Int64} {x9 : Int32} {σ : wx_St} {k : Nat} (hk : k + wx_n σ'.2.2.2.2 ≤ 1000 + wx_n σ.2.2.2.2)  (h : K62 x7 x9 σ = some ((1 : Int32), σ')) {rd : Nat → Nat} {H : Heap} {locs : List Loc} (Z : wx_Z D ad rd ca (fun q : Nat => s.heap.size ≤ q) σ H) (hS : va_S (fun q : Nat => s.heap.size ≤ q) s.heap H locs) {ls : Array Slot} (hl : lv_has ls 21 [(0, .ref (ad 18 0)), (1, .ref (ad 11 99)), (2, .ref (ad 16 0)), (3, .ref (ad 16 1)), (4, .ref (ad 16 2)), (5, .ref (ad 16 3)), (6, .ref (ad 16 4)), (7, .long x7), (9, .int x9)]), W p l e room_1 s m #[Value.ref b] below meth c H locs k (6464 * k) (lw_Z below #[Value.ref b] s) (F0 m 62 ls [])) (mK62 : ∀ {x7 : Int64} {x9 : Int32} {σ : wx_St}, K62 x7 x9 σ = some ((1 : Int32), σ') → wx_n σ.2.2.2.2 ≤ wx_n σ'.2.2.2.2) {x7 : Int64} {x9 : Int32} {x10 : Int32} {x11 : Int32} {x12 : Int32} {x13 : Int32} {x14 : Int32} {x15 : Int32} {x16 : Int32} {x17 : Int32} {y0 : Int32} {y1 : Int32} {σ : wx_St} {k : Nat} (hk : k + wx_n σ'.2.2.2.2 ≤ 1000 + wx_n σ.2.2.2.2)  (h : f_L_law_855 ad K62 x7 x9 x10 x11 x12 x13 x14 x15 x16 x17 y0 y1 σ = some ((1 : Int32), σ')) {rd : Nat → Nat} {H : Heap} {locs : List Loc} (Z : wx_Z D ad rd ca (fun q : Nat => s.heap.size ≤ q) σ H) (hS : va_S (fun q : Nat => s.heap.size ≤ q) s.heap H locs) {ls : Array Slot} (hl : lv_has ls 21 [(0, .ref (ad 18 0)), (1, .ref (ad 11 99)), (2, .ref (ad 16 0)), (3, .ref (ad 16 1)), (4, .ref (ad 16 2)), (5, .ref (ad 16 3)), (6, .ref (ad 16 4)), (7, .long x7), (9, .int x9), (10, .int x10), (11, .int x11), (12, .int x12), (13, .int x13), (14, .int x14), (15, .int x15), (16, .int x16), (17, .int x17)]) : W p l e room_1 s m #[Value.ref b] below meth c H locs k (6464 * k) (lw_Z below #[Value.ref b] s) (F0 m 855 ls [.int y1, .int y0]) := by
  obtain ⟨hx, hb, hml, hr, hts, hown, hlk, hC, hA⟩ := id B
  have hm := m_L_law_855 (K62 := K62) @mK62 h
  unfold f_L_law_855 at h
  refine lv_icmp_eq (tgt := 860) hx hb dL_law_855 (by decide) (fun c855 => ?_) (fun c855 => ?_)
  · replace h := wx_ift c855 h
    refine lv_aload_n hx hb dL_law_860 rfl (lv_at hl 2 rfl) ?_
    refine lv_bipush (v := 6) hx hb dL_law_861 (by decide) ?_
    obtain ⟨v863, ev863, iv863, h⟩ := wx_rI_ok h
    refine wx_iald hx hb hC.1 Z (o := 16) (k := 0) (n := 7) rfl rfl iv863 dL_law_863 ev863 ?_
    refine lv_bipush (v := 8) hx hb dL_law_864 (by decide) ?_
    refine lv_icmp_ge (tgt := 1057) hx hb dL_law_866 (by decide) (fun c866 => ?_) (fun c866 => ?_)
    · replace h := wx_ift c866 h
      exact b_L_law_1057 B (K62 := K62) @hK62 @mK62 (k := k) hk h Z hS (lv_sub hl [0, 1, 2, 3, 4, 5, 6, 7, 8, 9, 10, 11, 12, 13, 14, 15, 16] rfl)
    · replace h := wx_iff c866 h
      refine lv_aload hx hb dL_law_869 (lv_at hl 4 rfl) ?_
      refine lv_iconst (v := 3) hx hb dL_law_871 (by decide) ?_
      refine lv_aload_n hx hb dL_law_872 rfl (lv_at hl 2 rfl) ?_
      refine lv_bipush (v := 6) hx hb dL_law_873 (by decide) ?_
      obtain ⟨v875, ev875, iv875, h⟩ := wx_rI_ok h
      refine wx_iald hx hb hC.1 Z (o := 16) (k := 0) (n := 7) rfl rfl iv875 dL_law_875 ev875 ?_
      refine lv_imul hx hb dL_law_876 ?_
      refine lv_iload hx hb dL_law_877 (lv_at hl 14 rfl) ?_
      obtain ⟨σ879, e879, i879, h⟩ := wx_w_ok h
      refine wx_iast hx hb hC.1 Z hS (o := 16) (k := 2) (n := 24) rfl rfl i879 dL_law_879 e879 (fun H locs Z hS => ?_)
      have hqσ879 := congrArg wx_n (show σ879.2.2.2.2 = σ.2.2.2.2 from (congrArg (fun z : wx_St => z.2.2.2.2) e879).trans rfl)
      rw [← hqσ879] at hk hm
      refine lv_aload hx hb dL_law_880 (lv_at hl 4 rfl) ?_
      refine lv_iconst (v := 3) hx hb dL_law_882 (by decide) ?_
      refine lv_aload_n hx hb dL_law_883 rfl (lv_at hl 2 rfl) ?_
      refine lv_bipush (v := 6) hx hb dL_law_884 (by decide) ?_
      obtain ⟨v886, ev886, iv886, h⟩ := wx_rI_ok h
      refine wx_iald hx hb hC.1 Z (o := 16) (k := 0) (n := 7) rfl rfl iv886 dL_law_886 ev886 ?_
      refine lv_imul hx hb dL_law_887 ?_
      refine lv_iconst (v := 1) hx hb dL_law_888 (by decide) ?_
      refine lv_iadd hx hb dL_law_889 ?_
      refine lv_iload hx hb dL_law_890 (lv_at hl 16 rfl) ?_
      obtain ⟨σ892, e892, i892, h⟩ := wx_w_ok h
      refine wx_iast hx hb hC.1 Z hS (o := 16) (k := 2) (n := 24) rfl rfl i892 dL_law_892 e892 (fun H locs Z hS => ?_)
      have hqσ892 := congrArg wx_n (show σ892.2.2.2.2 = σ879.2.2.2.2 from (congrArg (fun z : wx_St => z.2.2.2.2) e892).trans rfl)
      rw [← hqσ892] at hk hm
      refine lv_aload hx hb dL_law_893 (lv_at hl 4 rfl) ?_
      refine lv_iconst (v := 3) hx hb dL_law_895 (by decide) ?_
      refine lv_aload_n hx hb dL_law_896 rfl (lv_at hl 2 rfl) ?_
      refine lv_bipush (v := 6) hx hb dL_law_897 (by decide) ?_
      obtain ⟨v899, ev899, iv899, h⟩ := wx_rI_ok h
      refine wx_iald hx hb hC.1 Z (o := 16) (k := 0) (n := 7) rfl rfl iv899 dL_law_899 ev899 ?_
      refine lv_imul hx hb dL_law_900 ?_
      refine lv_iconst (v := 2) hx hb dL_law_901 (by decide) ?_
      refine lv_iadd hx hb dL_law_902 ?_
      refine lv_aload_n hx hb dL_law_903 rfl (lv_at hl 2 rfl) ?_
      refine lv_iconst (v := 4) hx hb dL_law_904 (by decide) ?_
      obtain ⟨v905, ev905, iv905, h⟩ := wx_rI_ok h
      refine wx_iald hx hb hC.1 Z (o := 16) (k := 0) (n := 7) rfl rfl iv905 dL_law_905 ev905 ?_
      obtain ⟨σ906, e906, i906, h⟩ := wx_w_ok h
      refine wx_iast hx hb hC.1 Z hS (o := 16) (k := 2) (n := 24) rfl rfl i906 dL_law_906 e906 (fun H locs Z hS => ?_)
      have hqσ906 := congrArg wx_n (show σ906.2.2.2.2 = σ892.2.2.2.2 from (congrArg (fun z : wx_St => z.2.2.2.2) e906).trans rfl)
      rw [← hqσ906] at hk hm
      refine lv_aload_n hx hb dL_law_907 rfl (lv_at hl 2 rfl) ?_
      refine lv_bipush (v := 6) hx hb dL_law_908 (by decide) ?_
      refine lv_dup2_11 hx hb dL_law_910 rfl rfl ?_
      obtain ⟨v911, ev911, iv911, h⟩ := wx_rI_ok h
      refine wx_iald hx hb hC.1 Z (o := 16) (k := 0) (n := 7) rfl rfl iv911 dL_law_911 ev911 ?_
      refine lv_iconst (v := 1) hx hb dL_law_912 (by decide) ?_
      refine lv_iadd hx hb dL_law_913 ?_
      obtain ⟨σ914, e914, i914, h⟩ := wx_w_ok h
      refine wx_iast hx hb hC.1 Z hS (o := 16) (k := 0) (n := 7) rfl rfl i914 dL_law_914 e914 (fun H locs Z hS => ?_)
      have hqσ914 := congrArg wx_n (show σ914.2.2.2.2 = σ906.2.2.2.2 from (congrArg (fun z : wx_St => z.2.2.2.2) e914).trans rfl)
      rw [← hqσ914] at hk hm
      refine lv_iconst (v := 0) hx hb dL_law_915 (by decide) ?_
      refine lv_istore (lv' := [(18, .int 0), (0, .ref (ad 18 0)), (1, .ref (ad 11 99)), (2, .ref (ad 16 0)), (3, .ref (ad 16 1)), (4, .ref (ad 16 2)), (5, .ref (ad 16 3)), (6, .ref (ad 16 4)), (7, .long x7), (9, .int x9), (10, .int x10), (11, .int x11), (12, .int x12), (13, .int x13), (14, .int x14), (15, .int x15), (16, .int x16), (17, .int x17)]) hx hb dL_law_916 hl (by decide) rfl (fun ls hl => ?_)
      exact b_L_law_918 B (K62 := K62) @hK62 @mK62 (k := k) hk h Z hS (lv_sub hl [1, 2, 3, 4, 5, 6, 7, 8, 9, 10, 11, 12, 13, 14, 15, 16, 17, 0] rfl)
  · replace h := wx_iff c855 h
    refine lv_iconst (v := 0) hx hb dL_law_858 (by decide) ?_
    exact absurd (wx_ret_ok h).1 (by decide)
set_option maxRecDepth 20000 in
set_option maxHeartbeats 4000000 in
theorem m_L_law_829   {σ' : wx_St} {K62 : Int64 → Int32 → wx_St → Option (Int32 × wx_St)} (mK62 : ∀ {x7 : Int64} {x9 : Int32} {σ : wx_St}, K62 x7 x9 σ = some ((1 : Int32), σ') → wx_n σ.2.2.2.2 ≤ wx_n σ'.2.2.2.2) {x7 : Int64} {x9 : Int32} {x10 : Int32} {x11 : Int32} {x12 : Int32} {x13 : Int32} {x14 : Int32} {x15 : Int32} {x16 : Int32} {y0 : Int32} {σ : wx_St} (h : f_L_law_829 ad K62 x7 x9 x10 x11 x12 x13 x14 x15 x16 y0 σ = some ((1 : Int32), σ')) : wx_n σ.2.2.2.2 ≤ wx_n σ'.2.2.2.2 := by
  unfold f_L_law_829 at h
  obtain ⟨v836, σ836, hc836, h⟩ := wx_b_ok h
  refine Nat.le_trans (Nat.le_of_eq (congrArg wx_n (show σ836.2.2.2.2 = σ.2.2.2.2 from m_X5_probe_0 hc836)).symm) ?_
  obtain ⟨v842, ev842, iv842, h⟩ := wx_rI_ok h
  by_cases c845 : v842 = 8
  · replace h := wx_ift c845 h
    exact m_L_law_855 (K62 := K62) @mK62 h
  · replace h := wx_iff c845 h
    exact m_L_law_855 (K62 := K62) @mK62 h
set_option maxRecDepth 20000 in
set_option maxHeartbeats 4000000 in
theorem b_L_law_829 (B : wx_B p s m #[Value.ref b] meth c cL_law 21 (some .boolean) wsL_law RL D ad ca (fun q : Nat => s.heap.size ≤ q))     {σ' : wx_St} {K62 : Int64 → Int32 → wx_St → Option (Int32 × wx_St)} (hK62 : ∀ {x7 : Int64} {x9 : Int32} {σ : wx_St} {k : Nat} (hk : k + wx_n σ'.2.2.2.2 ≤ 1000 + wx_n σ.2.2.2.2)  (h : K62 x7 x9 σ = some ((1 : Int32), σ')) {rd : Nat → Nat} {H : Heap} {locs : List Loc} (Z : wx_Z D ad rd ca (fun q : Nat => s.heap.size ≤ q) σ H) (hS : va_S (fun q : Nat => s.heap.size ≤ q) s.heap H locs) {ls : Array Slot} (hl : lv_has ls 21 [(0, .ref (ad 18 0)), (1, .ref (ad 11 99)), (2, .ref (ad 16 0)), (3, .ref (ad 16 1)), (4, .ref (ad 16 2)), (5, .ref (ad 16 3)), (6, .ref (ad 16 4)), (7, .long x7), (9, .int x9)]), W p l e room_1 s m #[Value.ref b] below meth c H locs k (6464 * k) (lw_Z below #[Value.ref b] s) (F0 m 62 ls [])) (mK62 : ∀ {x7 : Int64} {x9 : Int32} {σ : wx_St}, K62 x7 x9 σ = some ((1 : Int32), σ') → wx_n σ.2.2.2.2 ≤ wx_n σ'.2.2.2.2) {x7 : Int64} {x9 : Int32} {x10 : Int32} {x11 : Int32} {x12 : Int32} {x13 : Int32} {x14 : Int32} {x15 : Int32} {x16 : Int32} {y0 : Int32} {σ : wx_St} {k : Nat} (hk : k + wx_n σ'.2.2.2.2 ≤ 1000 + wx_n σ.2.2.2.2)  (h : f_L_law_829 ad K62 x7 x9 x10 x11 x12 x13 x14 x15 x16 y0 σ = some ((1 : Int32), σ')) {rd : Nat → Nat} {H : Heap} {locs : List Loc} (Z : wx_Z D ad rd ca (fun q : Nat => s.heap.size ≤ q) σ H) (hS : va_S (fun q : Nat => s.heap.size ≤ q) s.heap H locs) {ls : Array Slot} (hl : lv_has ls 21 [(0, .ref (ad 18 0)), (1, .ref (ad 11 99)), (2, .ref (ad 16 0)), (3, .ref (ad 16 1)), (4, .ref (ad 16 2)), (5, .ref (ad 16 3)), (6, .ref (ad 16 4)), (7, .long x7), (9, .int x9), (10, .int x10), (11, .int x11), (12, .int x12), (13, .int x13), (14, .int x14), (15, .int x15), (16, .int x16)]) : W p l e room_1 s m #[Value.ref b] below meth c H locs k (6464 * k) (lw_Z below #[Value.ref b] s) (F0 m 829 ls [.int y0]) := by
  obtain ⟨hx, hb, hml, hr, hts, hown, hlk, hC, hA⟩ := id B
  have hm := m_L_law_829 (K62 := K62) @mK62 h
  unfold f_L_law_829 at h
  refine lv_istore (lv' := [(17, .int y0), (0, .ref (ad 18 0)), (1, .ref (ad 11 99)), (2, .ref (ad 16 0)), (3, .ref (ad 16 1)), (4, .ref (ad 16 2)), (5, .ref (ad 16 3)), (6, .ref (ad 16 4)), (7, .long x7), (9, .int x9), (10, .int x10), (11, .int x11), (12, .int x12), (13, .int x13), (14, .int x14), (15, .int x15), (16, .int x16)]) hx hb dL_law_829 hl (by decide) rfl (fun ls hl => ?_)
  refine lv_aload_n hx hb dL_law_831 rfl (lv_at hl 2 rfl) ?_
  refine lv_iload hx hb dL_law_832 (lv_at hl 13 rfl) ?_
  refine lv_iload hx hb dL_law_834 (lv_at hl 14 rfl) ?_
  obtain ⟨v836, σ836, hc836, h⟩ := wx_b_ok h
  refine wx_call (va_runV (As := [.int x13, .int x14]) (rest := []) ⟨hx, hb, hml, hown, hts⟩ (c_X5_probe l (D := D) (ad := ad) (rd := rd) (ca := ca) (A := (fun q : Nat => s.heap.size ≤ q)) (σ := σ) hc836) (cwV 2 hts gL_law_X5_probe rfl rfl rfl (by decide +kernel) ⟨Nat.le_of_ble_eq_true rfl, Nat.le_of_ble_eq_true rfl⟩) (wx_preV hC Z hS hA rfl (rfl : vwCl[5]? = some (RX5, TX5, 7))) rfl rfl hl.1 rfl (lv_room (Nat.le_of_ble_eq_true rfl)) dL_law_836 ⟨(by show k + 0 ≤ 600000; omega), (by show 6464 * k + 0 ≤ 7302250; omega)⟩) hS (fun H locs Z hS => ?_)
  have hqσ836 := congrArg wx_n (show σ836.2.2.2.2 = σ.2.2.2.2 from m_X5_probe_0 hc836)
  rw [← hqσ836] at hk hm
  refine lv_aload_n hx hb dL_law_839 rfl (lv_at hl 3 rfl) ?_
  refine lv_bipush (v := 6) hx hb dL_law_840 (by decide) ?_
  obtain ⟨v842, ev842, iv842, h⟩ := wx_rI_ok h
  refine wx_iald hx hb hC.1 Z (o := 16) (k := 0) (n := 7) rfl rfl iv842 dL_law_842 ev842 ?_
  refine lv_bipush (v := 8) hx hb dL_law_843 (by decide) ?_
  refine lv_icmp_ne (tgt := 853) hx hb dL_law_845 (by decide) (fun c845 => ?_) (fun c845 => ?_)
  · replace h := wx_iff c845 h
    refine lv_iload hx hb dL_law_853 (lv_at hl 0 rfl) ?_
    exact b_L_law_855 B (K62 := K62) @hK62 @mK62 (k := k) hk h Z hS (lv_sub hl [1, 2, 3, 4, 5, 6, 7, 8, 9, 10, 11, 12, 13, 14, 15, 16, 0] rfl)
  · replace h := wx_ift c845 h
    refine lv_bipush (v := (-4)) hx hb dL_law_848 (by decide) ?_
    refine lv_goto (tgt := 855) hx hb dL_law_850 (by decide) ?_
    exact b_L_law_855 B (K62 := K62) @hK62 @mK62 (k := k) hk h Z hS (lv_sub hl [1, 2, 3, 4, 5, 6, 7, 8, 9, 10, 11, 12, 13, 14, 15, 16, 0] rfl)
set_option maxRecDepth 20000 in
set_option maxHeartbeats 4000000 in
theorem m_L_law_1228   {σ' : wx_St} {K62 : Int64 → Int32 → wx_St → Option (Int32 × wx_St)} (mK62 : ∀ {x7 : Int64} {x9 : Int32} {σ : wx_St}, K62 x7 x9 σ = some ((1 : Int32), σ') → wx_n σ.2.2.2.2 ≤ wx_n σ'.2.2.2.2) {x7 : Int64} {x9 : Int32} {x10 : Int32} {x11 : Int32} {x12 : Int32} {x13 : Int32} {x14 : Int32} {x15 : Int32} {x16 : Int32} {x17 : Int32} {x18 : Int32} {σ : wx_St} (h : f_L_law_1228 ad K62 x7 x9 x10 x11 x12 x13 x14 x15 x16 x17 x18 σ = some ((1 : Int32), σ')) : wx_n σ.2.2.2.2 ≤ wx_n σ'.2.2.2.2 := by
  unfold f_L_law_1228 at h
  exact m_L_law_1246 (K62 := K62) @mK62 h
set_option maxRecDepth 20000 in
set_option maxHeartbeats 4000000 in
theorem b_L_law_1228 (B : wx_B p s m #[Value.ref b] meth c cL_law 21 (some .boolean) wsL_law RL D ad ca (fun q : Nat => s.heap.size ≤ q))     {σ' : wx_St} {K62 : Int64 → Int32 → wx_St → Option (Int32 × wx_St)} (hK62 : ∀ {x7 : Int64} {x9 : Int32} {σ : wx_St} {k : Nat} (hk : k + wx_n σ'.2.2.2.2 ≤ 1000 + wx_n σ.2.2.2.2)  (h : K62 x7 x9 σ = some ((1 : Int32), σ')) {rd : Nat → Nat} {H : Heap} {locs : List Loc} (Z : wx_Z D ad rd ca (fun q : Nat => s.heap.size ≤ q) σ H) (hS : va_S (fun q : Nat => s.heap.size ≤ q) s.heap H locs) {ls : Array Slot} (hl : lv_has ls 21 [(0, .ref (ad 18 0)), (1, .ref (ad 11 99)), (2, .ref (ad 16 0)), (3, .ref (ad 16 1)), (4, .ref (ad 16 2)), (5, .ref (ad 16 3)), (6, .ref (ad 16 4)), (7, .long x7), (9, .int x9)]), W p l e room_1 s m #[Value.ref b] below meth c H locs k (6464 * k) (lw_Z below #[Value.ref b] s) (F0 m 62 ls [])) (mK62 : ∀ {x7 : Int64} {x9 : Int32} {σ : wx_St}, K62 x7 x9 σ = some ((1 : Int32), σ') → wx_n σ.2.2.2.2 ≤ wx_n σ'.2.2.2.2) {x7 : Int64} {x9 : Int32} {x10 : Int32} {x11 : Int32} {x12 : Int32} {x13 : Int32} {x14 : Int32} {x15 : Int32} {x16 : Int32} {x17 : Int32} {x18 : Int32} {σ : wx_St} {k : Nat} (hk : k + wx_n σ'.2.2.2.2 ≤ 1000 + wx_n σ.2.2.2.2)  (h : f_L_law_1228 ad K62 x7 x9 x10 x11 x12 x13 x14 x15 x16 x17 x18 σ = some ((1 : Int32), σ')) {rd : Nat → Nat} {H : Heap} {locs : List Loc} (Z : wx_Z D ad rd ca (fun q : Nat => s.heap.size ≤ q) σ H) (hS : va_S (fun q : Nat => s.heap.size ≤ q) s.heap H locs) {ls : Array Slot} (hl : lv_has ls 21 [(0, .ref (ad 18 0)), (1, .ref (ad 11 99)), (2, .ref (ad 16 0)), (3, .ref (ad 16 1)), (4, .ref (ad 16 2)), (5, .ref (ad 16 3)), (6, .ref (ad 16 4)), (7, .long x7), (9, .int x9), (10, .int x10), (11, .int x11), (12, .int x12), (13, .int x13), (14, .int x14), (15, .int x15), (16, .int x16), (17, .int x17), (18, .int x18)]) : W p l e room_1 s m #[Value.ref b] below meth c H locs k (6464 * k) (lw_Z below #[Value.ref b] s) (F0 m 1228 ls []) := by
  obtain ⟨hx, hb, hml, hr, hts, hown, hlk, hC, hA⟩ := id B
  have hm := m_L_law_1228 (K62 := K62) @mK62 h
  unfold f_L_law_1228 at h
  refine lv_goto (tgt := 1246) hx hb dL_law_1228 (by decide) ?_
  exact b_L_law_1246 B (K62 := K62) @hK62 @mK62 (k := k) hk h Z hS (lv_sub hl [0, 1, 2, 3, 4, 5, 6, 7, 8, 9, 10, 11, 12, 13, 14, 15] rfl)
set_option maxRecDepth 20000 in
set_option maxHeartbeats 4000000 in
theorem m_L_law_1205   {σ' : wx_St} {K62 : Int64 → Int32 → wx_St → Option (Int32 × wx_St)} (mK62 : ∀ {x7 : Int64} {x9 : Int32} {σ : wx_St}, K62 x7 x9 σ = some ((1 : Int32), σ') → wx_n σ.2.2.2.2 ≤ wx_n σ'.2.2.2.2) {x7 : Int64} {x9 : Int32} {x10 : Int32} {x11 : Int32} {x12 : Int32} {x13 : Int32} {x14 : Int32} {x15 : Int32} {x16 : Int32} {x17 : Int32} {x18 : Int32} {y0 : Int32} {σ : wx_St} (h : f_L_law_1205 ad K62 x7 x9 x10 x11 x12 x13 x14 x15 x16 x17 x18 y0 σ = some ((1 : Int32), σ')) : wx_n σ.2.2.2.2 ≤ wx_n σ'.2.2.2.2 := by
  unfold f_L_law_1205 at h
  by_cases c1210 : x17 = 3
  · replace h := wx_ift c1210 h
    obtain ⟨v1214, σ1214, hc1214, h⟩ := wx_b_ok h
    refine Nat.le_trans (Nat.le_of_eq (congrArg wx_n (show σ1214.2.2.2.2 = σ.2.2.2.2 from m_X5_cool_0 hc1214)).symm) ?_
    obtain ⟨v1219, ev1219, iv1219, h⟩ := wx_rI_ok h
    by_cases c1220 : v1214 = v1219
    · replace h := wx_ift c1220 h
      exact m_L_law_1228 (K62 := K62) @mK62 h
    · replace h := wx_iff c1220 h
      exact absurd (wx_ret_ok h).1 (by decide)
  · replace h := wx_iff c1210 h
    exact m_L_law_1228 (K62 := K62) @mK62 h
set_option maxRecDepth 20000 in
set_option maxHeartbeats 4000000 in
theorem b_L_law_1205 (B : wx_B p s m #[Value.ref b] meth c cL_law 21 (some .boolean) wsL_law RL D ad ca (fun q : Nat => s.heap.size ≤ q))     {σ' : wx_St} {K62 : Int64 → Int32 → wx_St → Option (Int32 × wx_St)} (hK62 : ∀ {x7 : Int64} {x9 : Int32} {σ : wx_St} {k : Nat} (hk : k + wx_n σ'.2.2.2.2 ≤ 1000 + wx_n σ.2.2.2.2)  (h : K62 x7 x9 σ = some ((1 : Int32), σ')) {rd : Nat → Nat} {H : Heap} {locs : List Loc} (Z : wx_Z D ad rd ca (fun q : Nat => s.heap.size ≤ q) σ H) (hS : va_S (fun q : Nat => s.heap.size ≤ q) s.heap H locs) {ls : Array Slot} (hl : lv_has ls 21 [(0, .ref (ad 18 0)), (1, .ref (ad 11 99)), (2, .ref (ad 16 0)), (3, .ref (ad 16 1)), (4, .ref (ad 16 2)), (5, .ref (ad 16 3)), (6, .ref (ad 16 4)), (7, .long x7), (9, .int x9)]), W p l e room_1 s m #[Value.ref b] below meth c H locs k (6464 * k) (lw_Z below #[Value.ref b] s) (F0 m 62 ls [])) (mK62 : ∀ {x7 : Int64} {x9 : Int32} {σ : wx_St}, K62 x7 x9 σ = some ((1 : Int32), σ') → wx_n σ.2.2.2.2 ≤ wx_n σ'.2.2.2.2) {x7 : Int64} {x9 : Int32} {x10 : Int32} {x11 : Int32} {x12 : Int32} {x13 : Int32} {x14 : Int32} {x15 : Int32} {x16 : Int32} {x17 : Int32} {x18 : Int32} {y0 : Int32} {σ : wx_St} {k : Nat} (hk : k + wx_n σ'.2.2.2.2 ≤ 1000 + wx_n σ.2.2.2.2)  (h : f_L_law_1205 ad K62 x7 x9 x10 x11 x12 x13 x14 x15 x16 x17 x18 y0 σ = some ((1 : Int32), σ')) {rd : Nat → Nat} {H : Heap} {locs : List Loc} (Z : wx_Z D ad rd ca (fun q : Nat => s.heap.size ≤ q) σ H) (hS : va_S (fun q : Nat => s.heap.size ≤ q) s.heap H locs) {ls : Array Slot} (hl : lv_has ls 21 [(0, .ref (ad 18 0)), (1, .ref (ad 11 99)), (2, .ref (ad 16 0)), (3, .ref (ad 16 1)), (4, .ref (ad 16 2)), (5, .ref (ad 16 3)), (6, .ref (ad 16 4)), (7, .long x7), (9, .int x9), (10, .int x10), (11, .int x11), (12, .int x12), (13, .int x13), (14, .int x14), (15, .int x15), (16, .int x16), (17, .int x17), (18, .int x18)]) : W p l e room_1 s m #[Value.ref b] below meth c H locs k (6464 * k) (lw_Z below #[Value.ref b] s) (F0 m 1205 ls [.int y0]) := by
  obtain ⟨hx, hb, hml, hr, hts, hown, hlk, hC, hA⟩ := id B
  have hm := m_L_law_1205 (K62 := K62) @mK62 h
  unfold f_L_law_1205 at h
  refine lv_istore (lv' := [(16, .int y0), (0, .ref (ad 18 0)), (1, .ref (ad 11 99)), (2, .ref (ad 16 0)), (3, .ref (ad 16 1)), (4, .ref (ad 16 2)), (5, .ref (ad 16 3)), (6, .ref (ad 16 4)), (7, .long x7), (9, .int x9), (10, .int x10), (11, .int x11), (12, .int x12), (13, .int x13), (14, .int x14), (15, .int x15), (17, .int x17), (18, .int x18)]) hx hb dL_law_1205 hl (by decide) rfl (fun ls hl => ?_)
  refine lv_iload hx hb dL_law_1207 (lv_at hl 16 rfl) ?_
  refine lv_iconst (v := 3) hx hb dL_law_1209 (by decide) ?_
  refine lv_icmp_ne (tgt := 1228) hx hb dL_law_1210 (by decide) (fun c1210 => ?_) (fun c1210 => ?_)
  · replace h := wx_iff c1210 h
    exact b_L_law_1228 B (K62 := K62) @hK62 @mK62 (k := k) hk h Z hS (lv_sub hl [1, 2, 3, 4, 5, 6, 7, 8, 9, 10, 11, 12, 13, 14, 15, 0, 16, 17] rfl)
  · replace h := wx_ift c1210 h
    refine lv_aload_n hx hb dL_law_1213 rfl (lv_at hl 2 rfl) ?_
    obtain ⟨v1214, σ1214, hc1214, h⟩ := wx_b_ok h
    refine wx_call (va_runV (As := []) (rest := []) ⟨hx, hb, hml, hown, hts⟩ (c_X5_cool l (D := D) (ad := ad) (rd := rd) (ca := ca) (A := (fun q : Nat => s.heap.size ≤ q)) (σ := σ) hc1214) (cwV 0 hts gL_law_X5_cool rfl rfl rfl (by decide +kernel) ⟨Nat.le_of_ble_eq_true rfl, Nat.le_of_ble_eq_true rfl⟩) (wx_preV hC Z hS hA rfl (rfl : vwCl[5]? = some (RX5, TX5, 7))) rfl rfl hl.1 rfl (lv_room (Nat.le_of_ble_eq_true rfl)) dL_law_1214 ⟨(by show k + 0 ≤ 600000; omega), (by show 6464 * k + 0 ≤ 7302250; omega)⟩) hS (fun H locs Z hS => ?_)
    have hqσ1214 := congrArg wx_n (show σ1214.2.2.2.2 = σ.2.2.2.2 from m_X5_cool_0 hc1214)
    rw [← hqσ1214] at hk hm
    refine lv_aload_n hx hb dL_law_1217 rfl (lv_at hl 3 rfl) ?_
    refine lv_iconst (v := 4) hx hb dL_law_1218 (by decide) ?_
    obtain ⟨v1219, ev1219, iv1219, h⟩ := wx_rI_ok h
    refine wx_iald hx hb hC.1 Z (o := 16) (k := 0) (n := 7) rfl rfl iv1219 dL_law_1219 ev1219 ?_
    refine lv_icmp_eq (tgt := 1225) hx hb dL_law_1220 (by decide) (fun c1220 => ?_) (fun c1220 => ?_)
    · replace h := wx_ift c1220 h
      refine lv_iconst (v := 1) hx hb dL_law_1225 (by decide) ?_
      refine lv_istore (lv' := [(16, .int 1), (0, .ref (ad 18 0)), (1, .ref (ad 11 99)), (2, .ref (ad 16 0)), (3, .ref (ad 16 1)), (4, .ref (ad 16 2)), (5, .ref (ad 16 3)), (6, .ref (ad 16 4)), (7, .long x7), (9, .int x9), (10, .int x10), (11, .int x11), (12, .int x12), (13, .int x13), (14, .int x14), (15, .int x15), (17, .int x17), (18, .int x18)]) hx hb dL_law_1226 hl (by decide) rfl (fun ls hl => ?_)
      exact b_L_law_1228 B (K62 := K62) @hK62 @mK62 (k := k) hk h Z hS (lv_sub hl [1, 2, 3, 4, 5, 6, 7, 8, 9, 10, 11, 12, 13, 14, 15, 0, 16, 17] rfl)
    · replace h := wx_iff c1220 h
      refine lv_iconst (v := 0) hx hb dL_law_1223 (by decide) ?_
      exact absurd (wx_ret_ok h).1 (by decide)
set_option maxRecDepth 20000 in
set_option maxHeartbeats 4000000 in
theorem m_L_law_1169   {σ' : wx_St} {K62 : Int64 → Int32 → wx_St → Option (Int32 × wx_St)} (mK62 : ∀ {x7 : Int64} {x9 : Int32} {σ : wx_St}, K62 x7 x9 σ = some ((1 : Int32), σ') → wx_n σ.2.2.2.2 ≤ wx_n σ'.2.2.2.2) {x7 : Int64} {x9 : Int32} {x10 : Int32} {x11 : Int32} {x12 : Int32} {x13 : Int32} {x14 : Int32} {x15 : Int32} {x16 : Int32} {x17 : Int32} {y0 : Int32} {σ : wx_St} (h : f_L_law_1169 ad K62 x7 x9 x10 x11 x12 x13 x14 x15 x16 x17 y0 σ = some ((1 : Int32), σ')) : wx_n σ.2.2.2.2 ≤ wx_n σ'.2.2.2.2 := by
  unfold f_L_law_1169 at h
  obtain ⟨v1176, σ1176, hc1176, h⟩ := wx_b_ok h
  refine Nat.le_trans (Nat.le_of_eq (congrArg wx_n (show σ1176.2.2.2.2 = σ.2.2.2.2 from m_X5_set_0 hc1176)).symm) ?_
  obtain ⟨v1182, ev1182, iv1182, h⟩ := wx_rI_ok h
  by_cases c1183 : v1176 = v1182
  · replace h := wx_ift c1183 h
    obtain ⟨σ1193, e1193, i1193, h⟩ := wx_w_ok h
    refine Nat.le_trans (Nat.le_of_eq (congrArg wx_n (show σ1193.2.2.2.2 = σ1176.2.2.2.2 from (congrArg (fun z : wx_St => z.2.2.2.2) e1193).trans rfl)).symm) ?_
    by_cases c1197 : 3 ≤ x17
    · replace h := wx_ift c1197 h
      exact m_L_law_1205 (K62 := K62) @mK62 h
    · replace h := wx_iff c1197 h
      exact m_L_law_1205 (K62 := K62) @mK62 h
  · replace h := wx_iff c1183 h
    exact absurd (wx_ret_ok h).1 (by decide)
set_option maxRecDepth 20000 in
set_option maxHeartbeats 4000000 in
theorem b_L_law_1169 (B : wx_B p s m #[Value.ref b] meth c cL_law 21 (some .boolean) wsL_law RL D ad ca (fun q : Nat => s.heap.size ≤ q))     {σ' : wx_St} {K62 : Int64 → Int32 → wx_St → Option (Int32 × wx_St)} (hK62 : ∀ {x7 : Int64} {x9 : Int32} {σ : wx_St} {k : Nat} (hk : k + wx_n σ'.2.2.2.2 ≤ 1000 + wx_n σ.2.2.2.2)  (h : K62 x7 x9 σ = some ((1 : Int32), σ')) {rd : Nat → Nat} {H : Heap} {locs : List Loc} (Z : wx_Z D ad rd ca (fun q : Nat => s.heap.size ≤ q) σ H) (hS : va_S (fun q : Nat => s.heap.size ≤ q) s.heap H locs) {ls : Array Slot} (hl : lv_has ls 21 [(0, .ref (ad 18 0)), (1, .ref (ad 11 99)), (2, .ref (ad 16 0)), (3, .ref (ad 16 1)), (4, .ref (ad 16 2)), (5, .ref (ad 16 3)), (6, .ref (ad 16 4)), (7, .long x7), (9, .int x9)]), W p l e room_1 s m #[Value.ref b] below meth c H locs k (6464 * k) (lw_Z below #[Value.ref b] s) (F0 m 62 ls [])) (mK62 : ∀ {x7 : Int64} {x9 : Int32} {σ : wx_St}, K62 x7 x9 σ = some ((1 : Int32), σ') → wx_n σ.2.2.2.2 ≤ wx_n σ'.2.2.2.2) {x7 : Int64} {x9 : Int32} {x10 : Int32} {x11 : Int32} {x12 : Int32} {x13 : Int32} {x14 : Int32} {x15 : Int32} {x16 : Int32} {x17 : Int32} {y0 : Int32} {σ : wx_St} {k : Nat} (hk : k + wx_n σ'.2.2.2.2 ≤ 1000 + wx_n σ.2.2.2.2)  (h : f_L_law_1169 ad K62 x7 x9 x10 x11 x12 x13 x14 x15 x16 x17 y0 σ = some ((1 : Int32), σ')) {rd : Nat → Nat} {H : Heap} {locs : List Loc} (Z : wx_Z D ad rd ca (fun q : Nat => s.heap.size ≤ q) σ H) (hS : va_S (fun q : Nat => s.heap.size ≤ q) s.heap H locs) {ls : Array Slot} (hl : lv_has ls 21 [(0, .ref (ad 18 0)), (1, .ref (ad 11 99)), (2, .ref (ad 16 0)), (3, .ref (ad 16 1)), (4, .ref (ad 16 2)), (5, .ref (ad 16 3)), (6, .ref (ad 16 4)), (7, .long x7), (9, .int x9), (10, .int x10), (11, .int x11), (12, .int x12), (13, .int x13), (14, .int x14), (15, .int x15), (16, .int x16), (17, .int x17)]) : W p l e room_1 s m #[Value.ref b] below meth c H locs k (6464 * k) (lw_Z below #[Value.ref b] s) (F0 m 1169 ls [.int y0]) := by
  obtain ⟨hx, hb, hml, hr, hts, hown, hlk, hC, hA⟩ := id B
  have hm := m_L_law_1169 (K62 := K62) @mK62 h
  unfold f_L_law_1169 at h
  refine lv_istore (lv' := [(18, .int y0), (0, .ref (ad 18 0)), (1, .ref (ad 11 99)), (2, .ref (ad 16 0)), (3, .ref (ad 16 1)), (4, .ref (ad 16 2)), (5, .ref (ad 16 3)), (6, .ref (ad 16 4)), (7, .long x7), (9, .int x9), (10, .int x10), (11, .int x11), (12, .int x12), (13, .int x13), (14, .int x14), (15, .int x15), (16, .int x16), (17, .int x17)]) hx hb dL_law_1169 hl (by decide) rfl (fun ls hl => ?_)
  refine lv_aload_n hx hb dL_law_1171 rfl (lv_at hl 2 rfl) ?_
  refine lv_iload hx hb dL_law_1172 (lv_at hl 17 rfl) ?_
  refine lv_iload hx hb dL_law_1174 (lv_at hl 0 rfl) ?_
  obtain ⟨v1176, σ1176, hc1176, h⟩ := wx_b_ok h
  refine wx_call (va_runV (As := [.int x17, .int y0]) (rest := []) ⟨hx, hb, hml, hown, hts⟩ (c_X5_set l (D := D) (ad := ad) (rd := rd) (ca := ca) (A := (fun q : Nat => s.heap.size ≤ q)) (σ := σ) hc1176) (cwV 2 hts gL_law_X5_set rfl rfl rfl (by decide +kernel) ⟨Nat.le_of_ble_eq_true rfl, Nat.le_of_ble_eq_true rfl⟩) (wx_preV hC Z hS hA rfl (rfl : vwCl[5]? = some (RX5, TX5, 7))) rfl rfl hl.1 rfl (lv_room (Nat.le_of_ble_eq_true rfl)) dL_law_1176 ⟨(by show k + 0 ≤ 600000; omega), (by show 6464 * k + 0 ≤ 7302250; omega)⟩) hS (fun H locs Z hS => ?_)
  have hqσ1176 := congrArg wx_n (show σ1176.2.2.2.2 = σ.2.2.2.2 from m_X5_set_0 hc1176)
  rw [← hqσ1176] at hk hm
  refine lv_aload_n hx hb dL_law_1179 rfl (lv_at hl 3 rfl) ?_
  refine lv_iload hx hb dL_law_1180 (lv_at hl 17 rfl) ?_
  obtain ⟨v1182, ev1182, iv1182, h⟩ := wx_rI_ok h
  refine wx_iald hx hb hC.1 Z (o := 16) (k := 0) (n := 7) rfl rfl iv1182 dL_law_1182 ev1182 ?_
  refine lv_icmp_eq (tgt := 1188) hx hb dL_law_1183 (by decide) (fun c1183 => ?_) (fun c1183 => ?_)
  · replace h := wx_ift c1183 h
    refine lv_aload_n hx hb dL_law_1188 rfl (lv_at hl 3 rfl) ?_
    refine lv_iload hx hb dL_law_1189 (lv_at hl 17 rfl) ?_
    refine lv_iload hx hb dL_law_1191 (lv_at hl 0 rfl) ?_
    obtain ⟨σ1193, e1193, i1193, h⟩ := wx_w_ok h
    refine wx_iast hx hb hC.1 Z hS (o := 16) (k := 0) (n := 7) rfl rfl i1193 dL_law_1193 e1193 (fun H locs Z hS => ?_)
    have hqσ1193 := congrArg wx_n (show σ1193.2.2.2.2 = σ1176.2.2.2.2 from (congrArg (fun z : wx_St => z.2.2.2.2) e1193).trans rfl)
    rw [← hqσ1193] at hk hm
    refine lv_iload hx hb dL_law_1194 (lv_at hl 17 rfl) ?_
    refine lv_iconst (v := 3) hx hb dL_law_1196 (by decide) ?_
    refine lv_icmp_ge (tgt := 1204) hx hb dL_law_1197 (by decide) (fun c1197 => ?_) (fun c1197 => ?_)
    · replace h := wx_ift c1197 h
      refine lv_iconst (v := 0) hx hb dL_law_1204 (by decide) ?_
      exact b_L_law_1205 B (K62 := K62) @hK62 @mK62 (k := k) hk h Z hS (lv_sub hl [1, 2, 3, 4, 5, 6, 7, 8, 9, 10, 11, 12, 13, 14, 15, 16, 17, 0] rfl)
    · replace h := wx_iff c1197 h
      refine lv_iconst (v := 1) hx hb dL_law_1200 (by decide) ?_
      refine lv_goto (tgt := 1205) hx hb dL_law_1201 (by decide) ?_
      exact b_L_law_1205 B (K62 := K62) @hK62 @mK62 (k := k) hk h Z hS (lv_sub hl [1, 2, 3, 4, 5, 6, 7, 8, 9, 10, 11, 12, 13, 14, 15, 16, 17, 0] rfl)
  · replace h := wx_iff c1183 h
    refine lv_iconst (v := 0) hx hb dL_law_1186 (by decide) ?_
    exact absurd (wx_ret_ok h).1 (by decide)
set_option maxRecDepth 20000 in
set_option maxHeartbeats 4000000 in
theorem m_L_law_121   {σ' : wx_St} {K62 : Int64 → Int32 → wx_St → Option (Int32 × wx_St)} (mK62 : ∀ {x7 : Int64} {x9 : Int32} {σ : wx_St}, K62 x7 x9 σ = some ((1 : Int32), σ') → wx_n σ.2.2.2.2 ≤ wx_n σ'.2.2.2.2) {x7 : Int64} {x9 : Int32} {x10 : Int32} {x11 : Int32} {y0 : Int32} {σ : wx_St} (h : f_L_law_121 ad K62 x7 x9 x10 x11 y0 σ = some ((1 : Int32), σ')) : wx_n σ.2.2.2.2 ≤ wx_n σ'.2.2.2.2 := by
  unfold f_L_law_121 at h
  obtain ⟨v126, hc126, h⟩ := wx_o_ok h
  obtain ⟨v136, hc136, h⟩ := wx_o_ok h
  by_cases c157 : 3 ≤ y0
  · replace h := wx_ift c157 h
    by_cases c315 : 5 ≤ y0
    · replace h := wx_ift c315 h
      by_cases c432 : 7 ≤ y0
      · replace h := wx_ift c432 h
        by_cases c624 : y0 = 7
        · replace h := wx_ift c624 h
          obtain ⟨v630, hc630, h⟩ := wx_o_ok h
          obtain ⟨v639, ev639, iv639, h⟩ := wx_rI_ok h
          by_cases c640 : v639 ≤ v630
          · replace h := wx_ift c640 h
            exact m_L_law_648 (K62 := K62) @mK62 h
          · replace h := wx_iff c640 h
            exact m_L_law_648 (K62 := K62) @mK62 h
        · replace h := wx_iff c624 h
          by_cases c734 : 10 ≤ y0
          · replace h := wx_ift c734 h
            by_cases c817 : 13 ≤ y0
            · replace h := wx_ift c817 h
              by_cases c1064 : y0 = 13
              · replace h := wx_ift c1064 h
                obtain ⟨v1070, hc1070, h⟩ := wx_o_ok h
                by_cases c1077 : v1070 = 0
                · replace h := wx_ift c1077 h
                  obtain ⟨v1085, hc1085, h⟩ := wx_o_ok h
                  by_cases c1088 : v1085 = 0
                  · replace h := wx_ift c1088 h
                    exact m_L_law_1169 (K62 := K62) @mK62 h
                  · replace h := wx_iff c1088 h
                    obtain ⟨v1101, hc1101, h⟩ := wx_o_ok h
                    exact m_L_law_1169 (K62 := K62) @mK62 h
                · replace h := wx_iff c1077 h
                  by_cases c1110 : v1070 = 1
                  · replace h := wx_ift c1110 h
                    obtain ⟨v1118, hc1118, h⟩ := wx_o_ok h
                    by_cases c1121 : v1118 = 0
                    · replace h := wx_ift c1121 h
                      exact m_L_law_1169 (K62 := K62) @mK62 h
                    · replace h := wx_iff c1121 h
                      obtain ⟨v1134, hc1134, h⟩ := wx_o_ok h
                      exact m_L_law_1169 (K62 := K62) @mK62 h
                  · replace h := wx_iff c1110 h
                    by_cases c1143 : v1070 = 2
                    · replace h := wx_ift c1143 h
                      obtain ⟨v1153, hc1153, h⟩ := wx_o_ok h
                      exact m_L_law_1169 (K62 := K62) @mK62 h
                    · replace h := wx_iff c1143 h
                      obtain ⟨v1166, hc1166, h⟩ := wx_o_ok h
                      exact m_L_law_1169 (K62 := K62) @mK62 h
              · replace h := wx_iff c1064 h
                obtain ⟨v1232, σ1232, hc1232, h⟩ := wx_b_ok h
                refine Nat.le_trans (Nat.le_of_eq (congrArg wx_n (show σ1232.2.2.2.2 = σ.2.2.2.2 from m_X5_cool_0 hc1232)).symm) ?_
                obtain ⟨v1237, ev1237, iv1237, h⟩ := wx_rI_ok h
                by_cases c1238 : v1232 = v1237
                · replace h := wx_ift c1238 h
                  exact m_L_law_1246 (K62 := K62) @mK62 h
                · replace h := wx_iff c1238 h
                  exact absurd (wx_ret_ok h).1 (by decide)
            · replace h := wx_iff c817 h
              obtain ⟨v826, σ826, hc826, h⟩ := wx_b_ok h
              refine Nat.le_trans (m_X5_at_0 hc826) ?_
              exact m_L_law_829 (K62 := K62) @mK62 h
          · replace h := wx_iff c734 h
            obtain ⟨v742, hc742, h⟩ := wx_o_ok h
            obtain ⟨v750, ev750, iv750, h⟩ := wx_rI_ok h
            by_cases c756 : 100 < (v750 + (1 + v742))
            · replace h := wx_ift c756 h
              exact m_L_law_764 (K62 := K62) @mK62 h
            · replace h := wx_iff c756 h
              exact m_L_law_764 (K62 := K62) @mK62 h
      · replace h := wx_iff c432 h
        obtain ⟨v442, hc442, h⟩ := wx_o_ok h
        obtain ⟨v452, ev452, iv452, h⟩ := wx_rI_ok h
        by_cases c453 : v452 ≤ 0
        · replace h := wx_ift c453 h
          exact m_L_law_532 (K62 := K62) @mK62 h
        · replace h := wx_iff c453 h
          obtain ⟨v460, ev460, iv460, h⟩ := wx_rI_ok h
          by_cases c463 : v460 = (1 + v442)
          · replace h := wx_ift c463 h
            exact m_L_law_532 (K62 := K62) @mK62 h
          · replace h := wx_iff c463 h
            obtain ⟨v470, hc470, h⟩ := wx_o_ok h
            by_cases c473 : 0 ≤ v470
            · replace h := wx_ift c473 h
              exact m_L_law_532 (K62 := K62) @mK62 h
            · replace h := wx_iff c473 h
              obtain ⟨v481, hc481, h⟩ := wx_o_ok h
              by_cases c486 : v481 = (1 + v442)
              · replace h := wx_ift c486 h
                exact m_L_law_528 (K62 := K62) @mK62 h
              · replace h := wx_iff c486 h
                obtain ⟨v494, hc494, h⟩ := wx_o_ok h
                by_cases c499 : v494 = (1 + v442)
                · replace h := wx_ift c499 h
                  exact m_L_law_528 (K62 := K62) @mK62 h
                · replace h := wx_iff c499 h
                  obtain ⟨v507, hc507, h⟩ := wx_o_ok h
                  by_cases c512 : v507 = (1 + v442)
                  · replace h := wx_ift c512 h
                    exact m_L_law_528 (K62 := K62) @mK62 h
                  · replace h := wx_iff c512 h
                    obtain ⟨v520, hc520, h⟩ := wx_o_ok h
                    by_cases c525 : v520 = (1 + v442)
                    · replace h := wx_ift c525 h
                      exact m_L_law_528 (K62 := K62) @mK62 h
                    · replace h := wx_iff c525 h
                      exact m_L_law_532 (K62 := K62) @mK62 h
    · replace h := wx_iff c315 h
      obtain ⟨v322, hc322, h⟩ := wx_o_ok h
      obtain ⟨v334, hc334, h⟩ := wx_o_ok h
      obtain ⟨v345, σ345, hc345, h⟩ := wx_b_ok h
      refine Nat.le_trans (Nat.le_of_eq (congrArg wx_n (show σ345.2.2.2.2 = σ.2.2.2.2 from m_X5_feed_0 hc345)).symm) ?_
      by_cases c354 : (1 + v322) = (1 + v334)
      · replace h := wx_ift c354 h
        by_cases c361 : v345 = (-2)
        · replace h := wx_ift c361 h
          exact m_L_law_391 (K62 := K62) @mK62 h
        · replace h := wx_iff c361 h
          exact m_L_law_389 h
      · replace h := wx_iff c354 h
        obtain ⟨v375, hc375, h⟩ := wx_o_ok h
        by_cases c378 : v375 = 0
        · replace h := wx_ift c378 h
          exact m_L_law_386 (K62 := K62) @mK62 h
        · replace h := wx_iff c378 h
          exact m_L_law_386 (K62 := K62) @mK62 h
  · replace h := wx_iff c157 h
    obtain ⟨v166, hc166, h⟩ := wx_o_ok h
    obtain ⟨v175, hc175, h⟩ := wx_o_ok h
    by_cases c178 : v175 < 0
    · replace h := wx_ift c178 h
      exact m_L_law_186 (K62 := K62) @mK62 h
    · replace h := wx_iff c178 h
      exact m_L_law_186 (K62 := K62) @mK62 h
set_option maxRecDepth 20000 in
set_option maxHeartbeats 4000000 in
theorem b_L_law_121 (B : wx_B p s m #[Value.ref b] meth c cL_law 21 (some .boolean) wsL_law RL D ad ca (fun q : Nat => s.heap.size ≤ q))     {σ' : wx_St} {K62 : Int64 → Int32 → wx_St → Option (Int32 × wx_St)} (hK62 : ∀ {x7 : Int64} {x9 : Int32} {σ : wx_St} {k : Nat} (hk : k + wx_n σ'.2.2.2.2 ≤ 1000 + wx_n σ.2.2.2.2)  (h : K62 x7 x9 σ = some ((1 : Int32), σ')) {rd : Nat → Nat} {H : Heap} {locs : List Loc} (Z : wx_Z D ad rd ca (fun q : Nat => s.heap.size ≤ q) σ H) (hS : va_S (fun q : Nat => s.heap.size ≤ q) s.heap H locs) {ls : Array Slot} (hl : lv_has ls 21 [(0, .ref (ad 18 0)), (1, .ref (ad 11 99)), (2, .ref (ad 16 0)), (3, .ref (ad 16 1)), (4, .ref (ad 16 2)), (5, .ref (ad 16 3)), (6, .ref (ad 16 4)), (7, .long x7), (9, .int x9)]), W p l e room_1 s m #[Value.ref b] below meth c H locs k (6464 * k) (lw_Z below #[Value.ref b] s) (F0 m 62 ls [])) (mK62 : ∀ {x7 : Int64} {x9 : Int32} {σ : wx_St}, K62 x7 x9 σ = some ((1 : Int32), σ') → wx_n σ.2.2.2.2 ≤ wx_n σ'.2.2.2.2) {x7 : Int64} {x9 : Int32} {x10 : Int32} {x11 : Int32} {y0 : Int32} {σ : wx_St} {k : Nat} (hk : k + wx_n σ'.2.2.2.2 ≤ 1000 + wx_n σ.2.2.2.2)  (h : f_L_law_121 ad K62 x7 x9 x10 x11 y0 σ = some ((1 : Int32), σ')) {rd : Nat → Nat} {H : Heap} {locs : List Loc} (Z : wx_Z D ad rd ca (fun q : Nat => s.heap.size ≤ q) σ H) (hS : va_S (fun q : Nat => s.heap.size ≤ q) s.heap H locs) {ls : Array Slot} (hl : lv_has ls 21 [(0, .ref (ad 18 0)), (1, .ref (ad 11 99)), (2, .ref (ad 16 0)), (3, .ref (ad 16 1)), (4, .ref (ad 16 2)), (5, .ref (ad 16 3)), (6, .ref (ad 16 4)), (7, .long x7), (9, .int x9), (10, .int x10), (11, .int x11)]) : W p l e room_1 s m #[Value.ref b] below meth c H locs k (6464 * k) (lw_Z below #[Value.ref b] s) (F0 m 121 ls [.int y0]) := by
  obtain ⟨hx, hb, hml, hr, hts, hown, hlk, hC, hA⟩ := id B
  have hm := m_L_law_121 (K62 := K62) @mK62 h
  unfold f_L_law_121 at h
  refine lv_istore (lv' := [(12, .int y0), (0, .ref (ad 18 0)), (1, .ref (ad 11 99)), (2, .ref (ad 16 0)), (3, .ref (ad 16 1)), (4, .ref (ad 16 2)), (5, .ref (ad 16 3)), (6, .ref (ad 16 4)), (7, .long x7), (9, .int x9), (10, .int x10), (11, .int x11)]) hx hb dL_law_121 hl (by decide) rfl (fun ls hl => ?_)
  refine lv_iload hx hb dL_law_123 (lv_at hl 11 rfl) ?_
  refine lv_iconst (v := 5) hx hb dL_law_125 (by decide) ?_
  obtain ⟨v126, hc126, h⟩ := wx_o_ok h
  refine wx_call (va_runS (As := [.int x11, .int 5]) (rest := []) ⟨hx, hb, hml, hown, hts⟩ (c_L_low l (D := D) (ad := ad) (rd := rd) (ca := ca) (A := (fun q : Nat => s.heap.size ≤ q)) (σ := σ) hc126) (va_cwS 2 hts gL_law_L_low rfl rfl rfl (by decide +kernel) ⟨Nat.le_of_ble_eq_true rfl, Nat.le_of_ble_eq_true rfl⟩) (wx_preS hC Z hS hA) rfl rfl hl.1 rfl (lv_room (Nat.le_of_ble_eq_true rfl)) dL_law_126 ⟨(by show k + 0 ≤ 600000; omega), (by show 6464 * k + 0 ≤ 7302250; omega)⟩) hS (fun H locs Z hS => ?_)
  refine lv_istore (lv' := [(13, .int v126), (12, .int y0), (0, .ref (ad 18 0)), (1, .ref (ad 11 99)), (2, .ref (ad 16 0)), (3, .ref (ad 16 1)), (4, .ref (ad 16 2)), (5, .ref (ad 16 3)), (6, .ref (ad 16 4)), (7, .long x7), (9, .int x9), (10, .int x10), (11, .int x11)]) hx hb dL_law_129 hl (by decide) rfl (fun ls hl => ?_)
  refine lv_iload hx hb dL_law_131 (lv_at hl 12 rfl) ?_
  refine lv_iconst (v := 4) hx hb dL_law_133 (by decide) ?_
  refine lv_ishr hx hb dL_law_134 ?_
  refine lv_iconst (v := 5) hx hb dL_law_135 (by decide) ?_
  obtain ⟨v136, hc136, h⟩ := wx_o_ok h
  refine wx_call (va_runS (As := [.int (x11 >>> (4 &&& 31)), .int 5]) (rest := []) ⟨hx, hb, hml, hown, hts⟩ (c_L_low l (D := D) (ad := ad) (rd := rd) (ca := ca) (A := (fun q : Nat => s.heap.size ≤ q)) (σ := σ) hc136) (va_cwS 2 hts gL_law_L_low rfl rfl rfl (by decide +kernel) ⟨Nat.le_of_ble_eq_true rfl, Nat.le_of_ble_eq_true rfl⟩) (wx_preS hC Z hS hA) rfl rfl hl.1 rfl (lv_room (Nat.le_of_ble_eq_true rfl)) dL_law_136 ⟨(by show k + 0 ≤ 600000; omega), (by show 6464 * k + 0 ≤ 7302250; omega)⟩) hS (fun H locs Z hS => ?_)
  refine lv_istore (lv' := [(14, .int v136), (13, .int v126), (12, .int y0), (0, .ref (ad 18 0)), (1, .ref (ad 11 99)), (2, .ref (ad 16 0)), (3, .ref (ad 16 1)), (4, .ref (ad 16 2)), (5, .ref (ad 16 3)), (6, .ref (ad 16 4)), (7, .long x7), (9, .int x9), (10, .int x10), (11, .int x11)]) hx hb dL_law_139 hl (by decide) rfl (fun ls hl => ?_)
  refine lv_bipush (v := 8) hx hb dL_law_141 (by decide) ?_
  refine lv_iload hx hb dL_law_143 (lv_at hl 1 rfl) ?_
  refine lv_imul hx hb dL_law_145 ?_
  refine lv_iload hx hb dL_law_146 (lv_at hl 0 rfl) ?_
  refine lv_iadd hx hb dL_law_148 ?_
  refine lv_istore (lv' := [(15, .int ((8 * v126) + v136)), (14, .int v136), (13, .int v126), (12, .int y0), (0, .ref (ad 18 0)), (1, .ref (ad 11 99)), (2, .ref (ad 16 0)), (3, .ref (ad 16 1)), (4, .ref (ad 16 2)), (5, .ref (ad 16 3)), (6, .ref (ad 16 4)), (7, .long x7), (9, .int x9), (10, .int x10), (11, .int x11)]) hx hb dL_law_149 hl (by decide) rfl (fun ls hl => ?_)
  refine lv_iconst (v := 0) hx hb dL_law_151 (by decide) ?_
  refine lv_istore (lv' := [(16, .int 0), (15, .int ((8 * v126) + v136)), (14, .int v136), (13, .int v126), (12, .int y0), (0, .ref (ad 18 0)), (1, .ref (ad 11 99)), (2, .ref (ad 16 0)), (3, .ref (ad 16 1)), (4, .ref (ad 16 2)), (5, .ref (ad 16 3)), (6, .ref (ad 16 4)), (7, .long x7), (9, .int x9), (10, .int x10), (11, .int x11)]) hx hb dL_law_152 hl (by decide) rfl (fun ls hl => ?_)
  refine lv_iload hx hb dL_law_154 (lv_at hl 4 rfl) ?_
  refine lv_iconst (v := 3) hx hb dL_law_156 (by decide) ?_
  refine lv_icmp_ge (tgt := 312) hx hb dL_law_157 (by decide) (fun c157 => ?_) (fun c157 => ?_)
  · replace h := wx_ift c157 h
    refine lv_iload hx hb dL_law_312 (lv_at hl 4 rfl) ?_
    refine lv_iconst (v := 5) hx hb dL_law_314 (by decide) ?_
    refine lv_icmp_ge (tgt := 428) hx hb dL_law_315 (by decide) (fun c315 => ?_) (fun c315 => ?_)
    · replace h := wx_ift c315 h
      refine lv_iload hx hb dL_law_428 (lv_at hl 4 rfl) ?_
      refine lv_bipush (v := 7) hx hb dL_law_430 (by decide) ?_
      refine lv_icmp_ge (tgt := 620) hx hb dL_law_432 (by decide) (fun c432 => ?_) (fun c432 => ?_)
      · replace h := wx_ift c432 h
        refine lv_iload hx hb dL_law_620 (lv_at hl 4 rfl) ?_
        refine lv_bipush (v := 7) hx hb dL_law_622 (by decide) ?_
        refine lv_icmp_ne (tgt := 730) hx hb dL_law_624 (by decide) (fun c624 => ?_) (fun c624 => ?_)
        · replace h := wx_iff c624 h
          refine lv_iload hx hb dL_law_730 (lv_at hl 4 rfl) ?_
          refine lv_bipush (v := 10) hx hb dL_law_732 (by decide) ?_
          refine lv_icmp_ge (tgt := 813) hx hb dL_law_734 (by decide) (fun c734 => ?_) (fun c734 => ?_)
          · replace h := wx_ift c734 h
            refine lv_iload hx hb dL_law_813 (lv_at hl 4 rfl) ?_
            refine lv_bipush (v := 13) hx hb dL_law_815 (by decide) ?_
            refine lv_icmp_ge (tgt := 1060) hx hb dL_law_817 (by decide) (fun c817 => ?_) (fun c817 => ?_)
            · replace h := wx_ift c817 h
              refine lv_iload hx hb dL_law_1060 (lv_at hl 4 rfl) ?_
              refine lv_bipush (v := 13) hx hb dL_law_1062 (by decide) ?_
              refine lv_icmp_ne (tgt := 1231) hx hb dL_law_1064 (by decide) (fun c1064 => ?_) (fun c1064 => ?_)
              · replace h := wx_iff c1064 h
                refine lv_aload_n hx hb dL_law_1231 rfl (lv_at hl 6 rfl) ?_
                obtain ⟨v1232, σ1232, hc1232, h⟩ := wx_b_ok h
                refine wx_call (va_runV (As := []) (rest := []) ⟨hx, hb, hml, hown, hts⟩ (c_X5_cool l (D := D) (ad := ad) (rd := rd) (ca := ca) (A := (fun q : Nat => s.heap.size ≤ q)) (σ := σ) hc1232) (cwV 0 hts gL_law_X5_cool rfl rfl rfl (by decide +kernel) ⟨Nat.le_of_ble_eq_true rfl, Nat.le_of_ble_eq_true rfl⟩) (wx_preV hC Z hS hA rfl (rfl : vwCl[5]? = some (RX5, TX5, 7))) rfl rfl hl.1 rfl (lv_room (Nat.le_of_ble_eq_true rfl)) dL_law_1232 ⟨(by show k + 0 ≤ 600000; omega), (by show 6464 * k + 0 ≤ 7302250; omega)⟩) hS (fun H locs Z hS => ?_)
                have hqσ1232 := congrArg wx_n (show σ1232.2.2.2.2 = σ.2.2.2.2 from m_X5_cool_0 hc1232)
                rw [← hqσ1232] at hk hm
                refine lv_aload_n hx hb dL_law_1235 rfl (lv_at hl 7 rfl) ?_
                refine lv_iconst (v := 4) hx hb dL_law_1236 (by decide) ?_
                obtain ⟨v1237, ev1237, iv1237, h⟩ := wx_rI_ok h
                refine wx_iald hx hb hC.1 Z (o := 16) (k := 0) (n := 7) rfl rfl iv1237 dL_law_1237 ev1237 ?_
                refine lv_icmp_eq (tgt := 1243) hx hb dL_law_1238 (by decide) (fun c1238 => ?_) (fun c1238 => ?_)
                · replace h := wx_ift c1238 h
                  refine lv_iconst (v := 1) hx hb dL_law_1243 (by decide) ?_
                  refine lv_istore (lv' := [(16, .int 1), (15, .int ((8 * v126) + v136)), (14, .int v136), (13, .int v126), (12, .int y0), (0, .ref (ad 18 0)), (1, .ref (ad 11 99)), (2, .ref (ad 16 0)), (3, .ref (ad 16 1)), (4, .ref (ad 16 2)), (5, .ref (ad 16 3)), (6, .ref (ad 16 4)), (7, .long x7), (9, .int x9), (10, .int x10), (11, .int x11)]) hx hb dL_law_1244 hl (by decide) rfl (fun ls hl => ?_)
                  exact b_L_law_1246 B (K62 := K62) @hK62 @mK62 (k := k) hk h Z hS (lv_sub hl [5, 6, 7, 8, 9, 10, 11, 12, 13, 14, 15, 4, 3, 2, 1, 0] rfl)
                · replace h := wx_iff c1238 h
                  refine lv_iconst (v := 0) hx hb dL_law_1241 (by decide) ?_
                  exact absurd (wx_ret_ok h).1 (by decide)
              · replace h := wx_ift c1064 h
                refine lv_iload hx hb dL_law_1067 (lv_at hl 15 rfl) ?_
                refine lv_iconst (v := 4) hx hb dL_law_1069 (by decide) ?_
                obtain ⟨v1070, hc1070, h⟩ := wx_o_ok h
                refine wx_call (va_runS (As := [.int x11, .int 4]) (rest := []) ⟨hx, hb, hml, hown, hts⟩ (c_L_low l (D := D) (ad := ad) (rd := rd) (ca := ca) (A := (fun q : Nat => s.heap.size ≤ q)) (σ := σ) hc1070) (va_cwS 2 hts gL_law_L_low rfl rfl rfl (by decide +kernel) ⟨Nat.le_of_ble_eq_true rfl, Nat.le_of_ble_eq_true rfl⟩) (wx_preS hC Z hS hA) rfl rfl hl.1 rfl (lv_room (Nat.le_of_ble_eq_true rfl)) dL_law_1070 ⟨(by show k + 0 ≤ 600000; omega), (by show 6464 * k + 0 ≤ 7302250; omega)⟩) hS (fun H locs Z hS => ?_)
                refine lv_istore (lv' := [(17, .int v1070), (16, .int 0), (15, .int ((8 * v126) + v136)), (14, .int v136), (13, .int v126), (12, .int y0), (0, .ref (ad 18 0)), (1, .ref (ad 11 99)), (2, .ref (ad 16 0)), (3, .ref (ad 16 1)), (4, .ref (ad 16 2)), (5, .ref (ad 16 3)), (6, .ref (ad 16 4)), (7, .long x7), (9, .int x9), (10, .int x10), (11, .int x11)]) hx hb dL_law_1073 hl (by decide) rfl (fun ls hl => ?_)
                refine lv_iload hx hb dL_law_1075 (lv_at hl 0 rfl) ?_
                refine lv_if_ne (tgt := 1107) hx hb dL_law_1077 (by decide) (fun c1077 => ?_) (fun c1077 => ?_)
                · replace h := wx_iff c1077 h
                  refine lv_iload hx hb dL_law_1107 (lv_at hl 0 rfl) ?_
                  refine lv_iconst (v := 1) hx hb dL_law_1109 (by decide) ?_
                  refine lv_icmp_ne (tgt := 1140) hx hb dL_law_1110 (by decide) (fun c1110 => ?_) (fun c1110 => ?_)
                  · replace h := wx_iff c1110 h
                    refine lv_iload hx hb dL_law_1140 (lv_at hl 0 rfl) ?_
                    refine lv_iconst (v := 2) hx hb dL_law_1142 (by decide) ?_
                    refine lv_icmp_ne (tgt := 1160) hx hb dL_law_1143 (by decide) (fun c1143 => ?_) (fun c1143 => ?_)
                    · replace h := wx_iff c1143 h
                      refine lv_iload hx hb dL_law_1160 (lv_at hl 16 rfl) ?_
                      refine lv_iconst (v := 5) hx hb dL_law_1162 (by decide) ?_
                      refine lv_ishr hx hb dL_law_1163 ?_
                      refine lv_bipush (v := 20) hx hb dL_law_1164 (by decide) ?_
                      obtain ⟨v1166, hc1166, h⟩ := wx_o_ok h
                      refine wx_call (va_runS (As := [.int (x11 >>> (5 &&& 31)), .int 20]) (rest := []) ⟨hx, hb, hml, hown, hts⟩ (c_L_low l (D := D) (ad := ad) (rd := rd) (ca := ca) (A := (fun q : Nat => s.heap.size ≤ q)) (σ := σ) hc1166) (va_cwS 2 hts gL_law_L_low rfl rfl rfl (by decide +kernel) ⟨Nat.le_of_ble_eq_true rfl, Nat.le_of_ble_eq_true rfl⟩) (wx_preS hC Z hS hA) rfl rfl hl.1 rfl (lv_room (Nat.le_of_ble_eq_true rfl)) dL_law_1166 ⟨(by show k + 0 ≤ 600000; omega), (by show 6464 * k + 0 ≤ 7302250; omega)⟩) hS (fun H locs Z hS => ?_)
                      exact b_L_law_1169 B (K62 := K62) @hK62 @mK62 (k := k) hk h Z hS (lv_sub hl [6, 7, 8, 9, 10, 11, 12, 13, 14, 15, 16, 5, 4, 3, 2, 1, 0] rfl)
                    · replace h := wx_ift c1143 h
                      refine lv_iconst (v := 1) hx hb dL_law_1146 (by decide) ?_
                      refine lv_iload hx hb dL_law_1147 (lv_at hl 16 rfl) ?_
                      refine lv_iconst (v := 5) hx hb dL_law_1149 (by decide) ?_
                      refine lv_ishr hx hb dL_law_1150 ?_
                      refine lv_bipush (v := 99) hx hb dL_law_1151 (by decide) ?_
                      obtain ⟨v1153, hc1153, h⟩ := wx_o_ok h
                      refine wx_call (va_runS (As := [.int (x11 >>> (5 &&& 31)), .int 99]) (rest := [.int 1]) ⟨hx, hb, hml, hown, hts⟩ (c_L_low l (D := D) (ad := ad) (rd := rd) (ca := ca) (A := (fun q : Nat => s.heap.size ≤ q)) (σ := σ) hc1153) (va_cwS 2 hts gL_law_L_low rfl rfl rfl (by decide +kernel) ⟨Nat.le_of_ble_eq_true rfl, Nat.le_of_ble_eq_true rfl⟩) (wx_preS hC Z hS hA) rfl rfl hl.1 rfl (lv_room (Nat.le_of_ble_eq_true rfl)) dL_law_1153 ⟨(by show k + 0 ≤ 600000; omega), (by show 6464 * k + 0 ≤ 7302250; omega)⟩) hS (fun H locs Z hS => ?_)
                      refine lv_iadd hx hb dL_law_1156 ?_
                      refine lv_goto (tgt := 1169) hx hb dL_law_1157 (by decide) ?_
                      exact b_L_law_1169 B (K62 := K62) @hK62 @mK62 (k := k) hk h Z hS (lv_sub hl [6, 7, 8, 9, 10, 11, 12, 13, 14, 15, 16, 5, 4, 3, 2, 1, 0] rfl)
                  · replace h := wx_ift c1110 h
                    refine lv_iload hx hb dL_law_1113 (lv_at hl 16 rfl) ?_
                    refine lv_iconst (v := 3) hx hb dL_law_1115 (by decide) ?_
                    refine lv_ishr hx hb dL_law_1116 ?_
                    refine lv_iconst (v := 3) hx hb dL_law_1117 (by decide) ?_
                    obtain ⟨v1118, hc1118, h⟩ := wx_o_ok h
                    refine wx_call (va_runS (As := [.int (x11 >>> (3 &&& 31)), .int 3]) (rest := []) ⟨hx, hb, hml, hown, hts⟩ (c_L_low l (D := D) (ad := ad) (rd := rd) (ca := ca) (A := (fun q : Nat => s.heap.size ≤ q)) (σ := σ) hc1118) (va_cwS 2 hts gL_law_L_low rfl rfl rfl (by decide +kernel) ⟨Nat.le_of_ble_eq_true rfl, Nat.le_of_ble_eq_true rfl⟩) (wx_preS hC Z hS hA) rfl rfl hl.1 rfl (lv_room (Nat.le_of_ble_eq_true rfl)) dL_law_1118 ⟨(by show k + 0 ≤ 600000; omega), (by show 6464 * k + 0 ≤ 7302250; omega)⟩) hS (fun H locs Z hS => ?_)
                    refine lv_if_ne (tgt := 1128) hx hb dL_law_1121 (by decide) (fun c1121 => ?_) (fun c1121 => ?_)
                    · replace h := wx_iff c1121 h
                      refine lv_iload hx hb dL_law_1128 (lv_at hl 16 rfl) ?_
                      refine lv_iconst (v := 5) hx hb dL_law_1130 (by decide) ?_
                      refine lv_ishr hx hb dL_law_1131 ?_
                      refine lv_bipush (v := 51) hx hb dL_law_1132 (by decide) ?_
                      obtain ⟨v1134, hc1134, h⟩ := wx_o_ok h
                      refine wx_call (va_runS (As := [.int (x11 >>> (5 &&& 31)), .int 51]) (rest := []) ⟨hx, hb, hml, hown, hts⟩ (c_L_low l (D := D) (ad := ad) (rd := rd) (ca := ca) (A := (fun q : Nat => s.heap.size ≤ q)) (σ := σ) hc1134) (va_cwS 2 hts gL_law_L_low rfl rfl rfl (by decide +kernel) ⟨Nat.le_of_ble_eq_true rfl, Nat.le_of_ble_eq_true rfl⟩) (wx_preS hC Z hS hA) rfl rfl hl.1 rfl (lv_room (Nat.le_of_ble_eq_true rfl)) dL_law_1134 ⟨(by show k + 0 ≤ 600000; omega), (by show 6464 * k + 0 ≤ 7302250; omega)⟩) hS (fun H locs Z hS => ?_)
                      refine lv_goto (tgt := 1169) hx hb dL_law_1137 (by decide) ?_
                      exact b_L_law_1169 B (K62 := K62) @hK62 @mK62 (k := k) hk h Z hS (lv_sub hl [6, 7, 8, 9, 10, 11, 12, 13, 14, 15, 16, 5, 4, 3, 2, 1, 0] rfl)
                    · replace h := wx_ift c1121 h
                      refine lv_iconst (v := 0) hx hb dL_law_1124 (by decide) ?_
                      refine lv_goto (tgt := 1169) hx hb dL_law_1125 (by decide) ?_
                      exact b_L_law_1169 B (K62 := K62) @hK62 @mK62 (k := k) hk h Z hS (lv_sub hl [6, 7, 8, 9, 10, 11, 12, 13, 14, 15, 16, 5, 4, 3, 2, 1, 0] rfl)
                · replace h := wx_ift c1077 h
                  refine lv_iload hx hb dL_law_1080 (lv_at hl 16 rfl) ?_
                  refine lv_iconst (v := 3) hx hb dL_law_1082 (by decide) ?_
                  refine lv_ishr hx hb dL_law_1083 ?_
                  refine lv_iconst (v := 3) hx hb dL_law_1084 (by decide) ?_
                  obtain ⟨v1085, hc1085, h⟩ := wx_o_ok h
                  refine wx_call (va_runS (As := [.int (x11 >>> (3 &&& 31)), .int 3]) (rest := []) ⟨hx, hb, hml, hown, hts⟩ (c_L_low l (D := D) (ad := ad) (rd := rd) (ca := ca) (A := (fun q : Nat => s.heap.size ≤ q)) (σ := σ) hc1085) (va_cwS 2 hts gL_law_L_low rfl rfl rfl (by decide +kernel) ⟨Nat.le_of_ble_eq_true rfl, Nat.le_of_ble_eq_true rfl⟩) (wx_preS hC Z hS hA) rfl rfl hl.1 rfl (lv_room (Nat.le_of_ble_eq_true rfl)) dL_law_1085 ⟨(by show k + 0 ≤ 600000; omega), (by show 6464 * k + 0 ≤ 7302250; omega)⟩) hS (fun H locs Z hS => ?_)
                  refine lv_if_ne (tgt := 1095) hx hb dL_law_1088 (by decide) (fun c1088 => ?_) (fun c1088 => ?_)
                  · replace h := wx_iff c1088 h
                    refine lv_iload hx hb dL_law_1095 (lv_at hl 16 rfl) ?_
                    refine lv_iconst (v := 5) hx hb dL_law_1097 (by decide) ?_
                    refine lv_ishr hx hb dL_law_1098 ?_
                    refine lv_bipush (v := 25) hx hb dL_law_1099 (by decide) ?_
                    obtain ⟨v1101, hc1101, h⟩ := wx_o_ok h
                    refine wx_call (va_runS (As := [.int (x11 >>> (5 &&& 31)), .int 25]) (rest := []) ⟨hx, hb, hml, hown, hts⟩ (c_L_low l (D := D) (ad := ad) (rd := rd) (ca := ca) (A := (fun q : Nat => s.heap.size ≤ q)) (σ := σ) hc1101) (va_cwS 2 hts gL_law_L_low rfl rfl rfl (by decide +kernel) ⟨Nat.le_of_ble_eq_true rfl, Nat.le_of_ble_eq_true rfl⟩) (wx_preS hC Z hS hA) rfl rfl hl.1 rfl (lv_room (Nat.le_of_ble_eq_true rfl)) dL_law_1101 ⟨(by show k + 0 ≤ 600000; omega), (by show 6464 * k + 0 ≤ 7302250; omega)⟩) hS (fun H locs Z hS => ?_)
                    refine lv_goto (tgt := 1169) hx hb dL_law_1104 (by decide) ?_
                    exact b_L_law_1169 B (K62 := K62) @hK62 @mK62 (k := k) hk h Z hS (lv_sub hl [6, 7, 8, 9, 10, 11, 12, 13, 14, 15, 16, 5, 4, 3, 2, 1, 0] rfl)
                  · replace h := wx_ift c1088 h
                    refine lv_iconst (v := 0) hx hb dL_law_1091 (by decide) ?_
                    refine lv_goto (tgt := 1169) hx hb dL_law_1092 (by decide) ?_
                    exact b_L_law_1169 B (K62 := K62) @hK62 @mK62 (k := k) hk h Z hS (lv_sub hl [6, 7, 8, 9, 10, 11, 12, 13, 14, 15, 16, 5, 4, 3, 2, 1, 0] rfl)
            · replace h := wx_iff c817 h
              refine lv_aload_n hx hb dL_law_820 rfl (lv_at hl 6 rfl) ?_
              refine lv_iload hx hb dL_law_821 (lv_at hl 3 rfl) ?_
              refine lv_iload hx hb dL_law_823 (lv_at hl 2 rfl) ?_
              refine lv_iconst (v := 2) hx hb dL_law_825 (by decide) ?_
              obtain ⟨v826, σ826, hc826, h⟩ := wx_b_ok h
              have m1 := m_X5_at_0 hc826
              have m2 := m_L_law_829 (K62 := K62) @mK62 h
              refine wx_callA (va_runV (As := [.int v126, .int v136, .int 2]) (rest := []) ⟨hx, hb, hml, hown, hts⟩ (c_X5_at l (D := D) (ad := ad) (rd := rd) (ca := ca) (A := (fun q : Nat => s.heap.size ≤ q)) (σ := σ) hc826) (cwV 3 hts gL_law_X5_at rfl rfl rfl (by decide +kernel) ⟨Nat.le_of_ble_eq_true rfl, Nat.le_of_ble_eq_true rfl⟩) (wx_preV hC Z hS hA rfl (rfl : vwCl[5]? = some (RX5, TX5, 7))) rfl rfl hl.1 rfl (lv_room (Nat.le_of_ble_eq_true rfl)) dL_law_826 ⟨(by show k + (wx_n σ826.2.2.2.2 - wx_n σ.2.2.2.2) ≤ 600000; omega), (by show 6464 * k + 6464 * (wx_n σ826.2.2.2.2 - wx_n σ.2.2.2.2) ≤ 7302250; omega)⟩) hS (fun rd H locs Z hS => ?_)
              refine W.widen (k := k + (wx_n σ826.2.2.2.2 - wx_n σ.2.2.2.2)) (n := 6464 * (k + (wx_n σ826.2.2.2.2 - wx_n σ.2.2.2.2))) (Nat.le_refl _) (by omega) ?_
              exact b_L_law_829 B (K62 := K62) @hK62 @mK62 (k := k + (wx_n σ826.2.2.2.2 - wx_n σ.2.2.2.2)) (by omega) h Z hS (lv_sub hl [5, 6, 7, 8, 9, 10, 11, 12, 13, 14, 15, 4, 3, 2, 1, 0] rfl)
          · replace h := wx_iff c734 h
            refine lv_iconst (v := 1) hx hb dL_law_737 (by decide) ?_
            refine lv_iload hx hb dL_law_738 (lv_at hl 15 rfl) ?_
            refine lv_bipush (v := 12) hx hb dL_law_740 (by decide) ?_
            obtain ⟨v742, hc742, h⟩ := wx_o_ok h
            refine wx_call (va_runS (As := [.int x11, .int 12]) (rest := [.int 1]) ⟨hx, hb, hml, hown, hts⟩ (c_L_low l (D := D) (ad := ad) (rd := rd) (ca := ca) (A := (fun q : Nat => s.heap.size ≤ q)) (σ := σ) hc742) (va_cwS 2 hts gL_law_L_low rfl rfl rfl (by decide +kernel) ⟨Nat.le_of_ble_eq_true rfl, Nat.le_of_ble_eq_true rfl⟩) (wx_preS hC Z hS hA) rfl rfl hl.1 rfl (lv_room (Nat.le_of_ble_eq_true rfl)) dL_law_742 ⟨(by show k + 0 ≤ 600000; omega), (by show 6464 * k + 0 ≤ 7302250; omega)⟩) hS (fun H locs Z hS => ?_)
            refine lv_iadd hx hb dL_law_745 ?_
            refine lv_istore (lv' := [(17, .int (1 + v742)), (16, .int 0), (15, .int ((8 * v126) + v136)), (14, .int v136), (13, .int v126), (12, .int y0), (0, .ref (ad 18 0)), (1, .ref (ad 11 99)), (2, .ref (ad 16 0)), (3, .ref (ad 16 1)), (4, .ref (ad 16 2)), (5, .ref (ad 16 3)), (6, .ref (ad 16 4)), (7, .long x7), (9, .int x9), (10, .int x10), (11, .int x11)]) hx hb dL_law_746 hl (by decide) rfl (fun ls hl => ?_)
            refine lv_aload_n hx hb dL_law_748 rfl (lv_at hl 8 rfl) ?_
            refine lv_iconst (v := 4) hx hb dL_law_749 (by decide) ?_
            obtain ⟨v750, ev750, iv750, h⟩ := wx_rI_ok h
            refine wx_iald hx hb hC.1 Z (o := 16) (k := 0) (n := 7) rfl rfl iv750 dL_law_750 ev750 ?_
            refine lv_iload hx hb dL_law_751 (lv_at hl 0 rfl) ?_
            refine lv_iadd hx hb dL_law_753 ?_
            refine lv_bipush (v := 100) hx hb dL_law_754 (by decide) ?_
            refine lv_icmp_gt (tgt := 763) hx hb dL_law_756 (by decide) (fun c756 => ?_) (fun c756 => ?_)
            · replace h := wx_ift c756 h
              refine lv_iconst (v := 0) hx hb dL_law_763 (by decide) ?_
              exact b_L_law_764 B (K62 := K62) @hK62 @mK62 (k := k) hk h Z hS (lv_sub hl [6, 7, 8, 9, 10, 11, 12, 13, 14, 15, 16, 5, 4, 3, 2, 1, 0] rfl)
            · replace h := wx_iff c756 h
              refine lv_iconst (v := 1) hx hb dL_law_759 (by decide) ?_
              refine lv_goto (tgt := 764) hx hb dL_law_760 (by decide) ?_
              exact b_L_law_764 B (K62 := K62) @hK62 @mK62 (k := k) hk h Z hS (lv_sub hl [6, 7, 8, 9, 10, 11, 12, 13, 14, 15, 16, 5, 4, 3, 2, 1, 0] rfl)
        · replace h := wx_ift c624 h
          refine lv_iload hx hb dL_law_627 (lv_at hl 15 rfl) ?_
          refine lv_iconst (v := 3) hx hb dL_law_629 (by decide) ?_
          obtain ⟨v630, hc630, h⟩ := wx_o_ok h
          refine wx_call (va_runS (As := [.int x11, .int 3]) (rest := []) ⟨hx, hb, hml, hown, hts⟩ (c_L_low l (D := D) (ad := ad) (rd := rd) (ca := ca) (A := (fun q : Nat => s.heap.size ≤ q)) (σ := σ) hc630) (va_cwS 2 hts gL_law_L_low rfl rfl rfl (by decide +kernel) ⟨Nat.le_of_ble_eq_true rfl, Nat.le_of_ble_eq_true rfl⟩) (wx_preS hC Z hS hA) rfl rfl hl.1 rfl (lv_room (Nat.le_of_ble_eq_true rfl)) dL_law_630 ⟨(by show k + 0 ≤ 600000; omega), (by show 6464 * k + 0 ≤ 7302250; omega)⟩) hS (fun H locs Z hS => ?_)
          refine lv_istore (lv' := [(17, .int v630), (16, .int 0), (15, .int ((8 * v126) + v136)), (14, .int v136), (13, .int v126), (12, .int y0), (0, .ref (ad 18 0)), (1, .ref (ad 11 99)), (2, .ref (ad 16 0)), (3, .ref (ad 16 1)), (4, .ref (ad 16 2)), (5, .ref (ad 16 3)), (6, .ref (ad 16 4)), (7, .long x7), (9, .int x9), (10, .int x10), (11, .int x11)]) hx hb dL_law_633 hl (by decide) rfl (fun ls hl => ?_)
          refine lv_iload hx hb dL_law_635 (lv_at hl 0 rfl) ?_
          refine lv_aload_n hx hb dL_law_637 rfl (lv_at hl 8 rfl) ?_
          refine lv_iconst (v := 5) hx hb dL_law_638 (by decide) ?_
          obtain ⟨v639, ev639, iv639, h⟩ := wx_rI_ok h
          refine wx_iald hx hb hC.1 Z (o := 16) (k := 0) (n := 7) rfl rfl iv639 dL_law_639 ev639 ?_
          refine lv_icmp_ge (tgt := 647) hx hb dL_law_640 (by decide) (fun c640 => ?_) (fun c640 => ?_)
          · replace h := wx_ift c640 h
            refine lv_iconst (v := 0) hx hb dL_law_647 (by decide) ?_
            exact b_L_law_648 B (K62 := K62) @hK62 @mK62 (k := k) hk h Z hS (lv_sub hl [6, 7, 8, 9, 10, 11, 12, 13, 14, 15, 16, 5, 4, 3, 2, 1, 0] rfl)
          · replace h := wx_iff c640 h
            refine lv_iconst (v := 1) hx hb dL_law_643 (by decide) ?_
            refine lv_goto (tgt := 648) hx hb dL_law_644 (by decide) ?_
            exact b_L_law_648 B (K62 := K62) @hK62 @mK62 (k := k) hk h Z hS (lv_sub hl [6, 7, 8, 9, 10, 11, 12, 13, 14, 15, 16, 5, 4, 3, 2, 1, 0] rfl)
      · replace h := wx_iff c432 h
        refine lv_iconst (v := 1) hx hb dL_law_435 (by decide) ?_
        refine lv_iload hx hb dL_law_436 (lv_at hl 15 rfl) ?_
        refine lv_bipush (v := 9) hx hb dL_law_438 (by decide) ?_
        refine lv_ishr hx hb dL_law_440 ?_
        refine lv_iconst (v := 4) hx hb dL_law_441 (by decide) ?_
        obtain ⟨v442, hc442, h⟩ := wx_o_ok h
        refine wx_call (va_runS (As := [.int (x11 >>> (9 &&& 31)), .int 4]) (rest := [.int 1]) ⟨hx, hb, hml, hown, hts⟩ (c_L_low l (D := D) (ad := ad) (rd := rd) (ca := ca) (A := (fun q : Nat => s.heap.size ≤ q)) (σ := σ) hc442) (va_cwS 2 hts gL_law_L_low rfl rfl rfl (by decide +kernel) ⟨Nat.le_of_ble_eq_true rfl, Nat.le_of_ble_eq_true rfl⟩) (wx_preS hC Z hS hA) rfl rfl hl.1 rfl (lv_room (Nat.le_of_ble_eq_true rfl)) dL_law_442 ⟨(by show k + 0 ≤ 600000; omega), (by show 6464 * k + 0 ≤ 7302250; omega)⟩) hS (fun H locs Z hS => ?_)
        refine lv_iadd hx hb dL_law_445 ?_
        refine lv_istore (lv' := [(17, .int (1 + v442)), (16, .int 0), (15, .int ((8 * v126) + v136)), (14, .int v136), (13, .int v126), (12, .int y0), (0, .ref (ad 18 0)), (1, .ref (ad 11 99)), (2, .ref (ad 16 0)), (3, .ref (ad 16 1)), (4, .ref (ad 16 2)), (5, .ref (ad 16 3)), (6, .ref (ad 16 4)), (7, .long x7), (9, .int x9), (10, .int x10), (11, .int x11)]) hx hb dL_law_446 hl (by decide) rfl (fun ls hl => ?_)
        refine lv_aload hx hb dL_law_448 (lv_at hl 11 rfl) ?_
        refine lv_iload hx hb dL_law_450 (lv_at hl 2 rfl) ?_
        obtain ⟨v452, ev452, iv452, h⟩ := wx_rI_ok h
        refine wx_iald hx hb hC.1 Z (o := 16) (k := 3) (n := 64) rfl rfl iv452 dL_law_452 ev452 ?_
        refine lv_if_le (tgt := 532) hx hb dL_law_453 (by decide) (fun c453 => ?_) (fun c453 => ?_)
        · replace h := wx_ift c453 h
          exact b_L_law_532 B (K62 := K62) @hK62 @mK62 (k := k) hk h Z hS (lv_sub hl [6, 7, 8, 9, 10, 11, 12, 13, 14, 15, 16, 5, 4, 3, 2, 1, 0] rfl)
        · replace h := wx_iff c453 h
          refine lv_aload hx hb dL_law_456 (lv_at hl 11 rfl) ?_
          refine lv_iload hx hb dL_law_458 (lv_at hl 2 rfl) ?_
          obtain ⟨v460, ev460, iv460, h⟩ := wx_rI_ok h
          refine wx_iald hx hb hC.1 Z (o := 16) (k := 3) (n := 64) rfl rfl iv460 dL_law_460 ev460 ?_
          refine lv_iload hx hb dL_law_461 (lv_at hl 0 rfl) ?_
          refine lv_icmp_eq (tgt := 532) hx hb dL_law_463 (by decide) (fun c463 => ?_) (fun c463 => ?_)
          · replace h := wx_ift c463 h
            exact b_L_law_532 B (K62 := K62) @hK62 @mK62 (k := k) hk h Z hS (lv_sub hl [6, 7, 8, 9, 10, 11, 12, 13, 14, 15, 16, 5, 4, 3, 2, 1, 0] rfl)
          · replace h := wx_iff c463 h
            refine lv_iload hx hb dL_law_466 (lv_at hl 2 rfl) ?_
            refine lv_aload_n hx hb dL_law_468 rfl (lv_at hl 8 rfl) ?_
            refine lv_aload_n hx hb dL_law_469 rfl (lv_at hl 9 rfl) ?_
            obtain ⟨v470, hc470, h⟩ := wx_o_ok h
            refine wx_call (va_runS (As := [.int ((8 * v126) + v136), .ref (ad 16 0), .ref (ad 16 1)]) (rest := []) ⟨hx, hb, hml, hown, hts⟩ (c_L_touch l (D := D) (ad := ad) (rd := rd) (ca := ca) (A := (fun q : Nat => s.heap.size ≤ q)) (σ := σ) hc470) (va_cwS 3 hts gL_law_L_touch rfl rfl rfl (by decide +kernel) ⟨Nat.le_of_ble_eq_true rfl, Nat.le_of_ble_eq_true rfl⟩) (wx_preS hC Z hS hA) rfl rfl hl.1 rfl (lv_room (Nat.le_of_ble_eq_true rfl)) dL_law_470 ⟨(by show k + 0 ≤ 600000; omega), (by show 6464 * k + 0 ≤ 7302250; omega)⟩) hS (fun H locs Z hS => ?_)
            refine lv_if_ge (tgt := 532) hx hb dL_law_473 (by decide) (fun c473 => ?_) (fun c473 => ?_)
            · replace h := wx_ift c473 h
              exact b_L_law_532 B (K62 := K62) @hK62 @mK62 (k := k) hk h Z hS (lv_sub hl [6, 7, 8, 9, 10, 11, 12, 13, 14, 15, 16, 5, 4, 3, 2, 1, 0] rfl)
            · replace h := wx_iff c473 h
              refine lv_iload hx hb dL_law_476 (lv_at hl 2 rfl) ?_
              refine lv_iconst (v := 0) hx hb dL_law_478 (by decide) ?_
              refine lv_aload hx hb dL_law_479 (lv_at hl 11 rfl) ?_
              obtain ⟨v481, hc481, h⟩ := wx_o_ok h
              refine wx_call (va_runS (As := [.int ((8 * v126) + v136), .int 0, .ref (ad 16 3)]) (rest := []) ⟨hx, hb, hml, hown, hts⟩ (c_L_beside l (D := D) (ad := ad) (rd := rd) (ca := ca) (A := (fun q : Nat => s.heap.size ≤ q)) (σ := σ) hc481) (va_cwS 3 hts gL_law_L_beside rfl rfl rfl (by decide +kernel) ⟨Nat.le_of_ble_eq_true rfl, Nat.le_of_ble_eq_true rfl⟩) (wx_preS hC Z hS hA) rfl rfl hl.1 rfl (lv_room (Nat.le_of_ble_eq_true rfl)) dL_law_481 ⟨(by show k + 0 ≤ 600000; omega), (by show 6464 * k + 0 ≤ 7302250; omega)⟩) hS (fun H locs Z hS => ?_)
              refine lv_iload hx hb dL_law_484 (lv_at hl 0 rfl) ?_
              refine lv_icmp_eq (tgt := 528) hx hb dL_law_486 (by decide) (fun c486 => ?_) (fun c486 => ?_)
              · replace h := wx_ift c486 h
                exact b_L_law_528 B (K62 := K62) @hK62 @mK62 (k := k) hk h Z hS (lv_sub hl [6, 7, 8, 9, 10, 11, 12, 13, 14, 15, 16, 5, 4, 3, 2, 1, 0] rfl)
              · replace h := wx_iff c486 h
                refine lv_iload hx hb dL_law_489 (lv_at hl 2 rfl) ?_
                refine lv_iconst (v := 1) hx hb dL_law_491 (by decide) ?_
                refine lv_aload hx hb dL_law_492 (lv_at hl 11 rfl) ?_
                obtain ⟨v494, hc494, h⟩ := wx_o_ok h
                refine wx_call (va_runS (As := [.int ((8 * v126) + v136), .int 1, .ref (ad 16 3)]) (rest := []) ⟨hx, hb, hml, hown, hts⟩ (c_L_beside l (D := D) (ad := ad) (rd := rd) (ca := ca) (A := (fun q : Nat => s.heap.size ≤ q)) (σ := σ) hc494) (va_cwS 3 hts gL_law_L_beside rfl rfl rfl (by decide +kernel) ⟨Nat.le_of_ble_eq_true rfl, Nat.le_of_ble_eq_true rfl⟩) (wx_preS hC Z hS hA) rfl rfl hl.1 rfl (lv_room (Nat.le_of_ble_eq_true rfl)) dL_law_494 ⟨(by show k + 0 ≤ 600000; omega), (by show 6464 * k + 0 ≤ 7302250; omega)⟩) hS (fun H locs Z hS => ?_)
                refine lv_iload hx hb dL_law_497 (lv_at hl 0 rfl) ?_
                refine lv_icmp_eq (tgt := 528) hx hb dL_law_499 (by decide) (fun c499 => ?_) (fun c499 => ?_)
                · replace h := wx_ift c499 h
                  exact b_L_law_528 B (K62 := K62) @hK62 @mK62 (k := k) hk h Z hS (lv_sub hl [6, 7, 8, 9, 10, 11, 12, 13, 14, 15, 16, 5, 4, 3, 2, 1, 0] rfl)
                · replace h := wx_iff c499 h
                  refine lv_iload hx hb dL_law_502 (lv_at hl 2 rfl) ?_
                  refine lv_iconst (v := 2) hx hb dL_law_504 (by decide) ?_
                  refine lv_aload hx hb dL_law_505 (lv_at hl 11 rfl) ?_
                  obtain ⟨v507, hc507, h⟩ := wx_o_ok h
                  refine wx_call (va_runS (As := [.int ((8 * v126) + v136), .int 2, .ref (ad 16 3)]) (rest := []) ⟨hx, hb, hml, hown, hts⟩ (c_L_beside l (D := D) (ad := ad) (rd := rd) (ca := ca) (A := (fun q : Nat => s.heap.size ≤ q)) (σ := σ) hc507) (va_cwS 3 hts gL_law_L_beside rfl rfl rfl (by decide +kernel) ⟨Nat.le_of_ble_eq_true rfl, Nat.le_of_ble_eq_true rfl⟩) (wx_preS hC Z hS hA) rfl rfl hl.1 rfl (lv_room (Nat.le_of_ble_eq_true rfl)) dL_law_507 ⟨(by show k + 0 ≤ 600000; omega), (by show 6464 * k + 0 ≤ 7302250; omega)⟩) hS (fun H locs Z hS => ?_)
                  refine lv_iload hx hb dL_law_510 (lv_at hl 0 rfl) ?_
                  refine lv_icmp_eq (tgt := 528) hx hb dL_law_512 (by decide) (fun c512 => ?_) (fun c512 => ?_)
                  · replace h := wx_ift c512 h
                    exact b_L_law_528 B (K62 := K62) @hK62 @mK62 (k := k) hk h Z hS (lv_sub hl [6, 7, 8, 9, 10, 11, 12, 13, 14, 15, 16, 5, 4, 3, 2, 1, 0] rfl)
                  · replace h := wx_iff c512 h
                    refine lv_iload hx hb dL_law_515 (lv_at hl 2 rfl) ?_
                    refine lv_iconst (v := 3) hx hb dL_law_517 (by decide) ?_
                    refine lv_aload hx hb dL_law_518 (lv_at hl 11 rfl) ?_
                    obtain ⟨v520, hc520, h⟩ := wx_o_ok h
                    refine wx_call (va_runS (As := [.int ((8 * v126) + v136), .int 3, .ref (ad 16 3)]) (rest := []) ⟨hx, hb, hml, hown, hts⟩ (c_L_beside l (D := D) (ad := ad) (rd := rd) (ca := ca) (A := (fun q : Nat => s.heap.size ≤ q)) (σ := σ) hc520) (va_cwS 3 hts gL_law_L_beside rfl rfl rfl (by decide +kernel) ⟨Nat.le_of_ble_eq_true rfl, Nat.le_of_ble_eq_true rfl⟩) (wx_preS hC Z hS hA) rfl rfl hl.1 rfl (lv_room (Nat.le_of_ble_eq_true rfl)) dL_law_520 ⟨(by show k + 0 ≤ 600000; omega), (by show 6464 * k + 0 ≤ 7302250; omega)⟩) hS (fun H locs Z hS => ?_)
                    refine lv_iload hx hb dL_law_523 (lv_at hl 0 rfl) ?_
                    refine lv_icmp_ne (tgt := 532) hx hb dL_law_525 (by decide) (fun c525 => ?_) (fun c525 => ?_)
                    · replace h := wx_iff c525 h
                      exact b_L_law_532 B (K62 := K62) @hK62 @mK62 (k := k) hk h Z hS (lv_sub hl [6, 7, 8, 9, 10, 11, 12, 13, 14, 15, 16, 5, 4, 3, 2, 1, 0] rfl)
                    · replace h := wx_ift c525 h
                      exact b_L_law_528 B (K62 := K62) @hK62 @mK62 (k := k) hk h Z hS (lv_sub hl [6, 7, 8, 9, 10, 11, 12, 13, 14, 15, 16, 5, 4, 3, 2, 1, 0] rfl)
    · replace h := wx_iff c315 h
      refine lv_iconst (v := 1) hx hb dL_law_318 (by decide) ?_
      refine lv_iload hx hb dL_law_319 (lv_at hl 15 rfl) ?_
      refine lv_iconst (v := 4) hx hb dL_law_321 (by decide) ?_
      obtain ⟨v322, hc322, h⟩ := wx_o_ok h
      refine wx_call (va_runS (As := [.int x11, .int 4]) (rest := [.int 1]) ⟨hx, hb, hml, hown, hts⟩ (c_L_low l (D := D) (ad := ad) (rd := rd) (ca := ca) (A := (fun q : Nat => s.heap.size ≤ q)) (σ := σ) hc322) (va_cwS 2 hts gL_law_L_low rfl rfl rfl (by decide +kernel) ⟨Nat.le_of_ble_eq_true rfl, Nat.le_of_ble_eq_true rfl⟩) (wx_preS hC Z hS hA) rfl rfl hl.1 rfl (lv_room (Nat.le_of_ble_eq_true rfl)) dL_law_322 ⟨(by show k + 0 ≤ 600000; omega), (by show 6464 * k + 0 ≤ 7302250; omega)⟩) hS (fun H locs Z hS => ?_)
      refine lv_iadd hx hb dL_law_325 ?_
      refine lv_istore (lv' := [(17, .int (1 + v322)), (16, .int 0), (15, .int ((8 * v126) + v136)), (14, .int v136), (13, .int v126), (12, .int y0), (0, .ref (ad 18 0)), (1, .ref (ad 11 99)), (2, .ref (ad 16 0)), (3, .ref (ad 16 1)), (4, .ref (ad 16 2)), (5, .ref (ad 16 3)), (6, .ref (ad 16 4)), (7, .long x7), (9, .int x9), (10, .int x10), (11, .int x11)]) hx hb dL_law_326 hl (by decide) rfl (fun ls hl => ?_)
      refine lv_iconst (v := 1) hx hb dL_law_328 (by decide) ?_
      refine lv_iload hx hb dL_law_329 (lv_at hl 16 rfl) ?_
      refine lv_iconst (v := 5) hx hb dL_law_331 (by decide) ?_
      refine lv_ishr hx hb dL_law_332 ?_
      refine lv_iconst (v := 4) hx hb dL_law_333 (by decide) ?_
      obtain ⟨v334, hc334, h⟩ := wx_o_ok h
      refine wx_call (va_runS (As := [.int (x11 >>> (5 &&& 31)), .int 4]) (rest := [.int 1]) ⟨hx, hb, hml, hown, hts⟩ (c_L_low l (D := D) (ad := ad) (rd := rd) (ca := ca) (A := (fun q : Nat => s.heap.size ≤ q)) (σ := σ) hc334) (va_cwS 2 hts gL_law_L_low rfl rfl rfl (by decide +kernel) ⟨Nat.le_of_ble_eq_true rfl, Nat.le_of_ble_eq_true rfl⟩) (wx_preS hC Z hS hA) rfl rfl hl.1 rfl (lv_room (Nat.le_of_ble_eq_true rfl)) dL_law_334 ⟨(by show k + 0 ≤ 600000; omega), (by show 6464 * k + 0 ≤ 7302250; omega)⟩) hS (fun H locs Z hS => ?_)
      refine lv_iadd hx hb dL_law_337 ?_
      refine lv_istore (lv' := [(18, .int (1 + v334)), (17, .int (1 + v322)), (16, .int 0), (15, .int ((8 * v126) + v136)), (14, .int v136), (13, .int v126), (12, .int y0), (0, .ref (ad 18 0)), (1, .ref (ad 11 99)), (2, .ref (ad 16 0)), (3, .ref (ad 16 1)), (4, .ref (ad 16 2)), (5, .ref (ad 16 3)), (6, .ref (ad 16 4)), (7, .long x7), (9, .int x9), (10, .int x10), (11, .int x11)]) hx hb dL_law_338 hl (by decide) rfl (fun ls hl => ?_)
      refine lv_aload_n hx hb dL_law_340 rfl (lv_at hl 8 rfl) ?_
      refine lv_iload hx hb dL_law_341 (lv_at hl 1 rfl) ?_
      refine lv_iload hx hb dL_law_343 (lv_at hl 0 rfl) ?_
      obtain ⟨v345, σ345, hc345, h⟩ := wx_b_ok h
      refine wx_call (va_runV (As := [.int (1 + v322), .int (1 + v334)]) (rest := []) ⟨hx, hb, hml, hown, hts⟩ (c_X5_feed l (D := D) (ad := ad) (rd := rd) (ca := ca) (A := (fun q : Nat => s.heap.size ≤ q)) (σ := σ) hc345) (cwV 2 hts gL_law_X5_feed rfl rfl rfl (by decide +kernel) ⟨Nat.le_of_ble_eq_true rfl, Nat.le_of_ble_eq_true rfl⟩) (wx_preV hC Z hS hA rfl (rfl : vwCl[5]? = some (RX5, TX5, 7))) rfl rfl hl.1 rfl (lv_room (Nat.le_of_ble_eq_true rfl)) dL_law_345 ⟨(by show k + 0 ≤ 600000; omega), (by show 6464 * k + 0 ≤ 7302250; omega)⟩) hS (fun H locs Z hS => ?_)
      have hqσ345 := congrArg wx_n (show σ345.2.2.2.2 = σ.2.2.2.2 from m_X5_feed_0 hc345)
      rw [← hqσ345] at hk hm
      refine lv_istore (lv' := [(19, .int v345), (18, .int (1 + v334)), (17, .int (1 + v322)), (16, .int 0), (15, .int ((8 * v126) + v136)), (14, .int v136), (13, .int v126), (12, .int y0), (0, .ref (ad 18 0)), (1, .ref (ad 11 99)), (2, .ref (ad 16 0)), (3, .ref (ad 16 1)), (4, .ref (ad 16 2)), (5, .ref (ad 16 3)), (6, .ref (ad 16 4)), (7, .long x7), (9, .int x9), (10, .int x10), (11, .int x11)]) hx hb dL_law_348 hl (by decide) rfl (fun ls hl => ?_)
      refine lv_iload hx hb dL_law_350 (lv_at hl 2 rfl) ?_
      refine lv_iload hx hb dL_law_352 (lv_at hl 1 rfl) ?_
      refine lv_icmp_ne (tgt := 367) hx hb dL_law_354 (by decide) (fun c354 => ?_) (fun c354 => ?_)
      · replace h := wx_iff c354 h
        refine lv_iload hx hb dL_law_367 (lv_at hl 0 rfl) ?_
        refine lv_iload hx hb dL_law_369 (lv_at hl 2 rfl) ?_
        refine lv_iload hx hb dL_law_371 (lv_at hl 1 rfl) ?_
        refine lv_aload hx hb dL_law_373 (lv_at hl 14 rfl) ?_
        obtain ⟨v375, hc375, h⟩ := wx_o_ok h
        refine wx_call (va_runS (As := [.int (1 + v322), .int (1 + v334), .ref (ad 16 4)]) (rest := [.int v345]) ⟨hx, hb, hml, hown, hts⟩ (c_L_fed l (D := D) (ad := ad) (rd := rd) (ca := ca) (A := (fun q : Nat => s.heap.size ≤ q)) (σ := σ345) hc375) (va_cwS 3 hts gL_law_L_fed rfl rfl rfl (by decide +kernel) ⟨Nat.le_of_ble_eq_true rfl, Nat.le_of_ble_eq_true rfl⟩) (wx_preS hC Z hS hA) rfl rfl hl.1 rfl (lv_room (Nat.le_of_ble_eq_true rfl)) dL_law_375 ⟨(by show k + 0 ≤ 600000; omega), (by show 6464 * k + 0 ≤ 7302250; omega)⟩) hS (fun H locs Z hS => ?_)
        refine lv_if_eq (tgt := 385) hx hb dL_law_378 (by decide) (fun c378 => ?_) (fun c378 => ?_)
        · replace h := wx_ift c378 h
          refine lv_iconst (v := 1) hx hb dL_law_385 (by decide) ?_
          exact b_L_law_386 B (K62 := K62) @hK62 @mK62 (k := k) hk h Z hS (lv_sub hl [8, 9, 10, 11, 12, 13, 14, 15, 16, 17, 18, 7, 6, 5, 4, 3, 2, 1, 0] rfl)
        · replace h := wx_iff c378 h
          refine lv_iconst (v := 0) hx hb dL_law_381 (by decide) ?_
          refine lv_goto (tgt := 386) hx hb dL_law_382 (by decide) ?_
          exact b_L_law_386 B (K62 := K62) @hK62 @mK62 (k := k) hk h Z hS (lv_sub hl [8, 9, 10, 11, 12, 13, 14, 15, 16, 17, 18, 7, 6, 5, 4, 3, 2, 1, 0] rfl)
      · replace h := wx_ift c354 h
        refine lv_iload hx hb dL_law_357 (lv_at hl 0 rfl) ?_
        refine lv_bipush (v := (-2)) hx hb dL_law_359 (by decide) ?_
        refine lv_icmp_eq (tgt := 391) hx hb dL_law_361 (by decide) (fun c361 => ?_) (fun c361 => ?_)
        · replace h := wx_ift c361 h
          exact b_L_law_391 B (K62 := K62) @hK62 @mK62 (k := k) hk h Z hS (lv_sub hl [8, 9, 10, 11, 12, 13, 14, 15, 16, 17, 18, 7, 6, 5, 4, 3, 2, 1, 0] rfl)
        · replace h := wx_iff c361 h
          refine lv_goto (tgt := 389) hx hb dL_law_364 (by decide) ?_
          exact b_L_law_389 B (k := k) hk h Z hS (lv_sub hl [8, 9, 10, 11, 12, 13, 14, 15, 16, 17, 18, 7, 6, 5, 4, 3, 2, 1, 0] rfl)
  · replace h := wx_iff c157 h
    refine lv_iload hx hb dL_law_160 (lv_at hl 15 rfl) ?_
    refine lv_bipush (v := 8) hx hb dL_law_162 (by decide) ?_
    refine lv_ishr hx hb dL_law_164 ?_
    refine lv_iconst (v := 5) hx hb dL_law_165 (by decide) ?_
    obtain ⟨v166, hc166, h⟩ := wx_o_ok h
    refine wx_call (va_runS (As := [.int (x11 >>> (8 &&& 31)), .int 5]) (rest := []) ⟨hx, hb, hml, hown, hts⟩ (c_L_low l (D := D) (ad := ad) (rd := rd) (ca := ca) (A := (fun q : Nat => s.heap.size ≤ q)) (σ := σ) hc166) (va_cwS 2 hts gL_law_L_low rfl rfl rfl (by decide +kernel) ⟨Nat.le_of_ble_eq_true rfl, Nat.le_of_ble_eq_true rfl⟩) (wx_preS hC Z hS hA) rfl rfl hl.1 rfl (lv_room (Nat.le_of_ble_eq_true rfl)) dL_law_166 ⟨(by show k + 0 ≤ 600000; omega), (by show 6464 * k + 0 ≤ 7302250; omega)⟩) hS (fun H locs Z hS => ?_)
    refine lv_istore (lv' := [(17, .int v166), (16, .int 0), (15, .int ((8 * v126) + v136)), (14, .int v136), (13, .int v126), (12, .int y0), (0, .ref (ad 18 0)), (1, .ref (ad 11 99)), (2, .ref (ad 16 0)), (3, .ref (ad 16 1)), (4, .ref (ad 16 2)), (5, .ref (ad 16 3)), (6, .ref (ad 16 4)), (7, .long x7), (9, .int x9), (10, .int x10), (11, .int x11)]) hx hb dL_law_169 hl (by decide) rfl (fun ls hl => ?_)
    refine lv_iload hx hb dL_law_171 (lv_at hl 2 rfl) ?_
    refine lv_aload_n hx hb dL_law_173 rfl (lv_at hl 8 rfl) ?_
    refine lv_aload_n hx hb dL_law_174 rfl (lv_at hl 9 rfl) ?_
    obtain ⟨v175, hc175, h⟩ := wx_o_ok h
    refine wx_call (va_runS (As := [.int ((8 * v126) + v136), .ref (ad 16 0), .ref (ad 16 1)]) (rest := []) ⟨hx, hb, hml, hown, hts⟩ (c_L_touch l (D := D) (ad := ad) (rd := rd) (ca := ca) (A := (fun q : Nat => s.heap.size ≤ q)) (σ := σ) hc175) (va_cwS 3 hts gL_law_L_touch rfl rfl rfl (by decide +kernel) ⟨Nat.le_of_ble_eq_true rfl, Nat.le_of_ble_eq_true rfl⟩) (wx_preS hC Z hS hA) rfl rfl hl.1 rfl (lv_room (Nat.le_of_ble_eq_true rfl)) dL_law_175 ⟨(by show k + 0 ≤ 600000; omega), (by show 6464 * k + 0 ≤ 7302250; omega)⟩) hS (fun H locs Z hS => ?_)
    refine lv_if_lt (tgt := 185) hx hb dL_law_178 (by decide) (fun c178 => ?_) (fun c178 => ?_)
    · replace h := wx_ift c178 h
      refine lv_iconst (v := 0) hx hb dL_law_185 (by decide) ?_
      exact b_L_law_186 B (K62 := K62) @hK62 @mK62 (k := k) hk h Z hS (lv_sub hl [6, 7, 8, 9, 10, 11, 12, 13, 14, 15, 16, 5, 4, 3, 2, 1, 0] rfl)
    · replace h := wx_iff c178 h
      refine lv_iconst (v := 1) hx hb dL_law_181 (by decide) ?_
      refine lv_goto (tgt := 186) hx hb dL_law_182 (by decide) ?_
      exact b_L_law_186 B (K62 := K62) @hK62 @mK62 (k := k) hk h Z hS (lv_sub hl [6, 7, 8, 9, 10, 11, 12, 13, 14, 15, 16, 5, 4, 3, 2, 1, 0] rfl)
set_option maxRecDepth 20000 in
set_option maxHeartbeats 4000000 in
theorem m_L_law_62   {σ' : wx_St}  :
    ∀ {n : Nat} {x7 : Int64} {x9 : Int32} {σ : wx_St} (h : f_L_law_62 ad n x7 x9 σ = some ((1 : Int32), σ')), wx_n σ.2.2.2.2 ≤ wx_n σ'.2.2.2.2 := by
  intro n
  induction n with
  | zero => intro x7 x9 σ h; exact wx_no h
  | succ n ih =>
    intro x7 x9 σ h
    rw [f_L_law_62] at h
    by_cases c66 : 34 ≤ x9
    · replace h := wx_ift c66 h
      obtain ⟨-, rfl⟩ := wx_ret_ok h
      exact Nat.le_refl _
    · replace h := wx_iff c66 h
      obtain ⟨v74, hc74, h⟩ := wx_o_ok h
      obtain ⟨v86, hc86, h⟩ := wx_o_ok h
      by_cases c95 : 8 ≤ x9
      · replace h := wx_ift c95 h
        obtain ⟨v118, hc118, h⟩ := wx_o_ok h
        exact m_L_law_121 (K62 := (f_L_law_62 ad n)) @ih h
      · replace h := wx_iff c95 h
        by_cases c103 : (x9 - x9 / 4 * 4) = 3
        · replace h := wx_ift c103 h
          exact m_L_law_121 (K62 := (f_L_law_62 ad n)) @ih h
        · replace h := wx_iff c103 h
          exact m_L_law_121 (K62 := (f_L_law_62 ad n)) @ih h
set_option maxRecDepth 20000 in
set_option maxHeartbeats 4000000 in
theorem b_L_law_62 (B : wx_B p s m #[Value.ref b] meth c cL_law 21 (some .boolean) wsL_law RL D ad ca (fun q : Nat => s.heap.size ≤ q))     {σ' : wx_St}   :
    ∀ {n : Nat} {x7 : Int64} {x9 : Int32} {σ : wx_St} {k : Nat} (hk : k + wx_n σ'.2.2.2.2 ≤ 1000 + wx_n σ.2.2.2.2)  (h : f_L_law_62 ad n x7 x9 σ = some ((1 : Int32), σ')) {rd : Nat → Nat} {H : Heap} {locs : List Loc} (Z : wx_Z D ad rd ca (fun q : Nat => s.heap.size ≤ q) σ H) (hS : va_S (fun q : Nat => s.heap.size ≤ q) s.heap H locs) {ls : Array Slot} (hl : lv_has ls 21 [(0, .ref (ad 18 0)), (1, .ref (ad 11 99)), (2, .ref (ad 16 0)), (3, .ref (ad 16 1)), (4, .ref (ad 16 2)), (5, .ref (ad 16 3)), (6, .ref (ad 16 4)), (7, .long x7), (9, .int x9)]), W p l e room_1 s m #[Value.ref b] below meth c H locs k (6464 * k) (lw_Z below #[Value.ref b] s) (F0 m 62 ls []) := by
  obtain ⟨hx, hb, hml, hr, hts, hown, hlk, hC, hA⟩ := id B
  intro n
  induction n with
  | zero => intro x7 x9 σ k hk  h rd H locs Z hS ls hl; exact wx_no h
  | succ n ih =>
    intro x7 x9 σ k hk  h rd H locs Z hS ls hl
    have hm := m_L_law_62 h
    have mih : ∀ {x7 : Int64} {x9 : Int32} {σ : wx_St}, f_L_law_62 ad n x7 x9 σ = some ((1 : Int32), σ') → wx_n σ.2.2.2.2 ≤ wx_n σ'.2.2.2.2 := fun h => m_L_law_62 h
    rw [f_L_law_62] at h
    refine lv_iload hx hb dL_law_62 (lv_at hl 8 rfl) ?_
    refine lv_bipush (v := 34) hx hb dL_law_64 (by decide) ?_
    refine lv_icmp_ge (tgt := 1290) hx hb dL_law_66 (by decide) (fun c66 => ?_) (fun c66 => ?_)
    · replace h := wx_ift c66 h
      refine lv_iconst (v := 1) hx hb dL_law_1290 (by decide) ?_
      obtain ⟨-, rfl⟩ := wx_ret_ok h
      refine W.widen (k := 600000) (n := 7302250) (by omega) (by omega) ?_
      exact va_forget hS.2.2 (lw_ret (d0 := s.drawn) (Drawn.sameBut.refl _ _) hx hb hr hlk dL_law_1291)
    · replace h := wx_iff c66 h
      refine lv_aload_n hx hb dL_law_69 rfl (lv_at hl 0 rfl) ?_
      refine lv_iconst (v := 2) hx hb dL_law_70 (by decide) ?_
      refine lv_iload hx hb dL_law_71 (lv_at hl 8 rfl) ?_
      refine lv_imul hx hb dL_law_73 ?_
      obtain ⟨v74, hc74, h⟩ := wx_o_ok h
      refine wx_call (va_runS (As := [.ref (ad 18 0), .int (2 * x9)]) (rest := []) ⟨hx, hb, hml, hown, hts⟩ (c_L_cell l (D := D) (ad := ad) (rd := rd) (ca := ca) (A := (fun q : Nat => s.heap.size ≤ q)) (σ := σ) hc74) (va_cwS 2 hts gL_law_L_cell rfl rfl rfl (by decide +kernel) ⟨Nat.le_of_ble_eq_true rfl, Nat.le_of_ble_eq_true rfl⟩) (wx_preS hC Z hS hA) rfl rfl hl.1 rfl (lv_room (Nat.le_of_ble_eq_true rfl)) dL_law_74 ⟨(by show k + 0 ≤ 600000; omega), (by show 6464 * k + 0 ≤ 7302250; omega)⟩) hS (fun H locs Z hS => ?_)
      refine lv_istore (lv' := [(10, .int v74), (0, .ref (ad 18 0)), (1, .ref (ad 11 99)), (2, .ref (ad 16 0)), (3, .ref (ad 16 1)), (4, .ref (ad 16 2)), (5, .ref (ad 16 3)), (6, .ref (ad 16 4)), (7, .long x7), (9, .int x9)]) hx hb dL_law_77 hl (by decide) rfl (fun ls hl => ?_)
      refine lv_aload_n hx hb dL_law_79 rfl (lv_at hl 1 rfl) ?_
      refine lv_iconst (v := 2) hx hb dL_law_80 (by decide) ?_
      refine lv_iload hx hb dL_law_81 (lv_at hl 9 rfl) ?_
      refine lv_imul hx hb dL_law_83 ?_
      refine lv_iconst (v := 1) hx hb dL_law_84 (by decide) ?_
      refine lv_iadd hx hb dL_law_85 ?_
      obtain ⟨v86, hc86, h⟩ := wx_o_ok h
      refine wx_call (va_runS (As := [.ref (ad 18 0), .int ((2 * x9) + 1)]) (rest := []) ⟨hx, hb, hml, hown, hts⟩ (c_L_cell l (D := D) (ad := ad) (rd := rd) (ca := ca) (A := (fun q : Nat => s.heap.size ≤ q)) (σ := σ) hc86) (va_cwS 2 hts gL_law_L_cell rfl rfl rfl (by decide +kernel) ⟨Nat.le_of_ble_eq_true rfl, Nat.le_of_ble_eq_true rfl⟩) (wx_preS hC Z hS hA) rfl rfl hl.1 rfl (lv_room (Nat.le_of_ble_eq_true rfl)) dL_law_86 ⟨(by show k + 0 ≤ 600000; omega), (by show 6464 * k + 0 ≤ 7302250; omega)⟩) hS (fun H locs Z hS => ?_)
      refine lv_istore (lv' := [(11, .int v86), (10, .int v74), (0, .ref (ad 18 0)), (1, .ref (ad 11 99)), (2, .ref (ad 16 0)), (3, .ref (ad 16 1)), (4, .ref (ad 16 2)), (5, .ref (ad 16 3)), (6, .ref (ad 16 4)), (7, .long x7), (9, .int x9)]) hx hb dL_law_89 hl (by decide) rfl (fun ls hl => ?_)
      refine lv_iload hx hb dL_law_91 (lv_at hl 10 rfl) ?_
      refine lv_bipush (v := 8) hx hb dL_law_93 (by decide) ?_
      refine lv_icmp_ge (tgt := 114) hx hb dL_law_95 (by decide) (fun c95 => ?_) (fun c95 => ?_)
      · replace h := wx_ift c95 h
        refine lv_iload hx hb dL_law_114 (lv_at hl 1 rfl) ?_
        refine lv_bipush (v := 15) hx hb dL_law_116 (by decide) ?_
        obtain ⟨v118, hc118, h⟩ := wx_o_ok h
        refine wx_call (va_runS (As := [.int v74, .int 15]) (rest := []) ⟨hx, hb, hml, hown, hts⟩ (c_L_low l (D := D) (ad := ad) (rd := rd) (ca := ca) (A := (fun q : Nat => s.heap.size ≤ q)) (σ := σ) hc118) (va_cwS 2 hts gL_law_L_low rfl rfl rfl (by decide +kernel) ⟨Nat.le_of_ble_eq_true rfl, Nat.le_of_ble_eq_true rfl⟩) (wx_preS hC Z hS hA) rfl rfl hl.1 rfl (lv_room (Nat.le_of_ble_eq_true rfl)) dL_law_118 ⟨(by show k + 0 ≤ 600000; omega), (by show 6464 * k + 0 ≤ 7302250; omega)⟩) hS (fun H locs Z hS => ?_)
        exact b_L_law_121 B (K62 := (f_L_law_62 ad n)) @ih mih (k := k) hk h Z hS (lv_sub hl [2, 3, 4, 5, 6, 7, 8, 9, 10, 1, 0] rfl)
      · replace h := wx_iff c95 h
        refine lv_iload hx hb dL_law_98 (lv_at hl 10 rfl) ?_
        refine lv_iconst (v := 4) hx hb dL_law_100 (by decide) ?_
        refine lv_irem hx hb dL_law_101 (by decide) ?_
        refine lv_iconst (v := 3) hx hb dL_law_102 (by decide) ?_
        refine lv_icmp_ne (tgt := 110) hx hb dL_law_103 (by decide) (fun c103 => ?_) (fun c103 => ?_)
        · replace h := wx_iff c103 h
          refine lv_iconst (v := 0) hx hb dL_law_110 (by decide) ?_
          refine lv_goto (tgt := 121) hx hb dL_law_111 (by decide) ?_
          exact b_L_law_121 B (K62 := (f_L_law_62 ad n)) @ih mih (k := k) hk h Z hS (lv_sub hl [2, 3, 4, 5, 6, 7, 8, 9, 10, 1, 0] rfl)
        · replace h := wx_ift c103 h
          refine lv_iconst (v := 3) hx hb dL_law_106 (by decide) ?_
          refine lv_goto (tgt := 121) hx hb dL_law_107 (by decide) ?_
          exact b_L_law_121 B (K62 := (f_L_law_62 ad n)) @ih mih (k := k) hk h Z hS (lv_sub hl [2, 3, 4, 5, 6, 7, 8, 9, 10, 1, 0] rfl)
