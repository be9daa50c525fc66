def f_L_same_221   (x1 : Int64) (x8 : Int32) (x9 : Int32) (x10 : Int32) (x11 : Int32) (x13 : Int32) (x14 : Int32) (x15 : Int32) (x16 : Int32) (x17 : Int32) (x18 : Int32) (x19 : Int32) (x20 : Int32) (σ : wx_St) : Option (Int32 × wx_St) :=
  some (0, σ)
def f_L_same_267   (x1 : Int64) (x8 : Int32) (x9 : Int32) (x10 : Int32) (x11 : Int32) (x13 : Int32) (x14 : Int32) (x15 : Int32) (x16 : Int32) (x17 : Int32) (x18 : Int32) (x19 : Int32) (x20 : Int32) (x21 : Int32) (σ : wx_St) : Option (Int32 × wx_St) :=
  some (0, σ)
def f_L_same_388  (K30 : Int64 → Int32 → Int32 → Int32 → Int32 → Int32 → wx_St → Option (Int32 × wx_St)) (K49 : Int64 → Int32 → Int32 → Int32 → Int32 → Int32 → Int32 → Int32 → Int32 → Int32 → wx_St → Option (Int32 × wx_St)) (x1 : Int64) (x8 : Int32) (x9 : Int32) (x10 : Int32) (x11 : Int32) (x13 : Int32) (x14 : Int32) (x15 : Int32) (x16 : Int32) (x17 : Int32) (x18 : Int32) (x19 : Int32) (x20 : Int32) (x21 : Int32) (x22 : Int32) (x23 : Int32) (y0 : Int32) (y1 : Int32) (σ : wx_St) : Option (Int32 × wx_St) :=
  K49 x1 (y0 + y1) x9 x10 x11 x13 x14 x15 x16 (x17 + 1) σ
def f_L_same_363  (K30 : Int64 → Int32 → Int32 → Int32 → Int32 → Int32 → wx_St → Option (Int32 × wx_St)) (K49 : Int64 → Int32 → Int32 → Int32 → Int32 → Int32 → Int32 → Int32 → Int32 → Int32 → wx_St → Option (Int32 × wx_St)) (x1 : Int64) (x8 : Int32) (x9 : Int32) (x10 : Int32) (x11 : Int32) (x13 : Int32) (x14 : Int32) (x15 : Int32) (x16 : Int32) (x17 : Int32) (x18 : Int32) (x19 : Int32) (x20 : Int32) (x21 : Int32) (x22 : Int32) (x23 : Int32) (y0 : Int32) (y1 : Int32) (σ : wx_St) : Option (Int32 × wx_St) :=
  wx_rI σ 16 3 64 x18 (fun v379 => if v379 ≤ 0 then
    f_L_same_388 K30 K49 x1 x8 (y0 + y1) (x10 + x20) x11 x13 x14 x15 x16 x17 x18 x19 x20 x21 x22 x23 x8 0 σ
   else
    f_L_same_388 K30 K49 x1 x8 (y0 + y1) (x10 + x20) x11 x13 x14 x15 x16 x17 x18 x19 x20 x21 x22 x23 x8 1 σ)
def f_L_same_351  (K30 : Int64 → Int32 → Int32 → Int32 → Int32 → Int32 → wx_St → Option (Int32 × wx_St)) (K49 : Int64 → Int32 → Int32 → Int32 → Int32 → Int32 → Int32 → Int32 → Int32 → Int32 → wx_St → Option (Int32 × wx_St)) (x1 : Int64) (x8 : Int32) (x9 : Int32) (x10 : Int32) (x11 : Int32) (x13 : Int32) (x14 : Int32) (x15 : Int32) (x16 : Int32) (x17 : Int32) (x18 : Int32) (x19 : Int32) (x20 : Int32) (x21 : Int32) (x22 : Int32) (x23 : Int32) (σ : wx_St) : Option (Int32 × wx_St) :=
  if x19 = 0 then
    f_L_same_363 K30 K49 x1 x8 x9 x10 x11 x13 x14 x15 x16 x17 x18 x19 x20 x21 x22 x23 x9 0 σ
   else
    f_L_same_363 K30 K49 x1 x8 x9 x10 x11 x13 x14 x15 x16 x17 x18 x19 x20 x21 x22 x23 x9 1 σ
def f_L_same_346  (K30 : Int64 → Int32 → Int32 → Int32 → Int32 → Int32 → wx_St → Option (Int32 × wx_St)) (K49 : Int64 → Int32 → Int32 → Int32 → Int32 → Int32 → Int32 → Int32 → Int32 → Int32 → wx_St → Option (Int32 × wx_St)) (x1 : Int64) (x8 : Int32) (x9 : Int32) (x10 : Int32) (x11 : Int32) (x13 : Int32) (x14 : Int32) (x15 : Int32) (x16 : Int32) (x17 : Int32) (x18 : Int32) (x19 : Int32) (x20 : Int32) (x21 : Int32) (x22 : Int32) (x23 : Int32) (y0 : Int32) (y1 : Int32) (σ : wx_St) : Option (Int32 × wx_St) :=
  if y0 = y1 then
    f_L_same_351 K30 K49 x1 x8 x9 x10 x11 x13 x14 x15 x16 x17 x18 x19 x20 x21 x22 x23 σ
   else
    some (0, σ)
def f_L_same_311  (K30 : Int64 → Int32 → Int32 → Int32 → Int32 → Int32 → wx_St → Option (Int32 × wx_St)) (K49 : Int64 → Int32 → Int32 → Int32 → Int32 → Int32 → Int32 → Int32 → Int32 → Int32 → wx_St → Option (Int32 × wx_St)) (x1 : Int64) (x8 : Int32) (x9 : Int32) (x10 : Int32) (x11 : Int32) (x13 : Int32) (x14 : Int32) (x15 : Int32) (x16 : Int32) (x17 : Int32) (x18 : Int32) (x19 : Int32) (x20 : Int32) (x21 : Int32) (x22 : Int32) (y0 : Int32) (σ : wx_St) : Option (Int32 × wx_St) :=
  wx_rI σ 16 0 7 0 (fun v315 => if v315 = 0 then
    wx_rI σ 16 0 7 1 (fun v321 => if v321 = 0 then
      if y0 = 0 then
        f_L_same_346 K30 K49 x1 x8 x9 x10 x11 x13 x14 x15 x16 x17 x18 x19 x20 x21 x22 y0 x21 0 σ
       else
        wx_rI σ 16 0 7 2 (fun v336 => wx_rI σ 16 0 7 4 (fun v340 => f_L_same_346 K30 K49 x1 x8 x9 x10 x11 x13 x14 x15 x16 x17 x18 x19 x20 x21 x22 y0 x21 ((10 * v336) * v340) σ))
     else
      f_L_same_351 K30 K49 x1 x8 x9 x10 x11 x13 x14 x15 x16 x17 x18 x19 x20 x21 x22 y0 σ)
   else
    f_L_same_351 K30 K49 x1 x8 x9 x10 x11 x13 x14 x15 x16 x17 x18 x19 x20 x21 x22 y0 σ)
def f_L_same_310  (K30 : Int64 → Int32 → Int32 → Int32 → Int32 → Int32 → wx_St → Option (Int32 × wx_St)) (K49 : Int64 → Int32 → Int32 → Int32 → Int32 → Int32 → Int32 → Int32 → Int32 → Int32 → wx_St → Option (Int32 × wx_St)) (x1 : Int64) (x8 : Int32) (x9 : Int32) (x10 : Int32) (x11 : Int32) (x13 : Int32) (x14 : Int32) (x15 : Int32) (x16 : Int32) (x17 : Int32) (x18 : Int32) (x19 : Int32) (x20 : Int32) (x21 : Int32) (x22 : Int32) (σ : wx_St) : Option (Int32 × wx_St) :=
  f_L_same_311 K30 K49 x1 x8 x9 x10 x11 x13 x14 x15 x16 x17 x18 x19 x20 x21 x22 0 σ
def f_L_same_269  (K30 : Int64 → Int32 → Int32 → Int32 → Int32 → Int32 → wx_St → Option (Int32 × wx_St)) (K49 : Int64 → Int32 → Int32 → Int32 → Int32 → Int32 → Int32 → Int32 → Int32 → Int32 → wx_St → Option (Int32 × wx_St)) (x1 : Int64) (x8 : Int32) (x9 : Int32) (x10 : Int32) (x11 : Int32) (x13 : Int32) (x14 : Int32) (x15 : Int32) (x16 : Int32) (x17 : Int32) (x18 : Int32) (x19 : Int32) (x20 : Int32) (x21 : Int32) (σ : wx_St) : Option (Int32 × wx_St) :=
  wx_o (f_L_touch x18 σ) (fun v274 => if v274 < 0 then
    f_L_same_310 K30 K49 x1 x8 x9 x10 x11 x13 x14 x15 x16 x17 x18 x19 x20 x21 v274 σ
   else
    wx_rI σ 16 3 64 x18 (fun v288 => wx_rI σ 16 1 6 ((2 * v274) + 1) (fun v297 => wx_o (f_L_fed v288 v297 σ) (fun v300 => if v300 = 0 then
      f_L_same_310 K30 K49 x1 x8 x9 x10 x11 x13 x14 x15 x16 x17 x18 x19 x20 x21 v274 σ
     else
      f_L_same_311 K30 K49 x1 x8 x9 x10 x11 x13 x14 x15 x16 x17 x18 x19 x20 x21 v274 1 σ))))
def f_L_same_264  (K30 : Int64 → Int32 → Int32 → Int32 → Int32 → Int32 → wx_St → Option (Int32 × wx_St)) (K49 : Int64 → Int32 → Int32 → Int32 → Int32 → Int32 → Int32 → Int32 → Int32 → Int32 → wx_St → Option (Int32 × wx_St)) (x1 : Int64) (x8 : Int32) (x9 : Int32) (x10 : Int32) (x11 : Int32) (x13 : Int32) (x14 : Int32) (x15 : Int32) (x16 : Int32) (x17 : Int32) (x18 : Int32) (x19 : Int32) (x20 : Int32) (x21 : Int32) (y0 : Int32) (σ : wx_St) : Option (Int32 × wx_St) :=
  if y0 = 0 then
    f_L_same_269 K30 K49 x1 x8 x9 x10 x11 x13 x14 x15 x16 x17 x18 x19 x20 x21 σ
   else
    f_L_same_267 x1 x8 x9 x10 x11 x13 x14 x15 x16 x17 x18 x19 x20 x21 σ
def f_L_same_250  (K30 : Int64 → Int32 → Int32 → Int32 → Int32 → Int32 → wx_St → Option (Int32 × wx_St)) (K49 : Int64 → Int32 → Int32 → Int32 → Int32 → Int32 → Int32 → Int32 → Int32 → Int32 → wx_St → Option (Int32 × wx_St)) (x1 : Int64) (x8 : Int32) (x9 : Int32) (x10 : Int32) (x11 : Int32) (x13 : Int32) (x14 : Int32) (x15 : Int32) (x16 : Int32) (x17 : Int32) (x18 : Int32) (x19 : Int32) (x20 : Int32) (x21 : Int32) (σ : wx_St) : Option (Int32 × wx_St) :=
  if x21 = 0 then
    wx_bM σ (f_X5_at x13 x17 1 σ) (fun v261 σ261 => f_L_same_264 K30 K49 x1 x8 x9 x10 x11 x13 x14 x15 x16 x17 x18 x19 x20 x21 v261 σ261)
   else
    f_L_same_267 x1 x8 x9 x10 x11 x13 x14 x15 x16 x17 x18 x19 x20 x21 σ
def f_L_same_232  (K30 : Int64 → Int32 → Int32 → Int32 → Int32 → Int32 → wx_St → Option (Int32 × wx_St)) (K49 : Int64 → Int32 → Int32 → Int32 → Int32 → Int32 → Int32 → Int32 → Int32 → Int32 → wx_St → Option (Int32 × wx_St)) (x1 : Int64) (x8 : Int32) (x9 : Int32) (x10 : Int32) (x11 : Int32) (x13 : Int32) (x14 : Int32) (x15 : Int32) (x16 : Int32) (x17 : Int32) (x18 : Int32) (x19 : Int32) (x20 : Int32) (y0 : Int32) (σ : wx_St) : Option (Int32 × wx_St) :=
  if y0 < 0 then
    f_L_same_267 x1 x8 x9 x10 x11 x13 x14 x15 x16 x17 x18 x19 x20 y0 σ
   else
    wx_rI σ 16 0 7 4 (fun v241 => if v241 = 0 then
      f_L_same_250 K30 K49 x1 x8 x9 x10 x11 x13 x14 x15 x16 x17 x18 x19 x20 y0 σ
     else
      if x11 = 0 then
        f_L_same_250 K30 K49 x1 x8 x9 x10 x11 x13 x14 x15 x16 x17 x18 x19 x20 y0 σ
       else
        f_L_same_269 K30 K49 x1 x8 x9 x10 x11 x13 x14 x15 x16 x17 x18 x19 x20 y0 σ)
def f_L_same_210  (K30 : Int64 → Int32 → Int32 → Int32 → Int32 → Int32 → wx_St → Option (Int32 × wx_St)) (K49 : Int64 → Int32 → Int32 → Int32 → Int32 → Int32 → Int32 → Int32 → Int32 → Int32 → wx_St → Option (Int32 × wx_St)) (x1 : Int64) (x8 : Int32) (x9 : Int32) (x10 : Int32) (x11 : Int32) (x13 : Int32) (x14 : Int32) (x15 : Int32) (x16 : Int32) (x17 : Int32) (x18 : Int32) (x19 : Int32) (x20 : Int32) (y0 : Int32) (σ : wx_St) : Option (Int32 × wx_St) :=
  wx_o (f_L_touch x18 σ) (fun v215 => if y0 = v215 then
    wx_bM σ (f_X5_at x13 x17 2 σ) (fun v229 σ229 => f_L_same_232 K30 K49 x1 x8 x9 x10 x11 x13 x14 x15 x16 x17 x18 x19 x20 v229 σ229)
   else
    f_L_same_221 x1 x8 x9 x10 x11 x13 x14 x15 x16 x17 x18 x19 x20 σ)
def f_L_same_197  (K30 : Int64 → Int32 → Int32 → Int32 → Int32 → Int32 → wx_St → Option (Int32 × wx_St)) (K49 : Int64 → Int32 → Int32 → Int32 → Int32 → Int32 → Int32 → Int32 → Int32 → Int32 → wx_St → Option (Int32 × wx_St)) (x1 : Int64) (x8 : Int32) (x9 : Int32) (x10 : Int32) (x11 : Int32) (x13 : Int32) (x14 : Int32) (x15 : Int32) (x16 : Int32) (x17 : Int32) (x18 : Int32) (x19 : Int32) (x20 : Int32) (y0 : Int32) (y1 : Int32) (σ : wx_St) : Option (Int32 × wx_St) :=
  if y0 = y1 then
    wx_bM σ (f_X5_at x13 x17 6 σ) (fun v207 σ207 => f_L_same_210 K30 K49 x1 x8 x9 x10 x11 x13 x14 x15 x16 x17 x18 x19 x20 v207 σ207)
   else
    f_L_same_221 x1 x8 x9 x10 x11 x13 x14 x15 x16 x17 x18 x19 x20 σ
def f_L_same_187  (K30 : Int64 → Int32 → Int32 → Int32 → Int32 → Int32 → wx_St → Option (Int32 × wx_St)) (K49 : Int64 → Int32 → Int32 → Int32 → Int32 → Int32 → Int32 → Int32 → Int32 → Int32 → wx_St → Option (Int32 × wx_St)) (x1 : Int64) (x8 : Int32) (x9 : Int32) (x10 : Int32) (x11 : Int32) (x13 : Int32) (x14 : Int32) (x15 : Int32) (x16 : Int32) (x17 : Int32) (x18 : Int32) (x19 : Int32) (x20 : Int32) (y0 : Int32) (σ : wx_St) : Option (Int32 × wx_St) :=
  if x19 = 0 then
    f_L_same_197 K30 K49 x1 x8 x9 x10 x11 x13 x14 x15 x16 x17 x18 x19 x20 y0 0 σ
   else
    f_L_same_197 K30 K49 x1 x8 x9 x10 x11 x13 x14 x15 x16 x17 x18 x19 x20 y0 1 σ
def f_L_same_170  (K30 : Int64 → Int32 → Int32 → Int32 → Int32 → Int32 → wx_St → Option (Int32 × wx_St)) (K49 : Int64 → Int32 → Int32 → Int32 → Int32 → Int32 → Int32 → Int32 → Int32 → Int32 → wx_St → Option (Int32 × wx_St)) (x1 : Int64) (x8 : Int32) (x9 : Int32) (x10 : Int32) (x11 : Int32) (x13 : Int32) (x14 : Int32) (x15 : Int32) (x16 : Int32) (x17 : Int32) (x18 : Int32) (x19 : Int32) (x20 : Int32) (y0 : Int32) (σ : wx_St) : Option (Int32 × wx_St) :=
  wx_rI σ 16 3 64 x18 (fun v174 => if y0 = v174 then
    wx_bM σ (f_X5_at x13 x17 3 σ) (fun v184 σ184 => f_L_same_187 K30 K49 x1 x8 x9 x10 x11 x13 x14 x15 x16 x17 x18 x19 x20 v184 σ184)
   else
    f_L_same_221 x1 x8 x9 x10 x11 x13 x14 x15 x16 x17 x18 x19 x20 σ)
def f_L_same_148  (K30 : Int64 → Int32 → Int32 → Int32 → Int32 → Int32 → wx_St → Option (Int32 × wx_St)) (K49 : Int64 → Int32 → Int32 → Int32 → Int32 → Int32 → Int32 → Int32 → Int32 → Int32 → wx_St → Option (Int32 × wx_St)) (x1 : Int64) (x8 : Int32) (x9 : Int32) (x10 : Int32) (x11 : Int32) (x13 : Int32) (x14 : Int32) (x15 : Int32) (x16 : Int32) (x17 : Int32) (x18 : Int32) (x19 : Int32) (x20 : Int32) (y0 : Int32) (y1 : Int32) (σ : wx_St) : Option (Int32 × wx_St) :=
  wx_bM σ (f_X5_at x13 x17 0 σ) (fun v167 σ167 => f_L_same_170 K30 K49 x1 x8 x9 x10 x11 x13 x14 (y0 ||| y1) (x16 ||| (x20 <<< (x17 &&& 31))) x17 x18 x19 x20 v167 σ167)
def f_L_same_130  (K30 : Int64 → Int32 → Int32 → Int32 → Int32 → Int32 → wx_St → Option (Int32 × wx_St)) (K49 : Int64 → Int32 → Int32 → Int32 → Int32 → Int32 → Int32 → Int32 → Int32 → Int32 → wx_St → Option (Int32 × wx_St)) (x1 : Int64) (x8 : Int32) (x9 : Int32) (x10 : Int32) (x11 : Int32) (x13 : Int32) (x14 : Int32) (x15 : Int32) (x16 : Int32) (x17 : Int32) (x18 : Int32) (x19 : Int32) (x20 : Int32) (y0 : Int32) (y1 : Int32) (σ : wx_St) : Option (Int32 × wx_St) :=
  if x19 = 0 then
    f_L_same_148 K30 K49 x1 x8 x9 x10 x11 x13 (y0 ||| y1) x15 x16 x17 x18 x19 x20 x15 0 σ
   else
    f_L_same_148 K30 K49 x1 x8 x9 x10 x11 x13 (y0 ||| y1) x15 x16 x17 x18 x19 x20 x15 (1 <<< (x17 &&& 31)) σ
def f_L_same_98  (K30 : Int64 → Int32 → Int32 → Int32 → Int32 → Int32 → wx_St → Option (Int32 × wx_St)) (K49 : Int64 → Int32 → Int32 → Int32 → Int32 → Int32 → Int32 → Int32 → Int32 → Int32 → wx_St → Option (Int32 × wx_St)) (x1 : Int64) (x8 : Int32) (x9 : Int32) (x10 : Int32) (x11 : Int32) (x13 : Int32) (x14 : Int32) (x15 : Int32) (x16 : Int32) (x17 : Int32) (x18 : Int32) (x19 : Int32) (y0 : Int32) (σ : wx_St) : Option (Int32 × wx_St) :=
  wx_rI σ 16 3 64 x18 (fun v106 => wx_rI σ 16 5 8 v106 (fun v108 => wx_w (wx_sI σ 16 5 (Int32.toNatClampNeg v106) (v108 + 1)) 8 v106 (fun σ111 => wx_rI σ111 16 3 64 x18 (fun v118 => if v118 ≤ 0 then
    f_L_same_130 K30 K49 x1 x8 x9 x10 x11 x13 x14 x15 x16 x17 x18 x19 y0 x14 0 σ111
   else
    f_L_same_130 K30 K49 x1 x8 x9 x10 x11 x13 x14 x15 x16 x17 x18 x19 y0 x14 (1 <<< (x17 &&& 31)) σ111))))
def f_L_same_97  (K30 : Int64 → Int32 → Int32 → Int32 → Int32 → Int32 → wx_St → Option (Int32 × wx_St)) (K49 : Int64 → Int32 → Int32 → Int32 → Int32 → Int32 → Int32 → Int32 → Int32 → Int32 → wx_St → Option (Int32 × wx_St)) (x1 : Int64) (x8 : Int32) (x9 : Int32) (x10 : Int32) (x11 : Int32) (x13 : Int32) (x14 : Int32) (x15 : Int32) (x16 : Int32) (x17 : Int32) (x18 : Int32) (x19 : Int32) (σ : wx_St) : Option (Int32 × wx_St) :=
  f_L_same_98 K30 K49 x1 x8 x9 x10 x11 x13 x14 x15 x16 x17 x18 x19 0 σ
def f_L_same_433   (x1 : Int64) (x8 : Int32) (x9 : Int32) (x10 : Int32) (x11 : Int32) (x13 : Int32) (x14 : Int32) (x15 : Int32) (x16 : Int32) (x17 : Int32) (σ : wx_St) : Option (Int32 × wx_St) :=
  some (0, σ)
def f_L_same_459  (K30 : Int64 → Int32 → Int32 → Int32 → Int32 → Int32 → wx_St → Option (Int32 × wx_St)) (K438 : Int64 → Int32 → Int32 → Int32 → Int32 → Int32 → Int32 → Int32 → Int32 → Int32 → wx_St → Option (Int32 × wx_St)) (x1 : Int64) (x8 : Int32) (x9 : Int32) (x10 : Int32) (x11 : Int32) (x13 : Int32) (x14 : Int32) (x15 : Int32) (x16 : Int32) (x17 : Int32) (y0 : Int32) (σ : wx_St) : Option (Int32 × wx_St) :=
  if y0 = ((x16 >>> (x17 &&& 31)) &&& 1) then
    K438 x1 x8 x9 x10 x11 x13 x14 x15 x16 (x17 + 1) σ
   else
    some (0, σ)
def f_L_same_477  (K30 : Int64 → Int32 → Int32 → Int32 → Int32 → Int32 → wx_St → Option (Int32 × wx_St)) (x1 : Int64) (x8 : Int32) (x9 : Int32) (x10 : Int32) (x11 : Int32) (x13 : Int32) (x14 : Int32) (x15 : Int32) (x16 : Int32) (x17 : Int32) (σ : wx_St) : Option (Int32 × wx_St) :=
  K30 x1 x8 x9 x10 x11 (x13 + 1) σ
def f_L_same_438  (K30 : Int64 → Int32 → Int32 → Int32 → Int32 → Int32 → wx_St → Option (Int32 × wx_St)) : Nat → Int64 → Int32 → Int32 → Int32 → Int32 → Int32 → Int32 → Int32 → Int32 → Int32 → wx_St → Option (Int32 × wx_St)
  | 0, _, _, _, _, _, _, _, _, _, _, _ => none
  | n + 1, x1, x8, x9, x10, x11, x13, x14, x15, x16, x17, σ =>
  if 5 ≤ x17 then
    f_L_same_477 K30 x1 x8 x9 x10 x11 x13 x14 x15 x16 x17 σ
   else
    if x13 = 1 then
      wx_bM σ (f_X5_at x13 x17 4 σ) (fun v456 σ456 => f_L_same_459 K30 (f_L_same_438 K30 n) x1 x8 x9 x10 x11 x13 x14 x15 x16 x17 v456 σ456)
     else
      f_L_same_477 K30 x1 x8 x9 x10 x11 x13 x14 x15 x16 x17 σ
def f_L_same_428  (K30 : Int64 → Int32 → Int32 → Int32 → Int32 → Int32 → wx_St → Option (Int32 × wx_St)) (x1 : Int64) (x8 : Int32) (x9 : Int32) (x10 : Int32) (x11 : Int32) (x13 : Int32) (x14 : Int32) (x15 : Int32) (x16 : Int32) (x17 : Int32) (y0 : Int32) (σ : wx_St) : Option (Int32 × wx_St) :=
  if y0 = x16 then
    f_L_same_438 K30 2000 x1 x8 x9 x10 x11 x13 x14 x15 x16 0 σ
   else
    f_L_same_433 x1 x8 x9 x10 x11 x13 x14 x15 x16 x17 σ
def f_L_same_416  (K30 : Int64 → Int32 → Int32 → Int32 → Int32 → Int32 → wx_St → Option (Int32 × wx_St)) (x1 : Int64) (x8 : Int32) (x9 : Int32) (x10 : Int32) (x11 : Int32) (x13 : Int32) (x14 : Int32) (x15 : Int32) (x16 : Int32) (x17 : Int32) (y0 : Int32) (σ : wx_St) : Option (Int32 × wx_St) :=
  if y0 = x15 then
    wx_bM σ (f_X5_row x13 2 σ) (fun v425 σ425 => f_L_same_428 K30 x1 x8 x9 x10 x11 x13 x14 x15 x16 x17 v425 σ425)
   else
    f_L_same_433 x1 x8 x9 x10 x11 x13 x14 x15 x16 x17 σ
def f_L_same_404  (K30 : Int64 → Int32 → Int32 → Int32 → Int32 → Int32 → wx_St → Option (Int32 × wx_St)) (x1 : Int64) (x8 : Int32) (x9 : Int32) (x10 : Int32) (x11 : Int32) (x13 : Int32) (x14 : Int32) (x15 : Int32) (x16 : Int32) (x17 : Int32) (y0 : Int32) (σ : wx_St) : Option (Int32 × wx_St) :=
  if y0 = x14 then
    wx_bM σ (f_X5_row x13 1 σ) (fun v413 σ413 => f_L_same_416 K30 x1 x8 x9 x10 x11 x13 x14 x15 x16 x17 v413 σ413)
   else
    f_L_same_433 x1 x8 x9 x10 x11 x13 x14 x15 x16 x17 σ
def f_L_same_49  (K30 : Int64 → Int32 → Int32 → Int32 → Int32 → Int32 → wx_St → Option (Int32 × wx_St)) : Nat → Int64 → Int32 → Int32 → Int32 → Int32 → Int32 → Int32 → Int32 → Int32 → Int32 → wx_St → Option (Int32 × wx_St)
  | 0, _, _, _, _, _, _, _, _, _, _, _ => none
  | n + 1, x1, x8, x9, x10, x11, x13, x14, x15, x16, x17, σ =>
  if 8 ≤ x17 then
    wx_bM σ (f_X5_row x13 0 σ) (fun v401 σ401 => f_L_same_404 K30 x1 x8 x9 x10 x11 x13 x14 x15 x16 x17 v401 σ401)
   else
    wx_o (f_L_suspect ((8 * x13) + x17) σ) (fun v72 => if v72 = 0 then
      f_L_same_97 K30 (f_L_same_49 K30 n) x1 x8 x9 x10 x11 x13 x14 x15 x16 x17 ((8 * x13) + x17) v72 σ
     else
      if (lg_cmp ((x1 >>> (((8 * x13) + x17).toInt64 &&& 63)) &&& (1 : Int64)) (1 : Int64)) = 0 then
        f_L_same_98 K30 (f_L_same_49 K30 n) x1 x8 x9 x10 x11 x13 x14 x15 x16 x17 ((8 * x13) + x17) v72 1 σ
       else
        f_L_same_97 K30 (f_L_same_49 K30 n) x1 x8 x9 x10 x11 x13 x14 x15 x16 x17 ((8 * x13) + x17) v72 σ)
def f_L_same_592   (x1 : Int64) (x8 : Int32) (x9 : Int32) (x10 : Int32) (x11 : Int32) (x13 : Int32) (σ : wx_St) : Option (Int32 × wx_St) :=
  some (0, σ)
def f_L_same_589  (K486 : Int64 → Int32 → Int32 → Int32 → Int32 → Int32 → wx_St → Option (Int32 × wx_St)) (x1 : Int64) (x8 : Int32) (x9 : Int32) (x10 : Int32) (x11 : Int32) (x13 : Int32) (y0 : Int32) (y1 : Int32) (σ : wx_St) : Option (Int32 × wx_St) :=
  if y0 = y1 then
    K486 x1 x8 x9 x10 x11 (x13 + 1) σ
   else
    f_L_same_592 x1 x8 x9 x10 x11 x13 σ
def f_L_same_667   (x1 : Int64) (x8 : Int32) (x9 : Int32) (x10 : Int32) (x11 : Int32) (x13 : Int32) (σ : wx_St) : Option (Int32 × wx_St) :=
  some (0, σ)
def f_L_same_715   (x1 : Int64) (x8 : Int32) (x9 : Int32) (x10 : Int32) (x11 : Int32) (x13 : Int32) (σ : wx_St) : Option (Int32 × wx_St) :=
  some (0, σ)
def f_L_same_741  (K726 : Int64 → Int32 → Int32 → Int32 → Int32 → Int32 → wx_St → Option (Int32 × wx_St)) (x1 : Int64) (x8 : Int32) (x9 : Int32) (x10 : Int32) (x11 : Int32) (x13 : Int32) (y0 : Int32) (σ : wx_St) : Option (Int32 × wx_St) :=
  wx_rI σ 16 0 7 x13 (fun v744 => if y0 = v744 then
    K726 x1 x8 x9 x10 x11 (x13 + 1) σ
   else
    some (0, σ))
def f_L_same_886   (x1 : Int64) (x8 : Int32) (x9 : Int32) (x10 : Int32) (x11 : Int32) (x13 : Int32) (y0 : Int32) (σ : wx_St) : Option (Int32 × wx_St) :=
  wx_z y0 (some (y0, σ))
def f_L_same_881   (x1 : Int64) (x8 : Int32) (x9 : Int32) (x10 : Int32) (x11 : Int32) (x13 : Int32) (σ : wx_St) : Option (Int32 × wx_St) :=
  f_L_same_886 x1 x8 x9 x10 x11 x13 1 σ
def f_L_same_885   (x1 : Int64) (x8 : Int32) (x9 : Int32) (x10 : Int32) (x11 : Int32) (x13 : Int32) (σ : wx_St) : Option (Int32 × wx_St) :=
  f_L_same_886 x1 x8 x9 x10 x11 x13 0 σ
def f_L_same_869   (x1 : Int64) (x8 : Int32) (x9 : Int32) (x10 : Int32) (x11 : Int32) (x13 : Int32) (y0 : Int32) (σ : wx_St) : Option (Int32 × wx_St) :=
  if y0 = ((x9 * (x9 - 1)) / 2) then
    f_L_same_881 x1 x8 x9 x10 x11 x13 σ
   else
    f_L_same_885 x1 x8 x9 x10 x11 x13 σ
def f_L_same_826   (x1 : Int64) (x8 : Int32) (x9 : Int32) (x10 : Int32) (x11 : Int32) (x13 : Int32) (y0 : Int32) (σ : wx_St) : Option (Int32 × wx_St) :=
  if y0 = x10 then
    wx_rI σ 16 0 7 5 (fun v834 => wx_o (f_X5_ofTouch v834 0 σ) (fun v836 => if v836 = (-1) then
      wx_rI σ 16 0 7 6 (fun v847 => wx_o (f_X5_reading v847 0 σ) (fun v849 => if v849 = (-1) then
        wx_rI σ 16 0 7 6 (fun v859 => if 0 < v859 then
          f_L_same_881 x1 x8 x9 x10 x11 x13 σ
         else
          wx_bM σ (f_X5_count 7 σ) (fun v866 σ866 => f_L_same_869 x1 x8 x9 x10 x11 x13 v866 σ866))
       else
        f_L_same_885 x1 x8 x9 x10 x11 x13 σ))
     else
      f_L_same_885 x1 x8 x9 x10 x11 x13 σ))
   else
    f_L_same_885 x1 x8 x9 x10 x11 x13 σ
def f_L_same_815   (x1 : Int64) (x8 : Int32) (x9 : Int32) (x10 : Int32) (x11 : Int32) (x13 : Int32) (y0 : Int32) (σ : wx_St) : Option (Int32 × wx_St) :=
  if y0 = x9 then
    wx_bM σ (f_X5_count 6 σ) (fun v823 σ823 => f_L_same_826 x1 x8 x9 x10 x11 x13 v823 σ823)
   else
    f_L_same_885 x1 x8 x9 x10 x11 x13 σ
def f_L_same_805   (x1 : Int64) (x8 : Int32) (x9 : Int32) (x10 : Int32) (x11 : Int32) (x13 : Int32) (y0 : Int32) (σ : wx_St) : Option (Int32 × wx_St) :=
  if y0 = x8 then
    wx_bM σ (f_X5_count 5 σ) (fun v812 σ812 => f_L_same_815 x1 x8 x9 x10 x11 x13 v812 σ812)
   else
    f_L_same_885 x1 x8 x9 x10 x11 x13 σ
def f_L_same_793   (x1 : Int64) (x8 : Int32) (x9 : Int32) (x10 : Int32) (x11 : Int32) (x13 : Int32) (y0 : Int32) (σ : wx_St) : Option (Int32 × wx_St) :=
  wx_rI σ 16 0 7 6 (fun v796 => if y0 = v796 then
    wx_bM σ (f_X5_count 4 σ) (fun v802 σ802 => f_L_same_805 x1 x8 x9 x10 x11 x13 v802 σ802)
   else
    f_L_same_885 x1 x8 x9 x10 x11 x13 σ)
def f_L_same_783   (x1 : Int64) (x8 : Int32) (x9 : Int32) (x10 : Int32) (x11 : Int32) (x13 : Int32) (y0 : Int32) (σ : wx_St) : Option (Int32 × wx_St) :=
  if y0 = x11 then
    wx_bM σ (f_X5_count 3 σ) (fun v790 σ790 => f_L_same_793 x1 x8 x9 x10 x11 x13 v790 σ790)
   else
    f_L_same_885 x1 x8 x9 x10 x11 x13 σ
def f_L_same_772   (x1 : Int64) (x8 : Int32) (x9 : Int32) (x10 : Int32) (x11 : Int32) (x13 : Int32) (y0 : Int32) (σ : wx_St) : Option (Int32 × wx_St) :=
  wx_rI σ 16 0 7 5 (fun v774 => if y0 = v774 then
    wx_bM σ (f_X5_count 2 σ) (fun v780 σ780 => f_L_same_783 x1 x8 x9 x10 x11 x13 v780 σ780)
   else
    f_L_same_885 x1 x8 x9 x10 x11 x13 σ)
def f_L_same_761   (x1 : Int64) (x8 : Int32) (x9 : Int32) (x10 : Int32) (x11 : Int32) (x13 : Int32) (y0 : Int32) (σ : wx_St) : Option (Int32 × wx_St) :=
  wx_rI σ 16 0 7 4 (fun v763 => if y0 = v763 then
    wx_bM σ (f_X5_count 1 σ) (fun v769 σ769 => f_L_same_772 x1 x8 x9 x10 x11 x13 v769 σ769)
   else
    f_L_same_885 x1 x8 x9 x10 x11 x13 σ)
def f_L_same_726   : Nat → Int64 → Int32 → Int32 → Int32 → Int32 → Int32 → wx_St → Option (Int32 × wx_St)
  | 0, _, _, _, _, _, _, _ => none
  | n + 1, x1, x8, x9, x10, x11, x13, σ =>
  if 4 ≤ x13 then
    wx_bM σ (f_X5_count 0 σ) (fun v758 σ758 => f_L_same_761 x1 x8 x9 x10 x11 x13 v758 σ758)
   else
    wx_bM σ (f_X5_count (9 + x13) σ) (fun v738 σ738 => f_L_same_741 (f_L_same_726 n) x1 x8 x9 x10 x11 x13 v738 σ738)
def f_L_same_678   : Nat → Int64 → Int32 → Int32 → Int32 → Int32 → Int32 → wx_St → Option (Int32 × wx_St)
  | 0, _, _, _, _, _, _, _ => none
  | n + 1, x1, x8, x9, x10, x11, x13, σ =>
  if 8 ≤ x13 then
    f_L_same_726 2000 x1 x8 x9 x10 x11 0 σ
   else
    wx_o (f_X5_ofNet x13 0 σ) (fun v689 => wx_rI σ 16 5 8 x13 (fun v696 => if v689 = v696 then
      wx_o (f_X5_ofNet x13 1 σ) (fun v704 => wx_rI σ 16 4 8 x13 (fun v711 => if v704 = v711 then
        (f_L_same_678 n) x1 x8 x9 x10 x11 (x13 + 1) σ
       else
        f_L_same_715 x1 x8 x9 x10 x11 x13 σ))
     else
      f_L_same_715 x1 x8 x9 x10 x11 x13 σ))
def f_L_same_603   : Nat → Int64 → Int32 → Int32 → Int32 → Int32 → Int32 → wx_St → Option (Int32 × wx_St)
  | 0, _, _, _, _, _, _, _ => none
  | n + 1, x1, x8, x9, x10, x11, x13, σ =>
  wx_rI σ 16 0 7 6 (fun v608 => if v608 ≤ x13 then
    f_L_same_678 2000 x1 x8 x9 x10 x11 1 σ
   else
    wx_o (f_X5_reading x13 0 σ) (fun v616 => wx_rI σ 16 2 24 (3 * x13) (fun v625 => if v616 = v625 then
      wx_o (f_X5_reading x13 1 σ) (fun v633 => wx_rI σ 16 2 24 ((3 * x13) + 1) (fun v644 => if v633 = v644 then
        wx_o (f_X5_reading x13 2 σ) (fun v652 => wx_rI σ 16 2 24 ((3 * x13) + 2) (fun v663 => if v652 = v663 then
          (f_L_same_603 n) x1 x8 x9 x10 x11 (x13 + 1) σ
         else
          f_L_same_667 x1 x8 x9 x10 x11 x13 σ))
       else
        f_L_same_667 x1 x8 x9 x10 x11 x13 σ))
     else
      f_L_same_667 x1 x8 x9 x10 x11 x13 σ)))
def f_L_same_486   : Nat → Int64 → Int32 → Int32 → Int32 → Int32 → Int32 → wx_St → Option (Int32 × wx_St)
  | 0, _, _, _, _, _, _, _ => none
  | n + 1, x1, x8, x9, x10, x11, x13, σ =>
  wx_rI σ 16 0 7 5 (fun v490 => if v490 ≤ x13 then
    f_L_same_603 2000 x1 x8 x9 x10 x11 0 σ
   else
    wx_o (f_X5_ofTouch x13 0 σ) (fun v498 => wx_rI σ 16 1 6 (2 * x13) (fun v507 => if v498 = v507 then
      wx_o (f_X5_ofTouch x13 1 σ) (fun v515 => wx_rI σ 16 1 6 (2 * x13) (fun v526 => wx_rI σ 16 3 64 v526 (fun v527 => if v515 = v527 then
        wx_o (f_X5_ofTouch x13 2 σ) (fun v535 => wx_rI σ 16 1 6 ((2 * x13) + 1) (fun v546 => if v535 = v546 then
          wx_o (f_X5_ofTouch x13 3 σ) (fun v554 => wx_rI σ 16 1 6 (2 * x13) (fun v565 => wx_rI σ 16 3 64 v565 (fun v566 => wx_rI σ 16 1 6 ((2 * x13) + 1) (fun v575 => wx_o (f_L_fed v566 v575 σ) (fun v578 => if v578 = 0 then
            f_L_same_589 (f_L_same_486 n) x1 x8 x9 x10 x11 x13 v554 0 σ
           else
            f_L_same_589 (f_L_same_486 n) x1 x8 x9 x10 x11 x13 v554 1 σ)))))
         else
          f_L_same_592 x1 x8 x9 x10 x11 x13 σ))
       else
        f_L_same_592 x1 x8 x9 x10 x11 x13 σ)))
     else
      f_L_same_592 x1 x8 x9 x10 x11 x13 σ)))
def f_L_same_30   : Nat → Int64 → Int32 → Int32 → Int32 → Int32 → Int32 → wx_St → Option (Int32 × wx_St)
  | 0, _, _, _, _, _, _, _ => none
  | n + 1, x1, x8, x9, x10, x11, x13, σ =>
  if 8 ≤ x13 then
    f_L_same_486 2000 x1 x8 x9 x10 x11 0 σ
   else
    f_L_same_49 (f_L_same_30 n) 2000 x1 x8 x9 x10 x11 x13 0 0 0 0 σ
def f_L_same_25   (x1 : Int64) (x8 : Int32) (x9 : Int32) (x10 : Int32) (x11 : Int32) (σ : wx_St) : Option (Int32 × wx_St) :=
  f_L_same_30 2000 x1 x8 x9 x10 x11 0 σ
def f_L_same   (x1 : Int64) (σ : wx_St) : Option (Int32 × wx_St) :=
  wx_o (f_L_live σ) (fun v16 => wx_mk σ (fun σ23 => f_L_same_25 x1 0 0 0 v16 σ23))
variable {p : Program} {l : Launch} {e : Env} {s : State} {m : MethodId} {args : Array Value} {below : List Frame} {meth : Method} {c : Code} {D : va_G} {ad : Nat → Nat → Nat} {rd : Nat → Nat} {ca : Nat → ClassId} {A : Nat → Prop}
theorem k_L_same_w0 : Cond.arrayClass .int ∈ wsL_same := by decide +kernel
set_option maxRecDepth 20000 in
set_option maxHeartbeats 4000000 in
theorem m_L_same_221  {r : Int32} {σ' : wx_St}  {x1 : Int64} {x8 : Int32} {x9 : Int32} {x10 : Int32} {x11 : Int32} {x13 : Int32} {x14 : Int32} {x15 : Int32} {x16 : Int32} {x17 : Int32} {x18 : Int32} {x19 : Int32} {x20 : Int32} {σ : wx_St} (h : f_L_same_221 x1 x8 x9 x10 x11 x13 x14 x15 x16 x17 x18 x19 x20 σ = some (r, σ')) : wx_n σ.2.2.2.2 ≤ wx_n σ'.2.2.2.2 := by
  unfold f_L_same_221 at h
  obtain ⟨rfl, rfl⟩ := wx_ret_ok h
  exact Nat.le_refl _
set_option maxRecDepth 20000 in
set_option maxHeartbeats 4000000 in
theorem b_L_same_221 (B : wx_B p s m args meth c cL_same 24 (some .boolean) wsL_same RL D ad ca A)    {r : Int32} {σ' : wx_St} {mc : Nat} {mm : Nat}  {x1 : Int64} {x8 : Int32} {x9 : Int32} {x10 : Int32} {x11 : Int32} {x13 : Int32} {x14 : Int32} {x15 : Int32} {x16 : Int32} {x17 : Int32} {x18 : Int32} {x19 : Int32} {x20 : Int32} {σ : wx_St} {k : Nat} (hk : k + wx_n σ'.2.2.2.2 ≤ mc + wx_n σ.2.2.2.2)  (h : f_L_same_221 x1 x8 x9 x10 x11 x13 x14 x15 x16 x17 x18 x19 x20 σ = some (r, σ')) {rd : Nat → Nat} {H : Heap} {locs : List Loc} (Z : wx_ZM D ad rd ca A s.heap.size mm σ H) (hS : va_S A s.heap H locs) {ls : Array Slot} (hl : lv_has ls 24 [(0, .ref (ad 11 99)), (1, .long x1), (3, .ref (ad 16 0)), (4, .ref (ad 16 1)), (5, .ref (ad 16 2)), (6, .ref (ad 16 3)), (7, .ref (ad 16 4)), (8, .int x8), (9, .int x9), (10, .int x10), (11, .int x11), (12, .ref mm), (13, .int x13), (14, .int x14), (15, .int x15), (16, .int x16), (17, .int x17), (18, .int x18), (19, .int x19), (20, .int x20)]) : W p l e ({ frames := 7, cells := mc, slots := 6464 * mc, locals := 174 } : Room) s m args below meth c H locs k (6464 * k) (MQ below (wx_QA D ad ca A (some (.int r)) σ') args s mc (6464 * mc) A) (F0 m 221 ls []) := by
  obtain ⟨hx, hb, hml, hr, hts, hown, hlk, hC, hA⟩ := id B
  have hm := m_L_same_221 h
  unfold f_L_same_221 at h
  refine lv_iconst (v := 0) hx hb dL_same_221 (by decide) ?_
  obtain ⟨rfl, rfl⟩ := wx_ret_ok h
  refine W.widen (k := mc) (n := 6464 * mc) (by omega) (by omega) ?_
  exact W.zret hx hb hr rfl (fun t ht hW => ⟨rfl, ⟨_, by rw [ht]; exact Z.out⟩, hS.F ht⟩) hS.2.2 dL_same_222
set_option maxRecDepth 20000 in
set_option maxHeartbeats 4000000 in
theorem m_L_same_267  {r : Int32} {σ' : wx_St}  {x1 : Int64} {x8 : Int32} {x9 : Int32} {x10 : Int32} {x11 : Int32} {x13 : Int32} {x14 : Int32} {x15 : Int32} {x16 : Int32} {x17 : Int32} {x18 : Int32} {x19 : Int32} {x20 : Int32} {x21 : Int32} {σ : wx_St} (h : f_L_same_267 x1 x8 x9 x10 x11 x13 x14 x15 x16 x17 x18 x19 x20 x21 σ = some (r, σ')) : wx_n σ.2.2.2.2 ≤ wx_n σ'.2.2.2.2 := by
  unfold f_L_same_267 at h
  obtain ⟨rfl, rfl⟩ := wx_ret_ok h
  exact Nat.le_refl _
set_option maxRecDepth 20000 in
set_option maxHeartbeats 4000000 in
theorem b_L_same_267 (B : wx_B p s m args meth c cL_same 24 (some .boolean) wsL_same RL D ad ca A)    {r : Int32} {σ' : wx_St} {mc : Nat} {mm : Nat}  {x1 : Int64} {x8 : Int32} {x9 : Int32} {x10 : Int32} {x11 : Int32} {x13 : Int32} {x14 : Int32} {x15 : Int32} {x16 : Int32} {x17 : Int32} {x18 : Int32} {x19 : Int32} {x20 : Int32} {x21 : Int32} {σ : wx_St} {k : Nat} (hk : k + wx_n σ'.2.2.2.2 ≤ mc + wx_n σ.2.2.2.2)  (h : f_L_same_267 x1 x8 x9 x10 x11 x13 x14 x15 x16 x17 x18 x19 x20 x21 σ = some (r, σ')) {rd : Nat → Nat} {H : Heap} {locs : List Loc} (Z : wx_ZM D ad rd ca A s.heap.size mm σ H) (hS : va_S A s.heap H locs) {ls : Array Slot} (hl : lv_has ls 24 [(0, .ref (ad 11 99)), (1, .long x1), (3, .ref (ad 16 0)), (4, .ref (ad 16 1)), (5, .ref (ad 16 2)), (6, .ref (ad 16 3)), (7, .ref (ad 16 4)), (8, .int x8), (9, .int x9), (10, .int x10), (11, .int x11), (12, .ref mm), (13, .int x13), (14, .int x14), (15, .int x15), (16, .int x16), (17, .int x17), (18, .int x18), (19, .int x19), (20, .int x20), (21, .int x21)]) : W p l e ({ frames := 7, cells := mc, slots := 6464 * mc, locals := 174 } : Room) s m args below meth c H locs k (6464 * k) (MQ below (wx_QA D ad ca A (some (.int r)) σ') args s mc (6464 * mc) A) (F0 m 267 ls []) := by
  obtain ⟨hx, hb, hml, hr, hts, hown, hlk, hC, hA⟩ := id B
  have hm := m_L_same_267 h
  unfold f_L_same_267 at h
  refine lv_iconst (v := 0) hx hb dL_same_267 (by decide) ?_
  obtain ⟨rfl, rfl⟩ := wx_ret_ok h
  refine W.widen (k := mc) (n := 6464 * mc) (by omega) (by omega) ?_
  exact W.zret hx hb hr rfl (fun t ht hW => ⟨rfl, ⟨_, by rw [ht]; exact Z.out⟩, hS.F ht⟩) hS.2.2 dL_same_268
set_option maxRecDepth 20000 in
set_option maxHeartbeats 4000000 in
theorem m_L_same_388  {r : Int32} {σ' : wx_St} {K30 : Int64 → Int32 → Int32 → Int32 → Int32 → Int32 → wx_St → Option (Int32 × wx_St)} (mK30 : ∀ {x1 : Int64} {x8 : Int32} {x9 : Int32} {x10 : Int32} {x11 : Int32} {x13 : Int32} {σ : wx_St}, K30 x1 x8 x9 x10 x11 x13 σ = some (r, σ') → wx_n σ.2.2.2.2 ≤ wx_n σ'.2.2.2.2) {K49 : Int64 → Int32 → Int32 → Int32 → Int32 → Int32 → Int32 → Int32 → Int32 → Int32 → wx_St → Option (Int32 × wx_St)} (mK49 : ∀ {x1 : Int64} {x8 : Int32} {x9 : Int32} {x10 : Int32} {x11 : Int32} {x13 : Int32} {x14 : Int32} {x15 : Int32} {x16 : Int32} {x17 : Int32} {σ : wx_St}, K49 x1 x8 x9 x10 x11 x13 x14 x15 x16 x17 σ = some (r, σ') → wx_n σ.2.2.2.2 ≤ wx_n σ'.2.2.2.2) {x1 : Int64} {x8 : Int32} {x9 : Int32} {x10 : Int32} {x11 : Int32} {x13 : Int32} {x14 : Int32} {x15 : Int32} {x16 : Int32} {x17 : Int32} {x18 : Int32} {x19 : Int32} {x20 : Int32} {x21 : Int32} {x22 : Int32} {x23 : Int32} {y0 : Int32} {y1 : Int32} {σ : wx_St} (h : f_L_same_388 K30 K49 x1 x8 x9 x10 x11 x13 x14 x15 x16 x17 x18 x19 x20 x21 x22 x23 y0 y1 σ = some (r, σ')) : wx_n σ.2.2.2.2 ≤ wx_n σ'.2.2.2.2 := by
  unfold f_L_same_388 at h
  exact mK49 h
set_option maxRecDepth 20000 in
set_option maxHeartbeats 4000000 in
theorem b_L_same_388 (B : wx_B p s m args meth c cL_same 24 (some .boolean) wsL_same RL D ad ca A)    {r : Int32} {σ' : wx_St} {mc : Nat} {mm : Nat} {K30 : Int64 → Int32 → Int32 → Int32 → Int32 → Int32 → wx_St → Option (Int32 × wx_St)} (hK30 : ∀ {x1 : Int64} {x8 : Int32} {x9 : Int32} {x10 : Int32} {x11 : Int32} {x13 : Int32} {σ : wx_St} {k : Nat} (hk : k + wx_n σ'.2.2.2.2 ≤ mc + wx_n σ.2.2.2.2)  (h : K30 x1 x8 x9 x10 x11 x13 σ = some (r, σ')) {rd : Nat → Nat} {H : Heap} {locs : List Loc} (Z : wx_ZM D ad rd ca A s.heap.size mm σ H) (hS : va_S A s.heap H locs) {ls : Array Slot} (hl : lv_has ls 24 [(0, .ref (ad 11 99)), (1, .long x1), (3, .ref (ad 16 0)), (4, .ref (ad 16 1)), (5, .ref (ad 16 2)), (6, .ref (ad 16 3)), (7, .ref (ad 16 4)), (8, .int x8), (9, .int x9), (10, .int x10), (11, .int x11), (12, .ref mm), (13, .int x13)]), W p l e ({ frames := 7, cells := mc, slots := 6464 * mc, locals := 174 } : Room) s m args below meth c H locs k (6464 * k) (MQ below (wx_QA D ad ca A (some (.int r)) σ') args s mc (6464 * mc) A) (F0 m 30 ls [])) (mK30 : ∀ {x1 : Int64} {x8 : Int32} {x9 : Int32} {x10 : Int32} {x11 : Int32} {x13 : Int32} {σ : wx_St}, K30 x1 x8 x9 x10 x11 x13 σ = some (r, σ') → wx_n σ.2.2.2.2 ≤ wx_n σ'.2.2.2.2) {K49 : Int64 → Int32 → Int32 → Int32 → Int32 → Int32 → Int32 → Int32 → Int32 → Int32 → wx_St → Option (Int32 × wx_St)} (hK49 : ∀ {x1 : Int64} {x8 : Int32} {x9 : Int32} {x10 : Int32} {x11 : Int32} {x13 : Int32} {x14 : Int32} {x15 : Int32} {x16 : Int32} {x17 : Int32} {σ : wx_St} {k : Nat} (hk : k + wx_n σ'.2.2.2.2 ≤ mc + wx_n σ.2.2.2.2)  (h : K49 x1 x8 x9 x10 x11 x13 x14 x15 x16 x17 σ = some (r, σ')) {rd : Nat → Nat} {H : Heap} {locs : List Loc} (Z : wx_ZM D ad rd ca A s.heap.size mm σ H) (hS : va_S A s.heap H locs) {ls : Array Slot} (hl : lv_has ls 24 [(0, .ref (ad 11 99)), (1, .long x1), (3, .ref (ad 16 0)), (4, .ref (ad 16 1)), (5, .ref (ad 16 2)), (6, .ref (ad 16 3)), (7, .ref (ad 16 4)), (8, .int x8), (9, .int x9), (10, .int x10), (11, .int x11), (12, .ref mm), (13, .int x13), (14, .int x14), (15, .int x15), (16, .int x16), (17, .int x17)]), W p l e ({ frames := 7, cells := mc, slots := 6464 * mc, locals := 174 } : Room) s m args below meth c H locs k (6464 * k) (MQ below (wx_QA D ad ca A (some (.int r)) σ') args s mc (6464 * mc) A) (F0 m 49 ls [])) (mK49 : ∀ {x1 : Int64} {x8 : Int32} {x9 : Int32} {x10 : Int32} {x11 : Int32} {x13 : Int32} {x14 : Int32} {x15 : Int32} {x16 : Int32} {x17 : Int32} {σ : wx_St}, K49 x1 x8 x9 x10 x11 x13 x14 x15 x16 x17 σ = some (r, σ') → wx_n σ.2.2.2.2 ≤ wx_n σ'.2.2.2.2) {x1 : Int64} {x8 : Int32} {x9 : Int32} {x10 : Int32} {x11 : Int32} {x13 : Int32} {x14 : Int32} {x15 : Int32} {x16 : Int32} {x17 : Int32} {x18 : Int32} {x19 : Int32} {x20 : Int32} {x21 : Int32} {x22 : Int32} {x23 : Int32} {y0 : Int32} {y1 : Int32} {σ : wx_St} {k : Nat} (hk : k + wx_n σ'.2.2.2.2 ≤ mc + wx_n σ.2.2.2.2)  (h : f_L_same_388 K30 K49 x1 x8 x9 x10 x11 x13 x14 x15 x16 x17 x18 x19 x20 x21 x22 x23 y0 y1 σ = some (r, σ')) {rd : Nat → Nat} {H : Heap} {locs : List Loc} (Z : wx_ZM D ad rd ca A s.heap.size mm σ H) (hS : va_S A s.heap H locs) {ls : Array Slot} (hl : lv_has ls 24 [(0, .ref (ad 11 99)), (1, .long x1), (3, .ref (ad 16 0)), (4, .ref (ad 16 1)), (5, .ref (ad 16 2)), (6, .ref (ad 16 3)), (7, .ref (ad 16 4)), (8, .int x8), (9, .int x9), (10, .int x10), (11, .int x11), (12, .ref mm), (13, .int x13), (14, .int x14), (15, .int x15), (16, .int x16), (17, .int x17), (18, .int x18), (19, .int x19), (20, .int x20), (21, .int x21), (22, .int x22), (23, .int x23)]) : W p l e ({ frames := 7, cells := mc, slots := 6464 * mc, locals := 174 } : Room) s m args below meth c H locs k (6464 * k) (MQ below (wx_QA D ad ca A (some (.int r)) σ') args s mc (6464 * mc) A) (F0 m 388 ls [.int y1, .int y0]) := by
  obtain ⟨hx, hb, hml, hr, hts, hown, hlk, hC, hA⟩ := id B
  have hm := m_L_same_388 (K30 := K30) @mK30 (K49 := K49) @mK49 h
  unfold f_L_same_388 at h
  refine lv_iadd hx hb dL_same_388 ?_
  refine lv_istore (lv' := [(8, .int (y0 + y1)), (0, .ref (ad 11 99)), (1, .long x1), (3, .ref (ad 16 0)), (4, .ref (ad 16 1)), (5, .ref (ad 16 2)), (6, .ref (ad 16 3)), (7, .ref (ad 16 4)), (9, .int x9), (10, .int x10), (11, .int x11), (12, .ref mm), (13, .int x13), (14, .int x14), (15, .int x15), (16, .int x16), (17, .int x17), (18, .int x18), (19, .int x19), (20, .int x20), (21, .int x21), (22, .int x22), (23, .int x23)]) hx hb dL_same_389 hl (by decide) rfl (fun ls hl => ?_)
  refine lv_iinc (v := x17 + 1) (lv' := [(17, .int (x17 + 1)), (8, .int (y0 + y1)), (0, .ref (ad 11 99)), (1, .long x1), (3, .ref (ad 16 0)), (4, .ref (ad 16 1)), (5, .ref (ad 16 2)), (6, .ref (ad 16 3)), (7, .ref (ad 16 4)), (9, .int x9), (10, .int x10), (11, .int x11), (12, .ref mm), (13, .int x13), (14, .int x14), (15, .int x15), (16, .int x16), (18, .int x18), (19, .int x19), (20, .int x20), (21, .int x21), (22, .int x22), (23, .int x23)]) hx hb dL_same_391 hl (k := 16) rfl rfl (by decide) rfl (fun ls hl => ?_)
  refine lv_goto (tgt := 49) hx hb dL_same_394 (by decide) ?_
  exact hK49 (k := k) hk h Z hS (lv_sub hl [2, 3, 4, 5, 6, 7, 8, 1, 9, 10, 11, 12, 13, 14, 15, 16, 0] rfl)
set_option maxRecDepth 20000 in
set_option maxHeartbeats 4000000 in
theorem m_L_same_363  {r : Int32} {σ' : wx_St} {K30 : Int64 → Int32 → Int32 → Int32 → Int32 → Int32 → wx_St → Option (Int32 × wx_St)} (mK30 : ∀ {x1 : Int64} {x8 : Int32} {x9 : Int32} {x10 : Int32} {x11 : Int32} {x13 : Int32} {σ : wx_St}, K30 x1 x8 x9 x10 x11 x13 σ = some (r, σ') → wx_n σ.2.2.2.2 ≤ wx_n σ'.2.2.2.2) {K49 : Int64 → Int32 → Int32 → Int32 → Int32 → Int32 → Int32 → Int32 → Int32 → Int32 → wx_St → Option (Int32 × wx_St)} (mK49 : ∀ {x1 : Int64} {x8 : Int32} {x9 : Int32} {x10 : Int32} {x11 : Int32} {x13 : Int32} {x14 : Int32} {x15 : Int32} {x16 : Int32} {x17 : Int32} {σ : wx_St}, K49 x1 x8 x9 x10 x11 x13 x14 x15 x16 x17 σ = some (r, σ') → wx_n σ.2.2.2.2 ≤ wx_n σ'.2.2.2.2) {x1 : Int64} {x8 : Int32} {x9 : Int32} {x10 : Int32} {x11 : Int32} {x13 : Int32} {x14 : Int32} {x15 : Int32} {x16 : Int32} {x17 : Int32} {x18 : Int32} {x19 : Int32} {x20 : Int32} {x21 : Int32} {x22 : Int32} {x23 : Int32} {y0 : Int32} {y1 : Int32} {σ : wx_St} (h : f_L_same_363 K30 K49 x1 x8 x9 x10 x11 x13 x14 x15 x16 x17 x18 x19 x20 x21 x22 x23 y0 y1 σ = some (r, σ')) : wx_n σ.2.2.2.2 ≤ wx_n σ'.2.2.2.2 := by
  unfold f_L_same_363 at h
  obtain ⟨v379, ev379, iv379, h⟩ := wx_rI_ok h
  by_cases c380 : v379 ≤ 0
  · replace h := wx_ift c380 h
    exact m_L_same_388 (K30 := K30) @mK30 (K49 := K49) @mK49 h
  · replace h := wx_iff c380 h
    exact m_L_same_388 (K30 := K30) @mK30 (K49 := K49) @mK49 h
set_option maxRecDepth 20000 in
set_option maxHeartbeats 4000000 in
theorem b_L_same_363 (B : wx_B p s m args meth c cL_same 24 (some .boolean) wsL_same RL D ad ca A)    {r : Int32} {σ' : wx_St} {mc : Nat} {mm : Nat} {K30 : Int64 → Int32 → Int32 → Int32 → Int32 → Int32 → wx_St → Option (Int32 × wx_St)} (hK30 : ∀ {x1 : Int64} {x8 : Int32} {x9 : Int32} {x10 : Int32} {x11 : Int32} {x13 : Int32} {σ : wx_St} {k : Nat} (hk : k + wx_n σ'.2.2.2.2 ≤ mc + wx_n σ.2.2.2.2)  (h : K30 x1 x8 x9 x10 x11 x13 σ = some (r, σ')) {rd : Nat → Nat} {H : Heap} {locs : List Loc} (Z : wx_ZM D ad rd ca A s.heap.size mm σ H) (hS : va_S A s.heap H locs) {ls : Array Slot} (hl : lv_has ls 24 [(0, .ref (ad 11 99)), (1, .long x1), (3, .ref (ad 16 0)), (4, .ref (ad 16 1)), (5, .ref (ad 16 2)), (6, .ref (ad 16 3)), (7, .ref (ad 16 4)), (8, .int x8), (9, .int x9), (10, .int x10), (11, .int x11), (12, .ref mm), (13, .int x13)]), W p l e ({ frames := 7, cells := mc, slots := 6464 * mc, locals := 174 } : Room) s m args below meth c H locs k (6464 * k) (MQ below (wx_QA D ad ca A (some (.int r)) σ') args s mc (6464 * mc) A) (F0 m 30 ls [])) (mK30 : ∀ {x1 : Int64} {x8 : Int32} {x9 : Int32} {x10 : Int32} {x11 : Int32} {x13 : Int32} {σ : wx_St}, K30 x1 x8 x9 x10 x11 x13 σ = some (r, σ') → wx_n σ.2.2.2.2 ≤ wx_n σ'.2.2.2.2) {K49 : Int64 → Int32 → Int32 → Int32 → Int32 → Int32 → Int32 → Int32 → Int32 → Int32 → wx_St → Option (Int32 × wx_St)} (hK49 : ∀ {x1 : Int64} {x8 : Int32} {x9 : Int32} {x10 : Int32} {x11 : Int32} {x13 : Int32} {x14 : Int32} {x15 : Int32} {x16 : Int32} {x17 : Int32} {σ : wx_St} {k : Nat} (hk : k + wx_n σ'.2.2.2.2 ≤ mc + wx_n σ.2.2.2.2)  (h : K49 x1 x8 x9 x10 x11 x13 x14 x15 x16 x17 σ = some (r, σ')) {rd : Nat → Nat} {H : Heap} {locs : List Loc} (Z : wx_ZM D ad rd ca A s.heap.size mm σ H) (hS : va_S A s.heap H locs) {ls : Array Slot} (hl : lv_has ls 24 [(0, .ref (ad 11 99)), (1, .long x1), (3, .ref (ad 16 0)), (4, .ref (ad 16 1)), (5, .ref (ad 16 2)), (6, .ref (ad 16 3)), (7, .ref (ad 16 4)), (8, .int x8), (9, .int x9), (10, .int x10), (11, .int x11), (12, .ref mm), (13, .int x13), (14, .int x14), (15, .int x15), (16, .int x16), (17, .int x17)]), W p l e ({ frames := 7, cells := mc, slots := 6464 * mc, locals := 174 } : Room) s m args below meth c H locs k (6464 * k) (MQ below (wx_QA D ad ca A (some (.int r)) σ') args s mc (6464 * mc) A) (F0 m 49 ls [])) (mK49 : ∀ {x1 : Int64} {x8 : Int32} {x9 : Int32} {x10 : Int32} {x11 : Int32} {x13 : Int32} {x14 : Int32} {x15 : Int32} {x16 : Int32} {x17 : Int32} {σ : wx_St}, K49 x1 x8 x9 x10 x11 x13 x14 x15 x16 x17 σ = some (r, σ') → wx_n σ.2.2.2.2 ≤ wx_n σ'.2.2.2.2) {x1 : Int64} {x8 : Int32} {x9 : Int32} {x10 : Int32} {x11 : Int32} {x13 : Int32} {x14 : Int32} {x15 : Int32} {x16 : Int32} {x17 : Int32} {x18 : Int32} {x19 : Int32} {x20 : Int32} {x21 : Int32} {x22 : Int32} {x23 : Int32} {y0 : Int32} {y1 : Int32} {σ : wx_St} {k : Nat} (hk : k + wx_n σ'.2.2.2.2 ≤ mc + wx_n σ.2.2.2.2)  (h : f_L_same_363 K30 K49 x1 x8 x9 x10 x11 x13 x14 x15 x16 x17 x18 x19 x20 x21 x22 x23 y0 y1 σ = some (r, σ')) {rd : Nat → Nat} {H : Heap} {locs : List Loc} (Z : wx_ZM D ad rd ca A s.heap.size mm σ H) (hS : va_S A s.heap H locs) {ls : Array Slot} (hl : lv_has ls 24 [(0, .ref (ad 11 99)), (1, .long x1), (3, .ref (ad 16 0)), (4, .ref (ad 16 1)), (5, .ref (ad 16 2)), (6, .ref (ad 16 3)), (7, .ref (ad 16 4)), (8, .int x8), (9, .int x9), (10, .int x10), (11, .int x11), (12, .ref mm), (13, .int x13), (14, .int x14), (15, .int x15), (16, .int x16), (17, .int x17), (18, .int x18), (19, .int x19), (20, .int x20), (21, .int x21), (22, .int x22), (23, .int x23)]) : W p l e ({ frames := 7, cells := mc, slots := 6464 * mc, locals := 174 } : Room) s m args below meth c H locs k (6464 * k) (MQ below (wx_QA D ad ca A (some (.int r)) σ') args s mc (6464 * mc) A) (F0 m 363 ls [.int y1, .int y0]) := by
  obtain ⟨hx, hb, hml, hr, hts, hown, hlk, hC, hA⟩ := id B
  have hm := m_L_same_363 (K30 := K30) @mK30 (K49 := K49) @mK49 h
  unfold f_L_same_363 at h
  refine lv_iadd hx hb dL_same_363 ?_
  refine lv_istore (lv' := [(9, .int (y0 + y1)), (0, .ref (ad 11 99)), (1, .long x1), (3, .ref (ad 16 0)), (4, .ref (ad 16 1)), (5, .ref (ad 16 2)), (6, .ref (ad 16 3)), (7, .ref (ad 16 4)), (8, .int x8), (10, .int x10), (11, .int x11), (12, .ref mm), (13, .int x13), (14, .int x14), (15, .int x15), (16, .int x16), (17, .int x17), (18, .int x18), (19, .int x19), (20, .int x20), (21, .int x21), (22, .int x22), (23, .int x23)]) hx hb dL_same_364 hl (by decide) rfl (fun ls hl => ?_)
  refine lv_iload hx hb dL_same_366 (lv_at hl 9 rfl) ?_
  refine lv_iload hx hb dL_same_368 (lv_at hl 19 rfl) ?_
  refine lv_iadd hx hb dL_same_370 ?_
  refine lv_istore (lv' := [(10, .int (x10 + x20)), (9, .int (y0 + y1)), (0, .ref (ad 11 99)), (1, .long x1), (3, .ref (ad 16 0)), (4, .ref (ad 16 1)), (5, .ref (ad 16 2)), (6, .ref (ad 16 3)), (7, .ref (ad 16 4)), (8, .int x8), (11, .int x11), (12, .ref mm), (13, .int x13), (14, .int x14), (15, .int x15), (16, .int x16), (17, .int x17), (18, .int x18), (19, .int x19), (20, .int x20), (21, .int x21), (22, .int x22), (23, .int x23)]) hx hb dL_same_371 hl (by decide) rfl (fun ls hl => ?_)
  refine lv_iload hx hb dL_same_373 (lv_at hl 9 rfl) ?_
  refine lv_aload hx hb dL_same_375 (lv_at hl 7 rfl) ?_
  refine lv_iload hx hb dL_same_377 (lv_at hl 17 rfl) ?_
  obtain ⟨v379, ev379, iv379, h⟩ := wx_rI_ok h
  refine wx_iald hx hb hC.1 Z.1 (o := 16) (k := 3) (n := 64) rfl rfl iv379 dL_same_379 ev379 ?_
  refine lv_if_le (tgt := 387) hx hb dL_same_380 (by decide) (fun c380 => ?_) (fun c380 => ?_)
  · replace h := wx_ift c380 h
    refine lv_iconst (v := 0) hx hb dL_same_387 (by decide) ?_
    exact b_L_same_388 B (K30 := K30) @hK30 @mK30 (K49 := K49) @hK49 @mK49 (k := k) hk h Z hS (lv_sub hl [2, 3, 4, 5, 6, 7, 8, 9, 1, 0, 10, 11, 12, 13, 14, 15, 16, 17, 18, 19, 20, 21, 22] rfl)
  · replace h := wx_iff c380 h
    refine lv_iconst (v := 1) hx hb dL_same_383 (by decide) ?_
    refine lv_goto (tgt := 388) hx hb dL_same_384 (by decide) ?_
    exact b_L_same_388 B (K30 := K30) @hK30 @mK30 (K49 := K49) @hK49 @mK49 (k := k) hk h Z hS (lv_sub hl [2, 3, 4, 5, 6, 7, 8, 9, 1, 0, 10, 11, 12, 13, 14, 15, 16, 17, 18, 19, 20, 21, 22] rfl)
set_option maxRecDepth 20000 in
set_option maxHeartbeats 4000000 in
theorem m_L_same_351  {r : Int32} {σ' : wx_St} {K30 : Int64 → Int32 → Int32 → Int32 → Int32 → Int32 → wx_St → Option (Int32 × wx_St)} (mK30 : ∀ {x1 : Int64} {x8 : Int32} {x9 : Int32} {x10 : Int32} {x11 : Int32} {x13 : Int32} {σ : wx_St}, K30 x1 x8 x9 x10 x11 x13 σ = some (r, σ') → wx_n σ.2.2.2.2 ≤ wx_n σ'.2.2.2.2) {K49 : Int64 → Int32 → Int32 → Int32 → Int32 → Int32 → Int32 → Int32 → Int32 → Int32 → wx_St → Option (Int32 × wx_St)} (mK49 : ∀ {x1 : Int64} {x8 : Int32} {x9 : Int32} {x10 : Int32} {x11 : Int32} {x13 : Int32} {x14 : Int32} {x15 : Int32} {x16 : Int32} {x17 : Int32} {σ : wx_St}, K49 x1 x8 x9 x10 x11 x13 x14 x15 x16 x17 σ = some (r, σ') → wx_n σ.2.2.2.2 ≤ wx_n σ'.2.2.2.2) {x1 : Int64} {x8 : Int32} {x9 : Int32} {x10 : Int32} {x11 : Int32} {x13 : Int32} {x14 : Int32} {x15 : Int32} {x16 : Int32} {x17 : Int32} {x18 : Int32} {x19 : Int32} {x20 : Int32} {x21 : Int32} {x22 : Int32} {x23 : Int32} {σ : wx_St} (h : f_L_same_351 K30 K49 x1 x8 x9 x10 x11 x13 x14 x15 x16 x17 x18 x19 x20 x21 x22 x23 σ = some (r, σ')) : wx_n σ.2.2.2.2 ≤ wx_n σ'.2.2.2.2 := by
  unfold f_L_same_351 at h
  by_cases c355 : x19 = 0
  · replace h := wx_ift c355 h
    exact m_L_same_363 (K30 := K30) @mK30 (K49 := K49) @mK49 h
  · replace h := wx_iff c355 h
    exact m_L_same_363 (K30 := K30) @mK30 (K49 := K49) @mK49 h
set_option maxRecDepth 20000 in
set_option maxHeartbeats 4000000 in
theorem b_L_same_351 (B : wx_B p s m args meth c cL_same 24 (some .boolean) wsL_same RL D ad ca A)    {r : Int32} {σ' : wx_St} {mc : Nat} {mm : Nat} {K30 : Int64 → Int32 → Int32 → Int32 → Int32 → Int32 → wx_St → Option (Int32 × wx_St)} (hK30 : ∀ {x1 : Int64} {x8 : Int32} {x9 : Int32} {x10 : Int32} {x11 : Int32} {x13 : Int32} {σ : wx_St} {k : Nat} (hk : k + wx_n σ'.2.2.2.2 ≤ mc + wx_n σ.2.2.2.2)  (h : K30 x1 x8 x9 x10 x11 x13 σ = some (r, σ')) {rd : Nat → Nat} {H : Heap} {locs : List Loc} (Z : wx_ZM D ad rd ca A s.heap.size mm σ H) (hS : va_S A s.heap H locs) {ls : Array Slot} (hl : lv_has ls 24 [(0, .ref (ad 11 99)), (1, .long x1), (3, .ref (ad 16 0)), (4, .ref (ad 16 1)), (5, .ref (ad 16 2)), (6, .ref (ad 16 3)), (7, .ref (ad 16 4)), (8, .int x8), (9, .int x9), (10, .int x10), (11, .int x11), (12, .ref mm), (13, .int x13)]), W p l e ({ frames := 7, cells := mc, slots := 6464 * mc, locals := 174 } : Room) s m args below meth c H locs k (6464 * k) (MQ below (wx_QA D ad ca A (some (.int r)) σ') args s mc (6464 * mc) A) (F0 m 30 ls [])) (mK30 : ∀ {x1 : Int64} {x8 : Int32} {x9 : Int32} {x10 : Int32} {x11 : Int32} {x13 : Int32} {σ : wx_St}, K30 x1 x8 x9 x10 x11 x13 σ = some (r, σ') → wx_n σ.2.2.2.2 ≤ wx_n σ'.2.2.2.2) {K49 : Int64 → Int32 → Int32 → Int32 → Int32 → Int32 → Int32 → Int32 → Int32 → Int32 → wx_St → Option (Int32 × wx_St)} (hK49 : ∀ {x1 : Int64} {x8 : Int32} {x9 : Int32} {x10 : Int32} {x11 : Int32} {x13 : Int32} {x14 : Int32} {x15 : Int32} {x16 : Int32} {x17 : Int32} {σ : wx_St} {k : Nat} (hk : k + wx_n σ'.2.2.2.2 ≤ mc + wx_n σ.2.2.2.2)  (h : K49 x1 x8 x9 x10 x11 x13 x14 x15 x16 x17 σ = some (r, σ')) {rd : Nat → Nat} {H : Heap} {locs : List Loc} (Z : wx_ZM D ad rd ca A s.heap.size mm σ H) (hS : va_S A s.heap H locs) {ls : Array Slot} (hl : lv_has ls 24 [(0, .ref (ad 11 99)), (1, .long x1), (3, .ref (ad 16 0)), (4, .ref (ad 16 1)), (5, .ref (ad 16 2)), (6, .ref (ad 16 3)), (7, .ref (ad 16 4)), (8, .int x8), (9, .int x9), (10, .int x10), (11, .int x11), (12, .ref mm), (13, .int x13), (14, .int x14), (15, .int x15), (16, .int x16), (17, .int x17)]), W p l e ({ frames := 7, cells := mc, slots := 6464 * mc, locals := 174 } : Room) s m args below meth c H locs k (6464 * k) (MQ below (wx_QA D ad ca A (some (.int r)) σ') args s mc (6464 * mc) A) (F0 m 49 ls [])) (mK49 : ∀ {x1 : Int64} {x8 : Int32} {x9 : Int32} {x10 : Int32} {x11 : Int32} {x13 : Int32} {x14 : Int32} {x15 : Int32} {x16 : Int32} {x17 : Int32} {σ : wx_St}, K49 x1 x8 x9 x10 x11 x13 x14 x15 x16 x17 σ = some (r, σ') → wx_n σ.2.2.2.2 ≤ wx_n σ'.2.2.2.2) {x1 : Int64} {x8 : Int32} {x9 : Int32} {x10 : Int32} {x11 : Int32} {x13 : Int32} {x14 : Int32} {x15 : Int32} {x16 : Int32} {x17 : Int32} {x18 : Int32} {x19 : Int32} {x20 : Int32} {x21 : Int32} {x22 : Int32} {x23 : Int32} {σ : wx_St} {k : Nat} (hk : k + wx_n σ'.2.2.2.2 ≤ mc + wx_n σ.2.2.2.2)  (h : f_L_same_351 K30 K49 x1 x8 x9 x10 x11 x13 x14 x15 x16 x17 x18 x19 x20 x21 x22 x23 σ = some (r, σ')) {rd : Nat → Nat} {H : Heap} {locs : List Loc} (Z : wx_ZM D ad rd ca A s.heap.size mm σ H) (hS : va_S A s.heap H locs) {ls : Array Slot} (hl : lv_has ls 24 [(0, .ref (ad 11 99)), (1, .long x1), (3, .ref (ad 16 0)), (4, .ref (ad 16 1)), (5, .ref (ad 16 2)), (6, .ref (ad 16 3)), (7, .ref (ad 16 4)), (8, .int x8), (9, .int x9), (10, .int x10), (11, .int x11), (12, .ref mm), (13, .int x13), (14, .int x14), (15, .int x15), (16, .int x16), (17, .int x17), (18, .int x18), (19, .int x19), (20, .int x20), (21, .int x21), (22, .int x22), (23, .int x23)]) : W p l e ({ frames := 7, cells := mc, slots := 6464 * mc, locals := 174 } : Room) s m args below meth c H locs k (6464 * k) (MQ below (wx_QA D ad ca A (some (.int r)) σ') args s mc (6464 * mc) A) (F0 m 351 ls []) := by
  obtain ⟨hx, hb, hml, hr, hts, hown, hlk, hC, hA⟩ := id B
  have hm := m_L_same_351 (K30 := K30) @mK30 (K49 := K49) @mK49 h
  unfold f_L_same_351 at h
  refine lv_iload hx hb dL_same_351 (lv_at hl 8 rfl) ?_
  refine lv_iload hx hb dL_same_353 (lv_at hl 18 rfl) ?_
  refine lv_if_eq (tgt := 362) hx hb dL_same_355 (by decide) (fun c355 => ?_) (fun c355 => ?_)
  · replace h := wx_ift c355 h
    refine lv_iconst (v := 0) hx hb dL_same_362 (by decide) ?_
    exact b_L_same_363 B (K30 := K30) @hK30 @mK30 (K49 := K49) @hK49 @mK49 (k := k) hk h Z hS (lv_sub hl [0, 1, 2, 3, 4, 5, 6, 7, 8, 9, 10, 11, 12, 13, 14, 15, 16, 17, 18, 19, 20, 21, 22] rfl)
  · replace h := wx_iff c355 h
    refine lv_iconst (v := 1) hx hb dL_same_358 (by decide) ?_
    refine lv_goto (tgt := 363) hx hb dL_same_359 (by decide) ?_
    exact b_L_same_363 B (K30 := K30) @hK30 @mK30 (K49 := K49) @hK49 @mK49 (k := k) hk h Z hS (lv_sub hl [0, 1, 2, 3, 4, 5, 6, 7, 8, 9, 10, 11, 12, 13, 14, 15, 16, 17, 18, 19, 20, 21, 22] rfl)
set_option maxRecDepth 20000 in
set_option maxHeartbeats 4000000 in
theorem m_L_same_346  {r : Int32} {σ' : wx_St} {K30 : Int64 → Int32 → Int32 → Int32 → Int32 → Int32 → wx_St → Option (Int32 × wx_St)} (mK30 : ∀ {x1 : Int64} {x8 : Int32} {x9 : Int32} {x10 : Int32} {x11 : Int32} {x13 : Int32} {σ : wx_St}, K30 x1 x8 x9 x10 x11 x13 σ = some (r, σ') → wx_n σ.2.2.2.2 ≤ wx_n σ'.2.2.2.2) {K49 : Int64 → Int32 → Int32 → Int32 → Int32 → Int32 → Int32 → Int32 → Int32 → Int32 → wx_St → Option (Int32 × wx_St)} (mK49 : ∀ {x1 : Int64} {x8 : Int32} {x9 : Int32} {x10 : Int32} {x11 : Int32} {x13 : Int32} {x14 : Int32} {x15 : Int32} {x16 : Int32} {x17 : Int32} {σ : wx_St}, K49 x1 x8 x9 x10 x11 x13 x14 x15 x16 x17 σ = some (r, σ') → wx_n σ.2.2.2.2 ≤ wx_n σ'.2.2.2.2) {x1 : Int64} {x8 : Int32} {x9 : Int32} {x10 : Int32} {x11 : Int32} {x13 : Int32} {x14 : Int32} {x15 : Int32} {x16 : Int32} {x17 : Int32} {x18 : Int32} {x19 : Int32} {x20 : Int32} {x21 : Int32} {x22 : Int32} {x23 : Int32} {y0 : Int32} {y1 : Int32} {σ : wx_St} (h : f_L_same_346 K30 K49 x1 x8 x9 x10 x11 x13 x14 x15 x16 x17 x18 x19 x20 x21 x22 x23 y0 y1 σ = some (r, σ')) : wx_n σ.2.2.2.2 ≤ wx_n σ'.2.2.2.2 := by
  unfold f_L_same_346 at h
  by_cases c346 : y0 = y1
  · replace h := wx_ift c346 h
    exact m_L_same_351 (K30 := K30) @mK30 (K49 := K49) @mK49 h
  · replace h := wx_iff c346 h
    obtain ⟨rfl, rfl⟩ := wx_ret_ok h
    exact Nat.le_refl _
set_option maxRecDepth 20000 in
set_option maxHeartbeats 4000000 in
theorem b_L_same_346 (B : wx_B p s m args meth c cL_same 24 (some .boolean) wsL_same RL D ad ca A)    {r : Int32} {σ' : wx_St} {mc : Nat} {mm : Nat} {K30 : Int64 → Int32 → Int32 → Int32 → Int32 → Int32 → wx_St → Option (Int32 × wx_St)} (hK30 : ∀ {x1 : Int64} {x8 : Int32} {x9 : Int32} {x10 : Int32} {x11 : Int32} {x13 : Int32} {σ : wx_St} {k : Nat} (hk : k + wx_n σ'.2.2.2.2 ≤ mc + wx_n σ.2.2.2.2)  (h : K30 x1 x8 x9 x10 x11 x13 σ = some (r, σ')) {rd : Nat → Nat} {H : Heap} {locs : List Loc} (Z : wx_ZM D ad rd ca A s.heap.size mm σ H) (hS : va_S A s.heap H locs) {ls : Array Slot} (hl : lv_has ls 24 [(0, .ref (ad 11 99)), (1, .long x1), (3, .ref (ad 16 0)), (4, .ref (ad 16 1)), (5, .ref (ad 16 2)), (6, .ref (ad 16 3)), (7, .ref (ad 16 4)), (8, .int x8), (9, .int x9), (10, .int x10), (11, .int x11), (12, .ref mm), (13, .int x13)]), W p l e ({ frames := 7, cells := mc, slots := 6464 * mc, locals := 174 } : Room) s m args below meth c H locs k (6464 * k) (MQ below (wx_QA D ad ca A (some (.int r)) σ') args s mc (6464 * mc) A) (F0 m 30 ls [])) (mK30 : ∀ {x1 : Int64} {x8 : Int32} {x9 : Int32} {x10 : Int32} {x11 : Int32} {x13 : Int32} {σ : wx_St}, K30 x1 x8 x9 x10 x11 x13 σ = some (r, σ') → wx_n σ.2.2.2.2 ≤ wx_n σ'.2.2.2.2) {K49 : Int64 → Int32 → Int32 → Int32 → Int32 → Int32 → Int32 → Int32 → Int32 → Int32 → wx_St → Option (Int32 × wx_St)} (hK49 : ∀ {x1 : Int64} {x8 : Int32} {x9 : Int32} {x10 : Int32} {x11 : Int32} {x13 : Int32} {x14 : Int32} {x15 : Int32} {x16 : Int32} {x17 : Int32} {σ : wx_St} {k : Nat} (hk : k + wx_n σ'.2.2.2.2 ≤ mc + wx_n σ.2.2.2.2)  (h : K49 x1 x8 x9 x10 x11 x13 x14 x15 x16 x17 σ = some (r, σ')) {rd : Nat → Nat} {H : Heap} {locs : List Loc} (Z : wx_ZM D ad rd ca A s.heap.size mm σ H) (hS : va_S A s.heap H locs) {ls : Array Slot} (hl : lv_has ls 24 [(0, .ref (ad 11 99)), (1, .long x1), (3, .ref (ad 16 0)), (4, .ref (ad 16 1)), (5, .ref (ad 16 2)), (6, .ref (ad 16 3)), (7, .ref (ad 16 4)), (8, .int x8), (9, .int x9), (10, .int x10), (11, .int x11), (12, .ref mm), (13, .int x13), (14, .int x14), (15, .int x15), (16, .int x16), (17, .int x17)]), W p l e ({ frames := 7, cells := mc, slots := 6464 * mc, locals := 174 } : Room) s m args below meth c H locs k (6464 * k) (MQ below (wx_QA D ad ca A (some (.int r)) σ') args s mc (6464 * mc) A) (F0 m 49 ls [])) (mK49 : ∀ {x1 : Int64} {x8 : Int32} {x9 : Int32} {x10 : Int32} {x11 : Int32} {x13 : Int32} {x14 : Int32} {x15 : Int32} {x16 : Int32} {x17 : Int32} {σ : wx_St}, K49 x1 x8 x9 x10 x11 x13 x14 x15 x16 x17 σ = some (r, σ') → wx_n σ.2.2.2.2 ≤ wx_n σ'.2.2.2.2) {x1 : Int64} {x8 : Int32} {x9 : Int32} {x10 : Int32} {x11 : Int32} {x13 : Int32} {x14 : Int32} {x15 : Int32} {x16 : Int32} {x17 : Int32} {x18 : Int32} {x19 : Int32} {x20 : Int32} {x21 : Int32} {x22 : Int32} {x23 : Int32} {y0 : Int32} {y1 : Int32} {σ : wx_St} {k : Nat} (hk : k + wx_n σ'.2.2.2.2 ≤ mc + wx_n σ.2.2.2.2)  (h : f_L_same_346 K30 K49 x1 x8 x9 x10 x11 x13 x14 x15 x16 x17 x18 x19 x20 x21 x22 x23 y0 y1 σ = some (r, σ')) {rd : Nat → Nat} {H : Heap} {locs : List Loc} (Z : wx_ZM D ad rd ca A s.heap.size mm σ H) (hS : va_S A s.heap H locs) {ls : Array Slot} (hl : lv_has ls 24 [(0, .ref (ad 11 99)), (1, .long x1), (3, .ref (ad 16 0)), (4, .ref (ad 16 1)), (5, .ref (ad 16 2)), (6, .ref (ad 16 3)), (7, .ref (ad 16 4)), (8, .int x8), (9, .int x9), (10, .int x10), (11, .int x11), (12, .ref mm), (13, .int x13), (14, .int x14), (15, .int x15), (16, .int x16), (17, .int x17), (18, .int x18), (19, .int x19), (20, .int x20), (21, .int x21), (22, .int x22), (23, .int x23)]) : W p l e ({ frames := 7, cells := mc, slots := 6464 * mc, locals := 174 } : Room) s m args below meth c H locs k (6464 * k) (MQ below (wx_QA D ad ca A (some (.int r)) σ') args s mc (6464 * mc) A) (F0 m 346 ls [.int y1, .int y0]) := by
  obtain ⟨hx, hb, hml, hr, hts, hown, hlk, hC, hA⟩ := id B
  have hm := m_L_same_346 (K30 := K30) @mK30 (K49 := K49) @mK49 h
  unfold f_L_same_346 at h
  refine lv_icmp_eq (tgt := 351) hx hb dL_same_346 (by decide) (fun c346 => ?_) (fun c346 => ?_)
  · replace h := wx_ift c346 h
    exact b_L_same_351 B (K30 := K30) @hK30 @mK30 (K49 := K49) @hK49 @mK49 (k := k) hk h Z hS (lv_sub hl [0, 1, 2, 3, 4, 5, 6, 7, 8, 9, 10, 11, 12, 13, 14, 15, 16, 17, 18, 19, 20, 21, 22] rfl)
  · replace h := wx_iff c346 h
    refine lv_iconst (v := 0) hx hb dL_same_349 (by decide) ?_
    obtain ⟨rfl, rfl⟩ := wx_ret_ok h
    refine W.widen (k := mc) (n := 6464 * mc) (by omega) (by omega) ?_
    exact W.zret hx hb hr rfl (fun t ht hW => ⟨rfl, ⟨_, by rw [ht]; exact Z.out⟩, hS.F ht⟩) hS.2.2 dL_same_350
set_option maxRecDepth 20000 in
set_option maxHeartbeats 4000000 in
theorem m_L_same_311  {r : Int32} {σ' : wx_St} {K30 : Int64 → Int32 → Int32 → Int32 → Int32 → Int32 → wx_St → Option (Int32 × wx_St)} (mK30 : ∀ {x1 : Int64} {x8 : Int32} {x9 : Int32} {x10 : Int32} {x11 : Int32} {x13 : Int32} {σ : wx_St}, K30 x1 x8 x9 x10 x11 x13 σ = some (r, σ') → wx_n σ.2.2.2.2 ≤ wx_n σ'.2.2.2.2) {K49 : Int64 → Int32 → Int32 → Int32 → Int32 → Int32 → Int32 → Int32 → Int32 → Int32 → wx_St → Option (Int32 × wx_St)} (mK49 : ∀ {x1 : Int64} {x8 : Int32} {x9 : Int32} {x10 : Int32} {x11 : Int32} {x13 : Int32} {x14 : Int32} {x15 : Int32} {x16 : Int32} {x17 : Int32} {σ : wx_St}, K49 x1 x8 x9 x10 x11 x13 x14 x15 x16 x17 σ = some (r, σ') → wx_n σ.2.2.2.2 ≤ wx_n σ'.2.2.2.2) {x1 : Int64} {x8 : Int32} {x9 : Int32} {x10 : Int32} {x11 : Int32} {x13 : Int32} {x14 : Int32} {x15 : Int32} {x16 : Int32} {x17 : Int32} {x18 : Int32} {x19 : Int32} {x20 : Int32} {x21 : Int32} {x22 : Int32} {y0 : Int32} {σ : wx_St} (h : f_L_same_311 K30 K49 x1 x8 x9 x10 x11 x13 x14 x15 x16 x17 x18 x19 x20 x21 x22 y0 σ = some (r, σ')) : wx_n σ.2.2.2.2 ≤ wx_n σ'.2.2.2.2 := by
  unfold f_L_same_311 at h
  obtain ⟨v315, ev315, iv315, h⟩ := wx_rI_ok h
  by_cases c316 : v315 = 0
  · replace h := wx_ift c316 h
    obtain ⟨v321, ev321, iv321, h⟩ := wx_rI_ok h
    by_cases c322 : v321 = 0
    · replace h := wx_ift c322 h
      by_cases c329 : y0 = 0
      · replace h := wx_ift c329 h
        exact m_L_same_346 (K30 := K30) @mK30 (K49 := K49) @mK49 h
      · replace h := wx_iff c329 h
        obtain ⟨v336, ev336, iv336, h⟩ := wx_rI_ok h
        obtain ⟨v340, ev340, iv340, h⟩ := wx_rI_ok h
        exact m_L_same_346 (K30 := K30) @mK30 (K49 := K49) @mK49 h
    · replace h := wx_iff c322 h
      exact m_L_same_351 (K30 := K30) @mK30 (K49 := K49) @mK49 h
  · replace h := wx_iff c316 h
    exact m_L_same_351 (K30 := K30) @mK30 (K49 := K49) @mK49 h
set_option maxRecDepth 20000 in
set_option maxHeartbeats 4000000 in
theorem b_L_same_311 (B : wx_B p s m args meth c cL_same 24 (some .boolean) wsL_same RL D ad ca A)    {r : Int32} {σ' : wx_St} {mc : Nat} {mm : Nat} {K30 : Int64 → Int32 → Int32 → Int32 → Int32 → Int32 → wx_St → Option (Int32 × wx_St)} (hK30 : ∀ {x1 : Int64} {x8 : Int32} {x9 : Int32} {x10 : Int32} {x11 : Int32} {x13 : Int32} {σ : wx_St} {k : Nat} (hk : k + wx_n σ'.2.2.2.2 ≤ mc + wx_n σ.2.2.2.2)  (h : K30 x1 x8 x9 x10 x11 x13 σ = some (r, σ')) {rd : Nat → Nat} {H : Heap} {locs : List Loc} (Z : wx_ZM D ad rd ca A s.heap.size mm σ H) (hS : va_S A s.heap H locs) {ls : Array Slot} (hl : lv_has ls 24 [(0, .ref (ad 11 99)), (1, .long x1), (3, .ref (ad 16 0)), (4, .ref (ad 16 1)), (5, .ref (ad 16 2)), (6, .ref (ad 16 3)), (7, .ref (ad 16 4)), (8, .int x8), (9, .int x9), (10, .int x10), (11, .int x11), (12, .ref mm), (13, .int x13)]), W p l e ({ frames := 7, cells := mc, slots := 6464 * mc, locals := 174 } : Room) s m args below meth c H locs k (6464 * k) (MQ below (wx_QA D ad ca A (some (.int r)) σ') args s mc (6464 * mc) A) (F0 m 30 ls [])) (mK30 : ∀ {x1 : Int64} {x8 : Int32} {x9 : Int32} {x10 : Int32} {x11 : Int32} {x13 : Int32} {σ : wx_St}, K30 x1 x8 x9 x10 x11 x13 σ = some (r, σ') → wx_n σ.2.2.2.2 ≤ wx_n σ'.2.2.2.2) {K49 : Int64 → Int32 → Int32 → Int32 → Int32 → Int32 → Int32 → Int32 → Int32 → Int32 → wx_St → Option (Int32 × wx_St)} (hK49 : ∀ {x1 : Int64} {x8 : Int32} {x9 : Int32} {x10 : Int32} {x11 : Int32} {x13 : Int32} {x14 : Int32} {x15 : Int32} {x16 : Int32} {x17 : Int32} {σ : wx_St} {k : Nat} (hk : k + wx_n σ'.2.2.2.2 ≤ mc + wx_n σ.2.2.2.2)  (h : K49 x1 x8 x9 x10 x11 x13 x14 x15 x16 x17 σ = some (r, σ')) {rd : Nat → Nat} {H : Heap} {locs : List Loc} (Z : wx_ZM D ad rd ca A s.heap.size mm σ H) (hS : va_S A s.heap H locs) {ls : Array Slot} (hl : lv_has ls 24 [(0, .ref (ad 11 99)), (1, .long x1), (3, .ref (ad 16 0)), (4, .ref (ad 16 1)), (5, .ref (ad 16 2)), (6, .ref (ad 16 3)), (7, .ref (ad 16 4)), (8, .int x8), (9, .int x9), (10, .int x10), (11, .int x11), (12, .ref mm), (13, .int x13), (14, .int x14), (15, .int x15), (16, .int x16), (17, .int x17)]), W p l e ({ frames := 7, cells := mc, slots := 6464 * mc, locals := 174 } : Room) s m args below meth c H locs k (6464 * k) (MQ below (wx_QA D ad ca A (some (.int r)) σ') args s mc (6464 * mc) A) (F0 m 49 ls [])) (mK49 : ∀ {x1 : Int64} {x8 : Int32} {x9 : Int32} {x10 : Int32} {x11 : Int32} {x13 : Int32} {x14 : Int32} {x15 : Int32} {x16 : Int32} {x17 : Int32} {σ : wx_St}, K49 x1 x8 x9 x10 x11 x13 x14 x15 x16 x17 σ = some (r, σ') → wx_n σ.2.2.2.2 ≤ wx_n σ'.2.2.2.2) {x1 : Int64} {x8 : Int32} {x9 : Int32} {x10 : Int32} {x11 : Int32} {x13 : Int32} {x14 : Int32} {x15 : Int32} {x16 : Int32} {x17 : Int32} {x18 : Int32} {x19 : Int32} {x20 : Int32} {x21 : Int32} {x22 : Int32} {y0 : Int32} {σ : wx_St} {k : Nat} (hk : k + wx_n σ'.2.2.2.2 ≤ mc + wx_n σ.2.2.2.2)  (h : f_L_same_311 K30 K49 x1 x8 x9 x10 x11 x13 x14 x15 x16 x17 x18 x19 x20 x21 x22 y0 σ = some (r, σ')) {rd : Nat → Nat} {H : Heap} {locs : List Loc} (Z : wx_ZM D ad rd ca A s.heap.size mm σ H) (hS : va_S A s.heap H locs) {ls : Array Slot} (hl : lv_has ls 24 [(0, .ref (ad 11 99)), (1, .long x1), (3, .ref (ad 16 0)), (4, .ref (ad 16 1)), (5, .ref (ad 16 2)), (6, .ref (ad 16 3)), (7, .ref (ad 16 4)), (8, .int x8), (9, .int x9), (10, .int x10), (11, .int x11), (12, .ref mm), (13, .int x13), (14, .int x14), (15, .int x15), (16, .int x16), (17, .int x17), (18, .int x18), (19, .int x19), (20, .int x20), (21, .int x21), (22, .int x22)]) : W p l e ({ frames := 7, cells := mc, slots := 6464 * mc, locals := 174 } : Room) s m args below meth c H locs k (6464 * k) (MQ below (wx_QA D ad ca A (some (.int r)) σ') args s mc (6464 * mc) A) (F0 m 311 ls [.int y0]) := by
  obtain ⟨hx, hb, hml, hr, hts, hown, hlk, hC, hA⟩ := id B
  have hm := m_L_same_311 (K30 := K30) @mK30 (K49 := K49) @mK49 h
  unfold f_L_same_311 at h
  refine lv_istore (lv' := [(23, .int y0), (0, .ref (ad 11 99)), (1, .long x1), (3, .ref (ad 16 0)), (4, .ref (ad 16 1)), (5, .ref (ad 16 2)), (6, .ref (ad 16 3)), (7, .ref (ad 16 4)), (8, .int x8), (9, .int x9), (10, .int x10), (11, .int x11), (12, .ref mm), (13, .int x13), (14, .int x14), (15, .int x15), (16, .int x16), (17, .int x17), (18, .int x18), (19, .int x19), (20, .int x20), (21, .int x21), (22, .int x22)]) hx hb dL_same_311 hl (by decide) rfl (fun ls hl => ?_)
  refine lv_aload_n hx hb dL_same_313 rfl (lv_at hl 3 rfl) ?_
  refine lv_iconst (v := 0) hx hb dL_same_314 (by decide) ?_
  obtain ⟨v315, ev315, iv315, h⟩ := wx_rI_ok h
  refine wx_iald hx hb hC.1 Z.1 (o := 16) (k := 0) (n := 7) rfl rfl iv315 dL_same_315 ev315 ?_
  refine lv_if_ne (tgt := 351) hx hb dL_same_316 (by decide) (fun c316 => ?_) (fun c316 => ?_)
  · replace h := wx_iff c316 h
    exact b_L_same_351 B (K30 := K30) @hK30 @mK30 (K49 := K49) @hK49 @mK49 (k := k) hk h Z hS (lv_sub hl [1, 2, 3, 4, 5, 6, 7, 8, 9, 10, 11, 12, 13, 14, 15, 16, 17, 18, 19, 20, 21, 22, 0] rfl)
  · replace h := wx_ift c316 h
    refine lv_aload_n hx hb dL_same_319 rfl (lv_at hl 3 rfl) ?_
    refine lv_iconst (v := 1) hx hb dL_same_320 (by decide) ?_
    obtain ⟨v321, ev321, iv321, h⟩ := wx_rI_ok h
    refine wx_iald hx hb hC.1 Z.1 (o := 16) (k := 0) (n := 7) rfl rfl iv321 dL_same_321 ev321 ?_
    refine lv_if_ne (tgt := 351) hx hb dL_same_322 (by decide) (fun c322 => ?_) (fun c322 => ?_)
    · replace h := wx_iff c322 h
      exact b_L_same_351 B (K30 := K30) @hK30 @mK30 (K49 := K49) @hK49 @mK49 (k := k) hk h Z hS (lv_sub hl [1, 2, 3, 4, 5, 6, 7, 8, 9, 10, 11, 12, 13, 14, 15, 16, 17, 18, 19, 20, 21, 22, 0] rfl)
    · replace h := wx_ift c322 h
      refine lv_iload hx hb dL_same_325 (lv_at hl 21 rfl) ?_
      refine lv_iload hx hb dL_same_327 (lv_at hl 0 rfl) ?_
      refine lv_if_eq (tgt := 345) hx hb dL_same_329 (by decide) (fun c329 => ?_) (fun c329 => ?_)
      · replace h := wx_ift c329 h
        refine lv_iconst (v := 0) hx hb dL_same_345 (by decide) ?_
        exact b_L_same_346 B (K30 := K30) @hK30 @mK30 (K49 := K49) @hK49 @mK49 (k := k) hk h Z hS (lv_sub hl [1, 2, 3, 4, 5, 6, 7, 8, 9, 10, 11, 12, 13, 14, 15, 16, 17, 18, 19, 20, 21, 22, 0] rfl)
      · replace h := wx_iff c329 h
        refine lv_bipush (v := 10) hx hb dL_same_332 (by decide) ?_
        refine lv_aload_n hx hb dL_same_334 rfl (lv_at hl 3 rfl) ?_
        refine lv_iconst (v := 2) hx hb dL_same_335 (by decide) ?_
        obtain ⟨v336, ev336, iv336, h⟩ := wx_rI_ok h
        refine wx_iald hx hb hC.1 Z.1 (o := 16) (k := 0) (n := 7) rfl rfl iv336 dL_same_336 ev336 ?_
        refine lv_imul hx hb dL_same_337 ?_
        refine lv_aload_n hx hb dL_same_338 rfl (lv_at hl 3 rfl) ?_
        refine lv_iconst (v := 4) hx hb dL_same_339 (by decide) ?_
        obtain ⟨v340, ev340, iv340, h⟩ := wx_rI_ok h
        refine wx_iald hx hb hC.1 Z.1 (o := 16) (k := 0) (n := 7) rfl rfl iv340 dL_same_340 ev340 ?_
        refine lv_imul hx hb dL_same_341 ?_
        refine lv_goto (tgt := 346) hx hb dL_same_342 (by decide) ?_
        exact b_L_same_346 B (K30 := K30) @hK30 @mK30 (K49 := K49) @hK49 @mK49 (k := k) hk h Z hS (lv_sub hl [1, 2, 3, 4, 5, 6, 7, 8, 9, 10, 11, 12, 13, 14, 15, 16, 17, 18, 19, 20, 21, 22, 0] rfl)
set_option maxRecDepth 20000 in
set_option maxHeartbeats 4000000 in
theorem m_L_same_310  {r : Int32} {σ' : wx_St} {K30 : Int64 → Int32 → Int32 → Int32 → Int32 → Int32 → wx_St → Option (Int32 × wx_St)} (mK30 : ∀ {x1 : Int64} {x8 : Int32} {x9 : Int32} {x10 : Int32} {x11 : Int32} {x13 : Int32} {σ : wx_St}, K30 x1 x8 x9 x10 x11 x13 σ = some (r, σ') → wx_n σ.2.2.2.2 ≤ wx_n σ'.2.2.2.2) {K49 : Int64 → Int32 → Int32 → Int32 → Int32 → Int32 → Int32 → Int32 → Int32 → Int32 → wx_St → Option (Int32 × wx_St)} (mK49 : ∀ {x1 : Int64} {x8 : Int32} {x9 : Int32} {x10 : Int32} {x11 : Int32} {x13 : Int32} {x14 : Int32} {x15 : Int32} {x16 : Int32} {x17 : Int32} {σ : wx_St}, K49 x1 x8 x9 x10 x11 x13 x14 x15 x16 x17 σ = some (r, σ') → wx_n σ.2.2.2.2 ≤ wx_n σ'.2.2.2.2) {x1 : Int64} {x8 : Int32} {x9 : Int32} {x10 : Int32} {x11 : Int32} {x13 : Int32} {x14 : Int32} {x15 : Int32} {x16 : Int32} {x17 : Int32} {x18 : Int32} {x19 : Int32} {x20 : Int32} {x21 : Int32} {x22 : Int32} {σ : wx_St} (h : f_L_same_310 K30 K49 x1 x8 x9 x10 x11 x13 x14 x15 x16 x17 x18 x19 x20 x21 x22 σ = some (r, σ')) : wx_n σ.2.2.2.2 ≤ wx_n σ'.2.2.2.2 := by
  unfold f_L_same_310 at h
  exact m_L_same_311 (K30 := K30) @mK30 (K49 := K49) @mK49 h
set_option maxRecDepth 20000 in
set_option maxHeartbeats 4000000 in
theorem b_L_same_310 (B : wx_B p s m args meth c cL_same 24 (some .boolean) wsL_same RL D ad ca A)    {r : Int32} {σ' : wx_St} {mc : Nat} {mm : Nat} {K30 : Int64 → Int32 → Int32 → Int32 → Int32 → Int32 → wx_St → Option (Int32 × wx_St)} (hK30 : ∀ {x1 : Int64} {x8 : Int32} {x9 : Int32} {x10 : Int32} {x11 : Int32} {x13 : Int32} {σ : wx_St} {k : Nat} (hk : k + wx_n σ'.2.2.2.2 ≤ mc + wx_n σ.2.2.2.2)  (h : K30 x1 x8 x9 x10 x11 x13 σ = some (r, σ')) {rd : Nat → Nat} {H : Heap} {locs : List Loc} (Z : wx_ZM D ad rd ca A s.heap.size mm σ H) (hS : va_S A s.heap H locs) {ls : Array Slot} (hl : lv_has ls 24 [(0, .ref (ad 11 99)), (1, .long x1), (3, .ref (ad 16 0)), (4, .ref (ad 16 1)), (5, .ref (ad 16 2)), (6, .ref (ad 16 3)), (7, .ref (ad 16 4)), (8, .int x8), (9, .int x9), (10, .int x10), (11, .int x11), (12, .ref mm), (13, .int x13)]), W p l e ({ frames := 7, cells := mc, slots := 6464 * mc, locals := 174 } : Room) s m args below meth c H locs k (6464 * k) (MQ below (wx_QA D ad ca A (some (.int r)) σ') args s mc (6464 * mc) A) (F0 m 30 ls [])) (mK30 : ∀ {x1 : Int64} {x8 : Int32} {x9 : Int32} {x10 : Int32} {x11 : Int32} {x13 : Int32} {σ : wx_St}, K30 x1 x8 x9 x10 x11 x13 σ = some (r, σ') → wx_n σ.2.2.2.2 ≤ wx_n σ'.2.2.2.2) {K49 : Int64 → Int32 → Int32 → Int32 → Int32 → Int32 → Int32 → Int32 → Int32 → Int32 → wx_St → Option (Int32 × wx_St)} (hK49 : ∀ {x1 : Int64} {x8 : Int32} {x9 : Int32} {x10 : Int32} {x11 : Int32} {x13 : Int32} {x14 : Int32} {x15 : Int32} {x16 : Int32} {x17 : Int32} {σ : wx_St} {k : Nat} (hk : k + wx_n σ'.2.2.2.2 ≤ mc + wx_n σ.2.2.2.2)  (h : K49 x1 x8 x9 x10 x11 x13 x14 x15 x16 x17 σ = some (r, σ')) {rd : Nat → Nat} {H : Heap} {locs : List Loc} (Z : wx_ZM D ad rd ca A s.heap.size mm σ H) (hS : va_S A s.heap H locs) {ls : Array Slot} (hl : lv_has ls 24 [(0, .ref (ad 11 99)), (1, .long x1), (3, .ref (ad 16 0)), (4, .ref (ad 16 1)), (5, .ref (ad 16 2)), (6, .ref (ad 16 3)), (7, .ref (ad 16 4)), (8, .int x8), (9, .int x9), (10, .int x10), (11, .int x11), (12, .ref mm), (13, .int x13), (14, .int x14), (15, .int x15), (16, .int x16), (17, .int x17)]), W p l e ({ frames := 7, cells := mc, slots := 6464 * mc, locals := 174 } : Room) s m args below meth c H locs k (6464 * k) (MQ below (wx_QA D ad ca A (some (.int r)) σ') args s mc (6464 * mc) A) (F0 m 49 ls [])) (mK49 : ∀ {x1 : Int64} {x8 : Int32} {x9 : Int32} {x10 : Int32} {x11 : Int32} {x13 : Int32} {x14 : Int32} {x15 : Int32} {x16 : Int32} {x17 : Int32} {σ : wx_St}, K49 x1 x8 x9 x10 x11 x13 x14 x15 x16 x17 σ = some (r, σ') → wx_n σ.2.2.2.2 ≤ wx_n σ'.2.2.2.2) {x1 : Int64} {x8 : Int32} {x9 : Int32} {x10 : Int32} {x11 : Int32} {x13 : Int32} {x14 : Int32} {x15 : Int32} {x16 : Int32} {x17 : Int32} {x18 : Int32} {x19 : Int32} {x20 : Int32} {x21 : Int32} {x22 : Int32} {σ : wx_St} {k : Nat} (hk : k + wx_n σ'.2.2.2.2 ≤ mc + wx_n σ.2.2.2.2)  (h : f_L_same_310 K30 K49 x1 x8 x9 x10 x11 x13 x14 x15 x16 x17 x18 x19 x20 x21 x22 σ = some (r, σ')) {rd : Nat → Nat} {H : Heap} {locs : List Loc} (Z : wx_ZM D ad rd ca A s.heap.size mm σ H) (hS : va_S A s.heap H locs) {ls : Array Slot} (hl : lv_has ls 24 [(0, .ref (ad 11 99)), (1, .long x1), (3, .ref (ad 16 0)), (4, .ref (ad 16 1)), (5, .ref (ad 16 2)), (6, .ref (ad 16 3)), (7, .ref (ad 16 4)), (8, .int x8), (9, .int x9), (10, .int x10), (11, .int x11), (12, .ref mm), (13, .int x13), (14, .int x14), (15, .int x15), (16, .int x16), (17, .int x17), (18, .int x18), (19, .int x19), (20, .int x20), (21, .int x21), (22, .int x22)]) : W p l e ({ frames := 7, cells := mc, slots := 6464 * mc, locals := 174 } : Room) s m args below meth c H locs k (6464 * k) (MQ below (wx_QA D ad ca A (some (.int r)) σ') args s mc (6464 * mc) A) (F0 m 310 ls []) := by
  obtain ⟨hx, hb, hml, hr, hts, hown, hlk, hC, hA⟩ := id B
  have hm := m_L_same_310 (K30 := K30) @mK30 (K49 := K49) @mK49 h
  unfold f_L_same_310 at h
  refine lv_iconst (v := 0) hx hb dL_same_310 (by decide) ?_
  exact b_L_same_311 B (K30 := K30) @hK30 @mK30 (K49 := K49) @hK49 @mK49 (k := k) hk h Z hS (lv_sub hl [0, 1, 2, 3, 4, 5, 6, 7, 8, 9, 10, 11, 12, 13, 14, 15, 16, 17, 18, 19, 20, 21] rfl)
set_option maxRecDepth 20000 in
set_option maxHeartbeats 4000000 in
theorem m_L_same_269  {r : Int32} {σ' : wx_St} {K30 : Int64 → Int32 → Int32 → Int32 → Int32 → Int32 → wx_St → Option (Int32 × wx_St)} (mK30 : ∀ {x1 : Int64} {x8 : Int32} {x9 : Int32} {x10 : Int32} {x11 : Int32} {x13 : Int32} {σ : wx_St}, K30 x1 x8 x9 x10 x11 x13 σ = some (r, σ') → wx_n σ.2.2.2.2 ≤ wx_n σ'.2.2.2.2) {K49 : Int64 → Int32 → Int32 → Int32 → Int32 → Int32 → Int32 → Int32 → Int32 → Int32 → wx_St → Option (Int32 × wx_St)} (mK49 : ∀ {x1 : Int64} {x8 : Int32} {x9 : Int32} {x10 : Int32} {x11 : Int32} {x13 : Int32} {x14 : Int32} {x15 : Int32} {x16 : Int32} {x17 : Int32} {σ : wx_St}, K49 x1 x8 x9 x10 x11 x13 x14 x15 x16 x17 σ = some (r, σ') → wx_n σ.2.2.2.2 ≤ wx_n σ'.2.2.2.2) {x1 : Int64} {x8 : Int32} {x9 : Int32} {x10 : Int32} {x11 : Int32} {x13 : Int32} {x14 : Int32} {x15 : Int32} {x16 : Int32} {x17 : Int32} {x18 : Int32} {x19 : Int32} {x20 : Int32} {x21 : Int32} {σ : wx_St} (h : f_L_same_269 K30 K49 x1 x8 x9 x10 x11 x13 x14 x15 x16 x17 x18 x19 x20 x21 σ = some (r, σ')) : wx_n σ.2.2.2.2 ≤ wx_n σ'.2.2.2.2 := by
  unfold f_L_same_269 at h
  obtain ⟨v274, hc274, h⟩ := wx_o_ok h
  by_cases c281 : v274 < 0
  · replace h := wx_ift c281 h
    exact m_L_same_310 (K30 := K30) @mK30 (K49 := K49) @mK49 h
  · replace h := wx_iff c281 h
    obtain ⟨v288, ev288, iv288, h⟩ := wx_rI_ok h
    obtain ⟨v297, ev297, iv297, h⟩ := wx_rI_ok h
    obtain ⟨v300, hc300, h⟩ := wx_o_ok h
    by_cases c303 : v300 = 0
    · replace h := wx_ift c303 h
      exact m_L_same_310 (K30 := K30) @mK30 (K49 := K49) @mK49 h
    · replace h := wx_iff c303 h
      exact m_L_same_311 (K30 := K30) @mK30 (K49 := K49) @mK49 h
set_option maxRecDepth 20000 in
set_option maxHeartbeats 4000000 in
theorem b_L_same_269 (B : wx_B p s m args meth c cL_same 24 (some .boolean) wsL_same RL D ad ca A)    {r : Int32} {σ' : wx_St} {mc : Nat} {mm : Nat} {K30 : Int64 → Int32 → Int32 → Int32 → Int32 → Int32 → wx_St → Option (Int32 × wx_St)} (hK30 : ∀ {x1 : Int64} {x8 : Int32} {x9 : Int32} {x10 : Int32} {x11 : Int32} {x13 : Int32} {σ : wx_St} {k : Nat} (hk : k + wx_n σ'.2.2.2.2 ≤ mc + wx_n σ.2.2.2.2)  (h : K30 x1 x8 x9 x10 x11 x13 σ = some (r, σ')) {rd : Nat → Nat} {H : Heap} {locs : List Loc} (Z : wx_ZM D ad rd ca A s.heap.size mm σ H) (hS : va_S A s.heap H locs) {ls : Array Slot} (hl : lv_has ls 24 [(0, .ref (ad 11 99)), (1, .long x1), (3, .ref (ad 16 0)), (4, .ref (ad 16 1)), (5, .ref (ad 16 2)), (6, .ref (ad 16 3)), (7, .ref (ad 16 4)), (8, .int x8), (9, .int x9), (10, .int x10), (11, .int x11), (12, .ref mm), (13, .int x13)]), W p l e ({ frames := 7, cells := mc, slots := 6464 * mc, locals := 174 } : Room) s m args below meth c H locs k (6464 * k) (MQ below (wx_QA D ad ca A (some (.int r)) σ') args s mc (6464 * mc) A) (F0 m 30 ls [])) (mK30 : ∀ {x1 : Int64} {x8 : Int32} {x9 : Int32} {x10 : Int32} {x11 : Int32} {x13 : Int32} {σ : wx_St}, K30 x1 x8 x9 x10 x11 x13 σ = some (r, σ') → wx_n σ.2.2.2.2 ≤ wx_n σ'.2.2.2.2) {K49 : Int64 → Int32 → Int32 → Int32 → Int32 → Int32 → Int32 → Int32 → Int32 → Int32 → wx_St → Option (Int32 × wx_St)} (hK49 : ∀ {x1 : Int64} {x8 : Int32} {x9 : Int32} {x10 : Int32} {x11 : Int32} {x13 : Int32} {x14 : Int32} {x15 : Int32} {x16 : Int32} {x17 : Int32} {σ : wx_St} {k : Nat} (hk : k + wx_n σ'.2.2.2.2 ≤ mc + wx_n σ.2.2.2.2)  (h : K49 x1 x8 x9 x10 x11 x13 x14 x15 x16 x17 σ = some (r, σ')) {rd : Nat → Nat} {H : Heap} {locs : List Loc} (Z : wx_ZM D ad rd ca A s.heap.size mm σ H) (hS : va_S A s.heap H locs) {ls : Array Slot} (hl : lv_has ls 24 [(0, .ref (ad 11 99)), (1, .long x1), (3, .ref (ad 16 0)), (4, .ref (ad 16 1)), (5, .ref (ad 16 2)), (6, .ref (ad 16 3)), (7, .ref (ad 16 4)), (8, .int x8), (9, .int x9), (10, .int x10), (11, .int x11), (12, .ref mm), (13, .int x13), (14, .int x14), (15, .int x15), (16, .int x16), (17, .int x17)]), W p l e ({ frames := 7, cells := mc, slots := 6464 * mc, locals := 174 } : Room) s m args below meth c H locs k (6464 * k) (MQ below (wx_QA D ad ca A (some (.int r)) σ') args s mc (6464 * mc) A) (F0 m 49 ls [])) (mK49 : ∀ {x1 : Int64} {x8 : Int32} {x9 : Int32} {x10 : Int32} {x11 : Int32} {x13 : Int32} {x14 : Int32} {x15 : Int32} {x16 : Int32} {x17 : Int32} {σ : wx_St}, K49 x1 x8 x9 x10 x11 x13 x14 x15 x16 x17 σ = some (r, σ') → wx_n σ.2.2.2.2 ≤ wx_n σ'.2.2.2.2) {x1 : Int64} {x8 : Int32} {x9 : Int32} {x10 : Int32} {x11 : Int32} {x13 : Int32} {x14 : Int32} {x15 : Int32} {x16 : Int32} {x17 : Int32} {x18 : Int32} {x19 : Int32} {x20 : Int32} {x21 : Int32} {σ : wx_St} {k : Nat} (hk : k + wx_n σ'.2.2.2.2 ≤ mc + wx_n σ.2.2.2.2)  (h : f_L_same_269 K30 K49 x1 x8 x9 x10 x11 x13 x14 x15 x16 x17 x18 x19 x20 x21 σ = some (r, σ')) {rd : Nat → Nat} {H : Heap} {locs : List Loc} (Z : wx_ZM D ad rd ca A s.heap.size mm σ H) (hS : va_S A s.heap H locs) {ls : Array Slot} (hl : lv_has ls 24 [(0, .ref (ad 11 99)), (1, .long x1), (3, .ref (ad 16 0)), (4, .ref (ad 16 1)), (5, .ref (ad 16 2)), (6, .ref (ad 16 3)), (7, .ref (ad 16 4)), (8, .int x8), (9, .int x9), (10, .int x10), (11, .int x11), (12, .ref mm), (13, .int x13), (14, .int x14), (15, .int x15), (16, .int x16), (17, .int x17), (18, .int x18), (19, .int x19), (20, .int x20), (21, .int x21)]) : W p l e ({ frames := 7, cells := mc, slots := 6464 * mc, locals := 174 } : Room) s m args below meth c H locs k (6464 * k) (MQ below (wx_QA D ad ca A (some (.int r)) σ') args s mc (6464 * mc) A) (F0 m 269 ls []) := by
  obtain ⟨hx, hb, hml, hr, hts, hown, hlk, hC, hA⟩ := id B
  have hm := m_L_same_269 (K30 := K30) @mK30 (K49 := K49) @mK49 h
  unfold f_L_same_269 at h
  refine lv_iload hx hb dL_same_269 (lv_at hl 17 rfl) ?_
  refine lv_aload_n hx hb dL_same_271 rfl (lv_at hl 2 rfl) ?_
  refine lv_aload hx hb dL_same_272 (lv_at hl 3 rfl) ?_
  obtain ⟨v274, hc274, h⟩ := wx_o_ok h
  refine wx_callM (va_runS (As := [.int x18, .ref (ad 16 0), .ref (ad 16 1)]) (rest := []) ⟨hx, hb, hml, hown, hts⟩ (c_L_touch l (D := D) (ad := ad) (rd := rd) (ca := ca) (A := wx_Am A mm) (σ := σ) hc274) (va_cwS 3 hts gL_same_L_touch rfl rfl rfl (by decide +kernel) ⟨Nat.le_of_ble_eq_true rfl, Nat.le_of_ble_eq_true rfl⟩) (wx_preSM hC hA Z hS) rfl rfl hl.1 rfl (lv_room (Nat.le_of_ble_eq_true rfl)) dL_same_274 ⟨(by show k + 0 ≤ mc; omega), (by show 6464 * k + 0 ≤ 6464 * mc; omega)⟩) Z hS (fun H locs Z hS => ?_)
  refine lv_istore (lv' := [(22, .int v274), (0, .ref (ad 11 99)), (1, .long x1), (3, .ref (ad 16 0)), (4, .ref (ad 16 1)), (5, .ref (ad 16 2)), (6, .ref (ad 16 3)), (7, .ref (ad 16 4)), (8, .int x8), (9, .int x9), (10, .int x10), (11, .int x11), (12, .ref mm), (13, .int x13), (14, .int x14), (15, .int x15), (16, .int x16), (17, .int x17), (18, .int x18), (19, .int x19), (20, .int x20), (21, .int x21)]) hx hb dL_same_277 hl (by decide) rfl (fun ls hl => ?_)
  refine lv_iload hx hb dL_same_279 (lv_at hl 0 rfl) ?_
  refine lv_if_lt (tgt := 310) hx hb dL_same_281 (by decide) (fun c281 => ?_) (fun c281 => ?_)
  · replace h := wx_ift c281 h
    exact b_L_same_310 B (K30 := K30) @hK30 @mK30 (K49 := K49) @hK49 @mK49 (k := k) hk h Z hS (lv_sub hl [1, 2, 3, 4, 5, 6, 7, 8, 9, 10, 11, 12, 13, 14, 15, 16, 17, 18, 19, 20, 21, 0] rfl)
  · replace h := wx_iff c281 h
    refine lv_aload hx hb dL_same_284 (lv_at hl 6 rfl) ?_
    refine lv_iload hx hb dL_same_286 (lv_at hl 18 rfl) ?_
    obtain ⟨v288, ev288, iv288, h⟩ := wx_rI_ok h
    refine wx_iald hx hb hC.1 Z.1 (o := 16) (k := 3) (n := 64) rfl rfl iv288 dL_same_288 ev288 ?_
    refine lv_aload hx hb dL_same_289 (lv_at hl 4 rfl) ?_
    refine lv_iconst (v := 2) hx hb dL_same_291 (by decide) ?_
    refine lv_iload hx hb dL_same_292 (lv_at hl 0 rfl) ?_
    refine lv_imul hx hb dL_same_294 ?_
    refine lv_iconst (v := 1) hx hb dL_same_295 (by decide) ?_
    refine lv_iadd hx hb dL_same_296 ?_
    obtain ⟨v297, ev297, iv297, h⟩ := wx_rI_ok h
    refine wx_iald hx hb hC.1 Z.1 (o := 16) (k := 1) (n := 6) rfl rfl iv297 dL_same_297 ev297 ?_
    refine lv_aload hx hb dL_same_298 (lv_at hl 7 rfl) ?_
    obtain ⟨v300, hc300, h⟩ := wx_o_ok h
    refine wx_callM (va_runS (As := [.int v288, .int v297, .ref (ad 16 4)]) (rest := []) ⟨hx, hb, hml, hown, hts⟩ (c_L_fed l (D := D) (ad := ad) (rd := rd) (ca := ca) (A := wx_Am A mm) (σ := σ) hc300) (va_cwS 3 hts gL_same_L_fed rfl rfl rfl (by decide +kernel) ⟨Nat.le_of_ble_eq_true rfl, Nat.le_of_ble_eq_true rfl⟩) (wx_preSM hC hA Z hS) rfl rfl hl.1 rfl (lv_room (Nat.le_of_ble_eq_true rfl)) dL_same_300 ⟨(by show k + 0 ≤ mc; omega), (by show 6464 * k + 0 ≤ 6464 * mc; omega)⟩) Z hS (fun H locs Z hS => ?_)
    refine lv_if_eq (tgt := 310) hx hb dL_same_303 (by decide) (fun c303 => ?_) (fun c303 => ?_)
    · replace h := wx_ift c303 h
      exact b_L_same_310 B (K30 := K30) @hK30 @mK30 (K49 := K49) @hK49 @mK49 (k := k) hk h Z hS (lv_sub hl [1, 2, 3, 4, 5, 6, 7, 8, 9, 10, 11, 12, 13, 14, 15, 16, 17, 18, 19, 20, 21, 0] rfl)
    · replace h := wx_iff c303 h
      refine lv_iconst (v := 1) hx hb dL_same_306 (by decide) ?_
      refine lv_goto (tgt := 311) hx hb dL_same_307 (by decide) ?_
      exact b_L_same_311 B (K30 := K30) @hK30 @mK30 (K49 := K49) @hK49 @mK49 (k := k) hk h Z hS (lv_sub hl [1, 2, 3, 4, 5, 6, 7, 8, 9, 10, 11, 12, 13, 14, 15, 16, 17, 18, 19, 20, 21, 0] rfl)
set_option maxRecDepth 20000 in
set_option maxHeartbeats 4000000 in
theorem m_L_same_264  {r : Int32} {σ' : wx_St} {K30 : Int64 → Int32 → Int32 → Int32 → Int32 → Int32 → wx_St → Option (Int32 × wx_St)} (mK30 : ∀ {x1 : Int64} {x8 : Int32} {x9 : Int32} {x10 : Int32} {x11 : Int32} {x13 : Int32} {σ : wx_St}, K30 x1 x8 x9 x10 x11 x13 σ = some (r, σ') → wx_n σ.2.2.2.2 ≤ wx_n σ'.2.2.2.2) {K49 : Int64 → Int32 → Int32 → Int32 → Int32 → Int32 → Int32 → Int32 → Int32 → Int32 → wx_St → Option (Int32 × wx_St)} (mK49 : ∀ {x1 : Int64} {x8 : Int32} {x9 : Int32} {x10 : Int32} {x11 : Int32} {x13 : Int32} {x14 : Int32} {x15 : Int32} {x16 : Int32} {x17 : Int32} {σ : wx_St}, K49 x1 x8 x9 x10 x11 x13 x14 x15 x16 x17 σ = some (r, σ') → wx_n σ.2.2.2.2 ≤ wx_n σ'.2.2.2.2) {x1 : Int64} {x8 : Int32} {x9 : Int32} {x10 : Int32} {x11 : Int32} {x13 : Int32} {x14 : Int32} {x15 : Int32} {x16 : Int32} {x17 : Int32} {x18 : Int32} {x19 : Int32} {x20 : Int32} {x21 : Int32} {y0 : Int32} {σ : wx_St} (h : f_L_same_264 K30 K49 x1 x8 x9 x10 x11 x13 x14 x15 x16 x17 x18 x19 x20 x21 y0 σ = some (r, σ')) : wx_n σ.2.2.2.2 ≤ wx_n σ'.2.2.2.2 := by
  unfold f_L_same_264 at h
  by_cases c264 : y0 = 0
  · replace h := wx_ift c264 h
    exact m_L_same_269 (K30 := K30) @mK30 (K49 := K49) @mK49 h
  · replace h := wx_iff c264 h
    exact m_L_same_267 h
set_option maxRecDepth 20000 in
set_option maxHeartbeats 4000000 in
theorem b_L_same_264 (B : wx_B p s m args meth c cL_same 24 (some .boolean) wsL_same RL D ad ca A)    {r : Int32} {σ' : wx_St} {mc : Nat} {mm : Nat} {K30 : Int64 → Int32 → Int32 → Int32 → Int32 → Int32 → wx_St → Option (Int32 × wx_St)} (hK30 : ∀ {x1 : Int64} {x8 : Int32} {x9 : Int32} {x10 : Int32} {x11 : Int32} {x13 : Int32} {σ : wx_St} {k : Nat} (hk : k + wx_n σ'.2.2.2.2 ≤ mc + wx_n σ.2.2.2.2)  (h : K30 x1 x8 x9 x10 x11 x13 σ = some (r, σ')) {rd : Nat → Nat} {H : Heap} {locs : List Loc} (Z : wx_ZM D ad rd ca A s.heap.size mm σ H) (hS : va_S A s.heap H locs) {ls : Array Slot} (hl : lv_has ls 24 [(0, .ref (ad 11 99)), (1, .long x1), (3, .ref (ad 16 0)), (4, .ref (ad 16 1)), (5, .ref (ad 16 2)), (6, .ref (ad 16 3)), (7, .ref (ad 16 4)), (8, .int x8), (9, .int x9), (10, .int x10), (11, .int x11), (12, .ref mm), (13, .int x13)]), W p l e ({ frames := 7, cells := mc, slots := 6464 * mc, locals := 174 } : Room) s m args below meth c H locs k (6464 * k) (MQ below (wx_QA D ad ca A (some (.int r)) σ') args s mc (6464 * mc) A) (F0 m 30 ls [])) (mK30 : ∀ {x1 : Int64} {x8 : Int32} {x9 : Int32} {x10 : Int32} {x11 : Int32} {x13 : Int32} {σ : wx_St}, K30 x1 x8 x9 x10 x11 x13 σ = some (r, σ') → wx_n σ.2.2.2.2 ≤ wx_n σ'.2.2.2.2) {K49 : Int64 → Int32 → Int32 → Int32 → Int32 → Int32 → Int32 → Int32 → Int32 → Int32 → wx_St → Option (Int32 × wx_St)} (hK49 : ∀ {x1 : Int64} {x8 : Int32} {x9 : Int32} {x10 : Int32} {x11 : Int32} {x13 : Int32} {x14 : Int32} {x15 : Int32} {x16 : Int32} {x17 : Int32} {σ : wx_St} {k : Nat} (hk : k + wx_n σ'.2.2.2.2 ≤ mc + wx_n σ.2.2.2.2)  (h : K49 x1 x8 x9 x10 x11 x13 x14 x15 x16 x17 σ = some (r, σ')) {rd : Nat → Nat} {H : Heap} {locs : List Loc} (Z : wx_ZM D ad rd ca A s.heap.size mm σ H) (hS : va_S A s.heap H locs) {ls : Array Slot} (hl : lv_has ls 24 [(0, .ref (ad 11 99)), (1, .long x1), (3, .ref (ad 16 0)), (4, .ref (ad 16 1)), (5, .ref (ad 16 2)), (6, .ref (ad 16 3)), (7, .ref (ad 16 4)), (8, .int x8), (9, .int x9), (10, .int x10), (11, .int x11), (12, .ref mm), (13, .int x13), (14, .int x14), (15, .int x15), (16, .int x16), (17, .int x17)]), W p l e ({ frames := 7, cells := mc, slots := 6464 * mc, locals := 174 } : Room) s m args below meth c H locs k (6464 * k) (MQ below (wx_QA D ad ca A (some (.int r)) σ') args s mc (6464 * mc) A) (F0 m 49 ls [])) (mK49 : ∀ {x1 : Int64} {x8 : Int32} {x9 : Int32} {x10 : Int32} {x11 : Int32} {x13 : Int32} {x14 : Int32} {x15 : Int32} {x16 : Int32} {x17 : Int32} {σ : wx_St}, K49 x1 x8 x9 x10 x11 x13 x14 x15 x16 x17 σ = some (r, σ') → wx_n σ.2.2.2.2 ≤ wx_n σ'.2.2.2.2) {x1 : Int64} {x8 : Int32} {x9 : Int32} {x10 : Int32} {x11 : Int32} {x13 : Int32} {x14 : Int32} {x15 : Int32} {x16 : Int32} {x17 : Int32} {x18 : Int32} {x19 : Int32} {x20 : Int32} {x21 : Int32} {y0 : Int32} {σ : wx_St} {k : Nat} (hk : k + wx_n σ'.2.2.2.2 ≤ mc + wx_n σ.2.2.2.2)  (h : f_L_same_264 K30 K49 x1 x8 x9 x10 x11 x13 x14 x15 x16 x17 x18 x19 x20 x21 y0 σ = some (r, σ')) {rd : Nat → Nat} {H : Heap} {locs : List Loc} (Z : wx_ZM D ad rd ca A s.heap.size mm σ H) (hS : va_S A s.heap H locs) {ls : Array Slot} (hl : lv_has ls 24 [(0, .ref (ad 11 99)), (1, .long x1), (3, .ref (ad 16 0)), (4, .ref (ad 16 1)), (5, .ref (ad 16 2)), (6, .ref (ad 16 3)), (7, .ref (ad 16 4)), (8, .int x8), (9, .int x9), (10, .int x10), (11, .int x11), (12, .ref mm), (13, .int x13), (14, .int x14), (15, .int x15), (16, .int x16), (17, .int x17), (18, .int x18), (19, .int x19), (20, .int x20), (21, .int x21)]) : W p l e ({ frames := 7, cells := mc, slots := 6464 * mc, locals := 174 } : Room) s m args below meth c H locs k (6464 * k) (MQ below (wx_QA D ad ca A (some (.int r)) σ') args s mc (6464 * mc) A) (F0 m 264 ls [.int y0]) := by
  obtain ⟨hx, hb, hml, hr, hts, hown, hlk, hC, hA⟩ := id B
  have hm := m_L_same_264 (K30 := K30) @mK30 (K49 := K49) @mK49 h
  unfold f_L_same_264 at h
  refine lv_if_eq (tgt := 269) hx hb dL_same_264 (by decide) (fun c264 => ?_) (fun c264 => ?_)
  · replace h := wx_ift c264 h
    exact b_L_same_269 B (K30 := K30) @hK30 @mK30 (K49 := K49) @hK49 @mK49 (k := k) hk h Z hS (lv_sub hl [0, 1, 2, 3, 4, 5, 6, 7, 8, 9, 10, 11, 12, 13, 14, 15, 16, 17, 18, 19, 20] rfl)
  · replace h := wx_iff c264 h
    exact b_L_same_267 B (k := k) hk h Z hS (lv_sub hl [0, 1, 2, 3, 4, 5, 6, 7, 8, 9, 10, 11, 12, 13, 14, 15, 16, 17, 18, 19, 20] rfl)
set_option maxRecDepth 20000 in
set_option maxHeartbeats 4000000 in
theorem m_L_same_250  {r : Int32} {σ' : wx_St} {K30 : Int64 → Int32 → Int32 → Int32 → Int32 → Int32 → wx_St → Option (Int32 × wx_St)} (mK30 : ∀ {x1 : Int64} {x8 : Int32} {x9 : Int32} {x10 : Int32} {x11 : Int32} {x13 : Int32} {σ : wx_St}, K30 x1 x8 x9 x10 x11 x13 σ = some (r, σ') → wx_n σ.2.2.2.2 ≤ wx_n σ'.2.2.2.2) {K49 : Int64 → Int32 → Int32 → Int32 → Int32 → Int32 → Int32 → Int32 → Int32 → Int32 → wx_St → Option (Int32 × wx_St)} (mK49 : ∀ {x1 : Int64} {x8 : Int32} {x9 : Int32} {x10 : Int32} {x11 : Int32} {x13 : Int32} {x14 : Int32} {x15 : Int32} {x16 : Int32} {x17 : Int32} {σ : wx_St}, K49 x1 x8 x9 x10 x11 x13 x14 x15 x16 x17 σ = some (r, σ') → wx_n σ.2.2.2.2 ≤ wx_n σ'.2.2.2.2) {x1 : Int64} {x8 : Int32} {x9 : Int32} {x10 : Int32} {x11 : Int32} {x13 : Int32} {x14 : Int32} {x15 : Int32} {x16 : Int32} {x17 : Int32} {x18 : Int32} {x19 : Int32} {x20 : Int32} {x21 : Int32} {σ : wx_St} (h : f_L_same_250 K30 K49 x1 x8 x9 x10 x11 x13 x14 x15 x16 x17 x18 x19 x20 x21 σ = some (r, σ')) : wx_n σ.2.2.2.2 ≤ wx_n σ'.2.2.2.2 := by
  unfold f_L_same_250 at h
  by_cases c252 : x21 = 0
  · replace h := wx_ift c252 h
    obtain ⟨v261, z261, σ261, hc261, ez261, h⟩ := wx_bM_ok h
    refine Nat.le_trans (Nat.le_trans (m_X5_at_0 hc261) (Nat.le_of_eq (congrArg wx_n (wx_kMal ez261).symm))) ?_
    exact m_L_same_264 (K30 := K30) @mK30 (K49 := K49) @mK49 h
  · replace h := wx_iff c252 h
    exact m_L_same_267 h
set_option maxRecDepth 20000 in
set_option maxHeartbeats 4000000 in
theorem b_L_same_250 (B : wx_B p s m args meth c cL_same 24 (some .boolean) wsL_same RL D ad ca A)    {r : Int32} {σ' : wx_St} {mc : Nat} {mm : Nat} {K30 : Int64 → Int32 → Int32 → Int32 → Int32 → Int32 → wx_St → Option (Int32 × wx_St)} (hK30 : ∀ {x1 : Int64} {x8 : Int32} {x9 : Int32} {x10 : Int32} {x11 : Int32} {x13 : Int32} {σ : wx_St} {k : Nat} (hk : k + wx_n σ'.2.2.2.2 ≤ mc + wx_n σ.2.2.2.2)  (h : K30 x1 x8 x9 x10 x11 x13 σ = some (r, σ')) {rd : Nat → Nat} {H : Heap} {locs : List Loc} (Z : wx_ZM D ad rd ca A s.heap.size mm σ H) (hS : va_S A s.heap H locs) {ls : Array Slot} (hl : lv_has ls 24 [(0, .ref (ad 11 99)), (1, .long x1), (3, .ref (ad 16 0)), (4, .ref (ad 16 1)), (5, .ref (ad 16 2)), (6, .ref (ad 16 3)), (7, .ref (ad 16 4)), (8, .int x8), (9, .int x9), (10, .int x10), (11, .int x11), (12, .ref mm), (13, .int x13)]), W p l e ({ frames := 7, cells := mc, slots := 6464 * mc, locals := 174 } : Room) s m args below meth c H locs k (6464 * k) (MQ below (wx_QA D ad ca A (some (.int r)) σ') args s mc (6464 * mc) A) (F0 m 30 ls [])) (mK30 : ∀ {x1 : Int64} {x8 : Int32} {x9 : Int32} {x10 : Int32} {x11 : Int32} {x13 : Int32} {σ : wx_St}, K30 x1 x8 x9 x10 x11 x13 σ = some (r, σ') → wx_n σ.2.2.2.2 ≤ wx_n σ'.2.2.2.2) {K49 : Int64 → Int32 → Int32 → Int32 → Int32 → Int32 → Int32 → Int32 → Int32 → Int32 → wx_St → Option (Int32 × wx_St)} (hK49 : ∀ {x1 : Int64} {x8 : Int32} {x9 : Int32} {x10 : Int32} {x11 : Int32} {x13 : Int32} {x14 : Int32} {x15 : Int32} {x16 : Int32} {x17 : Int32} {σ : wx_St} {k : Nat} (hk : k + wx_n σ'.2.2.2.2 ≤ mc + wx_n σ.2.2.2.2)  (h : K49 x1 x8 x9 x10 x11 x13 x14 x15 x16 x17 σ = some (r, σ')) {rd : Nat → Nat} {H : Heap} {locs : List Loc} (Z : wx_ZM D ad rd ca A s.heap.size mm σ H) (hS : va_S A s.heap H locs) {ls : Array Slot} (hl : lv_has ls 24 [(0, .ref (ad 11 99)), (1, .long x1), (3, .ref (ad 16 0)), (4, .ref (ad 16 1)), (5, .ref (ad 16 2)), (6, .ref (ad 16 3)), (7, .ref (ad 16 4)), (8, .int x8), (9, .int x9), (10, .int x10), (11, .int x11), (12, .ref mm), (13, .int x13), (14, .int x14), (15, .int x15), (16, .int x16), (17, .int x17)]), W p l e ({ frames := 7, cells := mc, slots := 6464 * mc, locals := 174 } : Room) s m args below meth c H locs k (6464 * k) (MQ below (wx_QA D ad ca A (some (.int r)) σ') args s mc (6464 * mc) A) (F0 m 49 ls [])) (mK49 : ∀ {x1 : Int64} {x8 : Int32} {x9 : Int32} {x10 : Int32} {x11 : Int32} {x13 : Int32} {x14 : Int32} {x15 : Int32} {x16 : Int32} {x17 : Int32} {σ : wx_St}, K49 x1 x8 x9 x10 x11 x13 x14 x15 x16 x17 σ = some (r, σ') → wx_n σ.2.2.2.2 ≤ wx_n σ'.2.2.2.2) {x1 : Int64} {x8 : Int32} {x9 : Int32} {x10 : Int32} {x11 : Int32} {x13 : Int32} {x14 : Int32} {x15 : Int32} {x16 : Int32} {x17 : Int32} {x18 : Int32} {x19 : Int32} {x20 : Int32} {x21 : Int32} {σ : wx_St} {k : Nat} (hk : k + wx_n σ'.2.2.2.2 ≤ mc + wx_n σ.2.2.2.2)  (h : f_L_same_250 K30 K49 x1 x8 x9 x10 x11 x13 x14 x15 x16 x17 x18 x19 x20 x21 σ = some (r, σ')) {rd : Nat → Nat} {H : Heap} {locs : List Loc} (Z : wx_ZM D ad rd ca A s.heap.size mm σ H) (hS : va_S A s.heap H locs) {ls : Array Slot} (hl : lv_has ls 24 [(0, .ref (ad 11 99)), (1, .long x1), (3, .ref (ad 16 0)), (4, .ref (ad 16 1)), (5, .ref (ad 16 2)), (6, .ref (ad 16 3)), (7, .ref (ad 16 4)), (8, .int x8), (9, .int x9), (10, .int x10), (11, .int x11), (12, .ref mm), (13, .int x13), (14, .int x14), (15, .int x15), (16, .int x16), (17, .int x17), (18, .int x18), (19, .int x19), (20, .int x20), (21, .int x21)]) : W p l e ({ frames := 7, cells := mc, slots := 6464 * mc, locals := 174 } : Room) s m args below meth c H locs k (6464 * k) (MQ below (wx_QA D ad ca A (some (.int r)) σ') args s mc (6464 * mc) A) (F0 m 250 ls []) := by
  obtain ⟨hx, hb, hml, hr, hts, hown, hlk, hC, hA⟩ := id B
  have hm := m_L_same_250 (K30 := K30) @mK30 (K49 := K49) @mK49 h
  unfold f_L_same_250 at h
  refine lv_iload hx hb dL_same_250 (lv_at hl 20 rfl) ?_
  refine lv_if_ne (tgt := 267) hx hb dL_same_252 (by decide) (fun c252 => ?_) (fun c252 => ?_)
  · replace h := wx_iff c252 h
    exact b_L_same_267 B (k := k) hk h Z hS (lv_sub hl [0, 1, 2, 3, 4, 5, 6, 7, 8, 9, 10, 11, 12, 13, 14, 15, 16, 17, 18, 19, 20] rfl)
  · replace h := wx_ift c252 h
    refine lv_aload_n hx hb dL_same_255 rfl (lv_at hl 0 rfl) ?_
    refine lv_iload hx hb dL_same_256 (lv_at hl 12 rfl) ?_
    refine lv_iload hx hb dL_same_258 (lv_at hl 16 rfl) ?_
    refine lv_iconst (v := 1) hx hb dL_same_260 (by decide) ?_
    obtain ⟨v261, z261, σ261, hc261, ez261, h⟩ := wx_bM_ok h
    have m1 := m_X5_at_0 hc261
    have m2 := m_L_same_264 (K30 := K30) @mK30 (K49 := K49) @mK49 h
    have m3 := congrArg wx_n (wx_kMal ez261)
    refine wx_callAM (va_runV (As := [.int x13, .int x17, .int 1]) (rest := []) ⟨hx, hb, hml, hown, hts⟩ (c_X5_at l (D := D) (ad := ad) (rd := rd) (ca := ca) (A := wx_Am A mm) (σ := σ) hc261) (cwV 3 hts gL_same_X5_at rfl rfl rfl (by decide +kernel) ⟨Nat.le_of_ble_eq_true rfl, Nat.le_of_ble_eq_true rfl⟩) (wx_preVM hC hA Z hS rfl (rfl : vwCl[5]? = some (RX5, TX5, 7))) rfl rfl hl.1 rfl (lv_room (Nat.le_of_ble_eq_true rfl)) dL_same_261 ⟨(by show k + (wx_n z261.2.2.2.2 - wx_n σ.2.2.2.2) ≤ mc; omega), (by show 6464 * k + 6464 * (wx_n z261.2.2.2.2 - wx_n σ.2.2.2.2) ≤ 6464 * mc; omega)⟩) Z hS ez261 (fun rd H locs Z hS => ?_)
    refine W.widen (k := k + (wx_n z261.2.2.2.2 - wx_n σ.2.2.2.2)) (n := 6464 * (k + (wx_n z261.2.2.2.2 - wx_n σ.2.2.2.2))) (Nat.le_refl _) (by omega) ?_
    exact b_L_same_264 B (K30 := K30) @hK30 @mK30 (K49 := K49) @hK49 @mK49 (k := k + (wx_n z261.2.2.2.2 - wx_n σ.2.2.2.2)) (by omega) h Z hS (lv_sub hl [0, 1, 2, 3, 4, 5, 6, 7, 8, 9, 10, 11, 12, 13, 14, 15, 16, 17, 18, 19, 20] rfl)
set_option maxRecDepth 20000 in
set_option maxHeartbeats 4000000 in
theorem m_L_same_232  {r : Int32} {σ' : wx_St} {K30 : Int64 → Int32 → Int32 → Int32 → Int32 → Int32 → wx_St → Option (Int32 × wx_St)} (mK30 : ∀ {x1 : Int64} {x8 : Int32} {x9 : Int32} {x10 : Int32} {x11 : Int32} {x13 : Int32} {σ : wx_St}, K30 x1 x8 x9 x10 x11 x13 σ = some (r, σ') → wx_n σ.2.2.2.2 ≤ wx_n σ'.2.2.2.2) {K49 : Int64 → Int32 → Int32 → Int32 → Int32 → Int32 → Int32 → Int32 → Int32 → Int32 → wx_St → Option (Int32 × wx_St)} (mK49 : ∀ {x1 : Int64} {x8 : Int32} {x9 : Int32} {x10 : Int32} {x11 : Int32} {x13 : Int32} {x14 : Int32} {x15 : Int32} {x16 : Int32} {x17 : Int32} {σ : wx_St}, K49 x1 x8 x9 x10 x11 x13 x14 x15 x16 x17 σ = some (r, σ') → wx_n σ.2.2.2.2 ≤ wx_n σ'.2.2.2.2) {x1 : Int64} {x8 : Int32} {x9 : Int32} {x10 : Int32} {x11 : Int32} {x13 : Int32} {x14 : Int32} {x15 : Int32} {x16 : Int32} {x17 : Int32} {x18 : Int32} {x19 : Int32} {x20 : Int32} {y0 : Int32} {σ : wx_St} (h : f_L_same_232 K30 K49 x1 x8 x9 x10 x11 x13 x14 x15 x16 x17 x18 x19 x20 y0 σ = some (r, σ')) : wx_n σ.2.2.2.2 ≤ wx_n σ'.2.2.2.2 := by
  unfold f_L_same_232 at h
  by_cases c236 : y0 < 0
  · replace h := wx_ift c236 h
    exact m_L_same_267 h
  · replace h := wx_iff c236 h
    obtain ⟨v241, ev241, iv241, h⟩ := wx_rI_ok h
    by_cases c242 : v241 = 0
    · replace h := wx_ift c242 h
      exact m_L_same_250 (K30 := K30) @mK30 (K49 := K49) @mK49 h
    · replace h := wx_iff c242 h
      by_cases c247 : x11 = 0
      · replace h := wx_ift c247 h
        exact m_L_same_250 (K30 := K30) @mK30 (K49 := K49) @mK49 h
      · replace h := wx_iff c247 h
        exact m_L_same_269 (K30 := K30) @mK30 (K49 := K49) @mK49 h
set_option maxRecDepth 20000 in
set_option maxHeartbeats 4000000 in
theorem b_L_same_232 (B : wx_B p s m args meth c cL_same 24 (some .boolean) wsL_same RL D ad ca A)    {r : Int32} {σ' : wx_St} {mc : Nat} {mm : Nat} {K30 : Int64 → Int32 → Int32 → Int32 → Int32 → Int32 → wx_St → Option (Int32 × wx_St)} (hK30 : ∀ {x1 : Int64} {x8 : Int32} {x9 : Int32} {x10 : Int32} {x11 : Int32} {x13 : Int32} {σ : wx_St} {k : Nat} (hk : k + wx_n σ'.2.2.2.2 ≤ mc + wx_n σ.2.2.2.2)  (h : K30 x1 x8 x9 x10 x11 x13 σ = some (r, σ')) {rd : Nat → Nat} {H : Heap} {locs : List Loc} (Z : wx_ZM D ad rd ca A s.heap.size mm σ H) (hS : va_S A s.heap H locs) {ls : Array Slot} (hl : lv_has ls 24 [(0, .ref (ad 11 99)), (1, .long x1), (3, .ref (ad 16 0)), (4, .ref (ad 16 1)), (5, .ref (ad 16 2)), (6, .ref (ad 16 3)), (7, .ref (ad 16 4)), (8, .int x8), (9, .int x9), (10, .int x10), (11, .int x11), (12, .ref mm), (13, .int x13)]), W p l e ({ frames := 7, cells := mc, slots := 6464 * mc, locals := 174 } : Room) s m args below meth c H locs k (6464 * k) (MQ below (wx_QA D ad ca A (some (.int r)) σ') args s mc (6464 * mc) A) (F0 m 30 ls [])) (mK30 : ∀ {x1 : Int64} {x8 : Int32} {x9 : Int32} {x10 : Int32} {x11 : Int32} {x13 : Int32} {σ : wx_St}, K30 x1 x8 x9 x10 x11 x13 σ = some (r, σ') → wx_n σ.2.2.2.2 ≤ wx_n σ'.2.2.2.2) {K49 : Int64 → Int32 → Int32 → Int32 → Int32 → Int32 → Int32 → Int32 → Int32 → Int32 → wx_St → Option (Int32 × wx_St)} (hK49 : ∀ {x1 : Int64} {x8 : Int32} {x9 : Int32} {x10 : Int32} {x11 : Int32} {x13 : Int32} {x14 : Int32} {x15 : Int32} {x16 : Int32} {x17 : Int32} {σ : wx_St} {k : Nat} (hk : k + wx_n σ'.2.2.2.2 ≤ mc + wx_n σ.2.2.2.2)  (h : K49 x1 x8 x9 x10 x11 x13 x14 x15 x16 x17 σ = some (r, σ')) {rd : Nat → Nat} {H : Heap} {locs : List Loc} (Z : wx_ZM D ad rd ca A s.heap.size mm σ H) (hS : va_S A s.heap H locs) {ls : Array Slot} (hl : lv_has ls 24 [(0, .ref (ad 11 99)), (1, .long x1), (3, .ref (ad 16 0)), (4, .ref (ad 16 1)), (5, .ref (ad 16 2)), (6, .ref (ad 16 3)), (7, .ref (ad 16 4)), (8, .int x8), (9, .int x9), (10, .int x10), (11, .int x11), (12, .ref mm), (13, .int x13), (14, .int x14), (15, .int x15), (16, .int x16), (17, .int x17)]), W p l e ({ frames := 7, cells := mc, slots := 6464 * mc, locals := 174 } : Room) s m args below meth c H locs k (6464 * k) (MQ below (wx_QA D ad ca A (some (.int r)) σ') args s mc (6464 * mc) A) (F0 m 49 ls [])) (mK49 : ∀ {x1 : Int64} {x8 : Int32} {x9 : Int32} {x10 : Int32} {x11 : Int32} {x13 : Int32} {x14 : Int32} {x15 : Int32} {x16 : Int32} {x17 : Int32} {σ : wx_St}, K49 x1 x8 x9 x10 x11 x13 x14 x15 x16 x17 σ = some (r, σ') → wx_n σ.2.2.2.2 ≤ wx_n σ'.2.2.2.2) {x1 : Int64} {x8 : Int32} {x9 : Int32} {x10 : Int32} {x11 : Int32} {x13 : Int32} {x14 : Int32} {x15 : Int32} {x16 : Int32} {x17 : Int32} {x18 : Int32} {x19 : Int32} {x20 : Int32} {y0 : Int32} {σ : wx_St} {k : Nat} (hk : k + wx_n σ'.2.2.2.2 ≤ mc + wx_n σ.2.2.2.2)  (h : f_L_same_232 K30 K49 x1 x8 x9 x10 x11 x13 x14 x15 x16 x17 x18 x19 x20 y0 σ = some (r, σ')) {rd : Nat → Nat} {H : Heap} {locs : List Loc} (Z : wx_ZM D ad rd ca A s.heap.size mm σ H) (hS : va_S A s.heap H locs) {ls : Array Slot} (hl : lv_has ls 24 [(0, .ref (ad 11 99)), (1, .long x1), (3, .ref (ad 16 0)), (4, .ref (ad 16 1)), (5, .ref (ad 16 2)), (6, .ref (ad 16 3)), (7, .ref (ad 16 4)), (8, .int x8), (9, .int x9), (10, .int x10), (11, .int x11), (12, .ref mm), (13, .int x13), (14, .int x14), (15, .int x15), (16, .int x16), (17, .int x17), (18, .int x18), (19, .int x19), (20, .int x20)]) : W p l e ({ frames := 7, cells := mc, slots := 6464 * mc, locals := 174 } : Room) s m args below meth c H locs k (6464 * k) (MQ below (wx_QA D ad ca A (some (.int r)) σ') args s mc (6464 * mc) A) (F0 m 232 ls [.int y0]) := by
  obtain ⟨hx, hb, hml, hr, hts, hown, hlk, hC, hA⟩ := id B
  have hm := m_L_same_232 (K30 := K30) @mK30 (K49 := K49) @mK49 h
  unfold f_L_same_232 at h
  refine lv_istore (lv' := [(21, .int y0), (0, .ref (ad 11 99)), (1, .long x1), (3, .ref (ad 16 0)), (4, .ref (ad 16 1)), (5, .ref (ad 16 2)), (6, .ref (ad 16 3)), (7, .ref (ad 16 4)), (8, .int x8), (9, .int x9), (10, .int x10), (11, .int x11), (12, .ref mm), (13, .int x13), (14, .int x14), (15, .int x15), (16, .int x16), (17, .int x17), (18, .int x18), (19, .int x19), (20, .int x20)]) hx hb dL_same_232 hl (by decide) rfl (fun ls hl => ?_)
  refine lv_iload hx hb dL_same_234 (lv_at hl 0 rfl) ?_
  refine lv_if_lt (tgt := 267) hx hb dL_same_236 (by decide) (fun c236 => ?_) (fun c236 => ?_)
  · replace h := wx_ift c236 h
    exact b_L_same_267 B (k := k) hk h Z hS (lv_sub hl [1, 2, 3, 4, 5, 6, 7, 8, 9, 10, 11, 12, 13, 14, 15, 16, 17, 18, 19, 20, 0] rfl)
  · replace h := wx_iff c236 h
    refine lv_aload_n hx hb dL_same_239 rfl (lv_at hl 3 rfl) ?_
    refine lv_iconst (v := 4) hx hb dL_same_240 (by decide) ?_
    obtain ⟨v241, ev241, iv241, h⟩ := wx_rI_ok h
    refine wx_iald hx hb hC.1 Z.1 (o := 16) (k := 0) (n := 7) rfl rfl iv241 dL_same_241 ev241 ?_
    refine lv_if_eq (tgt := 250) hx hb dL_same_242 (by decide) (fun c242 => ?_) (fun c242 => ?_)
    · replace h := wx_ift c242 h
      exact b_L_same_250 B (K30 := K30) @hK30 @mK30 (K49 := K49) @hK49 @mK49 (k := k) hk h Z hS (lv_sub hl [1, 2, 3, 4, 5, 6, 7, 8, 9, 10, 11, 12, 13, 14, 15, 16, 17, 18, 19, 20, 0] rfl)
    · replace h := wx_iff c242 h
      refine lv_iload hx hb dL_same_245 (lv_at hl 11 rfl) ?_
      refine lv_if_ne (tgt := 269) hx hb dL_same_247 (by decide) (fun c247 => ?_) (fun c247 => ?_)
      · replace h := wx_iff c247 h
        exact b_L_same_269 B (K30 := K30) @hK30 @mK30 (K49 := K49) @hK49 @mK49 (k := k) hk h Z hS (lv_sub hl [1, 2, 3, 4, 5, 6, 7, 8, 9, 10, 11, 12, 13, 14, 15, 16, 17, 18, 19, 20, 0] rfl)
      · replace h := wx_ift c247 h
        exact b_L_same_250 B (K30 := K30) @hK30 @mK30 (K49 := K49) @hK49 @mK49 (k := k) hk h Z hS (lv_sub hl [1, 2, 3, 4, 5, 6, 7, 8, 9, 10, 11, 12, 13, 14, 15, 16, 17, 18, 19, 20, 0] rfl)
set_option maxRecDepth 20000 in
set_option maxHeartbeats 4000000 in
theorem m_L_same_210  {r : Int32} {σ' : wx_St} {K30 : Int64 → Int32 → Int32 → Int32 → Int32 → Int32 → wx_St → Option (Int32 × wx_St)} (mK30 : ∀ {x1 : Int64} {x8 : Int32} {x9 : Int32} {x10 : Int32} {x11 : Int32} {x13 : Int32} {σ : wx_St}, K30 x1 x8 x9 x10 x11 x13 σ = some (r, σ') → wx_n σ.2.2.2.2 ≤ wx_n σ'.2.2.2.2) {K49 : Int64 → Int32 → Int32 → Int32 → Int32 → Int32 → Int32 → Int32 → Int32 → Int32 → wx_St → Option (Int32 × wx_St)} (mK49 : ∀ {x1 : Int64} {x8 : Int32} {x9 : Int32} {x10 : Int32} {x11 : Int32} {x13 : Int32} {x14 : Int32} {x15 : Int32} {x16 : Int32} {x17 : Int32} {σ : wx_St}, K49 x1 x8 x9 x10 x11 x13 x14 x15 x16 x17 σ = some (r, σ') → wx_n σ.2.2.2.2 ≤ wx_n σ'.2.2.2.2) {x1 : Int64} {x8 : Int32} {x9 : Int32} {x10 : Int32} {x11 : Int32} {x13 : Int32} {x14 : Int32} {x15 : Int32} {x16 : Int32} {x17 : Int32} {x18 : Int32} {x19 : Int32} {x20 : Int32} {y0 : Int32} {σ : wx_St} (h : f_L_same_210 K30 K49 x1 x8 x9 x10 x11 x13 x14 x15 x16 x17 x18 x19 x20 y0 σ = some (r, σ')) : wx_n σ.2.2.2.2 ≤ wx_n σ'.2.2.2.2 := by
  unfold f_L_same_210 at h
  obtain ⟨v215, hc215, h⟩ := wx_o_ok h
  by_cases c218 : y0 = v215
  · replace h := wx_ift c218 h
    obtain ⟨v229, z229, σ229, hc229, ez229, h⟩ := wx_bM_ok h
    refine Nat.le_trans (Nat.le_trans (m_X5_at_0 hc229) (Nat.le_of_eq (congrArg wx_n (wx_kMal ez229).symm))) ?_
    exact m_L_same_232 (K30 := K30) @mK30 (K49 := K49) @mK49 h
  · replace h := wx_iff c218 h
    exact m_L_same_221 h
set_option maxRecDepth 20000 in
set_option maxHeartbeats 4000000 in
theorem b_L_same_210 (B : wx_B p s m args meth c cL_same 24 (some .boolean) wsL_same RL D ad ca A)    {r : Int32} {σ' : wx_St} {mc : Nat} {mm : Nat} {K30 : Int64 → Int32 → Int32 → Int32 → Int32 → Int32 → wx_St → Option (Int32 × wx_St)} (hK30 : ∀ {x1 : Int64} {x8 : Int32} {x9 : Int32} {x10 : Int32} {x11 : Int32} {x13 : Int32} {σ : wx_St} {k : Nat} (hk : k + wx_n σ'.2.2.2.2 ≤ mc + wx_n σ.2.2.2.2)  (h : K30 x1 x8 x9 x10 x11 x13 σ = some (r, σ')) {rd : Nat → Nat} {H : Heap} {locs : List Loc} (Z : wx_ZM D ad rd ca A s.heap.size mm σ H) (hS : va_S A s.heap H locs) {ls : Array Slot} (hl : lv_has ls 24 [(0, .ref (ad 11 99)), (1, .long x1), (3, .ref (ad 16 0)), (4, .ref (ad 16 1)), (5, .ref (ad 16 2)), (6, .ref (ad 16 3)), (7, .ref (ad 16 4)), (8, .int x8), (9, .int x9), (10, .int x10), (11, .int x11), (12, .ref mm), (13, .int x13)]), W p l e ({ frames := 7, cells := mc, slots := 6464 * mc, locals := 174 } : Room) s m args below meth c H locs k (6464 * k) (MQ below (wx_QA D ad ca A (some (.int r)) σ') args s mc (6464 * mc) A) (F0 m 30 ls [])) (mK30 : ∀ {x1 : Int64} {x8 : Int32} {x9 : Int32} {x10 : Int32} {x11 : Int32} {x13 : Int32} {σ : wx_St}, K30 x1 x8 x9 x10 x11 x13 σ = some (r, σ') → wx_n σ.2.2.2.2 ≤ wx_n σ'.2.2.2.2) {K49 : Int64 → Int32 → Int32 → Int32 → Int32 → Int32 → Int32 → Int32 → Int32 → Int32 → wx_St → Option (Int32 × wx_St)} (hK49 : ∀ {x1 : Int64} {x8 : Int32} {x9 : Int32} {x10 : Int32} {x11 : Int32} {x13 : Int32} {x14 : Int32} {x15 : Int32} {x16 : Int32} {x17 : Int32} {σ : wx_St} {k : Nat} (hk : k + wx_n σ'.2.2.2.2 ≤ mc + wx_n σ.2.2.2.2)  (h : K49 x1 x8 x9 x10 x11 x13 x14 x15 x16 x17 σ = some (r, σ')) {rd : Nat → Nat} {H : Heap} {locs : List Loc} (Z : wx_ZM D ad rd ca A s.heap.size mm σ H) (hS : va_S A s.heap H locs) {ls : Array Slot} (hl : lv_has ls 24 [(0, .ref (ad 11 99)), (1, .long x1), (3, .ref (ad 16 0)), (4, .ref (ad 16 1)), (5, .ref (ad 16 2)), (6, .ref (ad 16 3)), (7, .ref (ad 16 4)), (8, .int x8), (9, .int x9), (10, .int x10), (11, .int x11), (12, .ref mm), (13, .int x13), (14, .int x14), (15, .int x15), (16, .int x16), (17, .int x17)]), W p l e ({ frames := 7, cells := mc, slots := 6464 * mc, locals := 174 } : Room) s m args below meth c H locs k (6464 * k) (MQ below (wx_QA D ad ca A (some (.int r)) σ') args s mc (6464 * mc) A) (F0 m 49 ls [])) (mK49 : ∀ {x1 : Int64} {x8 : Int32} {x9 : Int32} {x10 : Int32} {x11 : Int32} {x13 : Int32} {x14 : Int32} {x15 : Int32} {x16 : Int32} {x17 : Int32} {σ : wx_St}, K49 x1 x8 x9 x10 x11 x13 x14 x15 x16 x17 σ = some (r, σ') → wx_n σ.2.2.2.2 ≤ wx_n σ'.2.2.2.2) {x1 : Int64} {x8 : Int32} {x9 : Int32} {x10 : Int32} {x11 : Int32} {x13 : Int32} {x14 : Int32} {x15 : Int32} {x16 : Int32} {x17 : Int32} {x18 : Int32} {x19 : Int32} {x20 : Int32} {y0 : Int32} {σ : wx_St} {k : Nat} (hk : k + wx_n σ'.2.2.2.2 ≤ mc + wx_n σ.2.2.2.2)  (h : f_L_same_210 K30 K49 x1 x8 x9 x10 x11 x13 x14 x15 x16 x17 x18 x19 x20 y0 σ = some (r, σ')) {rd : Nat → Nat} {H : Heap} {locs : List Loc} (Z : wx_ZM D ad rd ca A s.heap.size mm σ H) (hS : va_S A s.heap H locs) {ls : Array Slot} (hl : lv_has ls 24 [(0, .ref (ad 11 99)), (1, .long x1), (3, .ref (ad 16 0)), (4, .ref (ad 16 1)), (5, .ref (ad 16 2)), (6, .ref (ad 16 3)), (7, .ref (ad 16 4)), (8, .int x8), (9, .int x9), (10, .int x10), (11, .int x11), (12, .ref mm), (13, .int x13), (14, .int x14), (15, .int x15), (16, .int x16), (17, .int x17), (18, .int x18), (19, .int x19), (20, .int x20)]) : W p l e ({ frames := 7, cells := mc, slots := 6464 * mc, locals := 174 } : Room) s m args below meth c H locs k (6464 * k) (MQ below (wx_QA D ad ca A (some (.int r)) σ') args s mc (6464 * mc) A) (F0 m 210 ls [.int y0]) := by
  obtain ⟨hx, hb, hml, hr, hts, hown, hlk, hC, hA⟩ := id B
  have hm := m_L_same_210 (K30 := K30) @mK30 (K49 := K49) @mK49 h
  unfold f_L_same_210 at h
  refine lv_iload hx hb dL_same_210 (lv_at hl 17 rfl) ?_
  refine lv_aload_n hx hb dL_same_212 rfl (lv_at hl 2 rfl) ?_
  refine lv_aload hx hb dL_same_213 (lv_at hl 3 rfl) ?_
  obtain ⟨v215, hc215, h⟩ := wx_o_ok h
  refine wx_callM (va_runS (As := [.int x18, .ref (ad 16 0), .ref (ad 16 1)]) (rest := [.int y0]) ⟨hx, hb, hml, hown, hts⟩ (c_L_touch l (D := D) (ad := ad) (rd := rd) (ca := ca) (A := wx_Am A mm) (σ := σ) hc215) (va_cwS 3 hts gL_same_L_touch rfl rfl rfl (by decide +kernel) ⟨Nat.le_of_ble_eq_true rfl, Nat.le_of_ble_eq_true rfl⟩) (wx_preSM hC hA Z hS) rfl rfl hl.1 rfl (lv_room (Nat.le_of_ble_eq_true rfl)) dL_same_215 ⟨(by show k + 0 ≤ mc; omega), (by show 6464 * k + 0 ≤ 6464 * mc; omega)⟩) Z hS (fun H locs Z hS => ?_)
  refine lv_icmp_eq (tgt := 223) hx hb dL_same_218 (by decide) (fun c218 => ?_) (fun c218 => ?_)
  · replace h := wx_ift c218 h
    refine lv_aload_n hx hb dL_same_223 rfl (lv_at hl 0 rfl) ?_
    refine lv_iload hx hb dL_same_224 (lv_at hl 12 rfl) ?_
    refine lv_iload hx hb dL_same_226 (lv_at hl 16 rfl) ?_
    refine lv_iconst (v := 2) hx hb dL_same_228 (by decide) ?_
    obtain ⟨v229, z229, σ229, hc229, ez229, h⟩ := wx_bM_ok h
    have m1 := m_X5_at_0 hc229
    have m2 := m_L_same_232 (K30 := K30) @mK30 (K49 := K49) @mK49 h
    have m3 := congrArg wx_n (wx_kMal ez229)
    refine wx_callAM (va_runV (As := [.int x13, .int x17, .int 2]) (rest := []) ⟨hx, hb, hml, hown, hts⟩ (c_X5_at l (D := D) (ad := ad) (rd := rd) (ca := ca) (A := wx_Am A mm) (σ := σ) hc229) (cwV 3 hts gL_same_X5_at rfl rfl rfl (by decide +kernel) ⟨Nat.le_of_ble_eq_true rfl, Nat.le_of_ble_eq_true rfl⟩) (wx_preVM hC hA Z hS rfl (rfl : vwCl[5]? = some (RX5, TX5, 7))) rfl rfl hl.1 rfl (lv_room (Nat.le_of_ble_eq_true rfl)) dL_same_229 ⟨(by show k + (wx_n z229.2.2.2.2 - wx_n σ.2.2.2.2) ≤ mc; omega), (by show 6464 * k + 6464 * (wx_n z229.2.2.2.2 - wx_n σ.2.2.2.2) ≤ 6464 * mc; omega)⟩) Z hS ez229 (fun rd H locs Z hS => ?_)
    refine W.widen (k := k + (wx_n z229.2.2.2.2 - wx_n σ.2.2.2.2)) (n := 6464 * (k + (wx_n z229.2.2.2.2 - wx_n σ.2.2.2.2))) (Nat.le_refl _) (by omega) ?_
    exact b_L_same_232 B (K30 := K30) @hK30 @mK30 (K49 := K49) @hK49 @mK49 (k := k + (wx_n z229.2.2.2.2 - wx_n σ.2.2.2.2)) (by omega) h Z hS (lv_sub hl [0, 1, 2, 3, 4, 5, 6, 7, 8, 9, 10, 11, 12, 13, 14, 15, 16, 17, 18, 19] rfl)
  · replace h := wx_iff c218 h
    exact b_L_same_221 B (k := k) hk h Z hS (lv_sub hl [0, 1, 2, 3, 4, 5, 6, 7, 8, 9, 10, 11, 12, 13, 14, 15, 16, 17, 18, 19] rfl)
set_option maxRecDepth 20000 in
set_option maxHeartbeats 4000000 in
theorem m_L_same_197  {r : Int32} {σ' : wx_St} {K30 : Int64 → Int32 → Int32 → Int32 → Int32 → Int32 → wx_St → Option (Int32 × wx_St)} (mK30 : ∀ {x1 : Int64} {x8 : Int32} {x9 : Int32} {x10 : Int32} {x11 : Int32} {x13 : Int32} {σ : wx_St}, K30 x1 x8 x9 x10 x11 x13 σ = some (r, σ') → wx_n σ.2.2.2.2 ≤ wx_n σ'.2.2.2.2) {K49 : Int64 → Int32 → Int32 → Int32 → Int32 → Int32 → Int32 → Int32 → Int32 → Int32 → wx_St → Option (Int32 × wx_St)} (mK49 : ∀ {x1 : Int64} {x8 : Int32} {x9 : Int32} {x10 : Int32} {x11 : Int32} {x13 : Int32} {x14 : Int32} {x15 : Int32} {x16 : Int32} {x17 : Int32} {σ : wx_St}, K49 x1 x8 x9 x10 x11 x13 x14 x15 x16 x17 σ = some (r, σ') → wx_n σ.2.2.2.2 ≤ wx_n σ'.2.2.2.2) {x1 : Int64} {x8 : Int32} {x9 : Int32} {x10 : Int32} {x11 : Int32} {x13 : Int32} {x14 : Int32} {x15 : Int32} {x16 : Int32} {x17 : Int32} {x18 : Int32} {x19 : Int32} {x20 : Int32} {y0 : Int32} {y1 : Int32} {σ : wx_St} (h : f_L_same_197 K30 K49 x1 x8 x9 x10 x11 x13 x14 x15 x16 x17 x18 x19 x20 y0 y1 σ = some (r, σ')) : wx_n σ.2.2.2.2 ≤ wx_n σ'.2.2.2.2 := by
  unfold f_L_same_197 at h
  by_cases c197 : y0 = y1
  · replace h := wx_ift c197 h
    obtain ⟨v207, z207, σ207, hc207, ez207, h⟩ := wx_bM_ok h
    refine Nat.le_trans (Nat.le_trans (m_X5_at_0 hc207) (Nat.le_of_eq (congrArg wx_n (wx_kMal ez207).symm))) ?_
    exact m_L_same_210 (K30 := K30) @mK30 (K49 := K49) @mK49 h
  · replace h := wx_iff c197 h
    exact m_L_same_221 h
set_option maxRecDepth 20000 in
set_option maxHeartbeats 4000000 in
theorem b_L_same_197 (B : wx_B p s m args meth c cL_same 24 (some .boolean) wsL_same RL D ad ca A)    {r : Int32} {σ' : wx_St} {mc : Nat} {mm : Nat} {K30 : Int64 → Int32 → Int32 → Int32 → Int32 → Int32 → wx_St → Option (Int32 × wx_St)} (hK30 : ∀ {x1 : Int64} {x8 : Int32} {x9 : Int32} {x10 : Int32} {x11 : Int32} {x13 : Int32} {σ : wx_St} {k : Nat} (hk : k + wx_n σ'.2.2.2.2 ≤ mc + wx_n σ.2.2.2.2)  (h : K30 x1 x8 x9 x10 x11 x13 σ = some (r, σ')) {rd : Nat → Nat} {H : Heap} {locs : List Loc} (Z : wx_ZM D ad rd ca A s.heap.size mm σ H) (hS : va_S A s.heap H locs) {ls : Array Slot} (hl : lv_has ls 24 [(0, .ref (ad 11 99)), (1, .long x1), (3, .ref (ad 16 0)), (4, .ref (ad 16 1)), (5, .ref (ad 16 2)), (6, .ref (ad 16 3)), (7, .ref (ad 16 4)), (8, .int x8), (9, .int x9), (10, .int x10), (11, .int x11), (12, .ref mm), (13, .int x13)]), W p l e ({ frames := 7, cells := mc, slots := 6464 * mc, locals := 174 } : Room) s m args below meth c H locs k (6464 * k) (MQ below (wx_QA D ad ca A (some (.int r)) σ') args s mc (6464 * mc) A) (F0 m 30 ls [])) (mK30 : ∀ {x1 : Int64} {x8 : Int32} {x9 : Int32} {x10 : Int32} {x11 : Int32} {x13 : Int32} {σ : wx_St}, K30 x1 x8 x9 x10 x11 x13 σ = some (r, σ') → wx_n σ.2.2.2.2 ≤ wx_n σ'.2.2.2.2) {K49 : Int64 → Int32 → Int32 → Int32 → Int32 → Int32 → Int32 → Int32 → Int32 → Int32 → wx_St → Option (Int32 × wx_St)} (hK49 : ∀ {x1 : Int64} {x8 : Int32} {x9 : Int32} {x10 : Int32} {x11 : Int32} {x13 : Int32} {x14 : Int32} {x15 : Int32} {x16 : Int32} {x17 : Int32} {σ : wx_St} {k : Nat} (hk : k + wx_n σ'.2.2.2.2 ≤ mc + wx_n σ.2.2.2.2)  (h : K49 x1 x8 x9 x10 x11 x13 x14 x15 x16 x17 σ = some (r, σ')) {rd : Nat → Nat} {H : Heap} {locs : List Loc} (Z : wx_ZM D ad rd ca A s.heap.size mm σ H) (hS : va_S A s.heap H locs) {ls : Array Slot} (hl : lv_has ls 24 [(0, .ref (ad 11 99)), (1, .long x1), (3, .ref (ad 16 0)), (4, .ref (ad 16 1)), (5, .ref (ad 16 2)), (6, .ref (ad 16 3)), (7, .ref (ad 16 4)), (8, .int x8), (9, .int x9), (10, .int x10), (11, .int x11), (12, .ref mm), (13, .int x13), (14, .int x14), (15, .int x15), (16, .int x16), (17, .int x17)]), W p l e ({ frames := 7, cells := mc, slots := 6464 * mc, locals := 174 } : Room) s m args below meth c H locs k (6464 * k) (MQ below (wx_QA D ad ca A (some (.int r)) σ') args s mc (6464 * mc) A) (F0 m 49 ls [])) (mK49 : ∀ {x1 : Int64} {x8 : Int32} {x9 : Int32} {x10 : Int32} {x11 : Int32} {x13 : Int32} {x14 : Int32} {x15 : Int32} {x16 : Int32} {x17 : Int32} {σ : wx_St}, K49 x1 x8 x9 x10 x11 x13 x14 x15 x16 x17 σ = some (r, σ') → wx_n σ.2.2.2.2 ≤ wx_n σ'.2.2.2.2) {x1 : Int64} {x8 : Int32} {x9 : Int32} {x10 : Int32} {x11 : Int32} {x13 : Int32} {x14 : Int32} {x15 : Int32} {x16 : Int32} {x17 : Int32} {x18 : Int32} {x19 : Int32} {x20 : Int32} {y0 : Int32} {y1 : Int32} {σ : wx_St} {k : Nat} (hk : k + wx_n σ'.2.2.2.2 ≤ mc + wx_n σ.2.2.2.2)  (h : f_L_same_197 K30 K49 x1 x8 x9 x10 x11 x13 x14 x15 x16 x17 x18 x19 x20 y0 y1 σ = some (r, σ')) {rd : Nat → Nat} {H : Heap} {locs : List Loc} (Z : wx_ZM D ad rd ca A s.heap.size mm σ H) (hS : va_S A s.heap H locs) {ls : Array Slot} (hl : lv_has ls 24 [(0, .ref (ad 11 99)), (1, .long x1), (3, .ref (ad 16 0)), (4, .ref (ad 16 1)), (5, .ref (ad 16 2)), (6, .ref (ad 16 3)), (7, .ref (ad 16 4)), (8, .int x8), (9, .int x9), (10, .int x10), (11, .int x11), (12, .ref mm), (13, .int x13), (14, .int x14), (15, .int x15), (16, .int x16), (17, .int x17), (18, .int x18), (19, .int x19), (20, .int x20)]) : W p l e ({ frames := 7, cells := mc, slots := 6464 * mc, locals := 174 } : Room) s m args below meth c H locs k (6464 * k) (MQ below (wx_QA D ad ca A (some (.int r)) σ') args s mc (6464 * mc) A) (F0 m 197 ls [.int y1, .int y0]) := by
  obtain ⟨hx, hb, hml, hr, hts, hown, hlk, hC, hA⟩ := id B
  have hm := m_L_same_197 (K30 := K30) @mK30 (K49 := K49) @mK49 h
  unfold f_L_same_197 at h
  refine lv_icmp_ne (tgt := 221) hx hb dL_same_197 (by decide) (fun c197 => ?_) (fun c197 => ?_)
  · replace h := wx_iff c197 h
    exact b_L_same_221 B (k := k) hk h Z hS (lv_sub hl [0, 1, 2, 3, 4, 5, 6, 7, 8, 9, 10, 11, 12, 13, 14, 15, 16, 17, 18, 19] rfl)
  · replace h := wx_ift c197 h
    refine lv_aload_n hx hb dL_same_200 rfl (lv_at hl 0 rfl) ?_
    refine lv_iload hx hb dL_same_201 (lv_at hl 12 rfl) ?_
    refine lv_iload hx hb dL_same_203 (lv_at hl 16 rfl) ?_
    refine lv_bipush (v := 6) hx hb dL_same_205 (by decide) ?_
    obtain ⟨v207, z207, σ207, hc207, ez207, h⟩ := wx_bM_ok h
    have m1 := m_X5_at_0 hc207
    have m2 := m_L_same_210 (K30 := K30) @mK30 (K49 := K49) @mK49 h
    have m3 := congrArg wx_n (wx_kMal ez207)
    refine wx_callAM (va_runV (As := [.int x13, .int x17, .int 6]) (rest := []) ⟨hx, hb, hml, hown, hts⟩ (c_X5_at l (D := D) (ad := ad) (rd := rd) (ca := ca) (A := wx_Am A mm) (σ := σ) hc207) (cwV 3 hts gL_same_X5_at rfl rfl rfl (by decide +kernel) ⟨Nat.le_of_ble_eq_true rfl, Nat.le_of_ble_eq_true rfl⟩) (wx_preVM hC hA Z hS rfl (rfl : vwCl[5]? = some (RX5, TX5, 7))) rfl rfl hl.1 rfl (lv_room (Nat.le_of_ble_eq_true rfl)) dL_same_207 ⟨(by show k + (wx_n z207.2.2.2.2 - wx_n σ.2.2.2.2) ≤ mc; omega), (by show 6464 * k + 6464 * (wx_n z207.2.2.2.2 - wx_n σ.2.2.2.2) ≤ 6464 * mc; omega)⟩) Z hS ez207 (fun rd H locs Z hS => ?_)
    refine W.widen (k := k + (wx_n z207.2.2.2.2 - wx_n σ.2.2.2.2)) (n := 6464 * (k + (wx_n z207.2.2.2.2 - wx_n σ.2.2.2.2))) (Nat.le_refl _) (by omega) ?_
    exact b_L_same_210 B (K30 := K30) @hK30 @mK30 (K49 := K49) @hK49 @mK49 (k := k + (wx_n z207.2.2.2.2 - wx_n σ.2.2.2.2)) (by omega) h Z hS (lv_sub hl [0, 1, 2, 3, 4, 5, 6, 7, 8, 9, 10, 11, 12, 13, 14, 15, 16, 17, 18, 19] rfl)
set_option maxRecDepth 20000 in
set_option maxHeartbeats 4000000 in
theorem m_L_same_187  {r : Int32} {σ' : wx_St} {K30 : Int64 → Int32 → Int32 → Int32 → Int32 → Int32 → wx_St → Option (Int32 × wx_St)} (mK30 : ∀ {x1 : Int64} {x8 : Int32} {x9 : Int32} {x10 : Int32} {x11 : Int32} {x13 : Int32} {σ : wx_St}, K30 x1 x8 x9 x10 x11 x13 σ = some (r, σ') → wx_n σ.2.2.2.2 ≤ wx_n σ'.2.2.2.2) {K49 : Int64 → Int32 → Int32 → Int32 → Int32 → Int32 → Int32 → Int32 → Int32 → Int32 → wx_St → Option (Int32 × wx_St)} (mK49 : ∀ {x1 : Int64} {x8 : Int32} {x9 : Int32} {x10 : Int32} {x11 : Int32} {x13 : Int32} {x14 : Int32} {x15 : Int32} {x16 : Int32} {x17 : Int32} {σ : wx_St}, K49 x1 x8 x9 x10 x11 x13 x14 x15 x16 x17 σ = some (r, σ') → wx_n σ.2.2.2.2 ≤ wx_n σ'.2.2.2.2) {x1 : Int64} {x8 : Int32} {x9 : Int32} {x10 : Int32} {x11 : Int32} {x13 : Int32} {x14 : Int32} {x15 : Int32} {x16 : Int32} {x17 : Int32} {x18 : Int32} {x19 : Int32} {x20 : Int32} {y0 : Int32} {σ : wx_St} (h : f_L_same_187 K30 K49 x1 x8 x9 x10 x11 x13 x14 x15 x16 x17 x18 x19 x20 y0 σ = some (r, σ')) : wx_n σ.2.2.2.2 ≤ wx_n σ'.2.2.2.2 := by
  unfold f_L_same_187 at h
  by_cases c189 : x19 = 0
  · replace h := wx_ift c189 h
    exact m_L_same_197 (K30 := K30) @mK30 (K49 := K49) @mK49 h
  · replace h := wx_iff c189 h
    exact m_L_same_197 (K30 := K30) @mK30 (K49 := K49) @mK49 h
set_option maxRecDepth 20000 in
set_option maxHeartbeats 4000000 in
theorem b_L_same_187 (B : wx_B p s m args meth c cL_same 24 (some .boolean) wsL_same RL D ad ca A)    {r : Int32} {σ' : wx_St} {mc : Nat} {mm : Nat} {K30 : Int64 → Int32 → Int32 → Int32 → Int32 → Int32 → wx_St → Option (Int32 × wx_St)} (hK30 : ∀ {x1 : Int64} {x8 : Int32} {x9 : Int32} {x10 : Int32} {x11 : Int32} {x13 : Int32} {σ : wx_St} {k : Nat} (hk : k + wx_n σ'.2.2.2.2 ≤ mc + wx_n σ.2.2.2.2)  (h : K30 x1 x8 x9 x10 x11 x13 σ = some (r, σ')) {rd : Nat → Nat} {H : Heap} {locs : List Loc} (Z : wx_ZM D ad rd ca A s.heap.size mm σ H) (hS : va_S A s.heap H locs) {ls : Array Slot} (hl : lv_has ls 24 [(0, .ref (ad 11 99)), (1, .long x1), (3, .ref (ad 16 0)), (4, .ref (ad 16 1)), (5, .ref (ad 16 2)), (6, .ref (ad 16 3)), (7, .ref (ad 16 4)), (8, .int x8), (9, .int x9), (10, .int x10), (11, .int x11), (12, .ref mm), (13, .int x13)]), W p l e ({ frames := 7, cells := mc, slots := 6464 * mc, locals := 174 } : Room) s m args below meth c H locs k (6464 * k) (MQ below (wx_QA D ad ca A (some (.int r)) σ') args s mc (6464 * mc) A) (F0 m 30 ls [])) (mK30 : ∀ {x1 : Int64} {x8 : Int32} {x9 : Int32} {x10 : Int32} {x11 : Int32} {x13 : Int32} {σ : wx_St}, K30 x1 x8 x9 x10 x11 x13 σ = some (r, σ') → wx_n σ.2.2.2.2 ≤ wx_n σ'.2.2.2.2) {K49 : Int64 → Int32 → Int32 → Int32 → Int32 → Int32 → Int32 → Int32 → Int32 → Int32 → wx_St → Option (Int32 × wx_St)} (hK49 : ∀ {x1 : Int64} {x8 : Int32} {x9 : Int32} {x10 : Int32} {x11 : Int32} {x13 : Int32} {x14 : Int32} {x15 : Int32} {x16 : Int32} {x17 : Int32} {σ : wx_St} {k : Nat} (hk : k + wx_n σ'.2.2.2.2 ≤ mc + wx_n σ.2.2.2.2)  (h : K49 x1 x8 x9 x10 x11 x13 x14 x15 x16 x17 σ = some (r, σ')) {rd : Nat → Nat} {H : Heap} {locs : List Loc} (Z : wx_ZM D ad rd ca A s.heap.size mm σ H) (hS : va_S A s.heap H locs) {ls : Array Slot} (hl : lv_has ls 24 [(0, .ref (ad 11 99)), (1, .long x1), (3, .ref (ad 16 0)), (4, .ref (ad 16 1)), (5, .ref (ad 16 2)), (6, .ref (ad 16 3)), (7, .ref (ad 16 4)), (8, .int x8), (9, .int x9), (10, .int x10), (11, .int x11), (12, .ref mm), (13, .int x13), (14, .int x14), (15, .int x15), (16, .int x16), (17, .int x17)]), W p l e ({ frames := 7, cells := mc, slots := 6464 * mc, locals := 174 } : Room) s m args below meth c H locs k (6464 * k) (MQ below (wx_QA D ad ca A (some (.int r)) σ') args s mc (6464 * mc) A) (F0 m 49 ls [])) (mK49 : ∀ {x1 : Int64} {x8 : Int32} {x9 : Int32} {x10 : Int32} {x11 : Int32} {x13 : Int32} {x14 : Int32} {x15 : Int32} {x16 : Int32} {x17 : Int32} {σ : wx_St}, K49 x1 x8 x9 x10 x11 x13 x14 x15 x16 x17 σ = some (r, σ') → wx_n σ.2.2.2.2 ≤ wx_n σ'.2.2.2.2) {x1 : Int64} {x8 : Int32} {x9 : Int32} {x10 : Int32} {x11 : Int32} {x13 : Int32} {x14 : Int32} {x15 : Int32} {x16 : Int32} {x17 : Int32} {x18 : Int32} {x19 : Int32} {x20 : Int32} {y0 : Int32} {σ : wx_St} {k : Nat} (hk : k + wx_n σ'.2.2.2.2 ≤ mc + wx_n σ.2.2.2.2)  (h : f_L_same_187 K30 K49 x1 x8 x9 x10 x11 x13 x14 x15 x16 x17 x18 x19 x20 y0 σ = some (r, σ')) {rd : Nat → Nat} {H : Heap} {locs : List Loc} (Z : wx_ZM D ad rd ca A s.heap.size mm σ H) (hS : va_S A s.heap H locs) {ls : Array Slot} (hl : lv_has ls 24 [(0, .ref (ad 11 99)), (1, .long x1), (3, .ref (ad 16 0)), (4, .ref (ad 16 1)), (5, .ref (ad 16 2)), (6, .ref (ad 16 3)), (7, .ref (ad 16 4)), (8, .int x8), (9, .int x9), (10, .int x10), (11, .int x11), (12, .ref mm), (13, .int x13), (14, .int x14), (15, .int x15), (16, .int x16), (17, .int x17), (18, .int x18), (19, .int x19), (20, .int x20)]) : W p l e ({ frames := 7, cells := mc, slots := 6464 * mc, locals := 174 } : Room) s m args below meth c H locs k (6464 * k) (MQ below (wx_QA D ad ca A (some (.int r)) σ') args s mc (6464 * mc) A) (F0 m 187 ls [.int y0]) := by
  obtain ⟨hx, hb, hml, hr, hts, hown, hlk, hC, hA⟩ := id B
  have hm := m_L_same_187 (K30 := K30) @mK30 (K49 := K49) @mK49 h
  unfold f_L_same_187 at h
  refine lv_iload hx hb dL_same_187 (lv_at hl 18 rfl) ?_
  refine lv_if_eq (tgt := 196) hx hb dL_same_189 (by decide) (fun c189 => ?_) (fun c189 => ?_)
  · replace h := wx_ift c189 h
    refine lv_iconst (v := 0) hx hb dL_same_196 (by decide) ?_
    exact b_L_same_197 B (K30 := K30) @hK30 @mK30 (K49 := K49) @hK49 @mK49 (k := k) hk h Z hS (lv_sub hl [0, 1, 2, 3, 4, 5, 6, 7, 8, 9, 10, 11, 12, 13, 14, 15, 16, 17, 18, 19] rfl)
  · replace h := wx_iff c189 h
    refine lv_iconst (v := 1) hx hb dL_same_192 (by decide) ?_
    refine lv_goto (tgt := 197) hx hb dL_same_193 (by decide) ?_
    exact b_L_same_197 B (K30 := K30) @hK30 @mK30 (K49 := K49) @hK49 @mK49 (k := k) hk h Z hS (lv_sub hl [0, 1, 2, 3, 4, 5, 6, 7, 8, 9, 10, 11, 12, 13, 14, 15, 16, 17, 18, 19] rfl)
set_option maxRecDepth 20000 in
set_option maxHeartbeats 4000000 in
theorem m_L_same_170  {r : Int32} {σ' : wx_St} {K30 : Int64 → Int32 → Int32 → Int32 → Int32 → Int32 → wx_St → Option (Int32 × wx_St)} (mK30 : ∀ {x1 : Int64} {x8 : Int32} {x9 : Int32} {x10 : Int32} {x11 : Int32} {x13 : Int32} {σ : wx_St}, K30 x1 x8 x9 x10 x11 x13 σ = some (r, σ') → wx_n σ.2.2.2.2 ≤ wx_n σ'.2.2.2.2) {K49 : Int64 → Int32 → Int32 → Int32 → Int32 → Int32 → Int32 → Int32 → Int32 → Int32 → wx_St → Option (Int32 × wx_St)} (mK49 : ∀ {x1 : Int64} {x8 : Int32} {x9 : Int32} {x10 : Int32} {x11 : Int32} {x13 : Int32} {x14 : Int32} {x15 : Int32} {x16 : Int32} {x17 : Int32} {σ : wx_St}, K49 x1 x8 x9 x10 x11 x13 x14 x15 x16 x17 σ = some (r, σ') → wx_n σ.2.2.2.2 ≤ wx_n σ'.2.2.2.2) {x1 : Int64} {x8 : Int32} {x9 : Int32} {x10 : Int32} {x11 : Int32} {x13 : Int32} {x14 : Int32} {x15 : Int32} {x16 : Int32} {x17 : Int32} {x18 : Int32} {x19 : Int32} {x20 : Int32} {y0 : Int32} {σ : wx_St} (h : f_L_same_170 K30 K49 x1 x8 x9 x10 x11 x13 x14 x15 x16 x17 x18 x19 x20 y0 σ = some (r, σ')) : wx_n σ.2.2.2.2 ≤ wx_n σ'.2.2.2.2 := by
  unfold f_L_same_170 at h
  obtain ⟨v174, ev174, iv174, h⟩ := wx_rI_ok h
  by_cases c175 : y0 = v174
  · replace h := wx_ift c175 h
    obtain ⟨v184, z184, σ184, hc184, ez184, h⟩ := wx_bM_ok h
    refine Nat.le_trans (Nat.le_trans (m_X5_at_0 hc184) (Nat.le_of_eq (congrArg wx_n (wx_kMal ez184).symm))) ?_
    exact m_L_same_187 (K30 := K30) @mK30 (K49 := K49) @mK49 h
  · replace h := wx_iff c175 h
    exact m_L_same_221 h
set_option maxRecDepth 20000 in
set_option maxHeartbeats 4000000 in
theorem b_L_same_170 (B : wx_B p s m args meth c cL_same 24 (some .boolean) wsL_same RL D ad ca A)    {r : Int32} {σ' : wx_St} {mc : Nat} {mm : Nat} {K30 : Int64 → Int32 → Int32 → Int32 → Int32 → Int32 → wx_St → Option (Int32 × wx_St)} (hK30 : ∀ {x1 : Int64} {x8 : Int32} {x9 : Int32} {x10 : Int32} {x11 : Int32} {x13 : Int32} {σ : wx_St} {k : Nat} (hk : k + wx_n σ'.2.2.2.2 ≤ mc + wx_n σ.2.2.2.2)  (h : K30 x1 x8 x9 x10 x11 x13 σ = some (r, σ')) {rd : Nat → Nat} {H : Heap} {locs : List Loc} (Z : wx_ZM D ad rd ca A s.heap.size mm σ H) (hS : va_S A s.heap H locs) {ls : Array Slot} (hl : lv_has ls 24 [(0, .ref (ad 11 99)), (1, .long x1), (3, .ref (ad 16 0)), (4, .ref (ad 16 1)), (5, .ref (ad 16 2)), (6, .ref (ad 16 3)), (7, .ref (ad 16 4)), (8, .int x8), (9, .int x9), (10, .int x10), (11, .int x11), (12, .ref mm), (13, .int x13)]), W p l e ({ frames := 7, cells := mc, slots := 6464 * mc, locals := 174 } : Room) s m args below meth c H locs k (6464 * k) (MQ below (wx_QA D ad ca A (some (.int r)) σ') args s mc (6464 * mc) A) (F0 m 30 ls [])) (mK30 : ∀ {x1 : Int64} {x8 : Int32} {x9 : Int32} {x10 : Int32} {x11 : Int32} {x13 : Int32} {σ : wx_St}, K30 x1 x8 x9 x10 x11 x13 σ = some (r, σ') → wx_n σ.2.2.2.2 ≤ wx_n σ'.2.2.2.2) {K49 : Int64 → Int32 → Int32 → Int32 → Int32 → Int32 → Int32 → Int32 → Int32 → Int32 → wx_St → Option (Int32 × wx_St)} (hK49 : ∀ {x1 : Int64} {x8 : Int32} {x9 : Int32} {x10 : Int32} {x11 : Int32} {x13 : Int32} {x14 : Int32} {x15 : Int32} {x16 : Int32} {x17 : Int32} {σ : wx_St} {k : Nat} (hk : k + wx_n σ'.2.2.2.2 ≤ mc + wx_n σ.2.2.2.2)  (h : K49 x1 x8 x9 x10 x11 x13 x14 x15 x16 x17 σ = some (r, σ')) {rd : Nat → Nat} {H : Heap} {locs : List Loc} (Z : wx_ZM D ad rd ca A s.heap.size mm σ H) (hS : va_S A s.heap H locs) {ls : Array Slot} (hl : lv_has ls 24 [(0, .ref (ad 11 99)), (1, .long x1), (3, .ref (ad 16 0)), (4, .ref (ad 16 1)), (5, .ref (ad 16 2)), (6, .ref (ad 16 3)), (7, .ref (ad 16 4)), (8, .int x8), (9, .int x9), (10, .int x10), (11, .int x11), (12, .ref mm), (13, .int x13), (14, .int x14), (15, .int x15), (16, .int x16), (17, .int x17)]), W p l e ({ frames := 7, cells := mc, slots := 6464 * mc, locals := 174 } : Room) s m args below meth c H locs k (6464 * k) (MQ below (wx_QA D ad ca A (some (.int r)) σ') args s mc (6464 * mc) A) (F0 m 49 ls [])) (mK49 : ∀ {x1 : Int64} {x8 : Int32} {x9 : Int32} {x10 : Int32} {x11 : Int32} {x13 : Int32} {x14 : Int32} {x15 : Int32} {x16 : Int32} {x17 : Int32} {σ : wx_St}, K49 x1 x8 x9 x10 x11 x13 x14 x15 x16 x17 σ = some (r, σ') → wx_n σ.2.2.2.2 ≤ wx_n σ'.2.2.2.2) {x1 : Int64} {x8 : Int32} {x9 : Int32} {x10 : Int32} {x11 : Int32} {x13 : Int32} {x14 : Int32} {x15 : Int32} {x16 : Int32} {x17 : Int32} {x18 : Int32} {x19 : Int32} {x20 : Int32} {y0 : Int32} {σ : wx_St} {k : Nat} (hk : k + wx_n σ'.2.2.2.2 ≤ mc + wx_n σ.2.2.2.2)  (h : f_L_same_170 K30 K49 x1 x8 x9 x10 x11 x13 x14 x15 x16 x17 x18 x19 x20 y0 σ = some (r, σ')) {rd : Nat → Nat} {H : Heap} {locs : List Loc} (Z : wx_ZM D ad rd ca A s.heap.size mm σ H) (hS : va_S A s.heap H locs) {ls : Array Slot} (hl : lv_has ls 24 [(0, .ref (ad 11 99)), (1, .long x1), (3, .ref (ad 16 0)), (4, .ref (ad 16 1)), (5, .ref (ad 16 2)), (6, .ref (ad 16 3)), (7, .ref (ad 16 4)), (8, .int x8), (9, .int x9), (10, .int x10), (11, .int x11), (12, .ref mm), (13, .int x13), (14, .int x14), (15, .int x15), (16, .int x16), (17, .int x17), (18, .int x18), (19, .int x19), (20, .int x20)]) : W p l e ({ frames := 7, cells := mc, slots := 6464 * mc, locals := 174 } : Room) s m args below meth c H locs k (6464 * k) (MQ below (wx_QA D ad ca A (some (.int r)) σ') args s mc (6464 * mc) A) (F0 m 170 ls [.int y0]) := by
  obtain ⟨hx, hb, hml, hr, hts, hown, hlk, hC, hA⟩ := id B
  have hm := m_L_same_170 (K30 := K30) @mK30 (K49 := K49) @mK49 h
  unfold f_L_same_170 at h
  refine lv_aload hx hb dL_same_170 (lv_at hl 5 rfl) ?_
  refine lv_iload hx hb dL_same_172 (lv_at hl 17 rfl) ?_
  obtain ⟨v174, ev174, iv174, h⟩ := wx_rI_ok h
  refine wx_iald hx hb hC.1 Z.1 (o := 16) (k := 3) (n := 64) rfl rfl iv174 dL_same_174 ev174 ?_
  refine lv_icmp_ne (tgt := 221) hx hb dL_same_175 (by decide) (fun c175 => ?_) (fun c175 => ?_)
  · replace h := wx_iff c175 h
    exact b_L_same_221 B (k := k) hk h Z hS (lv_sub hl [0, 1, 2, 3, 4, 5, 6, 7, 8, 9, 10, 11, 12, 13, 14, 15, 16, 17, 18, 19] rfl)
  · replace h := wx_ift c175 h
    refine lv_aload_n hx hb dL_same_178 rfl (lv_at hl 0 rfl) ?_
    refine lv_iload hx hb dL_same_179 (lv_at hl 12 rfl) ?_
    refine lv_iload hx hb dL_same_181 (lv_at hl 16 rfl) ?_
    refine lv_iconst (v := 3) hx hb dL_same_183 (by decide) ?_
    obtain ⟨v184, z184, σ184, hc184, ez184, h⟩ := wx_bM_ok h
    have m1 := m_X5_at_0 hc184
    have m2 := m_L_same_187 (K30 := K30) @mK30 (K49 := K49) @mK49 h
    have m3 := congrArg wx_n (wx_kMal ez184)
    refine wx_callAM (va_runV (As := [.int x13, .int x17, .int 3]) (rest := []) ⟨hx, hb, hml, hown, hts⟩ (c_X5_at l (D := D) (ad := ad) (rd := rd) (ca := ca) (A := wx_Am A mm) (σ := σ) hc184) (cwV 3 hts gL_same_X5_at rfl rfl rfl (by decide +kernel) ⟨Nat.le_of_ble_eq_true rfl, Nat.le_of_ble_eq_true rfl⟩) (wx_preVM hC hA Z hS rfl (rfl : vwCl[5]? = some (RX5, TX5, 7))) rfl rfl hl.1 rfl (lv_room (Nat.le_of_ble_eq_true rfl)) dL_same_184 ⟨(by show k + (wx_n z184.2.2.2.2 - wx_n σ.2.2.2.2) ≤ mc; omega), (by show 6464 * k + 6464 * (wx_n z184.2.2.2.2 - wx_n σ.2.2.2.2) ≤ 6464 * mc; omega)⟩) Z hS ez184 (fun rd H locs Z hS => ?_)
    refine W.widen (k := k + (wx_n z184.2.2.2.2 - wx_n σ.2.2.2.2)) (n := 6464 * (k + (wx_n z184.2.2.2.2 - wx_n σ.2.2.2.2))) (Nat.le_refl _) (by omega) ?_
    exact b_L_same_187 B (K30 := K30) @hK30 @mK30 (K49 := K49) @hK49 @mK49 (k := k + (wx_n z184.2.2.2.2 - wx_n σ.2.2.2.2)) (by omega) h Z hS (lv_sub hl [0, 1, 2, 3, 4, 5, 6, 7, 8, 9, 10, 11, 12, 13, 14, 15, 16, 17, 18, 19] rfl)
set_option maxRecDepth 20000 in
set_option maxHeartbeats 4000000 in
theorem m_L_same_148  {r : Int32} {σ' : wx_St} {K30 : Int64 → Int32 → Int32 → Int32 → Int32 → Int32 → wx_St → Option (Int32 × wx_St)} (mK30 : ∀ {x1 : Int64} {x8 : Int32} {x9 : Int32} {x10 : Int32} {x11 : Int32} {x13 : Int32} {σ : wx_St}, K30 x1 x8 x9 x10 x11 x13 σ = some (r, σ') → wx_n σ.2.2.2.2 ≤ wx_n σ'.2.2.2.2) {K49 : Int64 → Int32 → Int32 → Int32 → Int32 → Int32 → Int32 → Int32 → Int32 → Int32 → wx_St → Option (Int32 × wx_St)} (mK49 : ∀ {x1 : Int64} {x8 : Int32} {x9 : Int32} {x10 : Int32} {x11 : Int32} {x13 : Int32} {x14 : Int32} {x15 : Int32} {x16 : Int32} {x17 : Int32} {σ : wx_St}, K49 x1 x8 x9 x10 x11 x13 x14 x15 x16 x17 σ = some (r, σ') → wx_n σ.2.2.2.2 ≤ wx_n σ'.2.2.2.2) {x1 : Int64} {x8 : Int32} {x9 : Int32} {x10 : Int32} {x11 : Int32} {x13 : Int32} {x14 : Int32} {x15 : Int32} {x16 : Int32} {x17 : Int32} {x18 : Int32} {x19 : Int32} {x20 : Int32} {y0 : Int32} {y1 : Int32} {σ : wx_St} (h : f_L_same_148 K30 K49 x1 x8 x9 x10 x11 x13 x14 x15 x16 x17 x18 x19 x20 y0 y1 σ = some (r, σ')) : wx_n σ.2.2.2.2 ≤ wx_n σ'.2.2.2.2 := by
  unfold f_L_same_148 at h
  obtain ⟨v167, z167, σ167, hc167, ez167, h⟩ := wx_bM_ok h
  refine Nat.le_trans (Nat.le_trans (m_X5_at_0 hc167) (Nat.le_of_eq (congrArg wx_n (wx_kMal ez167).symm))) ?_
  exact m_L_same_170 (K30 := K30) @mK30 (K49 := K49) @mK49 h
set_option maxRecDepth 20000 in
set_option maxHeartbeats 4000000 in
theorem b_L_same_148 (B : wx_B p s m args meth c cL_same 24 (some .boolean) wsL_same RL D ad ca A)    {r : Int32} {σ' : wx_St} {mc : Nat} {mm : Nat} {K30 : Int64 → Int32 → Int32 → Int32 → Int32 → Int32 → wx_St → Option (Int32 × wx_St)} (hK30 : ∀ {x1 : Int64} {x8 : Int32} {x9 : Int32} {x10 : Int32} {x11 : Int32} {x13 : Int32} {σ : wx_St} {k : Nat} (hk : k + wx_n σ'.2.2.2.2 ≤ mc + wx_n σ.2.2.2.2)  (h : K30 x1 x8 x9 x10 x11 x13 σ = some (r, σ')) {rd : Nat → Nat} {H : Heap} {locs : List Loc} (Z : wx_ZM D ad rd ca A s.heap.size mm σ H) (hS : va_S A s.heap H locs) {ls : Array Slot} (hl : lv_has ls 24 [(0, .ref (ad 11 99)), (1, .long x1), (3, .ref (ad 16 0)), (4, .ref (ad 16 1)), (5, .ref (ad 16 2)), (6, .ref (ad 16 3)), (7, .ref (ad 16 4)), (8, .int x8), (9, .int x9), (10, .int x10), (11, .int x11), (12, .ref mm), (13, .int x13)]), W p l e ({ frames := 7, cells := mc, slots := 6464 * mc, locals := 174 } : Room) s m args below meth c H locs k (6464 * k) (MQ below (wx_QA D ad ca A (some (.int r)) σ') args s mc (6464 * mc) A) (F0 m 30 ls [])) (mK30 : ∀ {x1 : Int64} {x8 : Int32} {x9 : Int32} {x10 : Int32} {x11 : Int32} {x13 : Int32} {σ : wx_St}, K30 x1 x8 x9 x10 x11 x13 σ = some (r, σ') → wx_n σ.2.2.2.2 ≤ wx_n σ'.2.2.2.2) {K49 : Int64 → Int32 → Int32 → Int32 → Int32 → Int32 → Int32 → Int32 → Int32 → Int32 → wx_St → Option (Int32 × wx_St)} (hK49 : ∀ {x1 : Int64} {x8 : Int32} {x9 : Int32} {x10 : Int32} {x11 : Int32} {x13 : Int32} {x14 : Int32} {x15 : Int32} {x16 : Int32} {x17 : Int32} {σ : wx_St} {k : Nat} (hk : k + wx_n σ'.2.2.2.2 ≤ mc + wx_n σ.2.2.2.2)  (h : K49 x1 x8 x9 x10 x11 x13 x14 x15 x16 x17 σ = some (r, σ')) {rd : Nat → Nat} {H : Heap} {locs : List Loc} (Z : wx_ZM D ad rd ca A s.heap.size mm σ H) (hS : va_S A s.heap H locs) {ls : Array Slot} (hl : lv_has ls 24 [(0, .ref (ad 11 99)), (1, .long x1), (3, .ref (ad 16 0)), (4, .ref (ad 16 1)), (5, .ref (ad 16 2)), (6, .ref (ad 16 3)), (7, .ref (ad 16 4)), (8, .int x8), (9, .int x9), (10, .int x10), (11, .int x11), (12, .ref mm), (13, .int x13), (14, .int x14), (15, .int x15), (16, .int x16), (17, .int x17)]), W p l e ({ frames := 7, cells := mc, slots := 6464 * mc, locals := 174 } : Room) s m args below meth c H locs k (6464 * k) (MQ below (wx_QA D ad ca A (some (.int r)) σ') args s mc (6464 * mc) A) (F0 m 49 ls [])) (mK49 : ∀ {x1 : Int64} {x8 : Int32} {x9 : Int32} {x10 : Int32} {x11 : Int32} {x13 : Int32} {x14 : Int32} {x15 : Int32} {x16 : Int32} {x17 : Int32} {σ : wx_St}, K49 x1 x8 x9 x10 x11 x13 x14 x15 x16 x17 σ = some (r, σ') → wx_n σ.2.2.2.2 ≤ wx_n σ'.2.2.2.2) {x1 : Int64} {x8 : Int32} {x9 : Int32} {x10 : Int32} {x11 : Int32} {x13 : Int32} {x14 : Int32} {x15 : Int32} {x16 : Int32} {x17 : Int32} {x18 : Int32} {x19 : Int32} {x20 : Int32} {y0 : Int32} {y1 : Int32} {σ : wx_St} {k : Nat} (hk : k + wx_n σ'.2.2.2.2 ≤ mc + wx_n σ.2.2.2.2)  (h : f_L_same_148 K30 K49 x1 x8 x9 x10 x11 x13 x14 x15 x16 x17 x18 x19 x20 y0 y1 σ = some (r, σ')) {rd : Nat → Nat} {H : Heap} {locs : List Loc} (Z : wx_ZM D ad rd ca A s.heap.size mm σ H) (hS : va_S A s.heap H locs) {ls : Array Slot} (hl : lv_has ls 24 [(0, .ref (ad 11 99)), (1, .long x1), (3, .ref (ad 16 0)), (4, .ref (ad 16 1)), (5, .ref (ad 16 2)), (6, .ref (ad 16 3)), (7, .ref (ad 16 4)), (8, .int x8), (9, .int x9), (10, .int x10), (11, .int x11), (12, .ref mm), (13, .int x13), (14, .int x14), (15, .int x15), (16, .int x16), (17, .int x17), (18, .int x18), (19, .int x19), (20, .int x20)]) : W p l e ({ frames := 7, cells := mc, slots := 6464 * mc, locals := 174 } : Room) s m args below meth c H locs k (6464 * k) (MQ below (wx_QA D ad ca A (some (.int r)) σ') args s mc (6464 * mc) A) (F0 m 148 ls [.int y1, .int y0]) := by
  obtain ⟨hx, hb, hml, hr, hts, hown, hlk, hC, hA⟩ := id B
  have hm := m_L_same_148 (K30 := K30) @mK30 (K49 := K49) @mK49 h
  unfold f_L_same_148 at h
  refine lv_ior hx hb dL_same_148 ?_
  refine lv_istore (lv' := [(15, .int (y0 ||| y1)), (0, .ref (ad 11 99)), (1, .long x1), (3, .ref (ad 16 0)), (4, .ref (ad 16 1)), (5, .ref (ad 16 2)), (6, .ref (ad 16 3)), (7, .ref (ad 16 4)), (8, .int x8), (9, .int x9), (10, .int x10), (11, .int x11), (12, .ref mm), (13, .int x13), (14, .int x14), (16, .int x16), (17, .int x17), (18, .int x18), (19, .int x19), (20, .int x20)]) hx hb dL_same_149 hl (by decide) rfl (fun ls hl => ?_)
  refine lv_iload hx hb dL_same_151 (lv_at hl 15 rfl) ?_
  refine lv_iload hx hb dL_same_153 (lv_at hl 19 rfl) ?_
  refine lv_iload hx hb dL_same_155 (lv_at hl 16 rfl) ?_
  refine lv_ishl hx hb dL_same_157 ?_
  refine lv_ior hx hb dL_same_158 ?_
  refine lv_istore (lv' := [(16, .int (x16 ||| (x20 <<< (x17 &&& 31)))), (15, .int (y0 ||| y1)), (0, .ref (ad 11 99)), (1, .long x1), (3, .ref (ad 16 0)), (4, .ref (ad 16 1)), (5, .ref (ad 16 2)), (6, .ref (ad 16 3)), (7, .ref (ad 16 4)), (8, .int x8), (9, .int x9), (10, .int x10), (11, .int x11), (12, .ref mm), (13, .int x13), (14, .int x14), (17, .int x17), (18, .int x18), (19, .int x19), (20, .int x20)]) hx hb dL_same_159 hl (by decide) rfl (fun ls hl => ?_)
  refine lv_aload_n hx hb dL_same_161 rfl (lv_at hl 2 rfl) ?_
  refine lv_iload hx hb dL_same_162 (lv_at hl 14 rfl) ?_
  refine lv_iload hx hb dL_same_164 (lv_at hl 16 rfl) ?_
  refine lv_iconst (v := 0) hx hb dL_same_166 (by decide) ?_
  obtain ⟨v167, z167, σ167, hc167, ez167, h⟩ := wx_bM_ok h
  have m1 := m_X5_at_0 hc167
  have m2 := m_L_same_170 (K30 := K30) @mK30 (K49 := K49) @mK49 h
  have m3 := congrArg wx_n (wx_kMal ez167)
  refine wx_callAM (va_runV (As := [.int x13, .int x17, .int 0]) (rest := []) ⟨hx, hb, hml, hown, hts⟩ (c_X5_at l (D := D) (ad := ad) (rd := rd) (ca := ca) (A := wx_Am A mm) (σ := σ) hc167) (cwV 3 hts gL_same_X5_at rfl rfl rfl (by decide +kernel) ⟨Nat.le_of_ble_eq_true rfl, Nat.le_of_ble_eq_true rfl⟩) (wx_preVM hC hA Z hS rfl (rfl : vwCl[5]? = some (RX5, TX5, 7))) rfl rfl hl.1 rfl (lv_room (Nat.le_of_ble_eq_true rfl)) dL_same_167 ⟨(by show k + (wx_n z167.2.2.2.2 - wx_n σ.2.2.2.2) ≤ mc; omega), (by show 6464 * k + 6464 * (wx_n z167.2.2.2.2 - wx_n σ.2.2.2.2) ≤ 6464 * mc; omega)⟩) Z hS ez167 (fun rd H locs Z hS => ?_)
  refine W.widen (k := k + (wx_n z167.2.2.2.2 - wx_n σ.2.2.2.2)) (n := 6464 * (k + (wx_n z167.2.2.2.2 - wx_n σ.2.2.2.2))) (Nat.le_refl _) (by omega) ?_
  exact b_L_same_170 B (K30 := K30) @hK30 @mK30 (K49 := K49) @hK49 @mK49 (k := k + (wx_n z167.2.2.2.2 - wx_n σ.2.2.2.2)) (by omega) h Z hS (lv_sub hl [2, 3, 4, 5, 6, 7, 8, 9, 10, 11, 12, 13, 14, 15, 1, 0, 16, 17, 18, 19] rfl)
set_option maxRecDepth 20000 in
set_option maxHeartbeats 4000000 in
theorem m_L_same_130  {r : Int32} {σ' : wx_St} {K30 : Int64 → Int32 → Int32 → Int32 → Int32 → Int32 → wx_St → Option (Int32 × wx_St)} (mK30 : ∀ {x1 : Int64} {x8 : Int32} {x9 : Int32} {x10 : Int32} {x11 : Int32} {x13 : Int32} {σ : wx_St}, K30 x1 x8 x9 x10 x11 x13 σ = some (r, σ') → wx_n σ.2.2.2.2 ≤ wx_n σ'.2.2.2.2) {K49 : Int64 → Int32 → Int32 → Int32 → Int32 → Int32 → Int32 → Int32 → Int32 → Int32 → wx_St → Option (Int32 × wx_St)} (mK49 : ∀ {x1 : Int64} {x8 : Int32} {x9 : Int32} {x10 : Int32} {x11 : Int32} {x13 : Int32} {x14 : Int32} {x15 : Int32} {x16 : Int32} {x17 : Int32} {σ : wx_St}, K49 x1 x8 x9 x10 x11 x13 x14 x15 x16 x17 σ = some (r, σ') → wx_n σ.2.2.2.2 ≤ wx_n σ'.2.2.2.2) {x1 : Int64} {x8 : Int32} {x9 : Int32} {x10 : Int32} {x11 : Int32} {x13 : Int32} {x14 : Int32} {x15 : Int32} {x16 : Int32} {x17 : Int32} {x18 : Int32} {x19 : Int32} {x20 : Int32} {y0 : Int32} {y1 : Int32} {σ : wx_St} (h : f_L_same_130 K30 K49 x1 x8 x9 x10 x11 x13 x14 x15 x16 x17 x18 x19 x20 y0 y1 σ = some (r, σ')) : wx_n σ.2.2.2.2 ≤ wx_n σ'.2.2.2.2 := by
  unfold f_L_same_130 at h
  by_cases c137 : x19 = 0
  · replace h := wx_ift c137 h
    exact m_L_same_148 (K30 := K30) @mK30 (K49 := K49) @mK49 h
  · replace h := wx_iff c137 h
    exact m_L_same_148 (K30 := K30) @mK30 (K49 := K49) @mK49 h
set_option maxRecDepth 20000 in
set_option maxHeartbeats 4000000 in
theorem b_L_same_130 (B : wx_B p s m args meth c cL_same 24 (some .boolean) wsL_same RL D ad ca A)    {r : Int32} {σ' : wx_St} {mc : Nat} {mm : Nat} {K30 : Int64 → Int32 → Int32 → Int32 → Int32 → Int32 → wx_St → Option (Int32 × wx_St)} (hK30 : ∀ {x1 : Int64} {x8 : Int32} {x9 : Int32} {x10 : Int32} {x11 : Int32} {x13 : Int32} {σ : wx_St} {k : Nat} (hk : k + wx_n σ'.2.2.2.2 ≤ mc + wx_n σ.2.2.2.2)  (h : K30 x1 x8 x9 x10 x11 x13 σ = some (r, σ')) {rd : Nat → Nat} {H : Heap} {locs : List Loc} (Z : wx_ZM D ad rd ca A s.heap.size mm σ H) (hS : va_S A s.heap H locs) {ls : Array Slot} (hl : lv_has ls 24 [(0, .ref (ad 11 99)), (1, .long x1), (3, .ref (ad 16 0)), (4, .ref (ad 16 1)), (5, .ref (ad 16 2)), (6, .ref (ad 16 3)), (7, .ref (ad 16 4)), (8, .int x8), (9, .int x9), (10, .int x10), (11, .int x11), (12, .ref mm), (13, .int x13)]), W p l e ({ frames := 7, cells := mc, slots := 6464 * mc, locals := 174 } : Room) s m args below meth c H locs k (6464 * k) (MQ below (wx_QA D ad ca A (some (.int r)) σ') args s mc (6464 * mc) A) (F0 m 30 ls [])) (mK30 : ∀ {x1 : Int64} {x8 : Int32} {x9 : Int32} {x10 : Int32} {x11 : Int32} {x13 : Int32} {σ : wx_St}, K30 x1 x8 x9 x10 x11 x13 σ = some (r, σ') → wx_n σ.2.2.2.2 ≤ wx_n σ'.2.2.2.2) {K49 : Int64 → Int32 → Int32 → Int32 → Int32 → Int32 → Int32 → Int32 → Int32 → Int32 → wx_St → Option (Int32 × wx_St)} (hK49 : ∀ {x1 : Int64} {x8 : Int32} {x9 : Int32} {x10 : Int32} {x11 : Int32} {x13 : Int32} {x14 : Int32} {x15 : Int32} {x16 : Int32} {x17 : Int32} {σ : wx_St} {k : Nat} (hk : k + wx_n σ'.2.2.2.2 ≤ mc + wx_n σ.2.2.2.2)  (h : K49 x1 x8 x9 x10 x11 x13 x14 x15 x16 x17 σ = some (r, σ')) {rd : Nat → Nat} {H : Heap} {locs : List Loc} (Z : wx_ZM D ad rd ca A s.heap.size mm σ H) (hS : va_S A s.heap H locs) {ls : Array Slot} (hl : lv_has ls 24 [(0, .ref (ad 11 99)), (1, .long x1), (3, .ref (ad 16 0)), (4, .ref (ad 16 1)), (5, .ref (ad 16 2)), (6, .ref (ad 16 3)), (7, .ref (ad 16 4)), (8, .int x8), (9, .int x9), (10, .int x10), (11, .int x11), (12, .ref mm), (13, .int x13), (14, .int x14), (15, .int x15), (16, .int x16), (17, .int x17)]), W p l e ({ frames := 7, cells := mc, slots := 6464 * mc, locals := 174 } : Room) s m args below meth c H locs k (6464 * k) (MQ below (wx_QA D ad ca A (some (.int r)) σ') args s mc (6464 * mc) A) (F0 m 49 ls [])) (mK49 : ∀ {x1 : Int64} {x8 : Int32} {x9 : Int32} {x10 : Int32} {x11 : Int32} {x13 : Int32} {x14 : Int32} {x15 : Int32} {x16 : Int32} {x17 : Int32} {σ : wx_St}, K49 x1 x8 x9 x10 x11 x13 x14 x15 x16 x17 σ = some (r, σ') → wx_n σ.2.2.2.2 ≤ wx_n σ'.2.2.2.2) {x1 : Int64} {x8 : Int32} {x9 : Int32} {x10 : Int32} {x11 : Int32} {x13 : Int32} {x14 : Int32} {x15 : Int32} {x16 : Int32} {x17 : Int32} {x18 : Int32} {x19 : Int32} {x20 : Int32} {y0 : Int32} {y1 : Int32} {σ : wx_St} {k : Nat} (hk : k + wx_n σ'.2.2.2.2 ≤ mc + wx_n σ.2.2.2.2)  (h : f_L_same_130 K30 K49 x1 x8 x9 x10 x11 x13 x14 x15 x16 x17 x18 x19 x20 y0 y1 σ = some (r, σ')) {rd : Nat → Nat} {H : Heap} {locs : List Loc} (Z : wx_ZM D ad rd ca A s.heap.size mm σ H) (hS : va_S A s.heap H locs) {ls : Array Slot} (hl : lv_has ls 24 [(0, .ref (ad 11 99)), (1, .long x1), (3, .ref (ad 16 0)), (4, .ref (ad 16 1)), (5, .ref (ad 16 2)), (6, .ref (ad 16 3)), (7, .ref (ad 16 4)), (8, .int x8), (9, .int x9), (10, .int x10), (11, .int x11), (12, .ref mm), (13, .int x13), (14, .int x14), (15, .int x15), (16, .int x16), (17, .int x17), (18, .int x18), (19, .int x19), (20, .int x20)]) : W p l e ({ frames := 7, cells := mc, slots := 6464 * mc, locals := 174 } : Room) s m args below meth c H locs k (6464 * k) (MQ below (wx_QA D ad ca A (some (.int r)) σ') args s mc (6464 * mc) A) (F0 m 130 ls [.int y1, .int y0]) := by
  obtain ⟨hx, hb, hml, hr, hts, hown, hlk, hC, hA⟩ := id B
  have hm := m_L_same_130 (K30 := K30) @mK30 (K49 := K49) @mK49 h
  unfold f_L_same_130 at h
  refine lv_ior hx hb dL_same_130 ?_
  refine lv_istore (lv' := [(14, .int (y0 ||| y1)), (0, .ref (ad 11 99)), (1, .long x1), (3, .ref (ad 16 0)), (4, .ref (ad 16 1)), (5, .ref (ad 16 2)), (6, .ref (ad 16 3)), (7, .ref (ad 16 4)), (8, .int x8), (9, .int x9), (10, .int x10), (11, .int x11), (12, .ref mm), (13, .int x13), (15, .int x15), (16, .int x16), (17, .int x17), (18, .int x18), (19, .int x19), (20, .int x20)]) hx hb dL_same_131 hl (by decide) rfl (fun ls hl => ?_)
  refine lv_iload hx hb dL_same_133 (lv_at hl 14 rfl) ?_
  refine lv_iload hx hb dL_same_135 (lv_at hl 18 rfl) ?_
  refine lv_if_eq (tgt := 147) hx hb dL_same_137 (by decide) (fun c137 => ?_) (fun c137 => ?_)
  · replace h := wx_ift c137 h
    refine lv_iconst (v := 0) hx hb dL_same_147 (by decide) ?_
    exact b_L_same_148 B (K30 := K30) @hK30 @mK30 (K49 := K49) @hK49 @mK49 (k := k) hk h Z hS (lv_sub hl [1, 2, 3, 4, 5, 6, 7, 8, 9, 10, 11, 12, 13, 0, 14, 15, 16, 17, 18, 19] rfl)
  · replace h := wx_iff c137 h
    refine lv_iconst (v := 1) hx hb dL_same_140 (by decide) ?_
    refine lv_iload hx hb dL_same_141 (lv_at hl 16 rfl) ?_
    refine lv_ishl hx hb dL_same_143 ?_
    refine lv_goto (tgt := 148) hx hb dL_same_144 (by decide) ?_
    exact b_L_same_148 B (K30 := K30) @hK30 @mK30 (K49 := K49) @hK49 @mK49 (k := k) hk h Z hS (lv_sub hl [1, 2, 3, 4, 5, 6, 7, 8, 9, 10, 11, 12, 13, 0, 14, 15, 16, 17, 18, 19] rfl)
set_option maxRecDepth 20000 in
set_option maxHeartbeats 4000000 in
theorem m_L_same_98  {r : Int32} {σ' : wx_St} {K30 : Int64 → Int32 → Int32 → Int32 → Int32 → Int32 → wx_St → Option (Int32 × wx_St)} (mK30 : ∀ {x1 : Int64} {x8 : Int32} {x9 : Int32} {x10 : Int32} {x11 : Int32} {x13 : Int32} {σ : wx_St}, K30 x1 x8 x9 x10 x11 x13 σ = some (r, σ') → wx_n σ.2.2.2.2 ≤ wx_n σ'.2.2.2.2) {K49 : Int64 → Int32 → Int32 → Int32 → Int32 → Int32 → Int32 → Int32 → Int32 → Int32 → wx_St → Option (Int32 × wx_St)} (mK49 : ∀ {x1 : Int64} {x8 : Int32} {x9 : Int32} {x10 : Int32} {x11 : Int32} {x13 : Int32} {x14 : Int32} {x15 : Int32} {x16 : Int32} {x17 : Int32} {σ : wx_St}, K49 x1 x8 x9 x10 x11 x13 x14 x15 x16 x17 σ = some (r, σ') → wx_n σ.2.2.2.2 ≤ wx_n σ'.2.2.2.2) {x1 : Int64} {x8 : Int32} {x9 : Int32} {x10 : Int32} {x11 : Int32} {x13 : Int32} {x14 : Int32} {x15 : Int32} {x16 : Int32} {x17 : Int32} {x18 : Int32} {x19 : Int32} {y0 : Int32} {σ : wx_St} (h : f_L_same_98 K30 K49 x1 x8 x9 x10 x11 x13 x14 x15 x16 x17 x18 x19 y0 σ = some (r, σ')) : wx_n σ.2.2.2.2 ≤ wx_n σ'.2.2.2.2 := by
  unfold f_L_same_98 at h
  obtain ⟨v106, ev106, iv106, h⟩ := wx_rI_ok h
  obtain ⟨v108, ev108, iv108, h⟩ := wx_rI_ok h
  obtain ⟨σ111, e111, i111, h⟩ := wx_w_ok h
  refine Nat.le_trans (Nat.le_of_eq (congrArg wx_n (show σ111.2.2.2.2 = σ.2.2.2.2 from (congrArg (fun z : wx_St => z.2.2.2.2) e111).trans rfl)).symm) ?_
  obtain ⟨v118, ev118, iv118, h⟩ := wx_rI_ok h
  by_cases c119 : v118 ≤ 0
  · replace h := wx_ift c119 h
    exact m_L_same_130 (K30 := K30) @mK30 (K49 := K49) @mK49 h
  · replace h := wx_iff c119 h
    exact m_L_same_130 (K30 := K30) @mK30 (K49 := K49) @mK49 h
set_option maxRecDepth 20000 in
set_option maxHeartbeats 4000000 in
theorem b_L_same_98 (B : wx_B p s m args meth c cL_same 24 (some .boolean) wsL_same RL D ad ca A)    {r : Int32} {σ' : wx_St} {mc : Nat} {mm : Nat} {K30 : Int64 → Int32 → Int32 → Int32 → Int32 → Int32 → wx_St → Option (Int32 × wx_St)} (hK30 : ∀ {x1 : Int64} {x8 : Int32} {x9 : Int32} {x10 : Int32} {x11 : Int32} {x13 : Int32} {σ : wx_St} {k : Nat} (hk : k + wx_n σ'.2.2.2.2 ≤ mc + wx_n σ.2.2.2.2)  (h : K30 x1 x8 x9 x10 x11 x13 σ = some (r, σ')) {rd : Nat → Nat} {H : Heap} {locs : List Loc} (Z : wx_ZM D ad rd ca A s.heap.size mm σ H) (hS : va_S A s.heap H locs) {ls : Array Slot} (hl : lv_has ls 24 [(0, .ref (ad 11 99)), (1, .long x1), (3, .ref (ad 16 0)), (4, .ref (ad 16 1)), (5, .ref (ad 16 2)), (6, .ref (ad 16 3)), (7, .ref (ad 16 4)), (8, .int x8), (9, .int x9), (10, .int x10), (11, .int x11), (12, .ref mm), (13, .int x13)]), W p l e ({ frames := 7, cells := mc, slots := 6464 * mc, locals := 174 } : Room) s m args below meth c H locs k (6464 * k) (MQ below (wx_QA D ad ca A (some (.int r)) σ') args s mc (6464 * mc) A) (F0 m 30 ls [])) (mK30 : ∀ {x1 : Int64} {x8 : Int32} {x9 : Int32} {x10 : Int32} {x11 : Int32} {x13 : Int32} {σ : wx_St}, K30 x1 x8 x9 x10 x11 x13 σ = some (r, σ') → wx_n σ.2.2.2.2 ≤ wx_n σ'.2.2.2.2) {K49 : Int64 → Int32 → Int32 → Int32 → Int32 → Int32 → Int32 → Int32 → Int32 → Int32 → wx_St → Option (Int32 × wx_St)} (hK49 : ∀ {x1 : Int64} {x8 : Int32} {x9 : Int32} {x10 : Int32} {x11 : Int32} {x13 : Int32} {x14 : Int32} {x15 : Int32} {x16 : Int32} {x17 : Int32} {σ : wx_St} {k : Nat} (hk : k + wx_n σ'.2.2.2.2 ≤ mc + wx_n σ.2.2.2.2)  (h : K49 x1 x8 x9 x10 x11 x13 x14 x15 x16 x17 σ = some (r, σ')) {rd : Nat → Nat} {H : Heap} {locs : List Loc} (Z : wx_ZM D ad rd ca A s.heap.size mm σ H) (hS : va_S A s.heap H locs) {ls : Array Slot} (hl : lv_has ls 24 [(0, .ref (ad 11 99)), (1, .long x1), (3, .ref (ad 16 0)), (4, .ref (ad 16 1)), (5, .ref (ad 16 2)), (6, .ref (ad 16 3)), (7, .ref (ad 16 4)), (8, .int x8), (9, .int x9), (10, .int x10), (11, .int x11), (12, .ref mm), (13, .int x13), (14, .int x14), (15, .int x15), (16, .int x16), (17, .int x17)]), W p l e ({ frames := 7, cells := mc, slots := 6464 * mc, locals := 174 } : Room) s m args below meth c H locs k (6464 * k) (MQ below (wx_QA D ad ca A (some (.int r)) σ') args s mc (6464 * mc) A) (F0 m 49 ls [])) (mK49 : ∀ {x1 : Int64} {x8 : Int32} {x9 : Int32} {x10 : Int32} {x11 : Int32} {x13 : Int32} {x14 : Int32} {x15 : Int32} {x16 : Int32} {x17 : Int32} {σ : wx_St}, K49 x1 x8 x9 x10 x11 x13 x14 x15 x16 x17 σ = some (r, σ') → wx_n σ.2.2.2.2 ≤ wx_n σ'.2.2.2.2) {x1 : Int64} {x8 : Int32} {x9 : Int32} {x10 : Int32} {x11 : Int32} {x13 : Int32} {x14 : Int32} {x15 : Int32} {x16 : Int32} {x17 : Int32} {x18 : Int32} {x19 : Int32} {y0 : Int32} {σ : wx_St} {k : Nat} (hk : k + wx_n σ'.2.2.2.2 ≤ mc + wx_n σ.2.2.2.2)  (h : f_L_same_98 K30 K49 x1 x8 x9 x10 x11 x13 x14 x15 x16 x17 x18 x19 y0 σ = some (r, σ')) {rd : Nat → Nat} {H : Heap} {locs : List Loc} (Z : wx_ZM D ad rd ca A s.heap.size mm σ H) (hS : va_S A s.heap H locs) {ls : Array Slot} (hl : lv_has ls 24 [(0, .ref (ad 11 99)), (1, .long x1), (3, .ref (ad 16 0)), (4, .ref (ad 16 1)), (5, .ref (ad 16 2)), (6, .ref (ad 16 3)), (7, .ref (ad 16 4)), (8, .int x8), (9, .int x9), (10, .int x10), (11, .int x11), (12, .ref mm), (13, .int x13), (14, .int x14), (15, .int x15), (16, .int x16), (17, .int x17), (18, .int x18), (19, .int x19)]) : W p l e ({ frames := 7, cells := mc, slots := 6464 * mc, locals := 174 } : Room) s m args below meth c H locs k (6464 * k) (MQ below (wx_QA D ad ca A (some (.int r)) σ') args s mc (6464 * mc) A) (F0 m 98 ls [.int y0]) := by
  obtain ⟨hx, hb, hml, hr, hts, hown, hlk, hC, hA⟩ := id B
  have hm := m_L_same_98 (K30 := K30) @mK30 (K49 := K49) @mK49 h
  unfold f_L_same_98 at h
  refine lv_istore (lv' := [(20, .int y0), (0, .ref (ad 11 99)), (1, .long x1), (3, .ref (ad 16 0)), (4, .ref (ad 16 1)), (5, .ref (ad 16 2)), (6, .ref (ad 16 3)), (7, .ref (ad 16 4)), (8, .int x8), (9, .int x9), (10, .int x10), (11, .int x11), (12, .ref mm), (13, .int x13), (14, .int x14), (15, .int x15), (16, .int x16), (17, .int x17), (18, .int x18), (19, .int x19)]) hx hb dL_same_98 hl (by decide) rfl (fun ls hl => ?_)
  refine lv_aload hx hb dL_same_100 (lv_at hl 12 rfl) ?_
  refine lv_aload hx hb dL_same_102 (lv_at hl 6 rfl) ?_
  refine lv_iload hx hb dL_same_104 (lv_at hl 18 rfl) ?_
  obtain ⟨v106, ev106, iv106, h⟩ := wx_rI_ok h
  refine wx_iald hx hb hC.1 Z.1 (o := 16) (k := 3) (n := 64) rfl rfl iv106 dL_same_106 ev106 ?_
  refine lv_dup2_11 hx hb dL_same_107 rfl rfl ?_
  obtain ⟨v108, ev108, iv108, h⟩ := wx_rI_ok h
  refine wx_ialdM hx hb hC.1 Z iv108 dL_same_108 ev108 ?_
  refine lv_iconst (v := 1) hx hb dL_same_109 (by decide) ?_
  refine lv_iadd hx hb dL_same_110 ?_
  obtain ⟨σ111, e111, i111, h⟩ := wx_w_ok h
  refine wx_iastM hx hb hC.1 Z hS hA i111 dL_same_111 e111 (fun H locs Z hS => ?_)
  have hqσ111 := congrArg wx_n (show σ111.2.2.2.2 = σ.2.2.2.2 from (congrArg (fun z : wx_St => z.2.2.2.2) e111).trans rfl)
  rw [← hqσ111] at hk hm
  refine lv_iload hx hb dL_same_112 (lv_at hl 14 rfl) ?_
  refine lv_aload hx hb dL_same_114 (lv_at hl 6 rfl) ?_
  refine lv_iload hx hb dL_same_116 (lv_at hl 18 rfl) ?_
  obtain ⟨v118, ev118, iv118, h⟩ := wx_rI_ok h
  refine wx_iald hx hb hC.1 Z.1 (o := 16) (k := 3) (n := 64) rfl rfl iv118 dL_same_118 ev118 ?_
  refine lv_if_le (tgt := 129) hx hb dL_same_119 (by decide) (fun c119 => ?_) (fun c119 => ?_)
  · replace h := wx_ift c119 h
    refine lv_iconst (v := 0) hx hb dL_same_129 (by decide) ?_
    exact b_L_same_130 B (K30 := K30) @hK30 @mK30 (K49 := K49) @hK49 @mK49 (k := k) hk h Z hS (lv_sub hl [1, 2, 3, 4, 5, 6, 7, 8, 9, 10, 11, 12, 13, 14, 15, 16, 17, 18, 19, 0] rfl)
  · replace h := wx_iff c119 h
    refine lv_iconst (v := 1) hx hb dL_same_122 (by decide) ?_
    refine lv_iload hx hb dL_same_123 (lv_at hl 17 rfl) ?_
    refine lv_ishl hx hb dL_same_125 ?_
    refine lv_goto (tgt := 130) hx hb dL_same_126 (by decide) ?_
    exact b_L_same_130 B (K30 := K30) @hK30 @mK30 (K49 := K49) @hK49 @mK49 (k := k) hk h Z hS (lv_sub hl [1, 2, 3, 4, 5, 6, 7, 8, 9, 10, 11, 12, 13, 14, 15, 16, 17, 18, 19, 0] rfl)
set_option maxRecDepth 20000 in
set_option maxHeartbeats 4000000 in
theorem m_L_same_97  {r : Int32} {σ' : wx_St} {K30 : Int64 → Int32 → Int32 → Int32 → Int32 → Int32 → wx_St → Option (Int32 × wx_St)} (mK30 : ∀ {x1 : Int64} {x8 : Int32} {x9 : Int32} {x10 : Int32} {x11 : Int32} {x13 : Int32} {σ : wx_St}, K30 x1 x8 x9 x10 x11 x13 σ = some (r, σ') → wx_n σ.2.2.2.2 ≤ wx_n σ'.2.2.2.2) {K49 : Int64 → Int32 → Int32 → Int32 → Int32 → Int32 → Int32 → Int32 → Int32 → Int32 → wx_St → Option (Int32 × wx_St)} (mK49 : ∀ {x1 : Int64} {x8 : Int32} {x9 : Int32} {x10 : Int32} {x11 : Int32} {x13 : Int32} {x14 : Int32} {x15 : Int32} {x16 : Int32} {x17 : Int32} {σ : wx_St}, K49 x1 x8 x9 x10 x11 x13 x14 x15 x16 x17 σ = some (r, σ') → wx_n σ.2.2.2.2 ≤ wx_n σ'.2.2.2.2) {x1 : Int64} {x8 : Int32} {x9 : Int32} {x10 : Int32} {x11 : Int32} {x13 : Int32} {x14 : Int32} {x15 : Int32} {x16 : Int32} {x17 : Int32} {x18 : Int32} {x19 : Int32} {σ : wx_St} (h : f_L_same_97 K30 K49 x1 x8 x9 x10 x11 x13 x14 x15 x16 x17 x18 x19 σ = some (r, σ')) : wx_n σ.2.2.2.2 ≤ wx_n σ'.2.2.2.2 := by
  unfold f_L_same_97 at h
  exact m_L_same_98 (K30 := K30) @mK30 (K49 := K49) @mK49 h
set_option maxRecDepth 20000 in
set_option maxHeartbeats 4000000 in
theorem b_L_same_97 (B : wx_B p s m args meth c cL_same 24 (some .boolean) wsL_same RL D ad ca A)    {r : Int32} {σ' : wx_St} {mc : Nat} {mm : Nat} {K30 : Int64 → Int32 → Int32 → Int32 → Int32 → Int32 → wx_St → Option (Int32 × wx_St)} (hK30 : ∀ {x1 : Int64} {x8 : Int32} {x9 : Int32} {x10 : Int32} {x11 : Int32} {x13 : Int32} {σ : wx_St} {k : Nat} (hk : k + wx_n σ'.2.2.2.2 ≤ mc + wx_n σ.2.2.2.2)  (h : K30 x1 x8 x9 x10 x11 x13 σ = some (r, σ')) {rd : Nat → Nat} {H : Heap} {locs : List Loc} (Z : wx_ZM D ad rd ca A s.heap.size mm σ H) (hS : va_S A s.heap H locs) {ls : Array Slot} (hl : lv_has ls 24 [(0, .ref (ad 11 99)), (1, .long x1), (3, .ref (ad 16 0)), (4, .ref (ad 16 1)), (5, .ref (ad 16 2)), (6, .ref (ad 16 3)), (7, .ref (ad 16 4)), (8, .int x8), (9, .int x9), (10, .int x10), (11, .int x11), (12, .ref mm), (13, .int x13)]), W p l e ({ frames := 7, cells := mc, slots := 6464 * mc, locals := 174 } : Room) s m args below meth c H locs k (6464 * k) (MQ below (wx_QA D ad ca A (some (.int r)) σ') args s mc (6464 * mc) A) (F0 m 30 ls [])) (mK30 : ∀ {x1 : Int64} {x8 : Int32} {x9 : Int32} {x10 : Int32} {x11 : Int32} {x13 : Int32} {σ : wx_St}, K30 x1 x8 x9 x10 x11 x13 σ = some (r, σ') → wx_n σ.2.2.2.2 ≤ wx_n σ'.2.2.2.2) {K49 : Int64 → Int32 → Int32 → Int32 → Int32 → Int32 → Int32 → Int32 → Int32 → Int32 → wx_St → Option (Int32 × wx_St)} (hK49 : ∀ {x1 : Int64} {x8 : Int32} {x9 : Int32} {x10 : Int32} {x11 : Int32} {x13 : Int32} {x14 : Int32} {x15 : Int32} {x16 : Int32} {x17 : Int32} {σ : wx_St} {k : Nat} (hk : k + wx_n σ'.2.2.2.2 ≤ mc + wx_n σ.2.2.2.2)  (h : K49 x1 x8 x9 x10 x11 x13 x14 x15 x16 x17 σ = some (r, σ')) {rd : Nat → Nat} {H : Heap} {locs : List Loc} (Z : wx_ZM D ad rd ca A s.heap.size mm σ H) (hS : va_S A s.heap H locs) {ls : Array Slot} (hl : lv_has ls 24 [(0, .ref (ad 11 99)), (1, .long x1), (3, .ref (ad 16 0)), (4, .ref (ad 16 1)), (5, .ref (ad 16 2)), (6, .ref (ad 16 3)), (7, .ref (ad 16 4)), (8, .int x8), (9, .int x9), (10, .int x10), (11, .int x11), (12, .ref mm), (13, .int x13), (14, .int x14), (15, .int x15), (16, .int x16), (17, .int x17)]), W p l e ({ frames := 7, cells := mc, slots := 6464 * mc, locals := 174 } : Room) s m args below meth c H locs k (6464 * k) (MQ below (wx_QA D ad ca A (some (.int r)) σ') args s mc (6464 * mc) A) (F0 m 49 ls [])) (mK49 : ∀ {x1 : Int64} {x8 : Int32} {x9 : Int32} {x10 : Int32} {x11 : Int32} {x13 : Int32} {x14 : Int32} {x15 : Int32} {x16 : Int32} {x17 : Int32} {σ : wx_St}, K49 x1 x8 x9 x10 x11 x13 x14 x15 x16 x17 σ = some (r, σ') → wx_n σ.2.2.2.2 ≤ wx_n σ'.2.2.2.2) {x1 : Int64} {x8 : Int32} {x9 : Int32} {x10 : Int32} {x11 : Int32} {x13 : Int32} {x14 : Int32} {x15 : Int32} {x16 : Int32} {x17 : Int32} {x18 : Int32} {x19 : Int32} {σ : wx_St} {k : Nat} (hk : k + wx_n σ'.2.2.2.2 ≤ mc + wx_n σ.2.2.2.2)  (h : f_L_same_97 K30 K49 x1 x8 x9 x10 x11 x13 x14 x15 x16 x17 x18 x19 σ = some (r, σ')) {rd : Nat → Nat} {H : Heap} {locs : List Loc} (Z : wx_ZM D ad rd ca A s.heap.size mm σ H) (hS : va_S A s.heap H locs) {ls : Array Slot} (hl : lv_has ls 24 [(0, .ref (ad 11 99)), (1, .long x1), (3, .ref (ad 16 0)), (4, .ref (ad 16 1)), (5, .ref (ad 16 2)), (6, .ref (ad 16 3)), (7, .ref (ad 16 4)), (8, .int x8), (9, .int x9), (10, .int x10), (11, .int x11), (12, .ref mm), (13, .int x13), (14, .int x14), (15, .int x15), (16, .int x16), (17, .int x17), (18, .int x18), (19, .int x19)]) : W p l e ({ frames := 7, cells := mc, slots := 6464 * mc, locals := 174 } : Room) s m args below meth c H locs k (6464 * k) (MQ below (wx_QA D ad ca A (some (.int r)) σ') args s mc (6464 * mc) A) (F0 m 97 ls []) := by
  obtain ⟨hx, hb, hml, hr, hts, hown, hlk, hC, hA⟩ := id B
  have hm := m_L_same_97 (K30 := K30) @mK30 (K49 := K49) @mK49 h
  unfold f_L_same_97 at h
  refine lv_iconst (v := 0) hx hb dL_same_97 (by decide) ?_
  exact b_L_same_98 B (K30 := K30) @hK30 @mK30 (K49 := K49) @hK49 @mK49 (k := k) hk h Z hS (lv_sub hl [0, 1, 2, 3, 4, 5, 6, 7, 8, 9, 10, 11, 12, 13, 14, 15, 16, 17, 18] rfl)
set_option maxRecDepth 20000 in
set_option maxHeartbeats 4000000 in
theorem m_L_same_433  {r : Int32} {σ' : wx_St}  {x1 : Int64} {x8 : Int32} {x9 : Int32} {x10 : Int32} {x11 : Int32} {x13 : Int32} {x14 : Int32} {x15 : Int32} {x16 : Int32} {x17 : Int32} {σ : wx_St} (h : f_L_same_433 x1 x8 x9 x10 x11 x13 x14 x15 x16 x17 σ = some (r, σ')) : wx_n σ.2.2.2.2 ≤ wx_n σ'.2.2.2.2 := by
  unfold f_L_same_433 at h
  obtain ⟨rfl, rfl⟩ := wx_ret_ok h
  exact Nat.le_refl _
set_option maxRecDepth 20000 in
set_option maxHeartbeats 4000000 in
theorem b_L_same_433 (B : wx_B p s m args meth c cL_same 24 (some .boolean) wsL_same RL D ad ca A)    {r : Int32} {σ' : wx_St} {mc : Nat} {mm : Nat}  {x1 : Int64} {x8 : Int32} {x9 : Int32} {x10 : Int32} {x11 : Int32} {x13 : Int32} {x14 : Int32} {x15 : Int32} {x16 : Int32} {x17 : Int32} {σ : wx_St} {k : Nat} (hk : k + wx_n σ'.2.2.2.2 ≤ mc + wx_n σ.2.2.2.2)  (h : f_L_same_433 x1 x8 x9 x10 x11 x13 x14 x15 x16 x17 σ = some (r, σ')) {rd : Nat → Nat} {H : Heap} {locs : List Loc} (Z : wx_ZM D ad rd ca A s.heap.size mm σ H) (hS : va_S A s.heap H locs) {ls : Array Slot} (hl : lv_has ls 24 [(0, .ref (ad 11 99)), (1, .long x1), (3, .ref (ad 16 0)), (4, .ref (ad 16 1)), (5, .ref (ad 16 2)), (6, .ref (ad 16 3)), (7, .ref (ad 16 4)), (8, .int x8), (9, .int x9), (10, .int x10), (11, .int x11), (12, .ref mm), (13, .int x13), (14, .int x14), (15, .int x15), (16, .int x16), (17, .int x17)]) : W p l e ({ frames := 7, cells := mc, slots := 6464 * mc, locals := 174 } : Room) s m args below meth c H locs k (6464 * k) (MQ below (wx_QA D ad ca A (some (.int r)) σ') args s mc (6464 * mc) A) (F0 m 433 ls []) := by
  obtain ⟨hx, hb, hml, hr, hts, hown, hlk, hC, hA⟩ := id B
  have hm := m_L_same_433 h
  unfold f_L_same_433 at h
  refine lv_iconst (v := 0) hx hb dL_same_433 (by decide) ?_
  obtain ⟨rfl, rfl⟩ := wx_ret_ok h
  refine W.widen (k := mc) (n := 6464 * mc) (by omega) (by omega) ?_
  exact W.zret hx hb hr rfl (fun t ht hW => ⟨rfl, ⟨_, by rw [ht]; exact Z.out⟩, hS.F ht⟩) hS.2.2 dL_same_434
set_option maxRecDepth 20000 in
set_option maxHeartbeats 4000000 in
theorem m_L_same_459  {r : Int32} {σ' : wx_St} {K30 : Int64 → Int32 → Int32 → Int32 → Int32 → Int32 → wx_St → Option (Int32 × wx_St)} (mK30 : ∀ {x1 : Int64} {x8 : Int32} {x9 : Int32} {x10 : Int32} {x11 : Int32} {x13 : Int32} {σ : wx_St}, K30 x1 x8 x9 x10 x11 x13 σ = some (r, σ') → wx_n σ.2.2.2.2 ≤ wx_n σ'.2.2.2.2) {K438 : Int64 → Int32 → Int32 → Int32 → Int32 → Int32 → Int32 → Int32 → Int32 → Int32 → wx_St → Option (Int32 × wx_St)} (mK438 : ∀ {x1 : Int64} {x8 : Int32} {x9 : Int32} {x10 : Int32} {x11 : Int32} {x13 : Int32} {x14 : Int32} {x15 : Int32} {x16 : Int32} {x17 : Int32} {σ : wx_St}, K438 x1 x8 x9 x10 x11 x13 x14 x15 x16 x17 σ = some (r, σ') → wx_n σ.2.2.2.2 ≤ wx_n σ'.2.2.2.2) {x1 : Int64} {x8 : Int32} {x9 : Int32} {x10 : Int32} {x11 : Int32} {x13 : Int32} {x14 : Int32} {x15 : Int32} {x16 : Int32} {x17 : Int32} {y0 : Int32} {σ : wx_St} (h : f_L_same_459 K30 K438 x1 x8 x9 x10 x11 x13 x14 x15 x16 x17 y0 σ = some (r, σ')) : wx_n σ.2.2.2.2 ≤ wx_n σ'.2.2.2.2 := by
  unfold f_L_same_459 at h
  by_cases c466 : y0 = ((x16 >>> (x17 &&& 31)) &&& 1)
  · replace h := wx_ift c466 h
    exact mK438 h
  · replace h := wx_iff c466 h
    obtain ⟨rfl, rfl⟩ := wx_ret_ok h
    exact Nat.le_refl _
set_option maxRecDepth 20000 in
set_option maxHeartbeats 4000000 in
theorem b_L_same_459 (B : wx_B p s m args meth c cL_same 24 (some .boolean) wsL_same RL D ad ca A)    {r : Int32} {σ' : wx_St} {mc : Nat} {mm : Nat} {K30 : Int64 → Int32 → Int32 → Int32 → Int32 → Int32 → wx_St → Option (Int32 × wx_St)} (hK30 : ∀ {x1 : Int64} {x8 : Int32} {x9 : Int32} {x10 : Int32} {x11 : Int32} {x13 : Int32} {σ : wx_St} {k : Nat} (hk : k + wx_n σ'.2.2.2.2 ≤ mc + wx_n σ.2.2.2.2)  (h : K30 x1 x8 x9 x10 x11 x13 σ = some (r, σ')) {rd : Nat → Nat} {H : Heap} {locs : List Loc} (Z : wx_ZM D ad rd ca A s.heap.size mm σ H) (hS : va_S A s.heap H locs) {ls : Array Slot} (hl : lv_has ls 24 [(0, .ref (ad 11 99)), (1, .long x1), (3, .ref (ad 16 0)), (4, .ref (ad 16 1)), (5, .ref (ad 16 2)), (6, .ref (ad 16 3)), (7, .ref (ad 16 4)), (8, .int x8), (9, .int x9), (10, .int x10), (11, .int x11), (12, .ref mm), (13, .int x13)]), W p l e ({ frames := 7, cells := mc, slots := 6464 * mc, locals := 174 } : Room) s m args below meth c H locs k (6464 * k) (MQ below (wx_QA D ad ca A (some (.int r)) σ') args s mc (6464 * mc) A) (F0 m 30 ls [])) (mK30 : ∀ {x1 : Int64} {x8 : Int32} {x9 : Int32} {x10 : Int32} {x11 : Int32} {x13 : Int32} {σ : wx_St}, K30 x1 x8 x9 x10 x11 x13 σ = some (r, σ') → wx_n σ.2.2.2.2 ≤ wx_n σ'.2.2.2.2) {K438 : Int64 → Int32 → Int32 → Int32 → Int32 → Int32 → Int32 → Int32 → Int32 → Int32 → wx_St → Option (Int32 × wx_St)} (hK438 : ∀ {x1 : Int64} {x8 : Int32} {x9 : Int32} {x10 : Int32} {x11 : Int32} {x13 : Int32} {x14 : Int32} {x15 : Int32} {x16 : Int32} {x17 : Int32} {σ : wx_St} {k : Nat} (hk : k + wx_n σ'.2.2.2.2 ≤ mc + wx_n σ.2.2.2.2)  (h : K438 x1 x8 x9 x10 x11 x13 x14 x15 x16 x17 σ = some (r, σ')) {rd : Nat → Nat} {H : Heap} {locs : List Loc} (Z : wx_ZM D ad rd ca A s.heap.size mm σ H) (hS : va_S A s.heap H locs) {ls : Array Slot} (hl : lv_has ls 24 [(0, .ref (ad 11 99)), (1, .long x1), (3, .ref (ad 16 0)), (4, .ref (ad 16 1)), (5, .ref (ad 16 2)), (6, .ref (ad 16 3)), (7, .ref (ad 16 4)), (8, .int x8), (9, .int x9), (10, .int x10), (11, .int x11), (12, .ref mm), (13, .int x13), (14, .int x14), (15, .int x15), (16, .int x16), (17, .int x17)]), W p l e ({ frames := 7, cells := mc, slots := 6464 * mc, locals := 174 } : Room) s m args below meth c H locs k (6464 * k) (MQ below (wx_QA D ad ca A (some (.int r)) σ') args s mc (6464 * mc) A) (F0 m 438 ls [])) (mK438 : ∀ {x1 : Int64} {x8 : Int32} {x9 : Int32} {x10 : Int32} {x11 : Int32} {x13 : Int32} {x14 : Int32} {x15 : Int32} {x16 : Int32} {x17 : Int32} {σ : wx_St}, K438 x1 x8 x9 x10 x11 x13 x14 x15 x16 x17 σ = some (r, σ') → wx_n σ.2.2.2.2 ≤ wx_n σ'.2.2.2.2) {x1 : Int64} {x8 : Int32} {x9 : Int32} {x10 : Int32} {x11 : Int32} {x13 : Int32} {x14 : Int32} {x15 : Int32} {x16 : Int32} {x17 : Int32} {y0 : Int32} {σ : wx_St} {k : Nat} (hk : k + wx_n σ'.2.2.2.2 ≤ mc + wx_n σ.2.2.2.2)  (h : f_L_same_459 K30 K438 x1 x8 x9 x10 x11 x13 x14 x15 x16 x17 y0 σ = some (r, σ')) {rd : Nat → Nat} {H : Heap} {locs : List Loc} (Z : wx_ZM D ad rd ca A s.heap.size mm σ H) (hS : va_S A s.heap H locs) {ls : Array Slot} (hl : lv_has ls 24 [(0, .ref (ad 11 99)), (1, .long x1), (3, .ref (ad 16 0)), (4, .ref (ad 16 1)), (5, .ref (ad 16 2)), (6, .ref (ad 16 3)), (7, .ref (ad 16 4)), (8, .int x8), (9, .int x9), (10, .int x10), (11, .int x11), (12, .ref mm), (13, .int x13), (14, .int x14), (15, .int x15), (16, .int x16), (17, .int x17)]) : W p l e ({ frames := 7, cells := mc, slots := 6464 * mc, locals := 174 } : Room) s m args below meth c H locs k (6464 * k) (MQ below (wx_QA D ad ca A (some (.int r)) σ') args s mc (6464 * mc) A) (F0 m 459 ls [.int y0]) := by
  obtain ⟨hx, hb, hml, hr, hts, hown, hlk, hC, hA⟩ := id B
  have hm := m_L_same_459 (K30 := K30) @mK30 (K438 := K438) @mK438 h
  unfold f_L_same_459 at h
  refine lv_iload hx hb dL_same_459 (lv_at hl 15 rfl) ?_
  refine lv_iload hx hb dL_same_461 (lv_at hl 16 rfl) ?_
  refine lv_ishr hx hb dL_same_463 ?_
  refine lv_iconst (v := 1) hx hb dL_same_464 (by decide) ?_
  refine lv_iand hx hb dL_same_465 ?_
  refine lv_icmp_eq (tgt := 471) hx hb dL_same_466 (by decide) (fun c466 => ?_) (fun c466 => ?_)
  · replace h := wx_ift c466 h
    refine lv_iinc (v := x17 + 1) (lv' := [(17, .int (x17 + 1)), (0, .ref (ad 11 99)), (1, .long x1), (3, .ref (ad 16 0)), (4, .ref (ad 16 1)), (5, .ref (ad 16 2)), (6, .ref (ad 16 3)), (7, .ref (ad 16 4)), (8, .int x8), (9, .int x9), (10, .int x10), (11, .int x11), (12, .ref mm), (13, .int x13), (14, .int x14), (15, .int x15), (16, .int x16)]) hx hb dL_same_471 hl (k := 16) rfl rfl (by decide) rfl (fun ls hl => ?_)
    refine lv_goto (tgt := 438) hx hb dL_same_474 (by decide) ?_
    exact hK438 (k := k) hk h Z hS (lv_sub hl [1, 2, 3, 4, 5, 6, 7, 8, 9, 10, 11, 12, 13, 14, 15, 16, 0] rfl)
  · replace h := wx_iff c466 h
    refine lv_iconst (v := 0) hx hb dL_same_469 (by decide) ?_
    obtain ⟨rfl, rfl⟩ := wx_ret_ok h
    refine W.widen (k := mc) (n := 6464 * mc) (by omega) (by omega) ?_
    exact W.zret hx hb hr rfl (fun t ht hW => ⟨rfl, ⟨_, by rw [ht]; exact Z.out⟩, hS.F ht⟩) hS.2.2 dL_same_470
set_option maxRecDepth 20000 in
set_option maxHeartbeats 4000000 in
theorem m_L_same_477  {r : Int32} {σ' : wx_St} {K30 : Int64 → Int32 → Int32 → Int32 → Int32 → Int32 → wx_St → Option (Int32 × wx_St)} (mK30 : ∀ {x1 : Int64} {x8 : Int32} {x9 : Int32} {x10 : Int32} {x11 : Int32} {x13 : Int32} {σ : wx_St}, K30 x1 x8 x9 x10 x11 x13 σ = some (r, σ') → wx_n σ.2.2.2.2 ≤ wx_n σ'.2.2.2.2) {x1 : Int64} {x8 : Int32} {x9 : Int32} {x10 : Int32} {x11 : Int32} {x13 : Int32} {x14 : Int32} {x15 : Int32} {x16 : Int32} {x17 : Int32} {σ : wx_St} (h : f_L_same_477 K30 x1 x8 x9 x10 x11 x13 x14 x15 x16 x17 σ = some (r, σ')) : wx_n σ.2.2.2.2 ≤ wx_n σ'.2.2.2.2 := by
  unfold f_L_same_477 at h
  exact mK30 h
set_option maxRecDepth 20000 in
set_option maxHeartbeats 4000000 in
theorem b_L_same_477 (B : wx_B p s m args meth c cL_same 24 (some .boolean) wsL_same RL D ad ca A)    {r : Int32} {σ' : wx_St} {mc : Nat} {mm : Nat} {K30 : Int64 → Int32 → Int32 → Int32 → Int32 → Int32 → wx_St → Option (Int32 × wx_St)} (hK30 : ∀ {x1 : Int64} {x8 : Int32} {x9 : Int32} {x10 : Int32} {x11 : Int32} {x13 : Int32} {σ : wx_St} {k : Nat} (hk : k + wx_n σ'.2.2.2.2 ≤ mc + wx_n σ.2.2.2.2)  (h : K30 x1 x8 x9 x10 x11 x13 σ = some (r, σ')) {rd : Nat → Nat} {H : Heap} {locs : List Loc} (Z : wx_ZM D ad rd ca A s.heap.size mm σ H) (hS : va_S A s.heap H locs) {ls : Array Slot} (hl : lv_has ls 24 [(0, .ref (ad 11 99)), (1, .long x1), (3, .ref (ad 16 0)), (4, .ref (ad 16 1)), (5, .ref (ad 16 2)), (6, .ref (ad 16 3)), (7, .ref (ad 16 4)), (8, .int x8), (9, .int x9), (10, .int x10), (11, .int x11), (12, .ref mm), (13, .int x13)]), W p l e ({ frames := 7, cells := mc, slots := 6464 * mc, locals := 174 } : Room) s m args below meth c H locs k (6464 * k) (MQ below (wx_QA D ad ca A (some (.int r)) σ') args s mc (6464 * mc) A) (F0 m 30 ls [])) (mK30 : ∀ {x1 : Int64} {x8 : Int32} {x9 : Int32} {x10 : Int32} {x11 : Int32} {x13 : Int32} {σ : wx_St}, K30 x1 x8 x9 x10 x11 x13 σ = some (r, σ') → wx_n σ.2.2.2.2 ≤ wx_n σ'.2.2.2.2) {x1 : Int64} {x8 : Int32} {x9 : Int32} {x10 : Int32} {x11 : Int32} {x13 : Int32} {x14 : Int32} {x15 : Int32} {x16 : Int32} {x17 : Int32} {σ : wx_St} {k : Nat} (hk : k + wx_n σ'.2.2.2.2 ≤ mc + wx_n σ.2.2.2.2)  (h : f_L_same_477 K30 x1 x8 x9 x10 x11 x13 x14 x15 x16 x17 σ = some (r, σ')) {rd : Nat → Nat} {H : Heap} {locs : List Loc} (Z : wx_ZM D ad rd ca A s.heap.size mm σ H) (hS : va_S A s.heap H locs) {ls : Array Slot} (hl : lv_has ls 24 [(0, .ref (ad 11 99)), (1, .long x1), (3, .ref (ad 16 0)), (4, .ref (ad 16 1)), (5, .ref (ad 16 2)), (6, .ref (ad 16 3)), (7, .ref (ad 16 4)), (8, .int x8), (9, .int x9), (10, .int x10), (11, .int x11), (12, .ref mm), (13, .int x13), (14, .int x14), (15, .int x15), (16, .int x16), (17, .int x17)]) : W p l e ({ frames := 7, cells := mc, slots := 6464 * mc, locals := 174 } : Room) s m args below meth c H locs k (6464 * k) (MQ below (wx_QA D ad ca A (some (.int r)) σ') args s mc (6464 * mc) A) (F0 m 477 ls []) := by
  obtain ⟨hx, hb, hml, hr, hts, hown, hlk, hC, hA⟩ := id B
  have hm := m_L_same_477 (K30 := K30) @mK30 h
  unfold f_L_same_477 at h
  refine lv_iinc (v := x13 + 1) (lv' := [(13, .int (x13 + 1)), (0, .ref (ad 11 99)), (1, .long x1), (3, .ref (ad 16 0)), (4, .ref (ad 16 1)), (5, .ref (ad 16 2)), (6, .ref (ad 16 3)), (7, .ref (ad 16 4)), (8, .int x8), (9, .int x9), (10, .int x10), (11, .int x11), (12, .ref mm), (14, .int x14), (15, .int x15), (16, .int x16), (17, .int x17)]) hx hb dL_same_477 hl (k := 12) rfl rfl (by decide) rfl (fun ls hl => ?_)
  refine lv_goto (tgt := 30) hx hb dL_same_480 (by decide) ?_
  exact hK30 (k := k) hk h Z hS (lv_sub hl [1, 2, 3, 4, 5, 6, 7, 8, 9, 10, 11, 12, 0] rfl)
set_option maxRecDepth 20000 in
set_option maxHeartbeats 4000000 in
theorem m_L_same_438  {r : Int32} {σ' : wx_St} {K30 : Int64 → Int32 → Int32 → Int32 → Int32 → Int32 → wx_St → Option (Int32 × wx_St)} (mK30 : ∀ {x1 : Int64} {x8 : Int32} {x9 : Int32} {x10 : Int32} {x11 : Int32} {x13 : Int32} {σ : wx_St}, K30 x1 x8 x9 x10 x11 x13 σ = some (r, σ') → wx_n σ.2.2.2.2 ≤ wx_n σ'.2.2.2.2) :
    ∀ {n : Nat} {x1 : Int64} {x8 : Int32} {x9 : Int32} {x10 : Int32} {x11 : Int32} {x13 : Int32} {x14 : Int32} {x15 : Int32} {x16 : Int32} {x17 : Int32} {σ : wx_St} (h : f_L_same_438 K30 n x1 x8 x9 x10 x11 x13 x14 x15 x16 x17 σ = some (r, σ')), wx_n σ.2.2.2.2 ≤ wx_n σ'.2.2.2.2 := by
  intro n
  induction n with
  | zero => intro x1 x8 x9 x10 x11 x13 x14 x15 x16 x17 σ h; exact wx_no h
  | succ n ih =>
    intro x1 x8 x9 x10 x11 x13 x14 x15 x16 x17 σ h
    rw [f_L_same_438] at h
    by_cases c441 : 5 ≤ x17
    · replace h := wx_ift c441 h
      exact m_L_same_477 (K30 := K30) @mK30 h
    · replace h := wx_iff c441 h
      by_cases c447 : x13 = 1
      · replace h := wx_ift c447 h
        obtain ⟨v456, z456, σ456, hc456, ez456, h⟩ := wx_bM_ok h
        refine Nat.le_trans (Nat.le_trans (m_X5_at_0 hc456) (Nat.le_of_eq (congrArg wx_n (wx_kMal ez456).symm))) ?_
        exact m_L_same_459 (K30 := K30) @mK30 (K438 := (f_L_same_438 K30 n)) @ih h
      · replace h := wx_iff c447 h
        exact m_L_same_477 (K30 := K30) @mK30 h
set_option maxRecDepth 20000 in
set_option maxHeartbeats 4000000 in
theorem b_L_same_438 (B : wx_B p s m args meth c cL_same 24 (some .boolean) wsL_same RL D ad ca A)    {r : Int32} {σ' : wx_St} {mc : Nat} {mm : Nat} {K30 : Int64 → Int32 → Int32 → Int32 → Int32 → Int32 → wx_St → Option (Int32 × wx_St)} (hK30 : ∀ {x1 : Int64} {x8 : Int32} {x9 : Int32} {x10 : Int32} {x11 : Int32} {x13 : Int32} {σ : wx_St} {k : Nat} (hk : k + wx_n σ'.2.2.2.2 ≤ mc + wx_n σ.2.2.2.2)  (h : K30 x1 x8 x9 x10 x11 x13 σ = some (r, σ')) {rd : Nat → Nat} {H : Heap} {locs : List Loc} (Z : wx_ZM D ad rd ca A s.heap.size mm σ H) (hS : va_S A s.heap H locs) {ls : Array Slot} (hl : lv_has ls 24 [(0, .ref (ad 11 99)), (1, .long x1), (3, .ref (ad 16 0)), (4, .ref (ad 16 1)), (5, .ref (ad 16 2)), (6, .ref (ad 16 3)), (7, .ref (ad 16 4)), (8, .int x8), (9, .int x9), (10, .int x10), (11, .int x11), (12, .ref mm), (13, .int x13)]), W p l e ({ frames := 7, cells := mc, slots := 6464 * mc, locals := 174 } : Room) s m args below meth c H locs k (6464 * k) (MQ below (wx_QA D ad ca A (some (.int r)) σ') args s mc (6464 * mc) A) (F0 m 30 ls [])) (mK30 : ∀ {x1 : Int64} {x8 : Int32} {x9 : Int32} {x10 : Int32} {x11 : Int32} {x13 : Int32} {σ : wx_St}, K30 x1 x8 x9 x10 x11 x13 σ = some (r, σ') → wx_n σ.2.2.2.2 ≤ wx_n σ'.2.2.2.2)  :
    ∀ {n : Nat} {x1 : Int64} {x8 : Int32} {x9 : Int32} {x10 : Int32} {x11 : Int32} {x13 : Int32} {x14 : Int32} {x15 : Int32} {x16 : Int32} {x17 : Int32} {σ : wx_St} {k : Nat} (hk : k + wx_n σ'.2.2.2.2 ≤ mc + wx_n σ.2.2.2.2)  (h : f_L_same_438 K30 n x1 x8 x9 x10 x11 x13 x14 x15 x16 x17 σ = some (r, σ')) {rd : Nat → Nat} {H : Heap} {locs : List Loc} (Z : wx_ZM D ad rd ca A s.heap.size mm σ H) (hS : va_S A s.heap H locs) {ls : Array Slot} (hl : lv_has ls 24 [(0, .ref (ad 11 99)), (1, .long x1), (3, .ref (ad 16 0)), (4, .ref (ad 16 1)), (5, .ref (ad 16 2)), (6, .ref (ad 16 3)), (7, .ref (ad 16 4)), (8, .int x8), (9, .int x9), (10, .int x10), (11, .int x11), (12, .ref mm), (13, .int x13), (14, .int x14), (15, .int x15), (16, .int x16), (17, .int x17)]), W p l e ({ frames := 7, cells := mc, slots := 6464 * mc, locals := 174 } : Room) s m args below meth c H locs k (6464 * k) (MQ below (wx_QA D ad ca A (some (.int r)) σ') args s mc (6464 * mc) A) (F0 m 438 ls []) := by
  obtain ⟨hx, hb, hml, hr, hts, hown, hlk, hC, hA⟩ := id B
  intro n
  induction n with
  | zero => intro x1 x8 x9 x10 x11 x13 x14 x15 x16 x17 σ k hk  h rd H locs Z hS ls hl; exact wx_no h
  | succ n ih =>
    intro x1 x8 x9 x10 x11 x13 x14 x15 x16 x17 σ k hk  h rd H locs Z hS ls hl
    have hm := m_L_same_438 (K30 := K30) @mK30 h
    have mih : ∀ {x1 : Int64} {x8 : Int32} {x9 : Int32} {x10 : Int32} {x11 : Int32} {x13 : Int32} {x14 : Int32} {x15 : Int32} {x16 : Int32} {x17 : Int32} {σ : wx_St}, f_L_same_438 K30 n x1 x8 x9 x10 x11 x13 x14 x15 x16 x17 σ = some (r, σ') → wx_n σ.2.2.2.2 ≤ wx_n σ'.2.2.2.2 := fun h => m_L_same_438 (K30 := K30) @mK30 h
    rw [f_L_same_438] at h
    refine lv_iload hx hb dL_same_438 (lv_at hl 16 rfl) ?_
    refine lv_iconst (v := 5) hx hb dL_same_440 (by decide) ?_
    refine lv_icmp_ge (tgt := 477) hx hb dL_same_441 (by decide) (fun c441 => ?_) (fun c441 => ?_)
    · replace h := wx_ift c441 h
      exact b_L_same_477 B (K30 := K30) @hK30 @mK30 (k := k) hk h Z hS (lv_sub hl [0, 1, 2, 3, 4, 5, 6, 7, 8, 9, 10, 11, 12, 13, 14, 15, 16] rfl)
    · replace h := wx_iff c441 h
      refine lv_iload hx hb dL_same_444 (lv_at hl 12 rfl) ?_
      refine lv_iconst (v := 1) hx hb dL_same_446 (by decide) ?_
      refine lv_icmp_ne (tgt := 477) hx hb dL_same_447 (by decide) (fun c447 => ?_) (fun c447 => ?_)
      · replace h := wx_iff c447 h
        exact b_L_same_477 B (K30 := K30) @hK30 @mK30 (k := k) hk h Z hS (lv_sub hl [0, 1, 2, 3, 4, 5, 6, 7, 8, 9, 10, 11, 12, 13, 14, 15, 16] rfl)
      · replace h := wx_ift c447 h
        refine lv_aload_n hx hb dL_same_450 rfl (lv_at hl 0 rfl) ?_
        refine lv_iload hx hb dL_same_451 (lv_at hl 12 rfl) ?_
        refine lv_iload hx hb dL_same_453 (lv_at hl 16 rfl) ?_
        refine lv_iconst (v := 4) hx hb dL_same_455 (by decide) ?_
        obtain ⟨v456, z456, σ456, hc456, ez456, h⟩ := wx_bM_ok h
        have m1 := m_X5_at_0 hc456
        have m2 := m_L_same_459 (K30 := K30) @mK30 (K438 := (f_L_same_438 K30 n)) mih h
        have m3 := congrArg wx_n (wx_kMal ez456)
        refine wx_callAM (va_runV (As := [.int x13, .int x17, .int 4]) (rest := []) ⟨hx, hb, hml, hown, hts⟩ (c_X5_at l (D := D) (ad := ad) (rd := rd) (ca := ca) (A := wx_Am A mm) (σ := σ) hc456) (cwV 3 hts gL_same_X5_at rfl rfl rfl (by decide +kernel) ⟨Nat.le_of_ble_eq_true rfl, Nat.le_of_ble_eq_true rfl⟩) (wx_preVM hC hA Z hS rfl (rfl : vwCl[5]? = some (RX5, TX5, 7))) rfl rfl hl.1 rfl (lv_room (Nat.le_of_ble_eq_true rfl)) dL_same_456 ⟨(by show k + (wx_n z456.2.2.2.2 - wx_n σ.2.2.2.2) ≤ mc; omega), (by show 6464 * k + 6464 * (wx_n z456.2.2.2.2 - wx_n σ.2.2.2.2) ≤ 6464 * mc; omega)⟩) Z hS ez456 (fun rd H locs Z hS => ?_)
        refine W.widen (k := k + (wx_n z456.2.2.2.2 - wx_n σ.2.2.2.2)) (n := 6464 * (k + (wx_n z456.2.2.2.2 - wx_n σ.2.2.2.2))) (Nat.le_refl _) (by omega) ?_
        exact b_L_same_459 B (K30 := K30) @hK30 @mK30 (K438 := (f_L_same_438 K30 n)) @ih mih (k := k + (wx_n z456.2.2.2.2 - wx_n σ.2.2.2.2)) (by omega) h Z hS (lv_sub hl [0, 1, 2, 3, 4, 5, 6, 7, 8, 9, 10, 11, 12, 13, 14, 15, 16] rfl)
set_option maxRecDepth 20000 in
set_option maxHeartbeats 4000000 in
theorem m_L_same_428  {r : Int32} {σ' : wx_St} {K30 : Int64 → Int32 → Int32 → Int32 → Int32 → Int32 → wx_St → Option (Int32 × wx_St)} (mK30 : ∀ {x1 : Int64} {x8 : Int32} {x9 : Int32} {x10 : Int32} {x11 : Int32} {x13 : Int32} {σ : wx_St}, K30 x1 x8 x9 x10 x11 x13 σ = some (r, σ') → wx_n σ.2.2.2.2 ≤ wx_n σ'.2.2.2.2) {x1 : Int64} {x8 : Int32} {x9 : Int32} {x10 : Int32} {x11 : Int32} {x13 : Int32} {x14 : Int32} {x15 : Int32} {x16 : Int32} {x17 : Int32} {y0 : Int32} {σ : wx_St} (h : f_L_same_428 K30 x1 x8 x9 x10 x11 x13 x14 x15 x16 x17 y0 σ = some (r, σ')) : wx_n σ.2.2.2.2 ≤ wx_n σ'.2.2.2.2 := by
  unfold f_L_same_428 at h
  by_cases c430 : y0 = x16
  · replace h := wx_ift c430 h
    exact m_L_same_438 (K30 := K30) @mK30 h
  · replace h := wx_iff c430 h
    exact m_L_same_433 h
set_option maxRecDepth 20000 in
set_option maxHeartbeats 4000000 in
theorem b_L_same_428 (B : wx_B p s m args meth c cL_same 24 (some .boolean) wsL_same RL D ad ca A)    {r : Int32} {σ' : wx_St} {mc : Nat} {mm : Nat} {K30 : Int64 → Int32 → Int32 → Int32 → Int32 → Int32 → wx_St → Option (Int32 × wx_St)} (hK30 : ∀ {x1 : Int64} {x8 : Int32} {x9 : Int32} {x10 : Int32} {x11 : Int32} {x13 : Int32} {σ : wx_St} {k : Nat} (hk : k + wx_n σ'.2.2.2.2 ≤ mc + wx_n σ.2.2.2.2)  (h : K30 x1 x8 x9 x10 x11 x13 σ = some (r, σ')) {rd : Nat → Nat} {H : Heap} {locs : List Loc} (Z : wx_ZM D ad rd ca A s.heap.size mm σ H) (hS : va_S A s.heap H locs) {ls : Array Slot} (hl : lv_has ls 24 [(0, .ref (ad 11 99)), (1, .long x1), (3, .ref (ad 16 0)), (4, .ref (ad 16 1)), (5, .ref (ad 16 2)), (6, .ref (ad 16 3)), (7, .ref (ad 16 4)), (8, .int x8), (9, .int x9), (10, .int x10), (11, .int x11), (12, .ref mm), (13, .int x13)]), W p l e ({ frames := 7, cells := mc, slots := 6464 * mc, locals := 174 } : Room) s m args below meth c H locs k (6464 * k) (MQ below (wx_QA D ad ca A (some (.int r)) σ') args s mc (6464 * mc) A) (F0 m 30 ls [])) (mK30 : ∀ {x1 : Int64} {x8 : Int32} {x9 : Int32} {x10 : Int32} {x11 : Int32} {x13 : Int32} {σ : wx_St}, K30 x1 x8 x9 x10 x11 x13 σ = some (r, σ') → wx_n σ.2.2.2.2 ≤ wx_n σ'.2.2.2.2) {x1 : Int64} {x8 : Int32} {x9 : Int32} {x10 : Int32} {x11 : Int32} {x13 : Int32} {x14 : Int32} {x15 : Int32} {x16 : Int32} {x17 : Int32} {y0 : Int32} {σ : wx_St} {k : Nat} (hk : k + wx_n σ'.2.2.2.2 ≤ mc + wx_n σ.2.2.2.2)  (h : f_L_same_428 K30 x1 x8 x9 x10 x11 x13 x14 x15 x16 x17 y0 σ = some (r, σ')) {rd : Nat → Nat} {H : Heap} {locs : List Loc} (Z : wx_ZM D ad rd ca A s.heap.size mm σ H) (hS : va_S A s.heap H locs) {ls : Array Slot} (hl : lv_has ls 24 [(0, .ref (ad 11 99)), (1, .long x1), (3, .ref (ad 16 0)), (4, .ref (ad 16 1)), (5, .ref (ad 16 2)), (6, .ref (ad 16 3)), (7, .ref (ad 16 4)), (8, .int x8), (9, .int x9), (10, .int x10), (11, .int x11), (12, .ref mm), (13, .int x13), (14, .int x14), (15, .int x15), (16, .int x16), (17, .int x17)]) : W p l e ({ frames := 7, cells := mc, slots := 6464 * mc, locals := 174 } : Room) s m args below meth c H locs k (6464 * k) (MQ below (wx_QA D ad ca A (some (.int r)) σ') args s mc (6464 * mc) A) (F0 m 428 ls [.int y0]) := by
  obtain ⟨hx, hb, hml, hr, hts, hown, hlk, hC, hA⟩ := id B
  have hm := m_L_same_428 (K30 := K30) @mK30 h
  unfold f_L_same_428 at h
  refine lv_iload hx hb dL_same_428 (lv_at hl 15 rfl) ?_
  refine lv_icmp_eq (tgt := 435) hx hb dL_same_430 (by decide) (fun c430 => ?_) (fun c430 => ?_)
  · replace h := wx_ift c430 h
    refine lv_iconst (v := 0) hx hb dL_same_435 (by decide) ?_
    refine lv_istore (lv' := [(17, .int 0), (0, .ref (ad 11 99)), (1, .long x1), (3, .ref (ad 16 0)), (4, .ref (ad 16 1)), (5, .ref (ad 16 2)), (6, .ref (ad 16 3)), (7, .ref (ad 16 4)), (8, .int x8), (9, .int x9), (10, .int x10), (11, .int x11), (12, .ref mm), (13, .int x13), (14, .int x14), (15, .int x15), (16, .int x16)]) hx hb dL_same_436 hl (by decide) rfl (fun ls hl => ?_)
    exact b_L_same_438 B (K30 := K30) @hK30 @mK30 (k := k) hk h Z hS (lv_sub hl [1, 2, 3, 4, 5, 6, 7, 8, 9, 10, 11, 12, 13, 14, 15, 16, 0] rfl)
  · replace h := wx_iff c430 h
    exact b_L_same_433 B (k := k) hk h Z hS (lv_sub hl [0, 1, 2, 3, 4, 5, 6, 7, 8, 9, 10, 11, 12, 13, 14, 15, 16] rfl)
set_option maxRecDepth 20000 in
set_option maxHeartbeats 4000000 in
theorem m_L_same_416  {r : Int32} {σ' : wx_St} {K30 : Int64 → Int32 → Int32 → Int32 → Int32 → Int32 → wx_St → Option (Int32 × wx_St)} (mK30 : ∀ {x1 : Int64} {x8 : Int32} {x9 : Int32} {x10 : Int32} {x11 : Int32} {x13 : Int32} {σ : wx_St}, K30 x1 x8 x9 x10 x11 x13 σ = some (r, σ') → wx_n σ.2.2.2.2 ≤ wx_n σ'.2.2.2.2) {x1 : Int64} {x8 : Int32} {x9 : Int32} {x10 : Int32} {x11 : Int32} {x13 : Int32} {x14 : Int32} {x15 : Int32} {x16 : Int32} {x17 : Int32} {y0 : Int32} {σ : wx_St} (h : f_L_same_416 K30 x1 x8 x9 x10 x11 x13 x14 x15 x16 x17 y0 σ = some (r, σ')) : wx_n σ.2.2.2.2 ≤ wx_n σ'.2.2.2.2 := by
  unfold f_L_same_416 at h
  by_cases c418 : y0 = x15
  · replace h := wx_ift c418 h
    obtain ⟨v425, z425, σ425, hc425, ez425, h⟩ := wx_bM_ok h
    refine Nat.le_trans (Nat.le_trans (m_X5_row_0 hc425) (Nat.le_of_eq (congrArg wx_n (wx_kMal ez425).symm))) ?_
    exact m_L_same_428 (K30 := K30) @mK30 h
  · replace h := wx_iff c418 h
    exact m_L_same_433 h
set_option maxRecDepth 20000 in
set_option maxHeartbeats 4000000 in
theorem b_L_same_416 (B : wx_B p s m args meth c cL_same 24 (some .boolean) wsL_same RL D ad ca A)    {r : Int32} {σ' : wx_St} {mc : Nat} {mm : Nat} {K30 : Int64 → Int32 → Int32 → Int32 → Int32 → Int32 → wx_St → Option (Int32 × wx_St)} (hK30 : ∀ {x1 : Int64} {x8 : Int32} {x9 : Int32} {x10 : Int32} {x11 : Int32} {x13 : Int32} {σ : wx_St} {k : Nat} (hk : k + wx_n σ'.2.2.2.2 ≤ mc + wx_n σ.2.2.2.2)  (h : K30 x1 x8 x9 x10 x11 x13 σ = some (r, σ')) {rd : Nat → Nat} {H : Heap} {locs : List Loc} (Z : wx_ZM D ad rd ca A s.heap.size mm σ H) (hS : va_S A s.heap H locs) {ls : Array Slot} (hl : lv_has ls 24 [(0, .ref (ad 11 99)), (1, .long x1), (3, .ref (ad 16 0)), (4, .ref (ad 16 1)), (5, .ref (ad 16 2)), (6, .ref (ad 16 3)), (7, .ref (ad 16 4)), (8, .int x8), (9, .int x9), (10, .int x10), (11, .int x11), (12, .ref mm), (13, .int x13)]), W p l e ({ frames := 7, cells := mc, slots := 6464 * mc, locals := 174 } : Room) s m args below meth c H locs k (6464 * k) (MQ below (wx_QA D ad ca A (some (.int r)) σ') args s mc (6464 * mc) A) (F0 m 30 ls [])) (mK30 : ∀ {x1 : Int64} {x8 : Int32} {x9 : Int32} {x10 : Int32} {x11 : Int32} {x13 : Int32} {σ : wx_St}, K30 x1 x8 x9 x10 x11 x13 σ = some (r, σ') → wx_n σ.2.2.2.2 ≤ wx_n σ'.2.2.2.2) {x1 : Int64} {x8 : Int32} {x9 : Int32} {x10 : Int32} {x11 : Int32} {x13 : Int32} {x14 : Int32} {x15 : Int32} {x16 : Int32} {x17 : Int32} {y0 : Int32} {σ : wx_St} {k : Nat} (hk : k + wx_n σ'.2.2.2.2 ≤ mc + wx_n σ.2.2.2.2)  (h : f_L_same_416 K30 x1 x8 x9 x10 x11 x13 x14 x15 x16 x17 y0 σ = some (r, σ')) {rd : Nat → Nat} {H : Heap} {locs : List Loc} (Z : wx_ZM D ad rd ca A s.heap.size mm σ H) (hS : va_S A s.heap H locs) {ls : Array Slot} (hl : lv_has ls 24 [(0, .ref (ad 11 99)), (1, .long x1), (3, .ref (ad 16 0)), (4, .ref (ad 16 1)), (5, .ref (ad 16 2)), (6, .ref (ad 16 3)), (7, .ref (ad 16 4)), (8, .int x8), (9, .int x9), (10, .int x10), (11, .int x11), (12, .ref mm), (13, .int x13), (14, .int x14), (15, .int x15), (16, .int x16), (17, .int x17)]) : W p l e ({ frames := 7, cells := mc, slots := 6464 * mc, locals := 174 } : Room) s m args below meth c H locs k (6464 * k) (MQ below (wx_QA D ad ca A (some (.int r)) σ') args s mc (6464 * mc) A) (F0 m 416 ls [.int y0]) := by
  obtain ⟨hx, hb, hml, hr, hts, hown, hlk, hC, hA⟩ := id B
  have hm := m_L_same_416 (K30 := K30) @mK30 h
  unfold f_L_same_416 at h
  refine lv_iload hx hb dL_same_416 (lv_at hl 14 rfl) ?_
  refine lv_icmp_ne (tgt := 433) hx hb dL_same_418 (by decide) (fun c418 => ?_) (fun c418 => ?_)
  · replace h := wx_iff c418 h
    exact b_L_same_433 B (k := k) hk h Z hS (lv_sub hl [0, 1, 2, 3, 4, 5, 6, 7, 8, 9, 10, 11, 12, 13, 14, 15, 16] rfl)
  · replace h := wx_ift c418 h
    refine lv_aload_n hx hb dL_same_421 rfl (lv_at hl 0 rfl) ?_
    refine lv_iload hx hb dL_same_422 (lv_at hl 12 rfl) ?_
    refine lv_iconst (v := 2) hx hb dL_same_424 (by decide) ?_
    obtain ⟨v425, z425, σ425, hc425, ez425, h⟩ := wx_bM_ok h
    have m1 := m_X5_row_0 hc425
    have m2 := m_L_same_428 (K30 := K30) @mK30 h
    have m3 := congrArg wx_n (wx_kMal ez425)
    refine wx_callAM (va_runV (As := [.int x13, .int 2]) (rest := []) ⟨hx, hb, hml, hown, hts⟩ (c_X5_row l (D := D) (ad := ad) (rd := rd) (ca := ca) (A := wx_Am A mm) (σ := σ) hc425) (cwV 2 hts gL_same_X5_row rfl rfl rfl (by decide +kernel) ⟨Nat.le_of_ble_eq_true rfl, Nat.le_of_ble_eq_true rfl⟩) (wx_preVM hC hA Z hS rfl (rfl : vwCl[5]? = some (RX5, TX5, 7))) rfl rfl hl.1 rfl (lv_room (Nat.le_of_ble_eq_true rfl)) dL_same_425 ⟨(by show k + (wx_n z425.2.2.2.2 - wx_n σ.2.2.2.2) ≤ mc; omega), (by show 6464 * k + 6464 * (wx_n z425.2.2.2.2 - wx_n σ.2.2.2.2) ≤ 6464 * mc; omega)⟩) Z hS ez425 (fun rd H locs Z hS => ?_)
    refine W.widen (k := k + (wx_n z425.2.2.2.2 - wx_n σ.2.2.2.2)) (n := 6464 * (k + (wx_n z425.2.2.2.2 - wx_n σ.2.2.2.2))) (Nat.le_refl _) (by omega) ?_
    exact b_L_same_428 B (K30 := K30) @hK30 @mK30 (k := k + (wx_n z425.2.2.2.2 - wx_n σ.2.2.2.2)) (by omega) h Z hS (lv_sub hl [0, 1, 2, 3, 4, 5, 6, 7, 8, 9, 10, 11, 12, 13, 14, 15, 16] rfl)
set_option maxRecDepth 20000 in
set_option maxHeartbeats 4000000 in
theorem m_L_same_404  {r : Int32} {σ' : wx_St} {K30 : Int64 → Int32 → Int32 → Int32 → Int32 → Int32 → wx_St → Option (Int32 × wx_St)} (mK30 : ∀ {x1 : Int64} {x8 : Int32} {x9 : Int32} {x10 : Int32} {x11 : Int32} {x13 : Int32} {σ : wx_St}, K30 x1 x8 x9 x10 x11 x13 σ = some (r, σ') → wx_n σ.2.2.2.2 ≤ wx_n σ'.2.2.2.2) {x1 : Int64} {x8 : Int32} {x9 : Int32} {x10 : Int32} {x11 : Int32} {x13 : Int32} {x14 : Int32} {x15 : Int32} {x16 : Int32} {x17 : Int32} {y0 : Int32} {σ : wx_St} (h : f_L_same_404 K30 x1 x8 x9 x10 x11 x13 x14 x15 x16 x17 y0 σ = some (r, σ')) : wx_n σ.2.2.2.2 ≤ wx_n σ'.2.2.2.2 := by
  unfold f_L_same_404 at h
  by_cases c406 : y0 = x14
  · replace h := wx_ift c406 h
    obtain ⟨v413, z413, σ413, hc413, ez413, h⟩ := wx_bM_ok h
    refine Nat.le_trans (Nat.le_trans (m_X5_row_0 hc413) (Nat.le_of_eq (congrArg wx_n (wx_kMal ez413).symm))) ?_
    exact m_L_same_416 (K30 := K30) @mK30 h
  · replace h := wx_iff c406 h
    exact m_L_same_433 h
set_option maxRecDepth 20000 in
set_option maxHeartbeats 4000000 in
theorem b_L_same_404 (B : wx_B p s m args meth c cL_same 24 (some .boolean) wsL_same RL D ad ca A)    {r : Int32} {σ' : wx_St} {mc : Nat} {mm : Nat} {K30 : Int64 → Int32 → Int32 → Int32 → Int32 → Int32 → wx_St → Option (Int32 × wx_St)} (hK30 : ∀ {x1 : Int64} {x8 : Int32} {x9 : Int32} {x10 : Int32} {x11 : Int32} {x13 : Int32} {σ : wx_St} {k : Nat} (hk : k + wx_n σ'.2.2.2.2 ≤ mc + wx_n σ.2.2.2.2)  (h : K30 x1 x8 x9 x10 x11 x13 σ = some (r, σ')) {rd : Nat → Nat} {H : Heap} {locs : List Loc} (Z : wx_ZM D ad rd ca A s.heap.size mm σ H) (hS : va_S A s.heap H locs) {ls : Array Slot} (hl : lv_has ls 24 [(0, .ref (ad 11 99)), (1, .long x1), (3, .ref (ad 16 0)), (4, .ref (ad 16 1)), (5, .ref (ad 16 2)), (6, .ref (ad 16 3)), (7, .ref (ad 16 4)), (8, .int x8), (9, .int x9), (10, .int x10), (11, .int x11), (12, .ref mm), (13, .int x13)]), W p l e ({ frames := 7, cells := mc, slots := 6464 * mc, locals := 174 } : Room) s m args below meth c H locs k (6464 * k) (MQ below (wx_QA D ad ca A (some (.int r)) σ') args s mc (6464 * mc) A) (F0 m 30 ls [])) (mK30 : ∀ {x1 : Int64} {x8 : Int32} {x9 : Int32} {x10 : Int32} {x11 : Int32} {x13 : Int32} {σ : wx_St}, K30 x1 x8 x9 x10 x11 x13 σ = some (r, σ') → wx_n σ.2.2.2.2 ≤ wx_n σ'.2.2.2.2) {x1 : Int64} {x8 : Int32} {x9 : Int32} {x10 : Int32} {x11 : Int32} {x13 : Int32} {x14 : Int32} {x15 : Int32} {x16 : Int32} {x17 : Int32} {y0 : Int32} {σ : wx_St} {k : Nat} (hk : k + wx_n σ'.2.2.2.2 ≤ mc + wx_n σ.2.2.2.2)  (h : f_L_same_404 K30 x1 x8 x9 x10 x11 x13 x14 x15 x16 x17 y0 σ = some (r, σ')) {rd : Nat → Nat} {H : Heap} {locs : List Loc} (Z : wx_ZM D ad rd ca A s.heap.size mm σ H) (hS : va_S A s.heap H locs) {ls : Array Slot} (hl : lv_has ls 24 [(0, .ref (ad 11 99)), (1, .long x1), (3, .ref (ad 16 0)), (4, .ref (ad 16 1)), (5, .ref (ad 16 2)), (6, .ref (ad 16 3)), (7, .ref (ad 16 4)), (8, .int x8), (9, .int x9), (10, .int x10), (11, .int x11), (12, .ref mm), (13, .int x13), (14, .int x14), (15, .int x15), (16, .int x16), (17, .int x17)]) : W p l e ({ frames := 7, cells := mc, slots := 6464 * mc, locals := 174 } : Room) s m args below meth c H locs k (6464 * k) (MQ below (wx_QA D ad ca A (some (.int r)) σ') args s mc (6464 * mc) A) (F0 m 404 ls [.int y0]) := by
  obtain ⟨hx, hb, hml, hr, hts, hown, hlk, hC, hA⟩ := id B
  have hm := m_L_same_404 (K30 := K30) @mK30 h
  unfold f_L_same_404 at h
  refine lv_iload hx hb dL_same_404 (lv_at hl 13 rfl) ?_
  refine lv_icmp_ne (tgt := 433) hx hb dL_same_406 (by decide) (fun c406 => ?_) (fun c406 => ?_)
  · replace h := wx_iff c406 h
    exact b_L_same_433 B (k := k) hk h Z hS (lv_sub hl [0, 1, 2, 3, 4, 5, 6, 7, 8, 9, 10, 11, 12, 13, 14, 15, 16] rfl)
  · replace h := wx_ift c406 h
    refine lv_aload_n hx hb dL_same_409 rfl (lv_at hl 0 rfl) ?_
    refine lv_iload hx hb dL_same_410 (lv_at hl 12 rfl) ?_
    refine lv_iconst (v := 1) hx hb dL_same_412 (by decide) ?_
    obtain ⟨v413, z413, σ413, hc413, ez413, h⟩ := wx_bM_ok h
    have m1 := m_X5_row_0 hc413
    have m2 := m_L_same_416 (K30 := K30) @mK30 h
    have m3 := congrArg wx_n (wx_kMal ez413)
    refine wx_callAM (va_runV (As := [.int x13, .int 1]) (rest := []) ⟨hx, hb, hml, hown, hts⟩ (c_X5_row l (D := D) (ad := ad) (rd := rd) (ca := ca) (A := wx_Am A mm) (σ := σ) hc413) (cwV 2 hts gL_same_X5_row rfl rfl rfl (by decide +kernel) ⟨Nat.le_of_ble_eq_true rfl, Nat.le_of_ble_eq_true rfl⟩) (wx_preVM hC hA Z hS rfl (rfl : vwCl[5]? = some (RX5, TX5, 7))) rfl rfl hl.1 rfl (lv_room (Nat.le_of_ble_eq_true rfl)) dL_same_413 ⟨(by show k + (wx_n z413.2.2.2.2 - wx_n σ.2.2.2.2) ≤ mc; omega), (by show 6464 * k + 6464 * (wx_n z413.2.2.2.2 - wx_n σ.2.2.2.2) ≤ 6464 * mc; omega)⟩) Z hS ez413 (fun rd H locs Z hS => ?_)
    refine W.widen (k := k + (wx_n z413.2.2.2.2 - wx_n σ.2.2.2.2)) (n := 6464 * (k + (wx_n z413.2.2.2.2 - wx_n σ.2.2.2.2))) (Nat.le_refl _) (by omega) ?_
    exact b_L_same_416 B (K30 := K30) @hK30 @mK30 (k := k + (wx_n z413.2.2.2.2 - wx_n σ.2.2.2.2)) (by omega) h Z hS (lv_sub hl [0, 1, 2, 3, 4, 5, 6, 7, 8, 9, 10, 11, 12, 13, 14, 15, 16] rfl)
set_option maxRecDepth 20000 in
set_option maxHeartbeats 4000000 in
theorem m_L_same_49  {r : Int32} {σ' : wx_St} {K30 : Int64 → Int32 → Int32 → Int32 → Int32 → Int32 → wx_St → Option (Int32 × wx_St)} (mK30 : ∀ {x1 : Int64} {x8 : Int32} {x9 : Int32} {x10 : Int32} {x11 : Int32} {x13 : Int32} {σ : wx_St}, K30 x1 x8 x9 x10 x11 x13 σ = some (r, σ') → wx_n σ.2.2.2.2 ≤ wx_n σ'.2.2.2.2) :
    ∀ {n : Nat} {x1 : Int64} {x8 : Int32} {x9 : Int32} {x10 : Int32} {x11 : Int32} {x13 : Int32} {x14 : Int32} {x15 : Int32} {x16 : Int32} {x17 : Int32} {σ : wx_St} (h : f_L_same_49 K30 n x1 x8 x9 x10 x11 x13 x14 x15 x16 x17 σ = some (r, σ')), wx_n σ.2.2.2.2 ≤ wx_n σ'.2.2.2.2 := by
  intro n
  induction n with
  | zero => intro x1 x8 x9 x10 x11 x13 x14 x15 x16 x17 σ h; exact wx_no h
  | succ n ih =>
    intro x1 x8 x9 x10 x11 x13 x14 x15 x16 x17 σ h
    rw [f_L_same_49] at h
    by_cases c53 : 8 ≤ x17
    · replace h := wx_ift c53 h
      obtain ⟨v401, z401, σ401, hc401, ez401, h⟩ := wx_bM_ok h
      refine Nat.le_trans (Nat.le_trans (m_X5_row_0 hc401) (Nat.le_of_eq (congrArg wx_n (wx_kMal ez401).symm))) ?_
      exact m_L_same_404 (K30 := K30) @mK30 h
    · replace h := wx_iff c53 h
      obtain ⟨v72, hc72, h⟩ := wx_o_ok h
      by_cases c79 : v72 = 0
      · replace h := wx_ift c79 h
        exact m_L_same_97 (K30 := K30) @mK30 (K49 := (f_L_same_49 K30 n)) @ih h
      · replace h := wx_iff c79 h
        by_cases c90 : (lg_cmp ((x1 >>> (((8 * x13) + x17).toInt64 &&& 63)) &&& (1 : Int64)) (1 : Int64)) = 0
        · replace h := wx_ift c90 h
          exact m_L_same_98 (K30 := K30) @mK30 (K49 := (f_L_same_49 K30 n)) @ih h
        · replace h := wx_iff c90 h
          exact m_L_same_97 (K30 := K30) @mK30 (K49 := (f_L_same_49 K30 n)) @ih h
set_option maxRecDepth 20000 in
set_option maxHeartbeats 4000000 in
theorem b_L_same_49 (B : wx_B p s m args meth c cL_same 24 (some .boolean) wsL_same RL D ad ca A)    {r : Int32} {σ' : wx_St} {mc : Nat} {mm : Nat} {K30 : Int64 → Int32 → Int32 → Int32 → Int32 → Int32 → wx_St → Option (Int32 × wx_St)} (hK30 : ∀ {x1 : Int64} {x8 : Int32} {x9 : Int32} {x10 : Int32} {x11 : Int32} {x13 : Int32} {σ : wx_St} {k : Nat} (hk : k + wx_n σ'.2.2.2.2 ≤ mc + wx_n σ.2.2.2.2)  (h : K30 x1 x8 x9 x10 x11 x13 σ = some (r, σ')) {rd : Nat → Nat} {H : Heap} {locs : List Loc} (Z : wx_ZM D ad rd ca A s.heap.size mm σ H) (hS : va_S A s.heap H locs) {ls : Array Slot} (hl : lv_has ls 24 [(0, .ref (ad 11 99)), (1, .long x1), (3, .ref (ad 16 0)), (4, .ref (ad 16 1)), (5, .ref (ad 16 2)), (6, .ref (ad 16 3)), (7, .ref (ad 16 4)), (8, .int x8), (9, .int x9), (10, .int x10), (11, .int x11), (12, .ref mm), (13, .int x13)]), W p l e ({ frames := 7, cells := mc, slots := 6464 * mc, locals := 174 } : Room) s m args below meth c H locs k (6464 * k) (MQ below (wx_QA D ad ca A (some (.int r)) σ') args s mc (6464 * mc) A) (F0 m 30 ls [])) (mK30 : ∀ {x1 : Int64} {x8 : Int32} {x9 : Int32} {x10 : Int32} {x11 : Int32} {x13 : Int32} {σ : wx_St}, K30 x1 x8 x9 x10 x11 x13 σ = some (r, σ') → wx_n σ.2.2.2.2 ≤ wx_n σ'.2.2.2.2)  :
    ∀ {n : Nat} {x1 : Int64} {x8 : Int32} {x9 : Int32} {x10 : Int32} {x11 : Int32} {x13 : Int32} {x14 : Int32} {x15 : Int32} {x16 : Int32} {x17 : Int32} {σ : wx_St} {k : Nat} (hk : k + wx_n σ'.2.2.2.2 ≤ mc + wx_n σ.2.2.2.2)  (h : f_L_same_49 K30 n x1 x8 x9 x10 x11 x13 x14 x15 x16 x17 σ = some (r, σ')) {rd : Nat → Nat} {H : Heap} {locs : List Loc} (Z : wx_ZM D ad rd ca A s.heap.size mm σ H) (hS : va_S A s.heap H locs) {ls : Array Slot} (hl : lv_has ls 24 [(0, .ref (ad 11 99)), (1, .long x1), (3, .ref (ad 16 0)), (4, .ref (ad 16 1)), (5, .ref (ad 16 2)), (6, .ref (ad 16 3)), (7, .ref (ad 16 4)), (8, .int x8), (9, .int x9), (10, .int x10), (11, .int x11), (12, .ref mm), (13, .int x13), (14, .int x14), (15, .int x15), (16, .int x16), (17, .int x17)]), W p l e ({ frames := 7, cells := mc, slots := 6464 * mc, locals := 174 } : Room) s m args below meth c H locs k (6464 * k) (MQ below (wx_QA D ad ca A (some (.int r)) σ') args s mc (6464 * mc) A) (F0 m 49 ls []) := by
  obtain ⟨hx, hb, hml, hr, hts, hown, hlk, hC, hA⟩ := id B
  intro n
  induction n with
  | zero => intro x1 x8 x9 x10 x11 x13 x14 x15 x16 x17 σ k hk  h rd H locs Z hS ls hl; exact wx_no h
  | succ n ih =>
    intro x1 x8 x9 x10 x11 x13 x14 x15 x16 x17 σ k hk  h rd H locs Z hS ls hl
    have hm := m_L_same_49 (K30 := K30) @mK30 h
    have mih : ∀ {x1 : Int64} {x8 : Int32} {x9 : Int32} {x10 : Int32} {x11 : Int32} {x13 : Int32} {x14 : Int32} {x15 : Int32} {x16 : Int32} {x17 : Int32} {σ : wx_St}, f_L_same_49 K30 n x1 x8 x9 x10 x11 x13 x14 x15 x16 x17 σ = some (r, σ') → wx_n σ.2.2.2.2 ≤ wx_n σ'.2.2.2.2 := fun h => m_L_same_49 (K30 := K30) @mK30 h
    rw [f_L_same_49] at h
    refine lv_iload hx hb dL_same_49 (lv_at hl 16 rfl) ?_
    refine lv_bipush (v := 8) hx hb dL_same_51 (by decide) ?_
    refine lv_icmp_ge (tgt := 397) hx hb dL_same_53 (by decide) (fun c53 => ?_) (fun c53 => ?_)
    · replace h := wx_ift c53 h
      refine lv_aload_n hx hb dL_same_397 rfl (lv_at hl 0 rfl) ?_
      refine lv_iload hx hb dL_same_398 (lv_at hl 12 rfl) ?_
      refine lv_iconst (v := 0) hx hb dL_same_400 (by decide) ?_
      obtain ⟨v401, z401, σ401, hc401, ez401, h⟩ := wx_bM_ok h
      have m1 := m_X5_row_0 hc401
      have m2 := m_L_same_404 (K30 := K30) @mK30 h
      have m3 := congrArg wx_n (wx_kMal ez401)
      refine wx_callAM (va_runV (As := [.int x13, .int 0]) (rest := []) ⟨hx, hb, hml, hown, hts⟩ (c_X5_row l (D := D) (ad := ad) (rd := rd) (ca := ca) (A := wx_Am A mm) (σ := σ) hc401) (cwV 2 hts gL_same_X5_row rfl rfl rfl (by decide +kernel) ⟨Nat.le_of_ble_eq_true rfl, Nat.le_of_ble_eq_true rfl⟩) (wx_preVM hC hA Z hS rfl (rfl : vwCl[5]? = some (RX5, TX5, 7))) rfl rfl hl.1 rfl (lv_room (Nat.le_of_ble_eq_true rfl)) dL_same_401 ⟨(by show k + (wx_n z401.2.2.2.2 - wx_n σ.2.2.2.2) ≤ mc; omega), (by show 6464 * k + 6464 * (wx_n z401.2.2.2.2 - wx_n σ.2.2.2.2) ≤ 6464 * mc; omega)⟩) Z hS ez401 (fun rd H locs Z hS => ?_)
      refine W.widen (k := k + (wx_n z401.2.2.2.2 - wx_n σ.2.2.2.2)) (n := 6464 * (k + (wx_n z401.2.2.2.2 - wx_n σ.2.2.2.2))) (Nat.le_refl _) (by omega) ?_
      exact b_L_same_404 B (K30 := K30) @hK30 @mK30 (k := k + (wx_n z401.2.2.2.2 - wx_n σ.2.2.2.2)) (by omega) h Z hS (lv_sub hl [0, 1, 2, 3, 4, 5, 6, 7, 8, 9, 10, 11, 12, 13, 14, 15, 16] rfl)
    · replace h := wx_iff c53 h
      refine lv_bipush (v := 8) hx hb dL_same_56 (by decide) ?_
      refine lv_iload hx hb dL_same_58 (lv_at hl 12 rfl) ?_
      refine lv_imul hx hb dL_same_60 ?_
      refine lv_iload hx hb dL_same_61 (lv_at hl 16 rfl) ?_
      refine lv_iadd hx hb dL_same_63 ?_
      refine lv_istore (lv' := [(18, .int ((8 * x13) + x17)), (0, .ref (ad 11 99)), (1, .long x1), (3, .ref (ad 16 0)), (4, .ref (ad 16 1)), (5, .ref (ad 16 2)), (6, .ref (ad 16 3)), (7, .ref (ad 16 4)), (8, .int x8), (9, .int x9), (10, .int x10), (11, .int x11), (12, .ref mm), (13, .int x13), (14, .int x14), (15, .int x15), (16, .int x16), (17, .int x17)]) hx hb dL_same_64 hl (by decide) rfl (fun ls hl => ?_)
      refine lv_iload hx hb dL_same_66 (lv_at hl 0 rfl) ?_
      refine lv_aload hx hb dL_same_68 (lv_at hl 6 rfl) ?_
      refine lv_aload hx hb dL_same_70 (lv_at hl 7 rfl) ?_
      obtain ⟨v72, hc72, h⟩ := wx_o_ok h
      refine wx_callM (va_runS (As := [.int ((8 * x13) + x17), .ref (ad 16 3), .ref (ad 16 4)]) (rest := []) ⟨hx, hb, hml, hown, hts⟩ (c_L_suspect l (D := D) (ad := ad) (rd := rd) (ca := ca) (A := wx_Am A mm) (σ := σ) hc72) (va_cwS 3 hts gL_same_L_suspect rfl rfl rfl (by decide +kernel) ⟨Nat.le_of_ble_eq_true rfl, Nat.le_of_ble_eq_true rfl⟩) (wx_preSM hC hA Z hS) rfl rfl hl.1 rfl (lv_room (Nat.le_of_ble_eq_true rfl)) dL_same_72 ⟨(by show k + 0 ≤ mc; omega), (by show 6464 * k + 0 ≤ 6464 * mc; omega)⟩) Z hS (fun H locs Z hS => ?_)
      refine lv_istore (lv' := [(19, .int v72), (18, .int ((8 * x13) + x17)), (0, .ref (ad 11 99)), (1, .long x1), (3, .ref (ad 16 0)), (4, .ref (ad 16 1)), (5, .ref (ad 16 2)), (6, .ref (ad 16 3)), (7, .ref (ad 16 4)), (8, .int x8), (9, .int x9), (10, .int x10), (11, .int x11), (12, .ref mm), (13, .int x13), (14, .int x14), (15, .int x15), (16, .int x16), (17, .int x17)]) hx hb dL_same_75 hl (by decide) rfl (fun ls hl => ?_)
      refine lv_iload hx hb dL_same_77 (lv_at hl 0 rfl) ?_
      refine lv_if_eq (tgt := 97) hx hb dL_same_79 (by decide) (fun c79 => ?_) (fun c79 => ?_)
      · replace h := wx_ift c79 h
        exact b_L_same_97 B (K30 := K30) @hK30 @mK30 (K49 := (f_L_same_49 K30 n)) @ih mih (k := k) hk h Z hS (lv_sub hl [2, 3, 4, 5, 6, 7, 8, 9, 10, 11, 12, 13, 14, 15, 16, 17, 18, 1, 0] rfl)
      · replace h := wx_iff c79 h
        refine lv_lload_n hx hb dL_same_82 rfl (lv_at hl 3 rfl) ?_
        refine lv_iload hx hb dL_same_83 (lv_at hl 1 rfl) ?_
        refine lv_lshr (v := (x1 >>> (((8 * x13) + x17).toInt64 &&& 63))) hx hb dL_same_85 rfl ?_
        refine lv_lconst (v := 1) hx hb dL_same_86 (by decide) ?_
        refine lv_land hx hb dL_same_87 ?_
        refine lv_lconst (v := 1) hx hb dL_same_88 (by decide) ?_
        refine W.lcmp hx hb dL_same_89 ?_
        refine lv_if_ne (tgt := 97) hx hb dL_same_90 (by decide) (fun c90 => ?_) (fun c90 => ?_)
        · replace h := wx_iff c90 h
          exact b_L_same_97 B (K30 := K30) @hK30 @mK30 (K49 := (f_L_same_49 K30 n)) @ih mih (k := k) hk h Z hS (lv_sub hl [2, 3, 4, 5, 6, 7, 8, 9, 10, 11, 12, 13, 14, 15, 16, 17, 18, 1, 0] rfl)
        · replace h := wx_ift c90 h
          refine lv_iconst (v := 1) hx hb dL_same_93 (by decide) ?_
          refine lv_goto (tgt := 98) hx hb dL_same_94 (by decide) ?_
          exact b_L_same_98 B (K30 := K30) @hK30 @mK30 (K49 := (f_L_same_49 K30 n)) @ih mih (k := k) hk h Z hS (lv_sub hl [2, 3, 4, 5, 6, 7, 8, 9, 10, 11, 12, 13, 14, 15, 16, 17, 18, 1, 0] rfl)
set_option maxRecDepth 20000 in
set_option maxHeartbeats 4000000 in
theorem m_L_same_592  {r : Int32} {σ' : wx_St}  {x1 : Int64} {x8 : Int32} {x9 : Int32} {x10 : Int32} {x11 : Int32} {x13 : Int32} {σ : wx_St} (h : f_L_same_592 x1 x8 x9 x10 x11 x13 σ = some (r, σ')) : wx_n σ.2.2.2.2 ≤ wx_n σ'.2.2.2.2 := by
  unfold f_L_same_592 at h
  obtain ⟨rfl, rfl⟩ := wx_ret_ok h
  exact Nat.le_refl _
set_option maxRecDepth 20000 in
set_option maxHeartbeats 4000000 in
theorem b_L_same_592 (B : wx_B p s m args meth c cL_same 24 (some .boolean) wsL_same RL D ad ca A)    {r : Int32} {σ' : wx_St} {mc : Nat} {mm : Nat}  {x1 : Int64} {x8 : Int32} {x9 : Int32} {x10 : Int32} {x11 : Int32} {x13 : Int32} {σ : wx_St} {k : Nat} (hk : k + wx_n σ'.2.2.2.2 ≤ mc + wx_n σ.2.2.2.2)  (h : f_L_same_592 x1 x8 x9 x10 x11 x13 σ = some (r, σ')) {rd : Nat → Nat} {H : Heap} {locs : List Loc} (Z : wx_ZM D ad rd ca A s.heap.size mm σ H) (hS : va_S A s.heap H locs) {ls : Array Slot} (hl : lv_has ls 24 [(0, .ref (ad 11 99)), (1, .long x1), (3, .ref (ad 16 0)), (4, .ref (ad 16 1)), (5, .ref (ad 16 2)), (6, .ref (ad 16 3)), (7, .ref (ad 16 4)), (8, .int x8), (9, .int x9), (10, .int x10), (11, .int x11), (12, .ref mm), (13, .int x13)]) : W p l e ({ frames := 7, cells := mc, slots := 6464 * mc, locals := 174 } : Room) s m args below meth c H locs k (6464 * k) (MQ below (wx_QA D ad ca A (some (.int r)) σ') args s mc (6464 * mc) A) (F0 m 592 ls []) := by
  obtain ⟨hx, hb, hml, hr, hts, hown, hlk, hC, hA⟩ := id B
  have hm := m_L_same_592 h
  unfold f_L_same_592 at h
  refine lv_iconst (v := 0) hx hb dL_same_592 (by decide) ?_
  obtain ⟨rfl, rfl⟩ := wx_ret_ok h
  refine W.widen (k := mc) (n := 6464 * mc) (by omega) (by omega) ?_
  exact W.zret hx hb hr rfl (fun t ht hW => ⟨rfl, ⟨_, by rw [ht]; exact Z.out⟩, hS.F ht⟩) hS.2.2 dL_same_593
set_option maxRecDepth 20000 in
set_option maxHeartbeats 4000000 in
theorem m_L_same_589  {r : Int32} {σ' : wx_St} {K486 : Int64 → Int32 → Int32 → Int32 → Int32 → Int32 → wx_St → Option (Int32 × wx_St)} (mK486 : ∀ {x1 : Int64} {x8 : Int32} {x9 : Int32} {x10 : Int32} {x11 : Int32} {x13 : Int32} {σ : wx_St}, K486 x1 x8 x9 x10 x11 x13 σ = some (r, σ') → wx_n σ.2.2.2.2 ≤ wx_n σ'.2.2.2.2) {x1 : Int64} {x8 : Int32} {x9 : Int32} {x10 : Int32} {x11 : Int32} {x13 : Int32} {y0 : Int32} {y1 : Int32} {σ : wx_St} (h : f_L_same_589 K486 x1 x8 x9 x10 x11 x13 y0 y1 σ = some (r, σ')) : wx_n σ.2.2.2.2 ≤ wx_n σ'.2.2.2.2 := by
  unfold f_L_same_589 at h
  by_cases c589 : y0 = y1
  · replace h := wx_ift c589 h
    exact mK486 h
  · replace h := wx_iff c589 h
    exact m_L_same_592 h
set_option maxRecDepth 20000 in
set_option maxHeartbeats 4000000 in
theorem b_L_same_589 (B : wx_B p s m args meth c cL_same 24 (some .boolean) wsL_same RL D ad ca A)    {r : Int32} {σ' : wx_St} {mc : Nat} {mm : Nat} {K486 : Int64 → Int32 → Int32 → Int32 → Int32 → Int32 → wx_St → Option (Int32 × wx_St)} (hK486 : ∀ {x1 : Int64} {x8 : Int32} {x9 : Int32} {x10 : Int32} {x11 : Int32} {x13 : Int32} {σ : wx_St} {k : Nat} (hk : k + wx_n σ'.2.2.2.2 ≤ mc + wx_n σ.2.2.2.2)  (h : K486 x1 x8 x9 x10 x11 x13 σ = some (r, σ')) {rd : Nat → Nat} {H : Heap} {locs : List Loc} (Z : wx_ZM D ad rd ca A s.heap.size mm σ H) (hS : va_S A s.heap H locs) {ls : Array Slot} (hl : lv_has ls 24 [(0, .ref (ad 11 99)), (1, .long x1), (3, .ref (ad 16 0)), (4, .ref (ad 16 1)), (5, .ref (ad 16 2)), (6, .ref (ad 16 3)), (7, .ref (ad 16 4)), (8, .int x8), (9, .int x9), (10, .int x10), (11, .int x11), (12, .ref mm), (13, .int x13)]), W p l e ({ frames := 7, cells := mc, slots := 6464 * mc, locals := 174 } : Room) s m args below meth c H locs k (6464 * k) (MQ below (wx_QA D ad ca A (some (.int r)) σ') args s mc (6464 * mc) A) (F0 m 486 ls [])) (mK486 : ∀ {x1 : Int64} {x8 : Int32} {x9 : Int32} {x10 : Int32} {x11 : Int32} {x13 : Int32} {σ : wx_St}, K486 x1 x8 x9 x10 x11 x13 σ = some (r, σ') → wx_n σ.2.2.2.2 ≤ wx_n σ'.2.2.2.2) {x1 : Int64} {x8 : Int32} {x9 : Int32} {x10 : Int32} {x11 : Int32} {x13 : Int32} {y0 : Int32} {y1 : Int32} {σ : wx_St} {k : Nat} (hk : k + wx_n σ'.2.2.2.2 ≤ mc + wx_n σ.2.2.2.2)  (h : f_L_same_589 K486 x1 x8 x9 x10 x11 x13 y0 y1 σ = some (r, σ')) {rd : Nat → Nat} {H : Heap} {locs : List Loc} (Z : wx_ZM D ad rd ca A s.heap.size mm σ H) (hS : va_S A s.heap H locs) {ls : Array Slot} (hl : lv_has ls 24 [(0, .ref (ad 11 99)), (1, .long x1), (3, .ref (ad 16 0)), (4, .ref (ad 16 1)), (5, .ref (ad 16 2)), (6, .ref (ad 16 3)), (7, .ref (ad 16 4)), (8, .int x8), (9, .int x9), (10, .int x10), (11, .int x11), (12, .ref mm), (13, .int x13)]) : W p l e ({ frames := 7, cells := mc, slots := 6464 * mc, locals := 174 } : Room) s m args below meth c H locs k (6464 * k) (MQ below (wx_QA D ad ca A (some (.int r)) σ') args s mc (6464 * mc) A) (F0 m 589 ls [.int y1, .int y0]) := by
  obtain ⟨hx, hb, hml, hr, hts, hown, hlk, hC, hA⟩ := id B
  have hm := m_L_same_589 (K486 := K486) @mK486 h
  unfold f_L_same_589 at h
  refine lv_icmp_eq (tgt := 594) hx hb dL_same_589 (by decide) (fun c589 => ?_) (fun c589 => ?_)
  · replace h := wx_ift c589 h
    refine lv_iinc (v := x13 + 1) (lv' := [(13, .int (x13 + 1)), (0, .ref (ad 11 99)), (1, .long x1), (3, .ref (ad 16 0)), (4, .ref (ad 16 1)), (5, .ref (ad 16 2)), (6, .ref (ad 16 3)), (7, .ref (ad 16 4)), (8, .int x8), (9, .int x9), (10, .int x10), (11, .int x11), (12, .ref mm)]) hx hb dL_same_594 hl (k := 12) rfl rfl (by decide) rfl (fun ls hl => ?_)
    refine lv_goto (tgt := 486) hx hb dL_same_597 (by decide) ?_
    exact hK486 (k := k) hk h Z hS (lv_sub hl [1, 2, 3, 4, 5, 6, 7, 8, 9, 10, 11, 12, 0] rfl)
  · replace h := wx_iff c589 h
    exact b_L_same_592 B (k := k) hk h Z hS (lv_sub hl [0, 1, 2, 3, 4, 5, 6, 7, 8, 9, 10, 11, 12] rfl)
set_option maxRecDepth 20000 in
set_option maxHeartbeats 4000000 in
theorem m_L_same_667  {r : Int32} {σ' : wx_St}  {x1 : Int64} {x8 : Int32} {x9 : Int32} {x10 : Int32} {x11 : Int32} {x13 : Int32} {σ : wx_St} (h : f_L_same_667 x1 x8 x9 x10 x11 x13 σ = some (r, σ')) : wx_n σ.2.2.2.2 ≤ wx_n σ'.2.2.2.2 := by
  unfold f_L_same_667 at h
  obtain ⟨rfl, rfl⟩ := wx_ret_ok h
  exact Nat.le_refl _
set_option maxRecDepth 20000 in
set_option maxHeartbeats 4000000 in
theorem b_L_same_667 (B : wx_B p s m args meth c cL_same 24 (some .boolean) wsL_same RL D ad ca A)    {r : Int32} {σ' : wx_St} {mc : Nat} {mm : Nat}  {x1 : Int64} {x8 : Int32} {x9 : Int32} {x10 : Int32} {x11 : Int32} {x13 : Int32} {σ : wx_St} {k : Nat} (hk : k + wx_n σ'.2.2.2.2 ≤ mc + wx_n σ.2.2.2.2)  (h : f_L_same_667 x1 x8 x9 x10 x11 x13 σ = some (r, σ')) {rd : Nat → Nat} {H : Heap} {locs : List Loc} (Z : wx_ZM D ad rd ca A s.heap.size mm σ H) (hS : va_S A s.heap H locs) {ls : Array Slot} (hl : lv_has ls 24 [(0, .ref (ad 11 99)), (1, .long x1), (3, .ref (ad 16 0)), (4, .ref (ad 16 1)), (5, .ref (ad 16 2)), (6, .ref (ad 16 3)), (7, .ref (ad 16 4)), (8, .int x8), (9, .int x9), (10, .int x10), (11, .int x11), (12, .ref mm), (13, .int x13)]) : W p l e ({ frames := 7, cells := mc, slots := 6464 * mc, locals := 174 } : Room) s m args below meth c H locs k (6464 * k) (MQ below (wx_QA D ad ca A (some (.int r)) σ') args s mc (6464 * mc) A) (F0 m 667 ls []) := by
  obtain ⟨hx, hb, hml, hr, hts, hown, hlk, hC, hA⟩ := id B
  have hm := m_L_same_667 h
  unfold f_L_same_667 at h
  refine lv_iconst (v := 0) hx hb dL_same_667 (by decide) ?_
  obtain ⟨rfl, rfl⟩ := wx_ret_ok h
  refine W.widen (k := mc) (n := 6464 * mc) (by omega) (by omega) ?_
  exact W.zret hx hb hr rfl (fun t ht hW => ⟨rfl, ⟨_, by rw [ht]; exact Z.out⟩, hS.F ht⟩) hS.2.2 dL_same_668
set_option maxRecDepth 20000 in
set_option maxHeartbeats 4000000 in
theorem m_L_same_715  {r : Int32} {σ' : wx_St}  {x1 : Int64} {x8 : Int32} {x9 : Int32} {x10 : Int32} {x11 : Int32} {x13 : Int32} {σ : wx_St} (h : f_L_same_715 x1 x8 x9 x10 x11 x13 σ = some (r, σ')) : wx_n σ.2.2.2.2 ≤ wx_n σ'.2.2.2.2 := by
  unfold f_L_same_715 at h
  obtain ⟨rfl, rfl⟩ := wx_ret_ok h
  exact Nat.le_refl _
set_option maxRecDepth 20000 in
set_option maxHeartbeats 4000000 in
theorem b_L_same_715 (B : wx_B p s m args meth c cL_same 24 (some .boolean) wsL_same RL D ad ca A)    {r : Int32} {σ' : wx_St} {mc : Nat} {mm : Nat}  {x1 : Int64} {x8 : Int32} {x9 : Int32} {x10 : Int32} {x11 : Int32} {x13 : Int32} {σ : wx_St} {k : Nat} (hk : k + wx_n σ'.2.2.2.2 ≤ mc + wx_n σ.2.2.2.2)  (h : f_L_same_715 x1 x8 x9 x10 x11 x13 σ = some (r, σ')) {rd : Nat → Nat} {H : Heap} {locs : List Loc} (Z : wx_ZM D ad rd ca A s.heap.size mm σ H) (hS : va_S A s.heap H locs) {ls : Array Slot} (hl : lv_has ls 24 [(0, .ref (ad 11 99)), (1, .long x1), (3, .ref (ad 16 0)), (4, .ref (ad 16 1)), (5, .ref (ad 16 2)), (6, .ref (ad 16 3)), (7, .ref (ad 16 4)), (8, .int x8), (9, .int x9), (10, .int x10), (11, .int x11), (12, .ref mm), (13, .int x13)]) : W p l e ({ frames := 7, cells := mc, slots := 6464 * mc, locals := 174 } : Room) s m args below meth c H locs k (6464 * k) (MQ below (wx_QA D ad ca A (some (.int r)) σ') args s mc (6464 * mc) A) (F0 m 715 ls []) := by
  obtain ⟨hx, hb, hml, hr, hts, hown, hlk, hC, hA⟩ := id B
  have hm := m_L_same_715 h
  unfold f_L_same_715 at h
  refine lv_iconst (v := 0) hx hb dL_same_715 (by decide) ?_
  obtain ⟨rfl, rfl⟩ := wx_ret_ok h
  refine W.widen (k := mc) (n := 6464 * mc) (by omega) (by omega) ?_
  exact W.zret hx hb hr rfl (fun t ht hW => ⟨rfl, ⟨_, by rw [ht]; exact Z.out⟩, hS.F ht⟩) hS.2.2 dL_same_716
set_option maxRecDepth 20000 in
set_option maxHeartbeats 4000000 in
theorem m_L_same_741  {r : Int32} {σ' : wx_St} {K726 : Int64 → Int32 → Int32 → Int32 → Int32 → Int32 → wx_St → Option (Int32 × wx_St)} (mK726 : ∀ {x1 : Int64} {x8 : Int32} {x9 : Int32} {x10 : Int32} {x11 : Int32} {x13 : Int32} {σ : wx_St}, K726 x1 x8 x9 x10 x11 x13 σ = some (r, σ') → wx_n σ.2.2.2.2 ≤ wx_n σ'.2.2.2.2) {x1 : Int64} {x8 : Int32} {x9 : Int32} {x10 : Int32} {x11 : Int32} {x13 : Int32} {y0 : Int32} {σ : wx_St} (h : f_L_same_741 K726 x1 x8 x9 x10 x11 x13 y0 σ = some (r, σ')) : wx_n σ.2.2.2.2 ≤ wx_n σ'.2.2.2.2 := by
  unfold f_L_same_741 at h
  obtain ⟨v744, ev744, iv744, h⟩ := wx_rI_ok h
  by_cases c745 : y0 = v744
  · replace h := wx_ift c745 h
    exact mK726 h
  · replace h := wx_iff c745 h
    obtain ⟨rfl, rfl⟩ := wx_ret_ok h
    exact Nat.le_refl _
set_option maxRecDepth 20000 in
set_option maxHeartbeats 4000000 in
theorem b_L_same_741 (B : wx_B p s m args meth c cL_same 24 (some .boolean) wsL_same RL D ad ca A)    {r : Int32} {σ' : wx_St} {mc : Nat} {mm : Nat} {K726 : Int64 → Int32 → Int32 → Int32 → Int32 → Int32 → wx_St → Option (Int32 × wx_St)} (hK726 : ∀ {x1 : Int64} {x8 : Int32} {x9 : Int32} {x10 : Int32} {x11 : Int32} {x13 : Int32} {σ : wx_St} {k : Nat} (hk : k + wx_n σ'.2.2.2.2 ≤ mc + wx_n σ.2.2.2.2)  (h : K726 x1 x8 x9 x10 x11 x13 σ = some (r, σ')) {rd : Nat → Nat} {H : Heap} {locs : List Loc} (Z : wx_ZM D ad rd ca A s.heap.size mm σ H) (hS : va_S A s.heap H locs) {ls : Array Slot} (hl : lv_has ls 24 [(0, .ref (ad 11 99)), (1, .long x1), (3, .ref (ad 16 0)), (4, .ref (ad 16 1)), (5, .ref (ad 16 2)), (6, .ref (ad 16 3)), (7, .ref (ad 16 4)), (8, .int x8), (9, .int x9), (10, .int x10), (11, .int x11), (12, .ref mm), (13, .int x13)]), W p l e ({ frames := 7, cells := mc, slots := 6464 * mc, locals := 174 } : Room) s m args below meth c H locs k (6464 * k) (MQ below (wx_QA D ad ca A (some (.int r)) σ') args s mc (6464 * mc) A) (F0 m 726 ls [])) (mK726 : ∀ {x1 : Int64} {x8 : Int32} {x9 : Int32} {x10 : Int32} {x11 : Int32} {x13 : Int32} {σ : wx_St}, K726 x1 x8 x9 x10 x11 x13 σ = some (r, σ') → wx_n σ.2.2.2.2 ≤ wx_n σ'.2.2.2.2) {x1 : Int64} {x8 : Int32} {x9 : Int32} {x10 : Int32} {x11 : Int32} {x13 : Int32} {y0 : Int32} {σ : wx_St} {k : Nat} (hk : k + wx_n σ'.2.2.2.2 ≤ mc + wx_n σ.2.2.2.2)  (h : f_L_same_741 K726 x1 x8 x9 x10 x11 x13 y0 σ = some (r, σ')) {rd : Nat → Nat} {H : Heap} {locs : List Loc} (Z : wx_ZM D ad rd ca A s.heap.size mm σ H) (hS : va_S A s.heap H locs) {ls : Array Slot} (hl : lv_has ls 24 [(0, .ref (ad 11 99)), (1, .long x1), (3, .ref (ad 16 0)), (4, .ref (ad 16 1)), (5, .ref (ad 16 2)), (6, .ref (ad 16 3)), (7, .ref (ad 16 4)), (8, .int x8), (9, .int x9), (10, .int x10), (11, .int x11), (12, .ref mm), (13, .int x13)]) : W p l e ({ frames := 7, cells := mc, slots := 6464 * mc, locals := 174 } : Room) s m args below meth c H locs k (6464 * k) (MQ below (wx_QA D ad ca A (some (.int r)) σ') args s mc (6464 * mc) A) (F0 m 741 ls [.int y0]) := by
  obtain ⟨hx, hb, hml, hr, hts, hown, hlk, hC, hA⟩ := id B
  have hm := m_L_same_741 (K726 := K726) @mK726 h
  unfold f_L_same_741 at h
  refine lv_aload_n hx hb dL_same_741 rfl (lv_at hl 2 rfl) ?_
  refine lv_iload hx hb dL_same_742 (lv_at hl 12 rfl) ?_
  obtain ⟨v744, ev744, iv744, h⟩ := wx_rI_ok h
  refine wx_iald hx hb hC.1 Z.1 (o := 16) (k := 0) (n := 7) rfl rfl iv744 dL_same_744 ev744 ?_
  refine lv_icmp_eq (tgt := 750) hx hb dL_same_745 (by decide) (fun c745 => ?_) (fun c745 => ?_)
  · replace h := wx_ift c745 h
    refine lv_iinc (v := x13 + 1) (lv' := [(13, .int (x13 + 1)), (0, .ref (ad 11 99)), (1, .long x1), (3, .ref (ad 16 0)), (4, .ref (ad 16 1)), (5, .ref (ad 16 2)), (6, .ref (ad 16 3)), (7, .ref (ad 16 4)), (8, .int x8), (9, .int x9), (10, .int x10), (11, .int x11), (12, .ref mm)]) hx hb dL_same_750 hl (k := 12) rfl rfl (by decide) rfl (fun ls hl => ?_)
    refine lv_goto (tgt := 726) hx hb dL_same_753 (by decide) ?_
    exact hK726 (k := k) hk h Z hS (lv_sub hl [1, 2, 3, 4, 5, 6, 7, 8, 9, 10, 11, 12, 0] rfl)
  · replace h := wx_iff c745 h
    refine lv_iconst (v := 0) hx hb dL_same_748 (by decide) ?_
    obtain ⟨rfl, rfl⟩ := wx_ret_ok h
    refine W.widen (k := mc) (n := 6464 * mc) (by omega) (by omega) ?_
    exact W.zret hx hb hr rfl (fun t ht hW => ⟨rfl, ⟨_, by rw [ht]; exact Z.out⟩, hS.F ht⟩) hS.2.2 dL_same_749
set_option maxRecDepth 20000 in
set_option maxHeartbeats 4000000 in
theorem m_L_same_886  {r : Int32} {σ' : wx_St}  {x1 : Int64} {x8 : Int32} {x9 : Int32} {x10 : Int32} {x11 : Int32} {x13 : Int32} {y0 : Int32} {σ : wx_St} (h : f_L_same_886 x1 x8 x9 x10 x11 x13 y0 σ = some (r, σ')) : wx_n σ.2.2.2.2 ≤ wx_n σ'.2.2.2.2 := by
  unfold f_L_same_886 at h
  obtain ⟨hz, h⟩ := wx_z_ok h
  obtain ⟨rfl, rfl⟩ := wx_ret_ok h
  exact Nat.le_refl _
set_option maxRecDepth 20000 in
set_option maxHeartbeats 4000000 in
theorem b_L_same_886 (B : wx_B p s m args meth c cL_same 24 (some .boolean) wsL_same RL D ad ca A)    {r : Int32} {σ' : wx_St} {mc : Nat} {mm : Nat}  {x1 : Int64} {x8 : Int32} {x9 : Int32} {x10 : Int32} {x11 : Int32} {x13 : Int32} {y0 : Int32} {σ : wx_St} {k : Nat} (hk : k + wx_n σ'.2.2.2.2 ≤ mc + wx_n σ.2.2.2.2)  (h : f_L_same_886 x1 x8 x9 x10 x11 x13 y0 σ = some (r, σ')) {rd : Nat → Nat} {H : Heap} {locs : List Loc} (Z : wx_ZM D ad rd ca A s.heap.size mm σ H) (hS : va_S A s.heap H locs) {ls : Array Slot} (hl : lv_has ls 24 [(0, .ref (ad 11 99)), (1, .long x1), (3, .ref (ad 16 0)), (4, .ref (ad 16 1)), (5, .ref (ad 16 2)), (6, .ref (ad 16 3)), (7, .ref (ad 16 4)), (8, .int x8), (9, .int x9), (10, .int x10), (11, .int x11), (12, .ref mm), (13, .int x13)]) : W p l e ({ frames := 7, cells := mc, slots := 6464 * mc, locals := 174 } : Room) s m args below meth c H locs k (6464 * k) (MQ below (wx_QA D ad ca A (some (.int r)) σ') args s mc (6464 * mc) A) (F0 m 886 ls [.int y0]) := by
  obtain ⟨hx, hb, hml, hr, hts, hown, hlk, hC, hA⟩ := id B
  have hm := m_L_same_886 h
  unfold f_L_same_886 at h
  obtain ⟨hz, h⟩ := wx_z_ok h
  obtain ⟨rfl, rfl⟩ := wx_ret_ok h
  refine W.widen (k := mc) (n := 6464 * mc) (by omega) (by omega) ?_
  exact W.zret hx hb hr (wx_nb hz) (fun t ht hW => ⟨rfl, ⟨_, by rw [ht]; exact Z.out⟩, hS.F ht⟩) hS.2.2 dL_same_886
set_option maxRecDepth 20000 in
set_option maxHeartbeats 4000000 in
theorem m_L_same_881  {r : Int32} {σ' : wx_St}  {x1 : Int64} {x8 : Int32} {x9 : Int32} {x10 : Int32} {x11 : Int32} {x13 : Int32} {σ : wx_St} (h : f_L_same_881 x1 x8 x9 x10 x11 x13 σ = some (r, σ')) : wx_n σ.2.2.2.2 ≤ wx_n σ'.2.2.2.2 := by
  unfold f_L_same_881 at h
  exact m_L_same_886 h
set_option maxRecDepth 20000 in
set_option maxHeartbeats 4000000 in
theorem b_L_same_881 (B : wx_B p s m args meth c cL_same 24 (some .boolean) wsL_same RL D ad ca A)    {r : Int32} {σ' : wx_St} {mc : Nat} {mm : Nat}  {x1 : Int64} {x8 : Int32} {x9 : Int32} {x10 : Int32} {x11 : Int32} {x13 : Int32} {σ : wx_St} {k : Nat} (hk : k + wx_n σ'.2.2.2.2 ≤ mc + wx_n σ.2.2.2.2)  (h : f_L_same_881 x1 x8 x9 x10 x11 x13 σ = some (r, σ')) {rd : Nat → Nat} {H : Heap} {locs : List Loc} (Z : wx_ZM D ad rd ca A s.heap.size mm σ H) (hS : va_S A s.heap H locs) {ls : Array Slot} (hl : lv_has ls 24 [(0, .ref (ad 11 99)), (1, .long x1), (3, .ref (ad 16 0)), (4, .ref (ad 16 1)), (5, .ref (ad 16 2)), (6, .ref (ad 16 3)), (7, .ref (ad 16 4)), (8, .int x8), (9, .int x9), (10, .int x10), (11, .int x11), (12, .ref mm), (13, .int x13)]) : W p l e ({ frames := 7, cells := mc, slots := 6464 * mc, locals := 174 } : Room) s m args below meth c H locs k (6464 * k) (MQ below (wx_QA D ad ca A (some (.int r)) σ') args s mc (6464 * mc) A) (F0 m 881 ls []) := by
  obtain ⟨hx, hb, hml, hr, hts, hown, hlk, hC, hA⟩ := id B
  have hm := m_L_same_881 h
  unfold f_L_same_881 at h
  refine lv_iconst (v := 1) hx hb dL_same_881 (by decide) ?_
  refine lv_goto (tgt := 886) hx hb dL_same_882 (by decide) ?_
  exact b_L_same_886 B (k := k) hk h Z hS (lv_sub hl [0, 1, 2, 3, 4, 5, 6, 7, 8, 9, 10, 11, 12] rfl)
set_option maxRecDepth 20000 in
set_option maxHeartbeats 4000000 in
theorem m_L_same_885  {r : Int32} {σ' : wx_St}  {x1 : Int64} {x8 : Int32} {x9 : Int32} {x10 : Int32} {x11 : Int32} {x13 : Int32} {σ : wx_St} (h : f_L_same_885 x1 x8 x9 x10 x11 x13 σ = some (r, σ')) : wx_n σ.2.2.2.2 ≤ wx_n σ'.2.2.2.2 := by
  unfold f_L_same_885 at h
  exact m_L_same_886 h
set_option maxRecDepth 20000 in
set_option maxHeartbeats 4000000 in
theorem b_L_same_885 (B : wx_B p s m args meth c cL_same 24 (some .boolean) wsL_same RL D ad ca A)    {r : Int32} {σ' : wx_St} {mc : Nat} {mm : Nat}  {x1 : Int64} {x8 : Int32} {x9 : Int32} {x10 : Int32} {x11 : Int32} {x13 : Int32} {σ : wx_St} {k : Nat} (hk : k + wx_n σ'.2.2.2.2 ≤ mc + wx_n σ.2.2.2.2)  (h : f_L_same_885 x1 x8 x9 x10 x11 x13 σ = some (r, σ')) {rd : Nat → Nat} {H : Heap} {locs : List Loc} (Z : wx_ZM D ad rd ca A s.heap.size mm σ H) (hS : va_S A s.heap H locs) {ls : Array Slot} (hl : lv_has ls 24 [(0, .ref (ad 11 99)), (1, .long x1), (3, .ref (ad 16 0)), (4, .ref (ad 16 1)), (5, .ref (ad 16 2)), (6, .ref (ad 16 3)), (7, .ref (ad 16 4)), (8, .int x8), (9, .int x9), (10, .int x10), (11, .int x11), (12, .ref mm), (13, .int x13)]) : W p l e ({ frames := 7, cells := mc, slots := 6464 * mc, locals := 174 } : Room) s m args below meth c H locs k (6464 * k) (MQ below (wx_QA D ad ca A (some (.int r)) σ') args s mc (6464 * mc) A) (F0 m 885 ls []) := by
  obtain ⟨hx, hb, hml, hr, hts, hown, hlk, hC, hA⟩ := id B
  have hm := m_L_same_885 h
  unfold f_L_same_885 at h
  refine lv_iconst (v := 0) hx hb dL_same_885 (by decide) ?_
  exact b_L_same_886 B (k := k) hk h Z hS (lv_sub hl [0, 1, 2, 3, 4, 5, 6, 7, 8, 9, 10, 11, 12] rfl)
set_option maxRecDepth 20000 in
set_option maxHeartbeats 4000000 in
theorem m_L_same_869  {r : Int32} {σ' : wx_St}  {x1 : Int64} {x8 : Int32} {x9 : Int32} {x10 : Int32} {x11 : Int32} {x13 : Int32} {y0 : Int32} {σ : wx_St} (h : f_L_same_869 x1 x8 x9 x10 x11 x13 y0 σ = some (r, σ')) : wx_n σ.2.2.2.2 ≤ wx_n σ'.2.2.2.2 := by
  unfold f_L_same_869 at h
  by_cases c878 : y0 = ((x9 * (x9 - 1)) / 2)
  · replace h := wx_ift c878 h
    exact m_L_same_881 h
  · replace h := wx_iff c878 h
    exact m_L_same_885 h
set_option maxRecDepth 20000 in
set_option maxHeartbeats 4000000 in
theorem b_L_same_869 (B : wx_B p s m args meth c cL_same 24 (some .boolean) wsL_same RL D ad ca A)    {r : Int32} {σ' : wx_St} {mc : Nat} {mm : Nat}  {x1 : Int64} {x8 : Int32} {x9 : Int32} {x10 : Int32} {x11 : Int32} {x13 : Int32} {y0 : Int32} {σ : wx_St} {k : Nat} (hk : k + wx_n σ'.2.2.2.2 ≤ mc + wx_n σ.2.2.2.2)  (h : f_L_same_869 x1 x8 x9 x10 x11 x13 y0 σ = some (r, σ')) {rd : Nat → Nat} {H : Heap} {locs : List Loc} (Z : wx_ZM D ad rd ca A s.heap.size mm σ H) (hS : va_S A s.heap H locs) {ls : Array Slot} (hl : lv_has ls 24 [(0, .ref (ad 11 99)), (1, .long x1), (3, .ref (ad 16 0)), (4, .ref (ad 16 1)), (5, .ref (ad 16 2)), (6, .ref (ad 16 3)), (7, .ref (ad 16 4)), (8, .int x8), (9, .int x9), (10, .int x10), (11, .int x11), (12, .ref mm), (13, .int x13)]) : W p l e ({ frames := 7, cells := mc, slots := 6464 * mc, locals := 174 } : Room) s m args below meth c H locs k (6464 * k) (MQ below (wx_QA D ad ca A (some (.int r)) σ') args s mc (6464 * mc) A) (F0 m 869 ls [.int y0]) := by
  obtain ⟨hx, hb, hml, hr, hts, hown, hlk, hC, hA⟩ := id B
  have hm := m_L_same_869 h
  unfold f_L_same_869 at h
  refine lv_iload hx hb dL_same_869 (lv_at hl 8 rfl) ?_
  refine lv_iload hx hb dL_same_871 (lv_at hl 8 rfl) ?_
  refine lv_iconst (v := 1) hx hb dL_same_873 (by decide) ?_
  refine lv_isub hx hb dL_same_874 ?_
  refine lv_imul hx hb dL_same_875 ?_
  refine lv_iconst (v := 2) hx hb dL_same_876 (by decide) ?_
  refine lv_idiv hx hb dL_same_877 (by decide) ?_
  refine lv_icmp_ne (tgt := 885) hx hb dL_same_878 (by decide) (fun c878 => ?_) (fun c878 => ?_)
  · replace h := wx_iff c878 h
    exact b_L_same_885 B (k := k) hk h Z hS (lv_sub hl [0, 1, 2, 3, 4, 5, 6, 7, 8, 9, 10, 11, 12] rfl)
  · replace h := wx_ift c878 h
    exact b_L_same_881 B (k := k) hk h Z hS (lv_sub hl [0, 1, 2, 3, 4, 5, 6, 7, 8, 9, 10, 11, 12] rfl)
set_option maxRecDepth 20000 in
set_option maxHeartbeats 4000000 in
theorem m_L_same_826  {r : Int32} {σ' : wx_St}  {x1 : Int64} {x8 : Int32} {x9 : Int32} {x10 : Int32} {x11 : Int32} {x13 : Int32} {y0 : Int32} {σ : wx_St} (h : f_L_same_826 x1 x8 x9 x10 x11 x13 y0 σ = some (r, σ')) : wx_n σ.2.2.2.2 ≤ wx_n σ'.2.2.2.2 := by
  unfold f_L_same_826 at h
  by_cases c828 : y0 = x10
  · replace h := wx_ift c828 h
    obtain ⟨v834, ev834, iv834, h⟩ := wx_rI_ok h
    obtain ⟨v836, hc836, h⟩ := wx_o_ok h
    by_cases c840 : v836 = (-1)
    · replace h := wx_ift c840 h
      obtain ⟨v847, ev847, iv847, h⟩ := wx_rI_ok h
      obtain ⟨v849, hc849, h⟩ := wx_o_ok h
      by_cases c853 : v849 = (-1)
      · replace h := wx_ift c853 h
        obtain ⟨v859, ev859, iv859, h⟩ := wx_rI_ok h
        by_cases c860 : 0 < v859
        · replace h := wx_ift c860 h
          exact m_L_same_881 h
        · replace h := wx_iff c860 h
          obtain ⟨v866, z866, σ866, hc866, ez866, h⟩ := wx_bM_ok h
          refine Nat.le_trans (Nat.le_trans (m_X5_count_0 hc866) (Nat.le_of_eq (congrArg wx_n (wx_kMal ez866).symm))) ?_
          exact m_L_same_869 h
      · replace h := wx_iff c853 h
        exact m_L_same_885 h
    · replace h := wx_iff c840 h
      exact m_L_same_885 h
  · replace h := wx_iff c828 h
    exact m_L_same_885 h
set_option maxRecDepth 20000 in
set_option maxHeartbeats 4000000 in
theorem b_L_same_826 (B : wx_B p s m args meth c cL_same 24 (some .boolean) wsL_same RL D ad ca A)    {r : Int32} {σ' : wx_St} {mc : Nat} {mm : Nat}  {x1 : Int64} {x8 : Int32} {x9 : Int32} {x10 : Int32} {x11 : Int32} {x13 : Int32} {y0 : Int32} {σ : wx_St} {k : Nat} (hk : k + wx_n σ'.2.2.2.2 ≤ mc + wx_n σ.2.2.2.2)  (h : f_L_same_826 x1 x8 x9 x10 x11 x13 y0 σ = some (r, σ')) {rd : Nat → Nat} {H : Heap} {locs : List Loc} (Z : wx_ZM D ad rd ca A s.heap.size mm σ H) (hS : va_S A s.heap H locs) {ls : Array Slot} (hl : lv_has ls 24 [(0, .ref (ad 11 99)), (1, .long x1), (3, .ref (ad 16 0)), (4, .ref (ad 16 1)), (5, .ref (ad 16 2)), (6, .ref (ad 16 3)), (7, .ref (ad 16 4)), (8, .int x8), (9, .int x9), (10, .int x10), (11, .int x11), (12, .ref mm), (13, .int x13)]) : W p l e ({ frames := 7, cells := mc, slots := 6464 * mc, locals := 174 } : Room) s m args below meth c H locs k (6464 * k) (MQ below (wx_QA D ad ca A (some (.int r)) σ') args s mc (6464 * mc) A) (F0 m 826 ls [.int y0]) := by
  obtain ⟨hx, hb, hml, hr, hts, hown, hlk, hC, hA⟩ := id B
  have hm := m_L_same_826 h
  unfold f_L_same_826 at h
  refine lv_iload hx hb dL_same_826 (lv_at hl 9 rfl) ?_
  refine lv_icmp_ne (tgt := 885) hx hb dL_same_828 (by decide) (fun c828 => ?_) (fun c828 => ?_)
  · replace h := wx_iff c828 h
    exact b_L_same_885 B (k := k) hk h Z hS (lv_sub hl [0, 1, 2, 3, 4, 5, 6, 7, 8, 9, 10, 11, 12] rfl)
  · replace h := wx_ift c828 h
    refine lv_aload_n hx hb dL_same_831 rfl (lv_at hl 0 rfl) ?_
    refine lv_aload_n hx hb dL_same_832 rfl (lv_at hl 2 rfl) ?_
    refine lv_iconst (v := 5) hx hb dL_same_833 (by decide) ?_
    obtain ⟨v834, ev834, iv834, h⟩ := wx_rI_ok h
    refine wx_iald hx hb hC.1 Z.1 (o := 16) (k := 0) (n := 7) rfl rfl iv834 dL_same_834 ev834 ?_
    refine lv_iconst (v := 0) hx hb dL_same_835 (by decide) ?_
    obtain ⟨v836, hc836, h⟩ := wx_o_ok h
    refine wx_callM (va_runV (As := [.int v834, .int 0]) (rest := []) ⟨hx, hb, hml, hown, hts⟩ (c_X5_ofTouch l (D := D) (ad := ad) (rd := rd) (ca := ca) (A := wx_Am A mm) (σ := σ) hc836) (cwV 2 hts gL_same_X5_ofTouch rfl rfl rfl (by decide +kernel) ⟨Nat.le_of_ble_eq_true rfl, Nat.le_of_ble_eq_true rfl⟩) (wx_preVM hC hA Z hS rfl (rfl : vwCl[5]? = some (RX5, TX5, 7))) rfl rfl hl.1 rfl (lv_room (Nat.le_of_ble_eq_true rfl)) dL_same_836 ⟨(by show k + 0 ≤ mc; omega), (by show 6464 * k + 0 ≤ 6464 * mc; omega)⟩) Z hS (fun H locs Z hS => ?_)
    refine lv_iconst (v := (-1)) hx hb dL_same_839 (by decide) ?_
    refine lv_icmp_ne (tgt := 885) hx hb dL_same_840 (by decide) (fun c840 => ?_) (fun c840 => ?_)
    · replace h := wx_iff c840 h
      exact b_L_same_885 B (k := k) hk h Z hS (lv_sub hl [0, 1, 2, 3, 4, 5, 6, 7, 8, 9, 10, 11, 12] rfl)
    · replace h := wx_ift c840 h
      refine lv_aload_n hx hb dL_same_843 rfl (lv_at hl 0 rfl) ?_
      refine lv_aload_n hx hb dL_same_844 rfl (lv_at hl 2 rfl) ?_
      refine lv_bipush (v := 6) hx hb dL_same_845 (by decide) ?_
      obtain ⟨v847, ev847, iv847, h⟩ := wx_rI_ok h
      refine wx_iald hx hb hC.1 Z.1 (o := 16) (k := 0) (n := 7) rfl rfl iv847 dL_same_847 ev847 ?_
      refine lv_iconst (v := 0) hx hb dL_same_848 (by decide) ?_
      obtain ⟨v849, hc849, h⟩ := wx_o_ok h
      refine wx_callM (va_runV (As := [.int v847, .int 0]) (rest := []) ⟨hx, hb, hml, hown, hts⟩ (c_X5_reading l (D := D) (ad := ad) (rd := rd) (ca := ca) (A := wx_Am A mm) (σ := σ) hc849) (cwV 2 hts gL_same_X5_reading rfl rfl rfl (by decide +kernel) ⟨Nat.le_of_ble_eq_true rfl, Nat.le_of_ble_eq_true rfl⟩) (wx_preVM hC hA Z hS rfl (rfl : vwCl[5]? = some (RX5, TX5, 7))) rfl rfl hl.1 rfl (lv_room (Nat.le_of_ble_eq_true rfl)) dL_same_849 ⟨(by show k + 0 ≤ mc; omega), (by show 6464 * k + 0 ≤ 6464 * mc; omega)⟩) Z hS (fun H locs Z hS => ?_)
      refine lv_iconst (v := (-1)) hx hb dL_same_852 (by decide) ?_
      refine lv_icmp_ne (tgt := 885) hx hb dL_same_853 (by decide) (fun c853 => ?_) (fun c853 => ?_)
      · replace h := wx_iff c853 h
        exact b_L_same_885 B (k := k) hk h Z hS (lv_sub hl [0, 1, 2, 3, 4, 5, 6, 7, 8, 9, 10, 11, 12] rfl)
      · replace h := wx_ift c853 h
        refine lv_aload_n hx hb dL_same_856 rfl (lv_at hl 2 rfl) ?_
        refine lv_bipush (v := 6) hx hb dL_same_857 (by decide) ?_
        obtain ⟨v859, ev859, iv859, h⟩ := wx_rI_ok h
        refine wx_iald hx hb hC.1 Z.1 (o := 16) (k := 0) (n := 7) rfl rfl iv859 dL_same_859 ev859 ?_
        refine lv_if_gt (tgt := 881) hx hb dL_same_860 (by decide) (fun c860 => ?_) (fun c860 => ?_)
        · replace h := wx_ift c860 h
          exact b_L_same_881 B (k := k) hk h Z hS (lv_sub hl [0, 1, 2, 3, 4, 5, 6, 7, 8, 9, 10, 11, 12] rfl)
        · replace h := wx_iff c860 h
          refine lv_aload_n hx hb dL_same_863 rfl (lv_at hl 0 rfl) ?_
          refine lv_bipush (v := 7) hx hb dL_same_864 (by decide) ?_
          obtain ⟨v866, z866, σ866, hc866, ez866, h⟩ := wx_bM_ok h
          have m1 := m_X5_count_0 hc866
          have m2 := m_L_same_869 h
          have m3 := congrArg wx_n (wx_kMal ez866)
          refine wx_callAM (va_runV (As := [.int 7]) (rest := []) ⟨hx, hb, hml, hown, hts⟩ (c_X5_count l (D := D) (ad := ad) (rd := rd) (ca := ca) (A := wx_Am A mm) (σ := σ) hc866) (cwV 1 hts gL_same_X5_count rfl rfl rfl (by decide +kernel) ⟨Nat.le_of_ble_eq_true rfl, Nat.le_of_ble_eq_true rfl⟩) (wx_preVM hC hA Z hS rfl (rfl : vwCl[5]? = some (RX5, TX5, 7))) rfl rfl hl.1 rfl (lv_room (Nat.le_of_ble_eq_true rfl)) dL_same_866 ⟨(by show k + (wx_n z866.2.2.2.2 - wx_n σ.2.2.2.2) ≤ mc; omega), (by show 6464 * k + 6464 * (wx_n z866.2.2.2.2 - wx_n σ.2.2.2.2) ≤ 6464 * mc; omega)⟩) Z hS ez866 (fun rd H locs Z hS => ?_)
          refine W.widen (k := k + (wx_n z866.2.2.2.2 - wx_n σ.2.2.2.2)) (n := 6464 * (k + (wx_n z866.2.2.2.2 - wx_n σ.2.2.2.2))) (Nat.le_refl _) (by omega) ?_
          exact b_L_same_869 B (k := k + (wx_n z866.2.2.2.2 - wx_n σ.2.2.2.2)) (by omega) h Z hS (lv_sub hl [0, 1, 2, 3, 4, 5, 6, 7, 8, 9, 10, 11, 12] rfl)
set_option maxRecDepth 20000 in
set_option maxHeartbeats 4000000 in
theorem m_L_same_815  {r : Int32} {σ' : wx_St}  {x1 : Int64} {x8 : Int32} {x9 : Int32} {x10 : Int32} {x11 : Int32} {x13 : Int32} {y0 : Int32} {σ : wx_St} (h : f_L_same_815 x1 x8 x9 x10 x11 x13 y0 σ = some (r, σ')) : wx_n σ.2.2.2.2 ≤ wx_n σ'.2.2.2.2 := by
  unfold f_L_same_815 at h
  by_cases c817 : y0 = x9
  · replace h := wx_ift c817 h
    obtain ⟨v823, z823, σ823, hc823, ez823, h⟩ := wx_bM_ok h
    refine Nat.le_trans (Nat.le_trans (m_X5_count_0 hc823) (Nat.le_of_eq (congrArg wx_n (wx_kMal ez823).symm))) ?_
    exact m_L_same_826 h
  · replace h := wx_iff c817 h
    exact m_L_same_885 h
set_option maxRecDepth 20000 in
set_option maxHeartbeats 4000000 in
theorem b_L_same_815 (B : wx_B p s m args meth c cL_same 24 (some .boolean) wsL_same RL D ad ca A)    {r : Int32} {σ' : wx_St} {mc : Nat} {mm : Nat}  {x1 : Int64} {x8 : Int32} {x9 : Int32} {x10 : Int32} {x11 : Int32} {x13 : Int32} {y0 : Int32} {σ : wx_St} {k : Nat} (hk : k + wx_n σ'.2.2.2.2 ≤ mc + wx_n σ.2.2.2.2)  (h : f_L_same_815 x1 x8 x9 x10 x11 x13 y0 σ = some (r, σ')) {rd : Nat → Nat} {H : Heap} {locs : List Loc} (Z : wx_ZM D ad rd ca A s.heap.size mm σ H) (hS : va_S A s.heap H locs) {ls : Array Slot} (hl : lv_has ls 24 [(0, .ref (ad 11 99)), (1, .long x1), (3, .ref (ad 16 0)), (4, .ref (ad 16 1)), (5, .ref (ad 16 2)), (6, .ref (ad 16 3)), (7, .ref (ad 16 4)), (8, .int x8), (9, .int x9), (10, .int x10), (11, .int x11), (12, .ref mm), (13, .int x13)]) : W p l e ({ frames := 7, cells := mc, slots := 6464 * mc, locals := 174 } : Room) s m args below meth c H locs k (6464 * k) (MQ below (wx_QA D ad ca A (some (.int r)) σ') args s mc (6464 * mc) A) (F0 m 815 ls [.int y0]) := by
  obtain ⟨hx, hb, hml, hr, hts, hown, hlk, hC, hA⟩ := id B
  have hm := m_L_same_815 h
  unfold f_L_same_815 at h
  refine lv_iload hx hb dL_same_815 (lv_at hl 8 rfl) ?_
  refine lv_icmp_ne (tgt := 885) hx hb dL_same_817 (by decide) (fun c817 => ?_) (fun c817 => ?_)
  · replace h := wx_iff c817 h
    exact b_L_same_885 B (k := k) hk h Z hS (lv_sub hl [0, 1, 2, 3, 4, 5, 6, 7, 8, 9, 10, 11, 12] rfl)
  · replace h := wx_ift c817 h
    refine lv_aload_n hx hb dL_same_820 rfl (lv_at hl 0 rfl) ?_
    refine lv_bipush (v := 6) hx hb dL_same_821 (by decide) ?_
    obtain ⟨v823, z823, σ823, hc823, ez823, h⟩ := wx_bM_ok h
    have m1 := m_X5_count_0 hc823
    have m2 := m_L_same_826 h
    have m3 := congrArg wx_n (wx_kMal ez823)
    refine wx_callAM (va_runV (As := [.int 6]) (rest := []) ⟨hx, hb, hml, hown, hts⟩ (c_X5_count l (D := D) (ad := ad) (rd := rd) (ca := ca) (A := wx_Am A mm) (σ := σ) hc823) (cwV 1 hts gL_same_X5_count rfl rfl rfl (by decide +kernel) ⟨Nat.le_of_ble_eq_true rfl, Nat.le_of_ble_eq_true rfl⟩) (wx_preVM hC hA Z hS rfl (rfl : vwCl[5]? = some (RX5, TX5, 7))) rfl rfl hl.1 rfl (lv_room (Nat.le_of_ble_eq_true rfl)) dL_same_823 ⟨(by show k + (wx_n z823.2.2.2.2 - wx_n σ.2.2.2.2) ≤ mc; omega), (by show 6464 * k + 6464 * (wx_n z823.2.2.2.2 - wx_n σ.2.2.2.2) ≤ 6464 * mc; omega)⟩) Z hS ez823 (fun rd H locs Z hS => ?_)
    refine W.widen (k := k + (wx_n z823.2.2.2.2 - wx_n σ.2.2.2.2)) (n := 6464 * (k + (wx_n z823.2.2.2.2 - wx_n σ.2.2.2.2))) (Nat.le_refl _) (by omega) ?_
    exact b_L_same_826 B (k := k + (wx_n z823.2.2.2.2 - wx_n σ.2.2.2.2)) (by omega) h Z hS (lv_sub hl [0, 1, 2, 3, 4, 5, 6, 7, 8, 9, 10, 11, 12] rfl)
set_option maxRecDepth 20000 in
set_option maxHeartbeats 4000000 in
theorem m_L_same_805  {r : Int32} {σ' : wx_St}  {x1 : Int64} {x8 : Int32} {x9 : Int32} {x10 : Int32} {x11 : Int32} {x13 : Int32} {y0 : Int32} {σ : wx_St} (h : f_L_same_805 x1 x8 x9 x10 x11 x13 y0 σ = some (r, σ')) : wx_n σ.2.2.2.2 ≤ wx_n σ'.2.2.2.2 := by
  unfold f_L_same_805 at h
  by_cases c807 : y0 = x8
  · replace h := wx_ift c807 h
    obtain ⟨v812, z812, σ812, hc812, ez812, h⟩ := wx_bM_ok h
    refine Nat.le_trans (Nat.le_trans (m_X5_count_0 hc812) (Nat.le_of_eq (congrArg wx_n (wx_kMal ez812).symm))) ?_
    exact m_L_same_815 h
  · replace h := wx_iff c807 h
    exact m_L_same_885 h
set_option maxRecDepth 20000 in
set_option maxHeartbeats 4000000 in
theorem b_L_same_805 (B : wx_B p s m args meth c cL_same 24 (some .boolean) wsL_same RL D ad ca A)    {r : Int32} {σ' : wx_St} {mc : Nat} {mm : Nat}  {x1 : Int64} {x8 : Int32} {x9 : Int32} {x10 : Int32} {x11 : Int32} {x13 : Int32} {y0 : Int32} {σ : wx_St} {k : Nat} (hk : k + wx_n σ'.2.2.2.2 ≤ mc + wx_n σ.2.2.2.2)  (h : f_L_same_805 x1 x8 x9 x10 x11 x13 y0 σ = some (r, σ')) {rd : Nat → Nat} {H : Heap} {locs : List Loc} (Z : wx_ZM D ad rd ca A s.heap.size mm σ H) (hS : va_S A s.heap H locs) {ls : Array Slot} (hl : lv_has ls 24 [(0, .ref (ad 11 99)), (1, .long x1), (3, .ref (ad 16 0)), (4, .ref (ad 16 1)), (5, .ref (ad 16 2)), (6, .ref (ad 16 3)), (7, .ref (ad 16 4)), (8, .int x8), (9, .int x9), (10, .int x10), (11, .int x11), (12, .ref mm), (13, .int x13)]) : W p l e ({ frames := 7, cells := mc, slots := 6464 * mc, locals := 174 } : Room) s m args below meth c H locs k (6464 * k) (MQ below (wx_QA D ad ca A (some (.int r)) σ') args s mc (6464 * mc) A) (F0 m 805 ls [.int y0]) := by
  obtain ⟨hx, hb, hml, hr, hts, hown, hlk, hC, hA⟩ := id B
  have hm := m_L_same_805 h
  unfold f_L_same_805 at h
  refine lv_iload hx hb dL_same_805 (lv_at hl 7 rfl) ?_
  refine lv_icmp_ne (tgt := 885) hx hb dL_same_807 (by decide) (fun c807 => ?_) (fun c807 => ?_)
  · replace h := wx_iff c807 h
    exact b_L_same_885 B (k := k) hk h Z hS (lv_sub hl [0, 1, 2, 3, 4, 5, 6, 7, 8, 9, 10, 11, 12] rfl)
  · replace h := wx_ift c807 h
    refine lv_aload_n hx hb dL_same_810 rfl (lv_at hl 0 rfl) ?_
    refine lv_iconst (v := 5) hx hb dL_same_811 (by decide) ?_
    obtain ⟨v812, z812, σ812, hc812, ez812, h⟩ := wx_bM_ok h
    have m1 := m_X5_count_0 hc812
    have m2 := m_L_same_815 h
    have m3 := congrArg wx_n (wx_kMal ez812)
    refine wx_callAM (va_runV (As := [.int 5]) (rest := []) ⟨hx, hb, hml, hown, hts⟩ (c_X5_count l (D := D) (ad := ad) (rd := rd) (ca := ca) (A := wx_Am A mm) (σ := σ) hc812) (cwV 1 hts gL_same_X5_count rfl rfl rfl (by decide +kernel) ⟨Nat.le_of_ble_eq_true rfl, Nat.le_of_ble_eq_true rfl⟩) (wx_preVM hC hA Z hS rfl (rfl : vwCl[5]? = some (RX5, TX5, 7))) rfl rfl hl.1 rfl (lv_room (Nat.le_of_ble_eq_true rfl)) dL_same_812 ⟨(by show k + (wx_n z812.2.2.2.2 - wx_n σ.2.2.2.2) ≤ mc; omega), (by show 6464 * k + 6464 * (wx_n z812.2.2.2.2 - wx_n σ.2.2.2.2) ≤ 6464 * mc; omega)⟩) Z hS ez812 (fun rd H locs Z hS => ?_)
    refine W.widen (k := k + (wx_n z812.2.2.2.2 - wx_n σ.2.2.2.2)) (n := 6464 * (k + (wx_n z812.2.2.2.2 - wx_n σ.2.2.2.2))) (Nat.le_refl _) (by omega) ?_
    exact b_L_same_815 B (k := k + (wx_n z812.2.2.2.2 - wx_n σ.2.2.2.2)) (by omega) h Z hS (lv_sub hl [0, 1, 2, 3, 4, 5, 6, 7, 8, 9, 10, 11, 12] rfl)
set_option maxRecDepth 20000 in
set_option maxHeartbeats 4000000 in
theorem m_L_same_793  {r : Int32} {σ' : wx_St}  {x1 : Int64} {x8 : Int32} {x9 : Int32} {x10 : Int32} {x11 : Int32} {x13 : Int32} {y0 : Int32} {σ : wx_St} (h : f_L_same_793 x1 x8 x9 x10 x11 x13 y0 σ = some (r, σ')) : wx_n σ.2.2.2.2 ≤ wx_n σ'.2.2.2.2 := by
  unfold f_L_same_793 at h
  obtain ⟨v796, ev796, iv796, h⟩ := wx_rI_ok h
  by_cases c797 : y0 = v796
  · replace h := wx_ift c797 h
    obtain ⟨v802, z802, σ802, hc802, ez802, h⟩ := wx_bM_ok h
    refine Nat.le_trans (Nat.le_trans (m_X5_count_0 hc802) (Nat.le_of_eq (congrArg wx_n (wx_kMal ez802).symm))) ?_
    exact m_L_same_805 h
  · replace h := wx_iff c797 h
    exact m_L_same_885 h
set_option maxRecDepth 20000 in
set_option maxHeartbeats 4000000 in
theorem b_L_same_793 (B : wx_B p s m args meth c cL_same 24 (some .boolean) wsL_same RL D ad ca A)    {r : Int32} {σ' : wx_St} {mc : Nat} {mm : Nat}  {x1 : Int64} {x8 : Int32} {x9 : Int32} {x10 : Int32} {x11 : Int32} {x13 : Int32} {y0 : Int32} {σ : wx_St} {k : Nat} (hk : k + wx_n σ'.2.2.2.2 ≤ mc + wx_n σ.2.2.2.2)  (h : f_L_same_793 x1 x8 x9 x10 x11 x13 y0 σ = some (r, σ')) {rd : Nat → Nat} {H : Heap} {locs : List Loc} (Z : wx_ZM D ad rd ca A s.heap.size mm σ H) (hS : va_S A s.heap H locs) {ls : Array Slot} (hl : lv_has ls 24 [(0, .ref (ad 11 99)), (1, .long x1), (3, .ref (ad 16 0)), (4, .ref (ad 16 1)), (5, .ref (ad 16 2)), (6, .ref (ad 16 3)), (7, .ref (ad 16 4)), (8, .int x8), (9, .int x9), (10, .int x10), (11, .int x11), (12, .ref mm), (13, .int x13)]) : W p l e ({ frames := 7, cells := mc, slots := 6464 * mc, locals := 174 } : Room) s m args below meth c H locs k (6464 * k) (MQ below (wx_QA D ad ca A (some (.int r)) σ') args s mc (6464 * mc) A) (F0 m 793 ls [.int y0]) := by
  obtain ⟨hx, hb, hml, hr, hts, hown, hlk, hC, hA⟩ := id B
  have hm := m_L_same_793 h
  unfold f_L_same_793 at h
  refine lv_aload_n hx hb dL_same_793 rfl (lv_at hl 2 rfl) ?_
  refine lv_bipush (v := 6) hx hb dL_same_794 (by decide) ?_
  obtain ⟨v796, ev796, iv796, h⟩ := wx_rI_ok h
  refine wx_iald hx hb hC.1 Z.1 (o := 16) (k := 0) (n := 7) rfl rfl iv796 dL_same_796 ev796 ?_
  refine lv_icmp_ne (tgt := 885) hx hb dL_same_797 (by decide) (fun c797 => ?_) (fun c797 => ?_)
  · replace h := wx_iff c797 h
    exact b_L_same_885 B (k := k) hk h Z hS (lv_sub hl [0, 1, 2, 3, 4, 5, 6, 7, 8, 9, 10, 11, 12] rfl)
  · replace h := wx_ift c797 h
    refine lv_aload_n hx hb dL_same_800 rfl (lv_at hl 0 rfl) ?_
    refine lv_iconst (v := 4) hx hb dL_same_801 (by decide) ?_
    obtain ⟨v802, z802, σ802, hc802, ez802, h⟩ := wx_bM_ok h
    have m1 := m_X5_count_0 hc802
    have m2 := m_L_same_805 h
    have m3 := congrArg wx_n (wx_kMal ez802)
    refine wx_callAM (va_runV (As := [.int 4]) (rest := []) ⟨hx, hb, hml, hown, hts⟩ (c_X5_count l (D := D) (ad := ad) (rd := rd) (ca := ca) (A := wx_Am A mm) (σ := σ) hc802) (cwV 1 hts gL_same_X5_count rfl rfl rfl (by decide +kernel) ⟨Nat.le_of_ble_eq_true rfl, Nat.le_of_ble_eq_true rfl⟩) (wx_preVM hC hA Z hS rfl (rfl : vwCl[5]? = some (RX5, TX5, 7))) rfl rfl hl.1 rfl (lv_room (Nat.le_of_ble_eq_true rfl)) dL_same_802 ⟨(by show k + (wx_n z802.2.2.2.2 - wx_n σ.2.2.2.2) ≤ mc; omega), (by show 6464 * k + 6464 * (wx_n z802.2.2.2.2 - wx_n σ.2.2.2.2) ≤ 6464 * mc; omega)⟩) Z hS ez802 (fun rd H locs Z hS => ?_)
    refine W.widen (k := k + (wx_n z802.2.2.2.2 - wx_n σ.2.2.2.2)) (n := 6464 * (k + (wx_n z802.2.2.2.2 - wx_n σ.2.2.2.2))) (Nat.le_refl _) (by omega) ?_
    exact b_L_same_805 B (k := k + (wx_n z802.2.2.2.2 - wx_n σ.2.2.2.2)) (by omega) h Z hS (lv_sub hl [0, 1, 2, 3, 4, 5, 6, 7, 8, 9, 10, 11, 12] rfl)
set_option maxRecDepth 20000 in
set_option maxHeartbeats 4000000 in
theorem m_L_same_783  {r : Int32} {σ' : wx_St}  {x1 : Int64} {x8 : Int32} {x9 : Int32} {x10 : Int32} {x11 : Int32} {x13 : Int32} {y0 : Int32} {σ : wx_St} (h : f_L_same_783 x1 x8 x9 x10 x11 x13 y0 σ = some (r, σ')) : wx_n σ.2.2.2.2 ≤ wx_n σ'.2.2.2.2 := by
  unfold f_L_same_783 at h
  by_cases c785 : y0 = x11
  · replace h := wx_ift c785 h
    obtain ⟨v790, z790, σ790, hc790, ez790, h⟩ := wx_bM_ok h
    refine Nat.le_trans (Nat.le_trans (m_X5_count_0 hc790) (Nat.le_of_eq (congrArg wx_n (wx_kMal ez790).symm))) ?_
    exact m_L_same_793 h
  · replace h := wx_iff c785 h
    exact m_L_same_885 h
set_option maxRecDepth 20000 in
set_option maxHeartbeats 4000000 in
theorem b_L_same_783 (B : wx_B p s m args meth c cL_same 24 (some .boolean) wsL_same RL D ad ca A)    {r : Int32} {σ' : wx_St} {mc : Nat} {mm : Nat}  {x1 : Int64} {x8 : Int32} {x9 : Int32} {x10 : Int32} {x11 : Int32} {x13 : Int32} {y0 : Int32} {σ : wx_St} {k : Nat} (hk : k + wx_n σ'.2.2.2.2 ≤ mc + wx_n σ.2.2.2.2)  (h : f_L_same_783 x1 x8 x9 x10 x11 x13 y0 σ = some (r, σ')) {rd : Nat → Nat} {H : Heap} {locs : List Loc} (Z : wx_ZM D ad rd ca A s.heap.size mm σ H) (hS : va_S A s.heap H locs) {ls : Array Slot} (hl : lv_has ls 24 [(0, .ref (ad 11 99)), (1, .long x1), (3, .ref (ad 16 0)), (4, .ref (ad 16 1)), (5, .ref (ad 16 2)), (6, .ref (ad 16 3)), (7, .ref (ad 16 4)), (8, .int x8), (9, .int x9), (10, .int x10), (11, .int x11), (12, .ref mm), (13, .int x13)]) : W p l e ({ frames := 7, cells := mc, slots := 6464 * mc, locals := 174 } : Room) s m args below meth c H locs k (6464 * k) (MQ below (wx_QA D ad ca A (some (.int r)) σ') args s mc (6464 * mc) A) (F0 m 783 ls [.int y0]) := by
  obtain ⟨hx, hb, hml, hr, hts, hown, hlk, hC, hA⟩ := id B
  have hm := m_L_same_783 h
  unfold f_L_same_783 at h
  refine lv_iload hx hb dL_same_783 (lv_at hl 10 rfl) ?_
  refine lv_icmp_ne (tgt := 885) hx hb dL_same_785 (by decide) (fun c785 => ?_) (fun c785 => ?_)
  · replace h := wx_iff c785 h
    exact b_L_same_885 B (k := k) hk h Z hS (lv_sub hl [0, 1, 2, 3, 4, 5, 6, 7, 8, 9, 10, 11, 12] rfl)
  · replace h := wx_ift c785 h
    refine lv_aload_n hx hb dL_same_788 rfl (lv_at hl 0 rfl) ?_
    refine lv_iconst (v := 3) hx hb dL_same_789 (by decide) ?_
    obtain ⟨v790, z790, σ790, hc790, ez790, h⟩ := wx_bM_ok h
    have m1 := m_X5_count_0 hc790
    have m2 := m_L_same_793 h
    have m3 := congrArg wx_n (wx_kMal ez790)
    refine wx_callAM (va_runV (As := [.int 3]) (rest := []) ⟨hx, hb, hml, hown, hts⟩ (c_X5_count l (D := D) (ad := ad) (rd := rd) (ca := ca) (A := wx_Am A mm) (σ := σ) hc790) (cwV 1 hts gL_same_X5_count rfl rfl rfl (by decide +kernel) ⟨Nat.le_of_ble_eq_true rfl, Nat.le_of_ble_eq_true rfl⟩) (wx_preVM hC hA Z hS rfl (rfl : vwCl[5]? = some (RX5, TX5, 7))) rfl rfl hl.1 rfl (lv_room (Nat.le_of_ble_eq_true rfl)) dL_same_790 ⟨(by show k + (wx_n z790.2.2.2.2 - wx_n σ.2.2.2.2) ≤ mc; omega), (by show 6464 * k + 6464 * (wx_n z790.2.2.2.2 - wx_n σ.2.2.2.2) ≤ 6464 * mc; omega)⟩) Z hS ez790 (fun rd H locs Z hS => ?_)
    refine W.widen (k := k + (wx_n z790.2.2.2.2 - wx_n σ.2.2.2.2)) (n := 6464 * (k + (wx_n z790.2.2.2.2 - wx_n σ.2.2.2.2))) (Nat.le_refl _) (by omega) ?_
    exact b_L_same_793 B (k := k + (wx_n z790.2.2.2.2 - wx_n σ.2.2.2.2)) (by omega) h Z hS (lv_sub hl [0, 1, 2, 3, 4, 5, 6, 7, 8, 9, 10, 11, 12] rfl)
set_option maxRecDepth 20000 in
set_option maxHeartbeats 4000000 in
theorem m_L_same_772  {r : Int32} {σ' : wx_St}  {x1 : Int64} {x8 : Int32} {x9 : Int32} {x10 : Int32} {x11 : Int32} {x13 : Int32} {y0 : Int32} {σ : wx_St} (h : f_L_same_772 x1 x8 x9 x10 x11 x13 y0 σ = some (r, σ')) : wx_n σ.2.2.2.2 ≤ wx_n σ'.2.2.2.2 := by
  unfold f_L_same_772 at h
  obtain ⟨v774, ev774, iv774, h⟩ := wx_rI_ok h
  by_cases c775 : y0 = v774
  · replace h := wx_ift c775 h
    obtain ⟨v780, z780, σ780, hc780, ez780, h⟩ := wx_bM_ok h
    refine Nat.le_trans (Nat.le_trans (m_X5_count_0 hc780) (Nat.le_of_eq (congrArg wx_n (wx_kMal ez780).symm))) ?_
    exact m_L_same_783 h
  · replace h := wx_iff c775 h
    exact m_L_same_885 h
set_option maxRecDepth 20000 in
set_option maxHeartbeats 4000000 in
theorem b_L_same_772 (B : wx_B p s m args meth c cL_same 24 (some .boolean) wsL_same RL D ad ca A)    {r : Int32} {σ' : wx_St} {mc : Nat} {mm : Nat}  {x1 : Int64} {x8 : Int32} {x9 : Int32} {x10 : Int32} {x11 : Int32} {x13 : Int32} {y0 : Int32} {σ : wx_St} {k : Nat} (hk : k + wx_n σ'.2.2.2.2 ≤ mc + wx_n σ.2.2.2.2)  (h : f_L_same_772 x1 x8 x9 x10 x11 x13 y0 σ = some (r, σ')) {rd : Nat → Nat} {H : Heap} {locs : List Loc} (Z : wx_ZM D ad rd ca A s.heap.size mm σ H) (hS : va_S A s.heap H locs) {ls : Array Slot} (hl : lv_has ls 24 [(0, .ref (ad 11 99)), (1, .long x1), (3, .ref (ad 16 0)), (4, .ref (ad 16 1)), (5, .ref (ad 16 2)), (6, .ref (ad 16 3)), (7, .ref (ad 16 4)), (8, .int x8), (9, .int x9), (10, .int x10), (11, .int x11), (12, .ref mm), (13, .int x13)]) : W p l e ({ frames := 7, cells := mc, slots := 6464 * mc, locals := 174 } : Room) s m args below meth c H locs k (6464 * k) (MQ below (wx_QA D ad ca A (some (.int r)) σ') args s mc (6464 * mc) A) (F0 m 772 ls [.int y0]) := by
  obtain ⟨hx, hb, hml, hr, hts, hown, hlk, hC, hA⟩ := id B
  have hm := m_L_same_772 h
  unfold f_L_same_772 at h
  refine lv_aload_n hx hb dL_same_772 rfl (lv_at hl 2 rfl) ?_
  refine lv_iconst (v := 5) hx hb dL_same_773 (by decide) ?_
  obtain ⟨v774, ev774, iv774, h⟩ := wx_rI_ok h
  refine wx_iald hx hb hC.1 Z.1 (o := 16) (k := 0) (n := 7) rfl rfl iv774 dL_same_774 ev774 ?_
  refine lv_icmp_ne (tgt := 885) hx hb dL_same_775 (by decide) (fun c775 => ?_) (fun c775 => ?_)
  · replace h := wx_iff c775 h
    exact b_L_same_885 B (k := k) hk h Z hS (lv_sub hl [0, 1, 2, 3, 4, 5, 6, 7, 8, 9, 10, 11, 12] rfl)
  · replace h := wx_ift c775 h
    refine lv_aload_n hx hb dL_same_778 rfl (lv_at hl 0 rfl) ?_
    refine lv_iconst (v := 2) hx hb dL_same_779 (by decide) ?_
    obtain ⟨v780, z780, σ780, hc780, ez780, h⟩ := wx_bM_ok h
    have m1 := m_X5_count_0 hc780
    have m2 := m_L_same_783 h
    have m3 := congrArg wx_n (wx_kMal ez780)
    refine wx_callAM (va_runV (As := [.int 2]) (rest := []) ⟨hx, hb, hml, hown, hts⟩ (c_X5_count l (D := D) (ad := ad) (rd := rd) (ca := ca) (A := wx_Am A mm) (σ := σ) hc780) (cwV 1 hts gL_same_X5_count rfl rfl rfl (by decide +kernel) ⟨Nat.le_of_ble_eq_true rfl, Nat.le_of_ble_eq_true rfl⟩) (wx_preVM hC hA Z hS rfl (rfl : vwCl[5]? = some (RX5, TX5, 7))) rfl rfl hl.1 rfl (lv_room (Nat.le_of_ble_eq_true rfl)) dL_same_780 ⟨(by show k + (wx_n z780.2.2.2.2 - wx_n σ.2.2.2.2) ≤ mc; omega), (by show 6464 * k + 6464 * (wx_n z780.2.2.2.2 - wx_n σ.2.2.2.2) ≤ 6464 * mc; omega)⟩) Z hS ez780 (fun rd H locs Z hS => ?_)
    refine W.widen (k := k + (wx_n z780.2.2.2.2 - wx_n σ.2.2.2.2)) (n := 6464 * (k + (wx_n z780.2.2.2.2 - wx_n σ.2.2.2.2))) (Nat.le_refl _) (by omega) ?_
    exact b_L_same_783 B (k := k + (wx_n z780.2.2.2.2 - wx_n σ.2.2.2.2)) (by omega) h Z hS (lv_sub hl [0, 1, 2, 3, 4, 5, 6, 7, 8, 9, 10, 11, 12] rfl)
set_option maxRecDepth 20000 in
set_option maxHeartbeats 4000000 in
theorem m_L_same_761  {r : Int32} {σ' : wx_St}  {x1 : Int64} {x8 : Int32} {x9 : Int32} {x10 : Int32} {x11 : Int32} {x13 : Int32} {y0 : Int32} {σ : wx_St} (h : f_L_same_761 x1 x8 x9 x10 x11 x13 y0 σ = some (r, σ')) : wx_n σ.2.2.2.2 ≤ wx_n σ'.2.2.2.2 := by
  unfold f_L_same_761 at h
  obtain ⟨v763, ev763, iv763, h⟩ := wx_rI_ok h
  by_cases c764 : y0 = v763
  · replace h := wx_ift c764 h
    obtain ⟨v769, z769, σ769, hc769, ez769, h⟩ := wx_bM_ok h
    refine Nat.le_trans (Nat.le_trans (m_X5_count_0 hc769) (Nat.le_of_eq (congrArg wx_n (wx_kMal ez769).symm))) ?_
    exact m_L_same_772 h
  · replace h := wx_iff c764 h
    exact m_L_same_885 h
set_option maxRecDepth 20000 in
set_option maxHeartbeats 4000000 in
theorem b_L_same_761 (B : wx_B p s m args meth c cL_same 24 (some .boolean) wsL_same RL D ad ca A)    {r : Int32} {σ' : wx_St} {mc : Nat} {mm : Nat}  {x1 : Int64} {x8 : Int32} {x9 : Int32} {x10 : Int32} {x11 : Int32} {x13 : Int32} {y0 : Int32} {σ : wx_St} {k : Nat} (hk : k + wx_n σ'.2.2.2.2 ≤ mc + wx_n σ.2.2.2.2)  (h : f_L_same_761 x1 x8 x9 x10 x11 x13 y0 σ = some (r, σ')) {rd : Nat → Nat} {H : Heap} {locs : List Loc} (Z : wx_ZM D ad rd ca A s.heap.size mm σ H) (hS : va_S A s.heap H locs) {ls : Array Slot} (hl : lv_has ls 24 [(0, .ref (ad 11 99)), (1, .long x1), (3, .ref (ad 16 0)), (4, .ref (ad 16 1)), (5, .ref (ad 16 2)), (6, .ref (ad 16 3)), (7, .ref (ad 16 4)), (8, .int x8), (9, .int x9), (10, .int x10), (11, .int x11), (12, .ref mm), (13, .int x13)]) : W p l e ({ frames := 7, cells := mc, slots := 6464 * mc, locals := 174 } : Room) s m args below meth c H locs k (6464 * k) (MQ below (wx_QA D ad ca A (some (.int r)) σ') args s mc (6464 * mc) A) (F0 m 761 ls [.int y0]) := by
  obtain ⟨hx, hb, hml, hr, hts, hown, hlk, hC, hA⟩ := id B
  have hm := m_L_same_761 h
  unfold f_L_same_761 at h
  refine lv_aload_n hx hb dL_same_761 rfl (lv_at hl 2 rfl) ?_
  refine lv_iconst (v := 4) hx hb dL_same_762 (by decide) ?_
  obtain ⟨v763, ev763, iv763, h⟩ := wx_rI_ok h
  refine wx_iald hx hb hC.1 Z.1 (o := 16) (k := 0) (n := 7) rfl rfl iv763 dL_same_763 ev763 ?_
  refine lv_icmp_ne (tgt := 885) hx hb dL_same_764 (by decide) (fun c764 => ?_) (fun c764 => ?_)
  · replace h := wx_iff c764 h
    exact b_L_same_885 B (k := k) hk h Z hS (lv_sub hl [0, 1, 2, 3, 4, 5, 6, 7, 8, 9, 10, 11, 12] rfl)
  · replace h := wx_ift c764 h
    refine lv_aload_n hx hb dL_same_767 rfl (lv_at hl 0 rfl) ?_
    refine lv_iconst (v := 1) hx hb dL_same_768 (by decide) ?_
    obtain ⟨v769, z769, σ769, hc769, ez769, h⟩ := wx_bM_ok h
    have m1 := m_X5_count_0 hc769
    have m2 := m_L_same_772 h
    have m3 := congrArg wx_n (wx_kMal ez769)
    refine wx_callAM (va_runV (As := [.int 1]) (rest := []) ⟨hx, hb, hml, hown, hts⟩ (c_X5_count l (D := D) (ad := ad) (rd := rd) (ca := ca) (A := wx_Am A mm) (σ := σ) hc769) (cwV 1 hts gL_same_X5_count rfl rfl rfl (by decide +kernel) ⟨Nat.le_of_ble_eq_true rfl, Nat.le_of_ble_eq_true rfl⟩) (wx_preVM hC hA Z hS rfl (rfl : vwCl[5]? = some (RX5, TX5, 7))) rfl rfl hl.1 rfl (lv_room (Nat.le_of_ble_eq_true rfl)) dL_same_769 ⟨(by show k + (wx_n z769.2.2.2.2 - wx_n σ.2.2.2.2) ≤ mc; omega), (by show 6464 * k + 6464 * (wx_n z769.2.2.2.2 - wx_n σ.2.2.2.2) ≤ 6464 * mc; omega)⟩) Z hS ez769 (fun rd H locs Z hS => ?_)
    refine W.widen (k := k + (wx_n z769.2.2.2.2 - wx_n σ.2.2.2.2)) (n := 6464 * (k + (wx_n z769.2.2.2.2 - wx_n σ.2.2.2.2))) (Nat.le_refl _) (by omega) ?_
    exact b_L_same_772 B (k := k + (wx_n z769.2.2.2.2 - wx_n σ.2.2.2.2)) (by omega) h Z hS (lv_sub hl [0, 1, 2, 3, 4, 5, 6, 7, 8, 9, 10, 11, 12] rfl)
set_option maxRecDepth 20000 in
set_option maxHeartbeats 4000000 in
theorem m_L_same_726  {r : Int32} {σ' : wx_St}  :
    ∀ {n : Nat} {x1 : Int64} {x8 : Int32} {x9 : Int32} {x10 : Int32} {x11 : Int32} {x13 : Int32} {σ : wx_St} (h : f_L_same_726 n x1 x8 x9 x10 x11 x13 σ = some (r, σ')), wx_n σ.2.2.2.2 ≤ wx_n σ'.2.2.2.2 := by
  intro n
  induction n with
  | zero => intro x1 x8 x9 x10 x11 x13 σ h; exact wx_no h
  | succ n ih =>
    intro x1 x8 x9 x10 x11 x13 σ h
    rw [f_L_same_726] at h
    by_cases c729 : 4 ≤ x13
    · replace h := wx_ift c729 h
      obtain ⟨v758, z758, σ758, hc758, ez758, h⟩ := wx_bM_ok h
      refine Nat.le_trans (Nat.le_trans (m_X5_count_0 hc758) (Nat.le_of_eq (congrArg wx_n (wx_kMal ez758).symm))) ?_
      exact m_L_same_761 h
    · replace h := wx_iff c729 h
      obtain ⟨v738, z738, σ738, hc738, ez738, h⟩ := wx_bM_ok h
      refine Nat.le_trans (Nat.le_trans (m_X5_count_0 hc738) (Nat.le_of_eq (congrArg wx_n (wx_kMal ez738).symm))) ?_
      exact m_L_same_741 (K726 := (f_L_same_726 n)) @ih h
set_option maxRecDepth 20000 in
set_option maxHeartbeats 4000000 in
theorem b_L_same_726 (B : wx_B p s m args meth c cL_same 24 (some .boolean) wsL_same RL D ad ca A)    {r : Int32} {σ' : wx_St} {mc : Nat} {mm : Nat}   :
    ∀ {n : Nat} {x1 : Int64} {x8 : Int32} {x9 : Int32} {x10 : Int32} {x11 : Int32} {x13 : Int32} {σ : wx_St} {k : Nat} (hk : k + wx_n σ'.2.2.2.2 ≤ mc + wx_n σ.2.2.2.2)  (h : f_L_same_726 n x1 x8 x9 x10 x11 x13 σ = some (r, σ')) {rd : Nat → Nat} {H : Heap} {locs : List Loc} (Z : wx_ZM D ad rd ca A s.heap.size mm σ H) (hS : va_S A s.heap H locs) {ls : Array Slot} (hl : lv_has ls 24 [(0, .ref (ad 11 99)), (1, .long x1), (3, .ref (ad 16 0)), (4, .ref (ad 16 1)), (5, .ref (ad 16 2)), (6, .ref (ad 16 3)), (7, .ref (ad 16 4)), (8, .int x8), (9, .int x9), (10, .int x10), (11, .int x11), (12, .ref mm), (13, .int x13)]), W p l e ({ frames := 7, cells := mc, slots := 6464 * mc, locals := 174 } : Room) s m args below meth c H locs k (6464 * k) (MQ below (wx_QA D ad ca A (some (.int r)) σ') args s mc (6464 * mc) A) (F0 m 726 ls []) := by
  obtain ⟨hx, hb, hml, hr, hts, hown, hlk, hC, hA⟩ := id B
  intro n
  induction n with
  | zero => intro x1 x8 x9 x10 x11 x13 σ k hk  h rd H locs Z hS ls hl; exact wx_no h
  | succ n ih =>
    intro x1 x8 x9 x10 x11 x13 σ k hk  h rd H locs Z hS ls hl
    have hm := m_L_same_726 h
    have mih : ∀ {x1 : Int64} {x8 : Int32} {x9 : Int32} {x10 : Int32} {x11 : Int32} {x13 : Int32} {σ : wx_St}, f_L_same_726 n x1 x8 x9 x10 x11 x13 σ = some (r, σ') → wx_n σ.2.2.2.2 ≤ wx_n σ'.2.2.2.2 := fun h => m_L_same_726 h
    rw [f_L_same_726] at h
    refine lv_iload hx hb dL_same_726 (lv_at hl 12 rfl) ?_
    refine lv_iconst (v := 4) hx hb dL_same_728 (by decide) ?_
    refine lv_icmp_ge (tgt := 756) hx hb dL_same_729 (by decide) (fun c729 => ?_) (fun c729 => ?_)
    · replace h := wx_ift c729 h
      refine lv_aload_n hx hb dL_same_756 rfl (lv_at hl 0 rfl) ?_
      refine lv_iconst (v := 0) hx hb dL_same_757 (by decide) ?_
      obtain ⟨v758, z758, σ758, hc758, ez758, h⟩ := wx_bM_ok h
      have m1 := m_X5_count_0 hc758
      have m2 := m_L_same_761 h
      have m3 := congrArg wx_n (wx_kMal ez758)
      refine wx_callAM (va_runV (As := [.int 0]) (rest := []) ⟨hx, hb, hml, hown, hts⟩ (c_X5_count l (D := D) (ad := ad) (rd := rd) (ca := ca) (A := wx_Am A mm) (σ := σ) hc758) (cwV 1 hts gL_same_X5_count rfl rfl rfl (by decide +kernel) ⟨Nat.le_of_ble_eq_true rfl, Nat.le_of_ble_eq_true rfl⟩) (wx_preVM hC hA Z hS rfl (rfl : vwCl[5]? = some (RX5, TX5, 7))) rfl rfl hl.1 rfl (lv_room (Nat.le_of_ble_eq_true rfl)) dL_same_758 ⟨(by show k + (wx_n z758.2.2.2.2 - wx_n σ.2.2.2.2) ≤ mc; omega), (by show 6464 * k + 6464 * (wx_n z758.2.2.2.2 - wx_n σ.2.2.2.2) ≤ 6464 * mc; omega)⟩) Z hS ez758 (fun rd H locs Z hS => ?_)
      refine W.widen (k := k + (wx_n z758.2.2.2.2 - wx_n σ.2.2.2.2)) (n := 6464 * (k + (wx_n z758.2.2.2.2 - wx_n σ.2.2.2.2))) (Nat.le_refl _) (by omega) ?_
      exact b_L_same_761 B (k := k + (wx_n z758.2.2.2.2 - wx_n σ.2.2.2.2)) (by omega) h Z hS (lv_sub hl [0, 1, 2, 3, 4, 5, 6, 7, 8, 9, 10, 11, 12] rfl)
    · replace h := wx_iff c729 h
      refine lv_aload_n hx hb dL_same_732 rfl (lv_at hl 0 rfl) ?_
      refine lv_bipush (v := 9) hx hb dL_same_733 (by decide) ?_
      refine lv_iload hx hb dL_same_735 (lv_at hl 12 rfl) ?_
      refine lv_iadd hx hb dL_same_737 ?_
      obtain ⟨v738, z738, σ738, hc738, ez738, h⟩ := wx_bM_ok h
      have m1 := m_X5_count_0 hc738
      have m2 := m_L_same_741 (K726 := (f_L_same_726 n)) mih h
      have m3 := congrArg wx_n (wx_kMal ez738)
      refine wx_callAM (va_runV (As := [.int (9 + x13)]) (rest := []) ⟨hx, hb, hml, hown, hts⟩ (c_X5_count l (D := D) (ad := ad) (rd := rd) (ca := ca) (A := wx_Am A mm) (σ := σ) hc738) (cwV 1 hts gL_same_X5_count rfl rfl rfl (by decide +kernel) ⟨Nat.le_of_ble_eq_true rfl, Nat.le_of_ble_eq_true rfl⟩) (wx_preVM hC hA Z hS rfl (rfl : vwCl[5]? = some (RX5, TX5, 7))) rfl rfl hl.1 rfl (lv_room (Nat.le_of_ble_eq_true rfl)) dL_same_738 ⟨(by show k + (wx_n z738.2.2.2.2 - wx_n σ.2.2.2.2) ≤ mc; omega), (by show 6464 * k + 6464 * (wx_n z738.2.2.2.2 - wx_n σ.2.2.2.2) ≤ 6464 * mc; omega)⟩) Z hS ez738 (fun rd H locs Z hS => ?_)
      refine W.widen (k := k + (wx_n z738.2.2.2.2 - wx_n σ.2.2.2.2)) (n := 6464 * (k + (wx_n z738.2.2.2.2 - wx_n σ.2.2.2.2))) (Nat.le_refl _) (by omega) ?_
      exact b_L_same_741 B (K726 := (f_L_same_726 n)) @ih mih (k := k + (wx_n z738.2.2.2.2 - wx_n σ.2.2.2.2)) (by omega) h Z hS (lv_sub hl [0, 1, 2, 3, 4, 5, 6, 7, 8, 9, 10, 11, 12] rfl)
set_option maxRecDepth 20000 in
set_option maxHeartbeats 4000000 in
theorem m_L_same_678  {r : Int32} {σ' : wx_St}  :
    ∀ {n : Nat} {x1 : Int64} {x8 : Int32} {x9 : Int32} {x10 : Int32} {x11 : Int32} {x13 : Int32} {σ : wx_St} (h : f_L_same_678 n x1 x8 x9 x10 x11 x13 σ = some (r, σ')), wx_n σ.2.2.2.2 ≤ wx_n σ'.2.2.2.2 := by
  intro n
  induction n with
  | zero => intro x1 x8 x9 x10 x11 x13 σ h; exact wx_no h
  | succ n ih =>
    intro x1 x8 x9 x10 x11 x13 σ h
    rw [f_L_same_678] at h
    by_cases c682 : 8 ≤ x13
    · replace h := wx_ift c682 h
      exact m_L_same_726 h
    · replace h := wx_iff c682 h
      obtain ⟨v689, hc689, h⟩ := wx_o_ok h
      obtain ⟨v696, ev696, iv696, h⟩ := wx_rI_ok h
      by_cases c697 : v689 = v696
      · replace h := wx_ift c697 h
        obtain ⟨v704, hc704, h⟩ := wx_o_ok h
        obtain ⟨v711, ev711, iv711, h⟩ := wx_rI_ok h
        by_cases c712 : v704 = v711
        · replace h := wx_ift c712 h
          exact ih h
        · replace h := wx_iff c712 h
          exact m_L_same_715 h
      · replace h := wx_iff c697 h
        exact m_L_same_715 h
set_option maxRecDepth 20000 in
set_option maxHeartbeats 4000000 in
theorem b_L_same_678 (B : wx_B p s m args meth c cL_same 24 (some .boolean) wsL_same RL D ad ca A)    {r : Int32} {σ' : wx_St} {mc : Nat} {mm : Nat}   :
    ∀ {n : Nat} {x1 : Int64} {x8 : Int32} {x9 : Int32} {x10 : Int32} {x11 : Int32} {x13 : Int32} {σ : wx_St} {k : Nat} (hk : k + wx_n σ'.2.2.2.2 ≤ mc + wx_n σ.2.2.2.2)  (h : f_L_same_678 n x1 x8 x9 x10 x11 x13 σ = some (r, σ')) {rd : Nat → Nat} {H : Heap} {locs : List Loc} (Z : wx_ZM D ad rd ca A s.heap.size mm σ H) (hS : va_S A s.heap H locs) {ls : Array Slot} (hl : lv_has ls 24 [(0, .ref (ad 11 99)), (1, .long x1), (3, .ref (ad 16 0)), (4, .ref (ad 16 1)), (5, .ref (ad 16 2)), (6, .ref (ad 16 3)), (7, .ref (ad 16 4)), (8, .int x8), (9, .int x9), (10, .int x10), (11, .int x11), (12, .ref mm), (13, .int x13)]), W p l e ({ frames := 7, cells := mc, slots := 6464 * mc, locals := 174 } : Room) s m args below meth c H locs k (6464 * k) (MQ below (wx_QA D ad ca A (some (.int r)) σ') args s mc (6464 * mc) A) (F0 m 678 ls []) := by
  obtain ⟨hx, hb, hml, hr, hts, hown, hlk, hC, hA⟩ := id B
  intro n
  induction n with
  | zero => intro x1 x8 x9 x10 x11 x13 σ k hk  h rd H locs Z hS ls hl; exact wx_no h
  | succ n ih =>
    intro x1 x8 x9 x10 x11 x13 σ k hk  h rd H locs Z hS ls hl
    have hm := m_L_same_678 h
    have mih : ∀ {x1 : Int64} {x8 : Int32} {x9 : Int32} {x10 : Int32} {x11 : Int32} {x13 : Int32} {σ : wx_St}, f_L_same_678 n x1 x8 x9 x10 x11 x13 σ = some (r, σ') → wx_n σ.2.2.2.2 ≤ wx_n σ'.2.2.2.2 := fun h => m_L_same_678 h
    rw [f_L_same_678] at h
    refine lv_iload hx hb dL_same_678 (lv_at hl 12 rfl) ?_
    refine lv_bipush (v := 8) hx hb dL_same_680 (by decide) ?_
    refine lv_icmp_ge (tgt := 723) hx hb dL_same_682 (by decide) (fun c682 => ?_) (fun c682 => ?_)
    · replace h := wx_ift c682 h
      refine lv_iconst (v := 0) hx hb dL_same_723 (by decide) ?_
      refine lv_istore (lv' := [(13, .int 0), (0, .ref (ad 11 99)), (1, .long x1), (3, .ref (ad 16 0)), (4, .ref (ad 16 1)), (5, .ref (ad 16 2)), (6, .ref (ad 16 3)), (7, .ref (ad 16 4)), (8, .int x8), (9, .int x9), (10, .int x10), (11, .int x11), (12, .ref mm)]) hx hb dL_same_724 hl (by decide) rfl (fun ls hl => ?_)
      exact b_L_same_726 B (k := k) hk h Z hS (lv_sub hl [1, 2, 3, 4, 5, 6, 7, 8, 9, 10, 11, 12, 0] rfl)
    · replace h := wx_iff c682 h
      refine lv_aload_n hx hb dL_same_685 rfl (lv_at hl 0 rfl) ?_
      refine lv_iload hx hb dL_same_686 (lv_at hl 12 rfl) ?_
      refine lv_iconst (v := 0) hx hb dL_same_688 (by decide) ?_
      obtain ⟨v689, hc689, h⟩ := wx_o_ok h
      refine wx_callM (va_runV (As := [.int x13, .int 0]) (rest := []) ⟨hx, hb, hml, hown, hts⟩ (c_X5_ofNet l (D := D) (ad := ad) (rd := rd) (ca := ca) (A := wx_Am A mm) (σ := σ) hc689) (cwV 2 hts gL_same_X5_ofNet rfl rfl rfl (by decide +kernel) ⟨Nat.le_of_ble_eq_true rfl, Nat.le_of_ble_eq_true rfl⟩) (wx_preVM hC hA Z hS rfl (rfl : vwCl[5]? = some (RX5, TX5, 7))) rfl rfl hl.1 rfl (lv_room (Nat.le_of_ble_eq_true rfl)) dL_same_689 ⟨(by show k + 0 ≤ mc; omega), (by show 6464 * k + 0 ≤ 6464 * mc; omega)⟩) Z hS (fun H locs Z hS => ?_)
      refine lv_aload hx hb dL_same_692 (lv_at hl 11 rfl) ?_
      refine lv_iload hx hb dL_same_694 (lv_at hl 12 rfl) ?_
      obtain ⟨v696, ev696, iv696, h⟩ := wx_rI_ok h
      refine wx_ialdM hx hb hC.1 Z iv696 dL_same_696 ev696 ?_
      refine lv_icmp_ne (tgt := 715) hx hb dL_same_697 (by decide) (fun c697 => ?_) (fun c697 => ?_)
      · replace h := wx_iff c697 h
        exact b_L_same_715 B (k := k) hk h Z hS (lv_sub hl [0, 1, 2, 3, 4, 5, 6, 7, 8, 9, 10, 11, 12] rfl)
      · replace h := wx_ift c697 h
        refine lv_aload_n hx hb dL_same_700 rfl (lv_at hl 0 rfl) ?_
        refine lv_iload hx hb dL_same_701 (lv_at hl 12 rfl) ?_
        refine lv_iconst (v := 1) hx hb dL_same_703 (by decide) ?_
        obtain ⟨v704, hc704, h⟩ := wx_o_ok h
        refine wx_callM (va_runV (As := [.int x13, .int 1]) (rest := []) ⟨hx, hb, hml, hown, hts⟩ (c_X5_ofNet l (D := D) (ad := ad) (rd := rd) (ca := ca) (A := wx_Am A mm) (σ := σ) hc704) (cwV 2 hts gL_same_X5_ofNet rfl rfl rfl (by decide +kernel) ⟨Nat.le_of_ble_eq_true rfl, Nat.le_of_ble_eq_true rfl⟩) (wx_preVM hC hA Z hS rfl (rfl : vwCl[5]? = some (RX5, TX5, 7))) rfl rfl hl.1 rfl (lv_room (Nat.le_of_ble_eq_true rfl)) dL_same_704 ⟨(by show k + 0 ≤ mc; omega), (by show 6464 * k + 0 ≤ 6464 * mc; omega)⟩) Z hS (fun H locs Z hS => ?_)
        refine lv_aload hx hb dL_same_707 (lv_at hl 6 rfl) ?_
        refine lv_iload hx hb dL_same_709 (lv_at hl 12 rfl) ?_
        obtain ⟨v711, ev711, iv711, h⟩ := wx_rI_ok h
        refine wx_iald hx hb hC.1 Z.1 (o := 16) (k := 4) (n := 8) rfl rfl iv711 dL_same_711 ev711 ?_
        refine lv_icmp_eq (tgt := 717) hx hb dL_same_712 (by decide) (fun c712 => ?_) (fun c712 => ?_)
        · replace h := wx_ift c712 h
          refine lv_iinc (v := x13 + 1) (lv' := [(13, .int (x13 + 1)), (0, .ref (ad 11 99)), (1, .long x1), (3, .ref (ad 16 0)), (4, .ref (ad 16 1)), (5, .ref (ad 16 2)), (6, .ref (ad 16 3)), (7, .ref (ad 16 4)), (8, .int x8), (9, .int x9), (10, .int x10), (11, .int x11), (12, .ref mm)]) hx hb dL_same_717 hl (k := 12) rfl rfl (by decide) rfl (fun ls hl => ?_)
          refine lv_goto (tgt := 678) hx hb dL_same_720 (by decide) ?_
          exact ih (k := k) hk h Z hS (lv_sub hl [1, 2, 3, 4, 5, 6, 7, 8, 9, 10, 11, 12, 0] rfl)
        · replace h := wx_iff c712 h
          exact b_L_same_715 B (k := k) hk h Z hS (lv_sub hl [0, 1, 2, 3, 4, 5, 6, 7, 8, 9, 10, 11, 12] rfl)
set_option maxRecDepth 20000 in
set_option maxHeartbeats 4000000 in
theorem m_L_same_603  {r : Int32} {σ' : wx_St}  :
    ∀ {n : Nat} {x1 : Int64} {x8 : Int32} {x9 : Int32} {x10 : Int32} {x11 : Int32} {x13 : Int32} {σ : wx_St} (h : f_L_same_603 n x1 x8 x9 x10 x11 x13 σ = some (r, σ')), wx_n σ.2.2.2.2 ≤ wx_n σ'.2.2.2.2 := by
  intro n
  induction n with
  | zero => intro x1 x8 x9 x10 x11 x13 σ h; exact wx_no h
  | succ n ih =>
    intro x1 x8 x9 x10 x11 x13 σ h
    rw [f_L_same_603] at h
    obtain ⟨v608, ev608, iv608, h⟩ := wx_rI_ok h
    by_cases c609 : v608 ≤ x13
    · replace h := wx_ift c609 h
      exact m_L_same_678 h
    · replace h := wx_iff c609 h
      obtain ⟨v616, hc616, h⟩ := wx_o_ok h
      obtain ⟨v625, ev625, iv625, h⟩ := wx_rI_ok h
      by_cases c626 : v616 = v625
      · replace h := wx_ift c626 h
        obtain ⟨v633, hc633, h⟩ := wx_o_ok h
        obtain ⟨v644, ev644, iv644, h⟩ := wx_rI_ok h
        by_cases c645 : v633 = v644
        · replace h := wx_ift c645 h
          obtain ⟨v652, hc652, h⟩ := wx_o_ok h
          obtain ⟨v663, ev663, iv663, h⟩ := wx_rI_ok h
          by_cases c664 : v652 = v663
          · replace h := wx_ift c664 h
            exact ih h
          · replace h := wx_iff c664 h
            exact m_L_same_667 h
        · replace h := wx_iff c645 h
          exact m_L_same_667 h
      · replace h := wx_iff c626 h
        exact m_L_same_667 h
set_option maxRecDepth 20000 in
set_option maxHeartbeats 4000000 in
theorem b_L_same_603 (B : wx_B p s m args meth c cL_same 24 (some .boolean) wsL_same RL D ad ca A)    {r : Int32} {σ' : wx_St} {mc : Nat} {mm : Nat}   :
    ∀ {n : Nat} {x1 : Int64} {x8 : Int32} {x9 : Int32} {x10 : Int32} {x11 : Int32} {x13 : Int32} {σ : wx_St} {k : Nat} (hk : k + wx_n σ'.2.2.2.2 ≤ mc + wx_n σ.2.2.2.2)  (h : f_L_same_603 n x1 x8 x9 x10 x11 x13 σ = some (r, σ')) {rd : Nat → Nat} {H : Heap} {locs : List Loc} (Z : wx_ZM D ad rd ca A s.heap.size mm σ H) (hS : va_S A s.heap H locs) {ls : Array Slot} (hl : lv_has ls 24 [(0, .ref (ad 11 99)), (1, .long x1), (3, .ref (ad 16 0)), (4, .ref (ad 16 1)), (5, .ref (ad 16 2)), (6, .ref (ad 16 3)), (7, .ref (ad 16 4)), (8, .int x8), (9, .int x9), (10, .int x10), (11, .int x11), (12, .ref mm), (13, .int x13)]), W p l e ({ frames := 7, cells := mc, slots := 6464 * mc, locals := 174 } : Room) s m args below meth c H locs k (6464 * k) (MQ below (wx_QA D ad ca A (some (.int r)) σ') args s mc (6464 * mc) A) (F0 m 603 ls []) := by
  obtain ⟨hx, hb, hml, hr, hts, hown, hlk, hC, hA⟩ := id B
  intro n
  induction n with
  | zero => intro x1 x8 x9 x10 x11 x13 σ k hk  h rd H locs Z hS ls hl; exact wx_no h
  | succ n ih =>
    intro x1 x8 x9 x10 x11 x13 σ k hk  h rd H locs Z hS ls hl
    have hm := m_L_same_603 h
    have mih : ∀ {x1 : Int64} {x8 : Int32} {x9 : Int32} {x10 : Int32} {x11 : Int32} {x13 : Int32} {σ : wx_St}, f_L_same_603 n x1 x8 x9 x10 x11 x13 σ = some (r, σ') → wx_n σ.2.2.2.2 ≤ wx_n σ'.2.2.2.2 := fun h => m_L_same_603 h
    rw [f_L_same_603] at h
    refine lv_iload hx hb dL_same_603 (lv_at hl 12 rfl) ?_
    refine lv_aload_n hx hb dL_same_605 rfl (lv_at hl 2 rfl) ?_
    refine lv_bipush (v := 6) hx hb dL_same_606 (by decide) ?_
    obtain ⟨v608, ev608, iv608, h⟩ := wx_rI_ok h
    refine wx_iald hx hb hC.1 Z.1 (o := 16) (k := 0) (n := 7) rfl rfl iv608 dL_same_608 ev608 ?_
    refine lv_icmp_ge (tgt := 675) hx hb dL_same_609 (by decide) (fun c609 => ?_) (fun c609 => ?_)
    · replace h := wx_ift c609 h
      refine lv_iconst (v := 1) hx hb dL_same_675 (by decide) ?_
      refine lv_istore (lv' := [(13, .int 1), (0, .ref (ad 11 99)), (1, .long x1), (3, .ref (ad 16 0)), (4, .ref (ad 16 1)), (5, .ref (ad 16 2)), (6, .ref (ad 16 3)), (7, .ref (ad 16 4)), (8, .int x8), (9, .int x9), (10, .int x10), (11, .int x11), (12, .ref mm)]) hx hb dL_same_676 hl (by decide) rfl (fun ls hl => ?_)
      exact b_L_same_678 B (k := k) hk h Z hS (lv_sub hl [1, 2, 3, 4, 5, 6, 7, 8, 9, 10, 11, 12, 0] rfl)
    · replace h := wx_iff c609 h
      refine lv_aload_n hx hb dL_same_612 rfl (lv_at hl 0 rfl) ?_
      refine lv_iload hx hb dL_same_613 (lv_at hl 12 rfl) ?_
      refine lv_iconst (v := 0) hx hb dL_same_615 (by decide) ?_
      obtain ⟨v616, hc616, h⟩ := wx_o_ok h
      refine wx_callM (va_runV (As := [.int x13, .int 0]) (rest := []) ⟨hx, hb, hml, hown, hts⟩ (c_X5_reading l (D := D) (ad := ad) (rd := rd) (ca := ca) (A := wx_Am A mm) (σ := σ) hc616) (cwV 2 hts gL_same_X5_reading rfl rfl rfl (by decide +kernel) ⟨Nat.le_of_ble_eq_true rfl, Nat.le_of_ble_eq_true rfl⟩) (wx_preVM hC hA Z hS rfl (rfl : vwCl[5]? = some (RX5, TX5, 7))) rfl rfl hl.1 rfl (lv_room (Nat.le_of_ble_eq_true rfl)) dL_same_616 ⟨(by show k + 0 ≤ mc; omega), (by show 6464 * k + 0 ≤ 6464 * mc; omega)⟩) Z hS (fun H locs Z hS => ?_)
      refine lv_aload hx hb dL_same_619 (lv_at hl 4 rfl) ?_
      refine lv_iconst (v := 3) hx hb dL_same_621 (by decide) ?_
      refine lv_iload hx hb dL_same_622 (lv_at hl 12 rfl) ?_
      refine lv_imul hx hb dL_same_624 ?_
      obtain ⟨v625, ev625, iv625, h⟩ := wx_rI_ok h
      refine wx_iald hx hb hC.1 Z.1 (o := 16) (k := 2) (n := 24) rfl rfl iv625 dL_same_625 ev625 ?_
      refine lv_icmp_ne (tgt := 667) hx hb dL_same_626 (by decide) (fun c626 => ?_) (fun c626 => ?_)
      · replace h := wx_iff c626 h
        exact b_L_same_667 B (k := k) hk h Z hS (lv_sub hl [0, 1, 2, 3, 4, 5, 6, 7, 8, 9, 10, 11, 12] rfl)
      · replace h := wx_ift c626 h
        refine lv_aload_n hx hb dL_same_629 rfl (lv_at hl 0 rfl) ?_
        refine lv_iload hx hb dL_same_630 (lv_at hl 12 rfl) ?_
        refine lv_iconst (v := 1) hx hb dL_same_632 (by decide) ?_
        obtain ⟨v633, hc633, h⟩ := wx_o_ok h
        refine wx_callM (va_runV (As := [.int x13, .int 1]) (rest := []) ⟨hx, hb, hml, hown, hts⟩ (c_X5_reading l (D := D) (ad := ad) (rd := rd) (ca := ca) (A := wx_Am A mm) (σ := σ) hc633) (cwV 2 hts gL_same_X5_reading rfl rfl rfl (by decide +kernel) ⟨Nat.le_of_ble_eq_true rfl, Nat.le_of_ble_eq_true rfl⟩) (wx_preVM hC hA Z hS rfl (rfl : vwCl[5]? = some (RX5, TX5, 7))) rfl rfl hl.1 rfl (lv_room (Nat.le_of_ble_eq_true rfl)) dL_same_633 ⟨(by show k + 0 ≤ mc; omega), (by show 6464 * k + 0 ≤ 6464 * mc; omega)⟩) Z hS (fun H locs Z hS => ?_)
        refine lv_aload hx hb dL_same_636 (lv_at hl 4 rfl) ?_
        refine lv_iconst (v := 3) hx hb dL_same_638 (by decide) ?_
        refine lv_iload hx hb dL_same_639 (lv_at hl 12 rfl) ?_
        refine lv_imul hx hb dL_same_641 ?_
        refine lv_iconst (v := 1) hx hb dL_same_642 (by decide) ?_
        refine lv_iadd hx hb dL_same_643 ?_
        obtain ⟨v644, ev644, iv644, h⟩ := wx_rI_ok h
        refine wx_iald hx hb hC.1 Z.1 (o := 16) (k := 2) (n := 24) rfl rfl iv644 dL_same_644 ev644 ?_
        refine lv_icmp_ne (tgt := 667) hx hb dL_same_645 (by decide) (fun c645 => ?_) (fun c645 => ?_)
        · replace h := wx_iff c645 h
          exact b_L_same_667 B (k := k) hk h Z hS (lv_sub hl [0, 1, 2, 3, 4, 5, 6, 7, 8, 9, 10, 11, 12] rfl)
        · replace h := wx_ift c645 h
          refine lv_aload_n hx hb dL_same_648 rfl (lv_at hl 0 rfl) ?_
          refine lv_iload hx hb dL_same_649 (lv_at hl 12 rfl) ?_
          refine lv_iconst (v := 2) hx hb dL_same_651 (by decide) ?_
          obtain ⟨v652, hc652, h⟩ := wx_o_ok h
          refine wx_callM (va_runV (As := [.int x13, .int 2]) (rest := []) ⟨hx, hb, hml, hown, hts⟩ (c_X5_reading l (D := D) (ad := ad) (rd := rd) (ca := ca) (A := wx_Am A mm) (σ := σ) hc652) (cwV 2 hts gL_same_X5_reading rfl rfl rfl (by decide +kernel) ⟨Nat.le_of_ble_eq_true rfl, Nat.le_of_ble_eq_true rfl⟩) (wx_preVM hC hA Z hS rfl (rfl : vwCl[5]? = some (RX5, TX5, 7))) rfl rfl hl.1 rfl (lv_room (Nat.le_of_ble_eq_true rfl)) dL_same_652 ⟨(by show k + 0 ≤ mc; omega), (by show 6464 * k + 0 ≤ 6464 * mc; omega)⟩) Z hS (fun H locs Z hS => ?_)
          refine lv_aload hx hb dL_same_655 (lv_at hl 4 rfl) ?_
          refine lv_iconst (v := 3) hx hb dL_same_657 (by decide) ?_
          refine lv_iload hx hb dL_same_658 (lv_at hl 12 rfl) ?_
          refine lv_imul hx hb dL_same_660 ?_
          refine lv_iconst (v := 2) hx hb dL_same_661 (by decide) ?_
          refine lv_iadd hx hb dL_same_662 ?_
          obtain ⟨v663, ev663, iv663, h⟩ := wx_rI_ok h
          refine wx_iald hx hb hC.1 Z.1 (o := 16) (k := 2) (n := 24) rfl rfl iv663 dL_same_663 ev663 ?_
          refine lv_icmp_eq (tgt := 669) hx hb dL_same_664 (by decide) (fun c664 => ?_) (fun c664 => ?_)
          · replace h := wx_ift c664 h
            refine lv_iinc (v := x13 + 1) (lv' := [(13, .int (x13 + 1)), (0, .ref (ad 11 99)), (1, .long x1), (3, .ref (ad 16 0)), (4, .ref (ad 16 1)), (5, .ref (ad 16 2)), (6, .ref (ad 16 3)), (7, .ref (ad 16 4)), (8, .int x8), (9, .int x9), (10, .int x10), (11, .int x11), (12, .ref mm)]) hx hb dL_same_669 hl (k := 12) rfl rfl (by decide) rfl (fun ls hl => ?_)
            refine lv_goto (tgt := 603) hx hb dL_same_672 (by decide) ?_
            exact ih (k := k) hk h Z hS (lv_sub hl [1, 2, 3, 4, 5, 6, 7, 8, 9, 10, 11, 12, 0] rfl)
          · replace h := wx_iff c664 h
            exact b_L_same_667 B (k := k) hk h Z hS (lv_sub hl [0, 1, 2, 3, 4, 5, 6, 7, 8, 9, 10, 11, 12] rfl)
set_option maxRecDepth 20000 in
set_option maxHeartbeats 4000000 in
theorem m_L_same_486  {r : Int32} {σ' : wx_St}  :
    ∀ {n : Nat} {x1 : Int64} {x8 : Int32} {x9 : Int32} {x10 : Int32} {x11 : Int32} {x13 : Int32} {σ : wx_St} (h : f_L_same_486 n x1 x8 x9 x10 x11 x13 σ = some (r, σ')), wx_n σ.2.2.2.2 ≤ wx_n σ'.2.2.2.2 := by
  intro n
  induction n with
  | zero => intro x1 x8 x9 x10 x11 x13 σ h; exact wx_no h
  | succ n ih =>
    intro x1 x8 x9 x10 x11 x13 σ h
    rw [f_L_same_486] at h
    obtain ⟨v490, ev490, iv490, h⟩ := wx_rI_ok h
    by_cases c491 : v490 ≤ x13
    · replace h := wx_ift c491 h
      exact m_L_same_603 h
    · replace h := wx_iff c491 h
      obtain ⟨v498, hc498, h⟩ := wx_o_ok h
      obtain ⟨v507, ev507, iv507, h⟩ := wx_rI_ok h
      by_cases c508 : v498 = v507
      · replace h := wx_ift c508 h
        obtain ⟨v515, hc515, h⟩ := wx_o_ok h
        obtain ⟨v526, ev526, iv526, h⟩ := wx_rI_ok h
        obtain ⟨v527, ev527, iv527, h⟩ := wx_rI_ok h
        by_cases c528 : v515 = v527
        · replace h := wx_ift c528 h
          obtain ⟨v535, hc535, h⟩ := wx_o_ok h
          obtain ⟨v546, ev546, iv546, h⟩ := wx_rI_ok h
          by_cases c547 : v535 = v546
          · replace h := wx_ift c547 h
            obtain ⟨v554, hc554, h⟩ := wx_o_ok h
            obtain ⟨v565, ev565, iv565, h⟩ := wx_rI_ok h
            obtain ⟨v566, ev566, iv566, h⟩ := wx_rI_ok h
            obtain ⟨v575, ev575, iv575, h⟩ := wx_rI_ok h
            obtain ⟨v578, hc578, h⟩ := wx_o_ok h
            by_cases c581 : v578 = 0
            · replace h := wx_ift c581 h
              exact m_L_same_589 (K486 := (f_L_same_486 n)) @ih h
            · replace h := wx_iff c581 h
              exact m_L_same_589 (K486 := (f_L_same_486 n)) @ih h
          · replace h := wx_iff c547 h
            exact m_L_same_592 h
        · replace h := wx_iff c528 h
          exact m_L_same_592 h
      · replace h := wx_iff c508 h
        exact m_L_same_592 h
set_option maxRecDepth 20000 in
set_option maxHeartbeats 4000000 in
theorem b_L_same_486 (B : wx_B p s m args meth c cL_same 24 (some .boolean) wsL_same RL D ad ca A)    {r : Int32} {σ' : wx_St} {mc : Nat} {mm : Nat}   :
    ∀ {n : Nat} {x1 : Int64} {x8 : Int32} {x9 : Int32} {x10 : Int32} {x11 : Int32} {x13 : Int32} {σ : wx_St} {k : Nat} (hk : k + wx_n σ'.2.2.2.2 ≤ mc + wx_n σ.2.2.2.2)  (h : f_L_same_486 n x1 x8 x9 x10 x11 x13 σ = some (r, σ')) {rd : Nat → Nat} {H : Heap} {locs : List Loc} (Z : wx_ZM D ad rd ca A s.heap.size mm σ H) (hS : va_S A s.heap H locs) {ls : Array Slot} (hl : lv_has ls 24 [(0, .ref (ad 11 99)), (1, .long x1), (3, .ref (ad 16 0)), (4, .ref (ad 16 1)), (5, .ref (ad 16 2)), (6, .ref (ad 16 3)), (7, .ref (ad 16 4)), (8, .int x8), (9, .int x9), (10, .int x10), (11, .int x11), (12, .ref mm), (13, .int x13)]), W p l e ({ frames := 7, cells := mc, slots := 6464 * mc, locals := 174 } : Room) s m args below meth c H locs k (6464 * k) (MQ below (wx_QA D ad ca A (some (.int r)) σ') args s mc (6464 * mc) A) (F0 m 486 ls []) := by
  obtain ⟨hx, hb, hml, hr, hts, hown, hlk, hC, hA⟩ := id B
  intro n
  induction n with
  | zero => intro x1 x8 x9 x10 x11 x13 σ k hk  h rd H locs Z hS ls hl; exact wx_no h
  | succ n ih =>
    intro x1 x8 x9 x10 x11 x13 σ k hk  h rd H locs Z hS ls hl
    have hm := m_L_same_486 h
    have mih : ∀ {x1 : Int64} {x8 : Int32} {x9 : Int32} {x10 : Int32} {x11 : Int32} {x13 : Int32} {σ : wx_St}, f_L_same_486 n x1 x8 x9 x10 x11 x13 σ = some (r, σ') → wx_n σ.2.2.2.2 ≤ wx_n σ'.2.2.2.2 := fun h => m_L_same_486 h
    rw [f_L_same_486] at h
    refine lv_iload hx hb dL_same_486 (lv_at hl 12 rfl) ?_
    refine lv_aload_n hx hb dL_same_488 rfl (lv_at hl 2 rfl) ?_
    refine lv_iconst (v := 5) hx hb dL_same_489 (by decide) ?_
    obtain ⟨v490, ev490, iv490, h⟩ := wx_rI_ok h
    refine wx_iald hx hb hC.1 Z.1 (o := 16) (k := 0) (n := 7) rfl rfl iv490 dL_same_490 ev490 ?_
    refine lv_icmp_ge (tgt := 600) hx hb dL_same_491 (by decide) (fun c491 => ?_) (fun c491 => ?_)
    · replace h := wx_ift c491 h
      refine lv_iconst (v := 0) hx hb dL_same_600 (by decide) ?_
      refine lv_istore (lv' := [(13, .int 0), (0, .ref (ad 11 99)), (1, .long x1), (3, .ref (ad 16 0)), (4, .ref (ad 16 1)), (5, .ref (ad 16 2)), (6, .ref (ad 16 3)), (7, .ref (ad 16 4)), (8, .int x8), (9, .int x9), (10, .int x10), (11, .int x11), (12, .ref mm)]) hx hb dL_same_601 hl (by decide) rfl (fun ls hl => ?_)
      exact b_L_same_603 B (k := k) hk h Z hS (lv_sub hl [1, 2, 3, 4, 5, 6, 7, 8, 9, 10, 11, 12, 0] rfl)
    · replace h := wx_iff c491 h
      refine lv_aload_n hx hb dL_same_494 rfl (lv_at hl 0 rfl) ?_
      refine lv_iload hx hb dL_same_495 (lv_at hl 12 rfl) ?_
      refine lv_iconst (v := 0) hx hb dL_same_497 (by decide) ?_
      obtain ⟨v498, hc498, h⟩ := wx_o_ok h
      refine wx_callM (va_runV (As := [.int x13, .int 0]) (rest := []) ⟨hx, hb, hml, hown, hts⟩ (c_X5_ofTouch l (D := D) (ad := ad) (rd := rd) (ca := ca) (A := wx_Am A mm) (σ := σ) hc498) (cwV 2 hts gL_same_X5_ofTouch rfl rfl rfl (by decide +kernel) ⟨Nat.le_of_ble_eq_true rfl, Nat.le_of_ble_eq_true rfl⟩) (wx_preVM hC hA Z hS rfl (rfl : vwCl[5]? = some (RX5, TX5, 7))) rfl rfl hl.1 rfl (lv_room (Nat.le_of_ble_eq_true rfl)) dL_same_498 ⟨(by show k + 0 ≤ mc; omega), (by show 6464 * k + 0 ≤ 6464 * mc; omega)⟩) Z hS (fun H locs Z hS => ?_)
      refine lv_aload hx hb dL_same_501 (lv_at hl 3 rfl) ?_
      refine lv_iconst (v := 2) hx hb dL_same_503 (by decide) ?_
      refine lv_iload hx hb dL_same_504 (lv_at hl 12 rfl) ?_
      refine lv_imul hx hb dL_same_506 ?_
      obtain ⟨v507, ev507, iv507, h⟩ := wx_rI_ok h
      refine wx_iald hx hb hC.1 Z.1 (o := 16) (k := 1) (n := 6) rfl rfl iv507 dL_same_507 ev507 ?_
      refine lv_icmp_ne (tgt := 592) hx hb dL_same_508 (by decide) (fun c508 => ?_) (fun c508 => ?_)
      · replace h := wx_iff c508 h
        exact b_L_same_592 B (k := k) hk h Z hS (lv_sub hl [0, 1, 2, 3, 4, 5, 6, 7, 8, 9, 10, 11, 12] rfl)
      · replace h := wx_ift c508 h
        refine lv_aload_n hx hb dL_same_511 rfl (lv_at hl 0 rfl) ?_
        refine lv_iload hx hb dL_same_512 (lv_at hl 12 rfl) ?_
        refine lv_iconst (v := 1) hx hb dL_same_514 (by decide) ?_
        obtain ⟨v515, hc515, h⟩ := wx_o_ok h
        refine wx_callM (va_runV (As := [.int x13, .int 1]) (rest := []) ⟨hx, hb, hml, hown, hts⟩ (c_X5_ofTouch l (D := D) (ad := ad) (rd := rd) (ca := ca) (A := wx_Am A mm) (σ := σ) hc515) (cwV 2 hts gL_same_X5_ofTouch rfl rfl rfl (by decide +kernel) ⟨Nat.le_of_ble_eq_true rfl, Nat.le_of_ble_eq_true rfl⟩) (wx_preVM hC hA Z hS rfl (rfl : vwCl[5]? = some (RX5, TX5, 7))) rfl rfl hl.1 rfl (lv_room (Nat.le_of_ble_eq_true rfl)) dL_same_515 ⟨(by show k + 0 ≤ mc; omega), (by show 6464 * k + 0 ≤ 6464 * mc; omega)⟩) Z hS (fun H locs Z hS => ?_)
        refine lv_aload hx hb dL_same_518 (lv_at hl 5 rfl) ?_
        refine lv_aload hx hb dL_same_520 (lv_at hl 3 rfl) ?_
        refine lv_iconst (v := 2) hx hb dL_same_522 (by decide) ?_
        refine lv_iload hx hb dL_same_523 (lv_at hl 12 rfl) ?_
        refine lv_imul hx hb dL_same_525 ?_
        obtain ⟨v526, ev526, iv526, h⟩ := wx_rI_ok h
        refine wx_iald hx hb hC.1 Z.1 (o := 16) (k := 1) (n := 6) rfl rfl iv526 dL_same_526 ev526 ?_
        obtain ⟨v527, ev527, iv527, h⟩ := wx_rI_ok h
        refine wx_iald hx hb hC.1 Z.1 (o := 16) (k := 3) (n := 64) rfl rfl iv527 dL_same_527 ev527 ?_
        refine lv_icmp_ne (tgt := 592) hx hb dL_same_528 (by decide) (fun c528 => ?_) (fun c528 => ?_)
        · replace h := wx_iff c528 h
          exact b_L_same_592 B (k := k) hk h Z hS (lv_sub hl [0, 1, 2, 3, 4, 5, 6, 7, 8, 9, 10, 11, 12] rfl)
        · replace h := wx_ift c528 h
          refine lv_aload_n hx hb dL_same_531 rfl (lv_at hl 0 rfl) ?_
          refine lv_iload hx hb dL_same_532 (lv_at hl 12 rfl) ?_
          refine lv_iconst (v := 2) hx hb dL_same_534 (by decide) ?_
          obtain ⟨v535, hc535, h⟩ := wx_o_ok h
          refine wx_callM (va_runV (As := [.int x13, .int 2]) (rest := []) ⟨hx, hb, hml, hown, hts⟩ (c_X5_ofTouch l (D := D) (ad := ad) (rd := rd) (ca := ca) (A := wx_Am A mm) (σ := σ) hc535) (cwV 2 hts gL_same_X5_ofTouch rfl rfl rfl (by decide +kernel) ⟨Nat.le_of_ble_eq_true rfl, Nat.le_of_ble_eq_true rfl⟩) (wx_preVM hC hA Z hS rfl (rfl : vwCl[5]? = some (RX5, TX5, 7))) rfl rfl hl.1 rfl (lv_room (Nat.le_of_ble_eq_true rfl)) dL_same_535 ⟨(by show k + 0 ≤ mc; omega), (by show 6464 * k + 0 ≤ 6464 * mc; omega)⟩) Z hS (fun H locs Z hS => ?_)
          refine lv_aload hx hb dL_same_538 (lv_at hl 3 rfl) ?_
          refine lv_iconst (v := 2) hx hb dL_same_540 (by decide) ?_
          refine lv_iload hx hb dL_same_541 (lv_at hl 12 rfl) ?_
          refine lv_imul hx hb dL_same_543 ?_
          refine lv_iconst (v := 1) hx hb dL_same_544 (by decide) ?_
          refine lv_iadd hx hb dL_same_545 ?_
          obtain ⟨v546, ev546, iv546, h⟩ := wx_rI_ok h
          refine wx_iald hx hb hC.1 Z.1 (o := 16) (k := 1) (n := 6) rfl rfl iv546 dL_same_546 ev546 ?_
          refine lv_icmp_ne (tgt := 592) hx hb dL_same_547 (by decide) (fun c547 => ?_) (fun c547 => ?_)
          · replace h := wx_iff c547 h
            exact b_L_same_592 B (k := k) hk h Z hS (lv_sub hl [0, 1, 2, 3, 4, 5, 6, 7, 8, 9, 10, 11, 12] rfl)
          · replace h := wx_ift c547 h
            refine lv_aload_n hx hb dL_same_550 rfl (lv_at hl 0 rfl) ?_
            refine lv_iload hx hb dL_same_551 (lv_at hl 12 rfl) ?_
            refine lv_iconst (v := 3) hx hb dL_same_553 (by decide) ?_
            obtain ⟨v554, hc554, h⟩ := wx_o_ok h
            refine wx_callM (va_runV (As := [.int x13, .int 3]) (rest := []) ⟨hx, hb, hml, hown, hts⟩ (c_X5_ofTouch l (D := D) (ad := ad) (rd := rd) (ca := ca) (A := wx_Am A mm) (σ := σ) hc554) (cwV 2 hts gL_same_X5_ofTouch rfl rfl rfl (by decide +kernel) ⟨Nat.le_of_ble_eq_true rfl, Nat.le_of_ble_eq_true rfl⟩) (wx_preVM hC hA Z hS rfl (rfl : vwCl[5]? = some (RX5, TX5, 7))) rfl rfl hl.1 rfl (lv_room (Nat.le_of_ble_eq_true rfl)) dL_same_554 ⟨(by show k + 0 ≤ mc; omega), (by show 6464 * k + 0 ≤ 6464 * mc; omega)⟩) Z hS (fun H locs Z hS => ?_)
            refine lv_aload hx hb dL_same_557 (lv_at hl 5 rfl) ?_
            refine lv_aload hx hb dL_same_559 (lv_at hl 3 rfl) ?_
            refine lv_iconst (v := 2) hx hb dL_same_561 (by decide) ?_
            refine lv_iload hx hb dL_same_562 (lv_at hl 12 rfl) ?_
            refine lv_imul hx hb dL_same_564 ?_
            obtain ⟨v565, ev565, iv565, h⟩ := wx_rI_ok h
            refine wx_iald hx hb hC.1 Z.1 (o := 16) (k := 1) (n := 6) rfl rfl iv565 dL_same_565 ev565 ?_
            obtain ⟨v566, ev566, iv566, h⟩ := wx_rI_ok h
            refine wx_iald hx hb hC.1 Z.1 (o := 16) (k := 3) (n := 64) rfl rfl iv566 dL_same_566 ev566 ?_
            refine lv_aload hx hb dL_same_567 (lv_at hl 3 rfl) ?_
            refine lv_iconst (v := 2) hx hb dL_same_569 (by decide) ?_
            refine lv_iload hx hb dL_same_570 (lv_at hl 12 rfl) ?_
            refine lv_imul hx hb dL_same_572 ?_
            refine lv_iconst (v := 1) hx hb dL_same_573 (by decide) ?_
            refine lv_iadd hx hb dL_same_574 ?_
            obtain ⟨v575, ev575, iv575, h⟩ := wx_rI_ok h
            refine wx_iald hx hb hC.1 Z.1 (o := 16) (k := 1) (n := 6) rfl rfl iv575 dL_same_575 ev575 ?_
            refine lv_aload hx hb dL_same_576 (lv_at hl 6 rfl) ?_
            obtain ⟨v578, hc578, h⟩ := wx_o_ok h
            refine wx_callM (va_runS (As := [.int v566, .int v575, .ref (ad 16 4)]) (rest := [.int v554]) ⟨hx, hb, hml, hown, hts⟩ (c_L_fed l (D := D) (ad := ad) (rd := rd) (ca := ca) (A := wx_Am A mm) (σ := σ) hc578) (va_cwS 3 hts gL_same_L_fed rfl rfl rfl (by decide +kernel) ⟨Nat.le_of_ble_eq_true rfl, Nat.le_of_ble_eq_true rfl⟩) (wx_preSM hC hA Z hS) rfl rfl hl.1 rfl (lv_room (Nat.le_of_ble_eq_true rfl)) dL_same_578 ⟨(by show k + 0 ≤ mc; omega), (by show 6464 * k + 0 ≤ 6464 * mc; omega)⟩) Z hS (fun H locs Z hS => ?_)
            refine lv_if_eq (tgt := 588) hx hb dL_same_581 (by decide) (fun c581 => ?_) (fun c581 => ?_)
            · replace h := wx_ift c581 h
              refine lv_iconst (v := 0) hx hb dL_same_588 (by decide) ?_
              exact b_L_same_589 B (K486 := (f_L_same_486 n)) @ih mih (k := k) hk h Z hS (lv_sub hl [0, 1, 2, 3, 4, 5, 6, 7, 8, 9, 10, 11, 12] rfl)
            · replace h := wx_iff c581 h
              refine lv_iconst (v := 1) hx hb dL_same_584 (by decide) ?_
              refine lv_goto (tgt := 589) hx hb dL_same_585 (by decide) ?_
              exact b_L_same_589 B (K486 := (f_L_same_486 n)) @ih mih (k := k) hk h Z hS (lv_sub hl [0, 1, 2, 3, 4, 5, 6, 7, 8, 9, 10, 11, 12] rfl)
set_option maxRecDepth 20000 in
set_option maxHeartbeats 4000000 in
theorem m_L_same_30  {r : Int32} {σ' : wx_St}  :
    ∀ {n : Nat} {x1 : Int64} {x8 : Int32} {x9 : Int32} {x10 : Int32} {x11 : Int32} {x13 : Int32} {σ : wx_St} (h : f_L_same_30 n x1 x8 x9 x10 x11 x13 σ = some (r, σ')), wx_n σ.2.2.2.2 ≤ wx_n σ'.2.2.2.2 := by
  intro n
  induction n with
  | zero => intro x1 x8 x9 x10 x11 x13 σ h; exact wx_no h
  | succ n ih =>
    intro x1 x8 x9 x10 x11 x13 σ h
    rw [f_L_same_30] at h
    by_cases c34 : 8 ≤ x13
    · replace h := wx_ift c34 h
      exact m_L_same_486 h
    · replace h := wx_iff c34 h
      exact m_L_same_49 (K30 := (f_L_same_30 n)) @ih h
set_option maxRecDepth 20000 in
set_option maxHeartbeats 4000000 in
theorem b_L_same_30 (B : wx_B p s m args meth c cL_same 24 (some .boolean) wsL_same RL D ad ca A)    {r : Int32} {σ' : wx_St} {mc : Nat} {mm : Nat}   :
    ∀ {n : Nat} {x1 : Int64} {x8 : Int32} {x9 : Int32} {x10 : Int32} {x11 : Int32} {x13 : Int32} {σ : wx_St} {k : Nat} (hk : k + wx_n σ'.2.2.2.2 ≤ mc + wx_n σ.2.2.2.2)  (h : f_L_same_30 n x1 x8 x9 x10 x11 x13 σ = some (r, σ')) {rd : Nat → Nat} {H : Heap} {locs : List Loc} (Z : wx_ZM D ad rd ca A s.heap.size mm σ H) (hS : va_S A s.heap H locs) {ls : Array Slot} (hl : lv_has ls 24 [(0, .ref (ad 11 99)), (1, .long x1), (3, .ref (ad 16 0)), (4, .ref (ad 16 1)), (5, .ref (ad 16 2)), (6, .ref (ad 16 3)), (7, .ref (ad 16 4)), (8, .int x8), (9, .int x9), (10, .int x10), (11, .int x11), (12, .ref mm), (13, .int x13)]), W p l e ({ frames := 7, cells := mc, slots := 6464 * mc, locals := 174 } : Room) s m args below meth c H locs k (6464 * k) (MQ below (wx_QA D ad ca A (some (.int r)) σ') args s mc (6464 * mc) A) (F0 m 30 ls []) := by
  obtain ⟨hx, hb, hml, hr, hts, hown, hlk, hC, hA⟩ := id B
  intro n
  induction n with
  | zero => intro x1 x8 x9 x10 x11 x13 σ k hk  h rd H locs Z hS ls hl; exact wx_no h
  | succ n ih =>
    intro x1 x8 x9 x10 x11 x13 σ k hk  h rd H locs Z hS ls hl
    have hm := m_L_same_30 h
    have mih : ∀ {x1 : Int64} {x8 : Int32} {x9 : Int32} {x10 : Int32} {x11 : Int32} {x13 : Int32} {σ : wx_St}, f_L_same_30 n x1 x8 x9 x10 x11 x13 σ = some (r, σ') → wx_n σ.2.2.2.2 ≤ wx_n σ'.2.2.2.2 := fun h => m_L_same_30 h
    rw [f_L_same_30] at h
    refine lv_iload hx hb dL_same_30 (lv_at hl 12 rfl) ?_
    refine lv_bipush (v := 8) hx hb dL_same_32 (by decide) ?_
    refine lv_icmp_ge (tgt := 483) hx hb dL_same_34 (by decide) (fun c34 => ?_) (fun c34 => ?_)
    · replace h := wx_ift c34 h
      refine lv_iconst (v := 0) hx hb dL_same_483 (by decide) ?_
      refine lv_istore (lv' := [(13, .int 0), (0, .ref (ad 11 99)), (1, .long x1), (3, .ref (ad 16 0)), (4, .ref (ad 16 1)), (5, .ref (ad 16 2)), (6, .ref (ad 16 3)), (7, .ref (ad 16 4)), (8, .int x8), (9, .int x9), (10, .int x10), (11, .int x11), (12, .ref mm)]) hx hb dL_same_484 hl (by decide) rfl (fun ls hl => ?_)
      exact b_L_same_486 B (k := k) hk h Z hS (lv_sub hl [1, 2, 3, 4, 5, 6, 7, 8, 9, 10, 11, 12, 0] rfl)
    · replace h := wx_iff c34 h
      refine lv_iconst (v := 0) hx hb dL_same_37 (by decide) ?_
      refine lv_istore (lv' := [(14, .int 0), (0, .ref (ad 11 99)), (1, .long x1), (3, .ref (ad 16 0)), (4, .ref (ad 16 1)), (5, .ref (ad 16 2)), (6, .ref (ad 16 3)), (7, .ref (ad 16 4)), (8, .int x8), (9, .int x9), (10, .int x10), (11, .int x11), (12, .ref mm), (13, .int x13)]) hx hb dL_same_38 hl (by decide) rfl (fun ls hl => ?_)
      refine lv_iconst (v := 0) hx hb dL_same_40 (by decide) ?_
      refine lv_istore (lv' := [(15, .int 0), (14, .int 0), (0, .ref (ad 11 99)), (1, .long x1), (3, .ref (ad 16 0)), (4, .ref (ad 16 1)), (5, .ref (ad 16 2)), (6, .ref (ad 16 3)), (7, .ref (ad 16 4)), (8, .int x8), (9, .int x9), (10, .int x10), (11, .int x11), (12, .ref mm), (13, .int x13)]) hx hb dL_same_41 hl (by decide) rfl (fun ls hl => ?_)
      refine lv_iconst (v := 0) hx hb dL_same_43 (by decide) ?_
      refine lv_istore (lv' := [(16, .int 0), (15, .int 0), (14, .int 0), (0, .ref (ad 11 99)), (1, .long x1), (3, .ref (ad 16 0)), (4, .ref (ad 16 1)), (5, .ref (ad 16 2)), (6, .ref (ad 16 3)), (7, .ref (ad 16 4)), (8, .int x8), (9, .int x9), (10, .int x10), (11, .int x11), (12, .ref mm), (13, .int x13)]) hx hb dL_same_44 hl (by decide) rfl (fun ls hl => ?_)
      refine lv_iconst (v := 0) hx hb dL_same_46 (by decide) ?_
      refine lv_istore (lv' := [(17, .int 0), (16, .int 0), (15, .int 0), (14, .int 0), (0, .ref (ad 11 99)), (1, .long x1), (3, .ref (ad 16 0)), (4, .ref (ad 16 1)), (5, .ref (ad 16 2)), (6, .ref (ad 16 3)), (7, .ref (ad 16 4)), (8, .int x8), (9, .int x9), (10, .int x10), (11, .int x11), (12, .ref mm), (13, .int x13)]) hx hb dL_same_47 hl (by decide) rfl (fun ls hl => ?_)
      exact b_L_same_49 B (K30 := (f_L_same_30 n)) @ih mih (k := k) hk h Z hS (lv_sub hl [4, 5, 6, 7, 8, 9, 10, 11, 12, 13, 14, 15, 16, 3, 2, 1, 0] rfl)
set_option maxRecDepth 20000 in
set_option maxHeartbeats 4000000 in
theorem m_L_same_25  {r : Int32} {σ' : wx_St}  {x1 : Int64} {x8 : Int32} {x9 : Int32} {x10 : Int32} {x11 : Int32} {σ : wx_St} (h : f_L_same_25 x1 x8 x9 x10 x11 σ = some (r, σ')) : wx_n σ.2.2.2.2 ≤ wx_n σ'.2.2.2.2 := by
  unfold f_L_same_25 at h
  exact m_L_same_30 h
set_option maxRecDepth 20000 in
set_option maxHeartbeats 4000000 in
theorem b_L_same_25 (B : wx_B p s m args meth c cL_same 24 (some .boolean) wsL_same RL D ad ca A)    {r : Int32} {σ' : wx_St} {mc : Nat} {mm : Nat}  {x1 : Int64} {x8 : Int32} {x9 : Int32} {x10 : Int32} {x11 : Int32} {σ : wx_St} {k : Nat} (hk : k + wx_n σ'.2.2.2.2 ≤ mc + wx_n σ.2.2.2.2)  (h : f_L_same_25 x1 x8 x9 x10 x11 σ = some (r, σ')) {rd : Nat → Nat} {H : Heap} {locs : List Loc} (Z : wx_ZM D ad rd ca A s.heap.size mm σ H) (hS : va_S A s.heap H locs) {ls : Array Slot} (hl : lv_has ls 24 [(0, .ref (ad 11 99)), (1, .long x1), (3, .ref (ad 16 0)), (4, .ref (ad 16 1)), (5, .ref (ad 16 2)), (6, .ref (ad 16 3)), (7, .ref (ad 16 4)), (8, .int x8), (9, .int x9), (10, .int x10), (11, .int x11)]) : W p l e ({ frames := 7, cells := mc, slots := 6464 * mc, locals := 174 } : Room) s m args below meth c H locs k (6464 * k) (MQ below (wx_QA D ad ca A (some (.int r)) σ') args s mc (6464 * mc) A) (F0 m 25 ls [.ref mm]) := by
  obtain ⟨hx, hb, hml, hr, hts, hown, hlk, hC, hA⟩ := id B
  have hm := m_L_same_25 h
  unfold f_L_same_25 at h
  refine lv_astore (lv' := [(12, .ref mm), (0, .ref (ad 11 99)), (1, .long x1), (3, .ref (ad 16 0)), (4, .ref (ad 16 1)), (5, .ref (ad 16 2)), (6, .ref (ad 16 3)), (7, .ref (ad 16 4)), (8, .int x8), (9, .int x9), (10, .int x10), (11, .int x11)]) hx hb dL_same_25 hl (by decide) rfl (fun ls hl => ?_)
  refine lv_iconst (v := 0) hx hb dL_same_27 (by decide) ?_
  refine lv_istore (lv' := [(13, .int 0), (12, .ref mm), (0, .ref (ad 11 99)), (1, .long x1), (3, .ref (ad 16 0)), (4, .ref (ad 16 1)), (5, .ref (ad 16 2)), (6, .ref (ad 16 3)), (7, .ref (ad 16 4)), (8, .int x8), (9, .int x9), (10, .int x10), (11, .int x11)]) hx hb dL_same_28 hl (by decide) rfl (fun ls hl => ?_)
  exact b_L_same_30 B (k := k) hk h Z hS (lv_sub hl [2, 3, 4, 5, 6, 7, 8, 9, 10, 11, 12, 1, 0] rfl)
set_option maxRecDepth 20000 in
set_option maxHeartbeats 4000000 in
theorem m_L_same_0  {r : Int32} {σ' : wx_St}  {x1 : Int64} {σ : wx_St} (h : f_L_same x1 σ = some (r, σ')) : wx_n σ.2.2.2.2 ≤ wx_n σ'.2.2.2.2 := by
  unfold f_L_same at h
  obtain ⟨v16, hc16, h⟩ := wx_o_ok h
  obtain ⟨σ23, e23, q23, h⟩ := wx_mk_ok h
  refine Nat.le_trans (Nat.le_of_lt (Nat.lt_of_lt_of_eq (Nat.lt_succ_self _) (wx_nM q23 e23).symm)) ?_
  exact m_L_same_25 h
set_option maxRecDepth 20000 in
set_option maxHeartbeats 4000000 in
theorem b_L_same_0 (B : wx_B p s m args meth c cL_same 24 (some .boolean) wsL_same RL D ad ca A)    {r : Int32} {σ' : wx_St} {mc : Nat}  {x1 : Int64} {σ : wx_St} {k : Nat} (hk : k + wx_n σ'.2.2.2.2 ≤ mc + wx_n σ.2.2.2.2)  (h : f_L_same x1 σ = some (r, σ')) {rd : Nat → Nat} {H : Heap} {locs : List Loc} (Z : wx_Z D ad rd ca A σ H) (hS : va_S A s.heap H locs) {ls : Array Slot} (hl : lv_has ls 24 [(0, .ref (ad 11 99)), (1, .long x1), (3, .ref (ad 16 0)), (4, .ref (ad 16 1)), (5, .ref (ad 16 2)), (6, .ref (ad 16 3)), (7, .ref (ad 16 4))]) : W p l e ({ frames := 7, cells := mc, slots := 6464 * mc, locals := 174 } : Room) s m args below meth c H locs k (6464 * k) (MQ below (wx_QA D ad ca A (some (.int r)) σ') args s mc (6464 * mc) A) (F0 m 0 ls []) := by
  obtain ⟨hx, hb, hml, hr, hts, hown, hlk, hC, hA⟩ := id B
  have hm := m_L_same_0 h
  unfold f_L_same at h
  refine lv_iconst (v := 0) hx hb dL_same_0 (by decide) ?_
  refine lv_istore (lv' := [(8, .int 0), (0, .ref (ad 11 99)), (1, .long x1), (3, .ref (ad 16 0)), (4, .ref (ad 16 1)), (5, .ref (ad 16 2)), (6, .ref (ad 16 3)), (7, .ref (ad 16 4))]) hx hb dL_same_1 hl (by decide) rfl (fun ls hl => ?_)
  refine lv_iconst (v := 0) hx hb dL_same_3 (by decide) ?_
  refine lv_istore (lv' := [(9, .int 0), (8, .int 0), (0, .ref (ad 11 99)), (1, .long x1), (3, .ref (ad 16 0)), (4, .ref (ad 16 1)), (5, .ref (ad 16 2)), (6, .ref (ad 16 3)), (7, .ref (ad 16 4))]) hx hb dL_same_4 hl (by decide) rfl (fun ls hl => ?_)
  refine lv_iconst (v := 0) hx hb dL_same_6 (by decide) ?_
  refine lv_istore (lv' := [(10, .int 0), (9, .int 0), (8, .int 0), (0, .ref (ad 11 99)), (1, .long x1), (3, .ref (ad 16 0)), (4, .ref (ad 16 1)), (5, .ref (ad 16 2)), (6, .ref (ad 16 3)), (7, .ref (ad 16 4))]) hx hb dL_same_7 hl (by decide) rfl (fun ls hl => ?_)
  refine lv_aload_n hx hb dL_same_9 rfl (lv_at hl 5 rfl) ?_
  refine lv_aload hx hb dL_same_10 (lv_at hl 6 rfl) ?_
  refine lv_aload hx hb dL_same_12 (lv_at hl 8 rfl) ?_
  refine lv_aload hx hb dL_same_14 (lv_at hl 9 rfl) ?_
  obtain ⟨v16, hc16, h⟩ := wx_o_ok h
  refine wx_call (va_runS (As := [.ref (ad 16 0), .ref (ad 16 1), .ref (ad 16 3), .ref (ad 16 4)]) (rest := []) ⟨hx, hb, hml, hown, hts⟩ (c_L_live l (D := D) (ad := ad) (rd := rd) (ca := ca) (A := A) (σ := σ) hc16) (va_cwS 4 hts gL_same_L_live rfl rfl rfl (by decide +kernel) ⟨Nat.le_of_ble_eq_true rfl, Nat.le_of_ble_eq_true rfl⟩) (wx_preS hC Z hS hA) rfl rfl hl.1 rfl (lv_room (Nat.le_of_ble_eq_true rfl)) dL_same_16 ⟨(by show k + 0 ≤ mc; omega), (by show 6464 * k + 0 ≤ 6464 * mc; omega)⟩) hS (fun H locs Z hS => ?_)
  refine lv_istore (lv' := [(11, .int v16), (10, .int 0), (9, .int 0), (8, .int 0), (0, .ref (ad 11 99)), (1, .long x1), (3, .ref (ad 16 0)), (4, .ref (ad 16 1)), (5, .ref (ad 16 2)), (6, .ref (ad 16 3)), (7, .ref (ad 16 4))]) hx hb dL_same_19 hl (by decide) rfl (fun ls hl => ?_)
  refine lv_bipush (v := 8) hx hb dL_same_21 (by decide) ?_
  obtain ⟨σ23, e23, q23, h⟩ := wx_mk_ok h
  have m1 := wx_nM q23 e23
  have m2 := m_L_same_25 h
  refine wx_newM hx hb hC.1 Z hS hA (hts _ k_L_same_w0) (by show k + 1 ≤ mc; omega) (by show 6464 * k + 8 ≤ 6464 * mc; omega) dL_same_23 e23 (fun mm H Z hS => ?_)
  refine W.widen (k := k + 1) (n := 6464 * (k + 1)) (Nat.le_refl _) (by omega) ?_
  exact b_L_same_25 B (k := k + 1) (by omega) h Z hS (lv_sub hl [4, 5, 6, 7, 8, 9, 10, 3, 2, 1, 0] rfl)
set_option maxRecDepth 20000 in
theorem c_L_same (l : Launch) {D : va_G} {ad : Nat → Nat → Nat} {rd : Nat → Nat} {ca : Nat → ClassId} {A : Nat → Prop} {σ : wx_St}    {x1 : Int64} {r : Int32} {σ' : wx_St} (h : f_L_same x1 σ = some (r, σ')) : wx_MA l yL_same wsL_same 7 174 D ad rd ca A [.ref (ad 11 99), .long x1, .ref (ad 16 0), .ref (ad 16 1), .ref (ad 16 2), .ref (ad 16 3), .ref (ad 16 4)] σ (some (.int r)) σ' := by
  refine Met.ofW (cc := cL_same) (maxL := 24) (ret := (some .boolean)) (by decide +kernel) rfl ?_
  intro p e s m args below meth c s₁ B0 hml hv
  obtain ⟨rfl, hC, Z, hA⟩ := hv
  have hl := lv_entry ([.ref (ad 11 99), .long x1, .ref (ad 16 0), .ref (ad 16 1), .ref (ad 16 2), .ref (ad 16 3), .ref (ad 16 4)]) (n := 24) (Nat.le_of_ble_eq_true rfl)
  rw [lg_entry_eq]
  generalize (lg_sl ([.ref (ad 11 99), .long x1, .ref (ad 16 0), .ref (ad 16 1), .ref (ad 16 2), .ref (ad 16 3), .ref (ad 16 4)]) ++ List.replicate (24 - (lg_sl ([.ref (ad 11 99), .long x1, .ref (ad 16 0), .ref (ad 16 1), .ref (ad 16 2), .ref (ad 16 3), .ref (ad 16 4)])).length) Slot.unset).toArray = ls at hl ⊢
  exact b_L_same_0 ⟨B0.exec, B0.bytes, hml, B0.returns, atoms_spec (ws := wsL_same) B0.pre, findClass_of_methodNamed B0.named, B0.notSynchronized, hC, hA⟩  (k := 0) (by have hm := m_L_same_0 h; omega) h Z va_S.rf hl
