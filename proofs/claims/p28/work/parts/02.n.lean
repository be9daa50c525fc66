def f_L_cell_21 (ad : Nat → Nat → Nat)  (x1 : Int32) (y0 : Int32) : Option Int32 :=
  some y0
def f_L_cell (ad : Nat → Nat → Nat)  (x1 : Int32) : Option Int32 :=
  if (nI (ad 18 1)) ≤ x1 then
    f_L_cell_21 ad x1 (((1033861975 : Int32) * (x1 + 1)) + (684254885 : Int32))
   else
    wx_rX ad x1 (fun v8 => f_L_cell_21 ad x1 v8)
def f_L_low   (x0 : Int32) (x1 : Int32) : Option Int32 :=
  wx_nz x1 (some ((x0 &&& (2147483647 : Int32)) - (x0 &&& (2147483647 : Int32)) / x1 * x1))
def f_L_net_32   (x0 : Int32) (x1 : Int32) (y0 : Int32) (σ : wx_St) : Option Int32 :=
  some y0
def f_L_net_20   (x0 : Int32) (x1 : Int32) (σ : wx_St) : Option Int32 :=
  f_L_net_32 x0 x1 0 σ
def f_L_net   (x0 : Int32) (x1 : Int32) (σ : wx_St) : Option Int32 :=
  if x0 < 0 then
    f_L_net_20 x0 x1 σ
   else
    if x1 < 0 then
      f_L_net_20 x0 x1 σ
     else
      if 7 < x0 then
        f_L_net_20 x0 x1 σ
       else
        if x1 ≤ 7 then
          wx_rI σ 16 3 64 ((8 * x0) + x1) (fun v31 => f_L_net_32 x0 x1 v31 σ)
         else
          f_L_net_20 x0 x1 σ
def f_L_beside_79   (x0 : Int32) (x1 : Int32) (y0 : Int32) (σ : wx_St) : Option Int32 :=
  some y0
def f_L_beside   (x0 : Int32) (x1 : Int32) (σ : wx_St) : Option Int32 :=
  if x1 = 0 then
    wx_o (f_L_net ((x0 / 8) - 1) (x0 - x0 / 8 * 8) σ) (fun v15 => f_L_beside_79 x0 x1 v15 σ)
   else
    if x1 = 1 then
      wx_o (f_L_net ((x0 / 8) + 1) (x0 - x0 / 8 * 8) σ) (fun v37 => f_L_beside_79 x0 x1 v37 σ)
     else
      if x1 = 2 then
        wx_o (f_L_net (x0 / 8) ((x0 - x0 / 8 * 8) - 1) σ) (fun v59 => f_L_beside_79 x0 x1 v59 σ)
       else
        wx_o (f_L_net (x0 / 8) ((x0 - x0 / 8 * 8) + 1) σ) (fun v76 => f_L_beside_79 x0 x1 v76 σ)
def f_L_near_36   (x0 : Int32) (x1 : Int32) (x2 : Int32) (x3 : Int32) (y0 : Int32) : Option Int32 :=
  wx_z y0 (some y0)
def f_L_near   (x0 : Int32) (x1 : Int32) : Option Int32 :=
  if ((((x0 / 8) - (x1 / 8)) * ((x0 / 8) - (x1 / 8))) + (((x0 - x0 / 8 * 8) - (x1 - x1 / 8 * 8)) * ((x0 - x0 / 8 * 8) - (x1 - x1 / 8 * 8)))) = 1 then
    f_L_near_36 x0 x1 ((x0 / 8) - (x1 / 8)) ((x0 - x0 / 8 * 8) - (x1 - x1 / 8 * 8)) 1
   else
    f_L_near_36 x0 x1 ((x0 / 8) - (x1 / 8)) ((x0 - x0 / 8 * 8) - (x1 - x1 / 8 * 8)) 0
def f_L_fed_16   (x0 : Int32) (x1 : Int32) (y0 : Int32) (σ : wx_St) : Option Int32 :=
  wx_z y0 (some y0)
def f_L_fed   (x0 : Int32) (x1 : Int32) (σ : wx_St) : Option Int32 :=
  wx_rI σ 16 4 8 x0 (fun v2 => if ((v2 >>> (x1 &&& 31)) &&& 1) = 1 then
    f_L_fed_16 x0 x1 1 σ
   else
    f_L_fed_16 x0 x1 0 σ)
def f_L_suspect_48  (K2 : Int32 → Int32 → wx_St → Option Int32) (x0 : Int32) (x3 : Int32) (x4 : Int32) (σ : wx_St) : Option Int32 :=
  K2 x0 (x3 + 1) σ
def f_L_suspect_2   : Nat → Int32 → Int32 → wx_St → Option Int32
  | 0, _, _, _ => none
  | n + 1, x0, x3, σ =>
  if 4 ≤ x3 then
    some 0
   else
    wx_o (f_L_beside x0 x3 σ) (fun v10 => wx_rI σ 16 3 64 x0 (fun v17 => if v17 ≤ 0 then
      f_L_suspect_48 (f_L_suspect_2 n) x0 x3 v10 σ
     else
      if v10 ≤ 0 then
        f_L_suspect_48 (f_L_suspect_2 n) x0 x3 v10 σ
       else
        wx_rI σ 16 3 64 x0 (fun v30 => if v10 = v30 then
          f_L_suspect_48 (f_L_suspect_2 n) x0 x3 v10 σ
         else
          wx_rI σ 16 3 64 x0 (fun v36 => wx_o (f_L_fed v36 v10 σ) (fun v40 => if v40 = 0 then
            f_L_suspect_48 (f_L_suspect_2 n) x0 x3 v10 σ
           else
            some 1)))))
def f_L_suspect   (x0 : Int32) (σ : wx_St) : Option Int32 :=
  f_L_suspect_2 2000 x0 0 σ
def f_L_touch_2   : Nat → Int32 → Int32 → wx_St → Option Int32
  | 0, _, _, _ => none
  | n + 1, x0, x3, σ =>
  wx_rI σ 16 0 7 5 (fun v5 => if v5 ≤ x3 then
    some (-6)
   else
    wx_rI σ 16 1 6 (2 * x3) (fun v13 => if v13 = x0 then
      some x3
     else
      (f_L_touch_2 n) x0 (x3 + 1) σ))
def f_L_touch   (x0 : Int32) (σ : wx_St) : Option Int32 :=
  f_L_touch_2 2000 x0 0 σ
def f_L_live_44  (K6 : Int32 → Int32 → wx_St → Option Int32) (x4 : Int32) (x5 : Int32) (y0 : Int32) (y1 : Int32) (σ : wx_St) : Option Int32 :=
  K6 (y0 + y1) (x5 + 1) σ
def f_L_live_6   : Nat → Int32 → Int32 → wx_St → Option Int32
  | 0, _, _, _ => none
  | n + 1, x4, x5, σ =>
  wx_rI σ 16 0 7 5 (fun v10 => if v10 ≤ x5 then
    some x4
   else
    wx_rI σ 16 1 6 (2 * x5) (fun v22 => wx_rI σ 16 3 64 v22 (fun v23 => wx_rI σ 16 1 6 ((2 * x5) + 1) (fun v31 => wx_o (f_L_fed v23 v31 σ) (fun v33 => if v33 = 0 then
      f_L_live_44 (f_L_live_6 n) x4 x5 x4 0 σ
     else
      f_L_live_44 (f_L_live_6 n) x4 x5 x4 1 σ)))))
def f_L_live    (σ : wx_St) : Option Int32 :=
  f_L_live_6 2000 0 0 σ
variable {p : Program} {l : Launch} {e : Env} {s : State} {m : MethodId} {args : Array Value} {below : List Frame} {meth : Method} {c : Code} {D : va_G} {ad : Nat → Nat → Nat} {rd : Nat → Nat} {ca : Nat → ClassId} {A : Nat → Prop}
theorem k_L_cell_w0 : Cond.constant RL 7 (1033861975) ∈ wsL_cell := by decide +kernel
theorem k_L_cell_w1 : Cond.constant RL 8 (684254885) ∈ wsL_cell := by decide +kernel
set_option maxRecDepth 20000 in
set_option maxHeartbeats 4000000 in
theorem b_L_cell_21 (B : wx_B p s m args meth c cL_cell 2 (some .int) wsL_cell RL D ad ca A)    {r : Int32} {σ : wx_St}  {x1 : Int32} {y0 : Int32}   (h : f_L_cell_21 ad x1 y0 = some r) {H : Heap} {locs : List Loc} (Z : wx_Z D ad rd ca A σ H) (hS : va_S A s.heap H locs) {ls : Array Slot} (hl : lv_has ls 2 [(0, .ref (ad 18 0)), (1, .int x1)]) : W p l e ({ frames := 0, cells := 0, slots := 0, locals := 0 } : Room) s m args below meth c H locs 0 0 (MQ below (wx_Q D ad rd ca A (some (.int r)) σ) args s 0 0 A) (F0 m 21 ls [.int y0]) := by
  obtain ⟨hx, hb, hml, hr, hts, hown, hlk, hC, hA⟩ := id B
  unfold f_L_cell_21 at h
  obtain rfl := Option.some.inj h
  exact W.iret hx hb hr (fun t ht hW => ⟨rfl, by rw [ht]; exact Z, hS.F ht⟩) hS.2.2 dL_cell_21
set_option maxRecDepth 20000 in
set_option maxHeartbeats 4000000 in
theorem b_L_cell_0 (B : wx_B p s m args meth c cL_cell 2 (some .int) wsL_cell RL D ad ca A)    {r : Int32} {σ : wx_St}  {x1 : Int32}   (h : f_L_cell ad x1 = some r) {H : Heap} {locs : List Loc} (Z : wx_Z D ad rd ca A σ H) (hS : va_S A s.heap H locs) {ls : Array Slot} (hl : lv_has ls 2 [(0, .ref (ad 18 0)), (1, .int x1)]) : W p l e ({ frames := 0, cells := 0, slots := 0, locals := 0 } : Room) s m args below meth c H locs 0 0 (MQ below (wx_Q D ad rd ca A (some (.int r)) σ) args s 0 0 A) (F0 m 0 ls []) := by
  obtain ⟨hx, hb, hml, hr, hts, hown, hlk, hC, hA⟩ := id B
  unfold f_L_cell at h
  refine lv_iload_n hx hb dL_cell_0 rfl (lv_at hl 1 rfl) ?_
  refine lv_aload_n hx hb dL_cell_1 rfl (lv_at hl 0 rfl) ?_
  refine va_slen hx hb hC.2.1.2.2.1 hC.2.1.2.2.2.1 hC.2.1.2.2.2.2 hS dL_cell_2 ?_
  refine lv_icmp_ge (tgt := 12) hx hb dL_cell_3 (by decide) (fun c3 => ?_) (fun c3 => ?_)
  · replace h := wx_ift c3 h
    refine lv_ldc hx hb hown (hts _ k_L_cell_w0) dL_cell_12 ?_
    refine lv_iload_n hx hb dL_cell_14 rfl (lv_at hl 1 rfl) ?_
    refine lv_iconst (v := 1) hx hb dL_cell_15 (by decide) ?_
    refine lv_iadd hx hb dL_cell_16 ?_
    refine lv_imul hx hb dL_cell_17 ?_
    refine lv_ldc hx hb hown (hts _ k_L_cell_w1) dL_cell_18 ?_
    refine lv_iadd hx hb dL_cell_20 ?_
    exact b_L_cell_21 B h Z hS (lv_sub hl [0, 1] rfl)
  · replace h := wx_iff c3 h
    refine lv_aload_n hx hb dL_cell_6 rfl (lv_at hl 0 rfl) ?_
    refine lv_iload_n hx hb dL_cell_7 rfl (lv_at hl 1 rfl) ?_
    obtain ⟨v8, ev8, iv8, h⟩ := wx_rX_ok h
    subst ev8
    refine va_sld hx hb hC.2.1.2.2.1 hC.2.1.2.2.2.1 hC.2.1.2.2.2.2 hS (wx_in_vp iv8) dL_cell_8 ?_
    refine lv_goto (tgt := 21) hx hb dL_cell_9 (by decide) ?_
    exact b_L_cell_21 B h Z hS (lv_sub hl [0, 1] rfl)
set_option maxRecDepth 20000 in
theorem c_L_cell (l : Launch) {D : va_G} {ad : Nat → Nat → Nat} {rd : Nat → Nat} {ca : Nat → ClassId} {A : Nat → Prop} {σ : wx_St}    {x1 : Int32} {r : Int32} (h : f_L_cell ad x1 = some r) : wx_M l yL_cell wsL_cell 0 0 D ad rd ca A [.ref (ad 18 0), .int x1] σ (some (.int r)) σ := by
  refine Met.ofW (cc := cL_cell) (maxL := 2) (ret := (some .int)) (by decide +kernel) rfl ?_
  intro p e s m args below meth c s₁ B0 hml hv
  obtain ⟨rfl, hC, Z, hA⟩ := hv
  have hl := lv_entry ([.ref (ad 18 0), .int x1]) (n := 2) (Nat.le_of_ble_eq_true rfl)
  rw [lg_entry_eq]
  generalize (lg_sl ([.ref (ad 18 0), .int x1]) ++ List.replicate (2 - (lg_sl ([.ref (ad 18 0), .int x1])).length) Slot.unset).toArray = ls at hl ⊢
  exact b_L_cell_0 ⟨B0.exec, B0.bytes, hml, B0.returns, atoms_spec (ws := wsL_cell) B0.pre, findClass_of_methodNamed B0.named, B0.notSynchronized, hC, hA⟩   h Z va_S.rf hl
theorem k_L_low_w0 : Cond.constant RL 9 (2147483647) ∈ wsL_low := by decide +kernel
set_option maxRecDepth 20000 in
set_option maxHeartbeats 4000000 in
theorem b_L_low_0 (B : wx_B p s m args meth c cL_low 2 (some .int) wsL_low RL D ad ca A)    {r : Int32} {σ : wx_St}  {x0 : Int32} {x1 : Int32}   (h : f_L_low x0 x1 = some r) {H : Heap} {locs : List Loc} (Z : wx_Z D ad rd ca A σ H) (hS : va_S A s.heap H locs) {ls : Array Slot} (hl : lv_has ls 2 [(0, .int x0), (1, .int x1)]) : W p l e ({ frames := 0, cells := 0, slots := 0, locals := 0 } : Room) s m args below meth c H locs 0 0 (MQ below (wx_Q D ad rd ca A (some (.int r)) σ) args s 0 0 A) (F0 m 0 ls []) := by
  obtain ⟨hx, hb, hml, hr, hts, hown, hlk, hC, hA⟩ := id B
  unfold f_L_low at h
  refine lv_iload_n hx hb dL_low_0 rfl (lv_at hl 0 rfl) ?_
  refine lv_ldc hx hb hown (hts _ k_L_low_w0) dL_low_1 ?_
  refine lv_iand hx hb dL_low_3 ?_
  refine lv_iload_n hx hb dL_low_4 rfl (lv_at hl 1 rfl) ?_
  obtain ⟨hz5, h⟩ := wx_nz_ok h
  refine lv_irem hx hb dL_low_5 hz5 ?_
  obtain rfl := Option.some.inj h
  exact W.iret hx hb hr (fun t ht hW => ⟨rfl, by rw [ht]; exact Z, hS.F ht⟩) hS.2.2 dL_low_6
set_option maxRecDepth 20000 in
theorem c_L_low (l : Launch) {D : va_G} {ad : Nat → Nat → Nat} {rd : Nat → Nat} {ca : Nat → ClassId} {A : Nat → Prop} {σ : wx_St}    {x0 : Int32} {x1 : Int32} {r : Int32} (h : f_L_low x0 x1 = some r) : wx_M l yL_low wsL_low 0 0 D ad rd ca A [.int x0, .int x1] σ (some (.int r)) σ := by
  refine Met.ofW (cc := cL_low) (maxL := 2) (ret := (some .int)) (by decide +kernel) rfl ?_
  intro p e s m args below meth c s₁ B0 hml hv
  obtain ⟨rfl, hC, Z, hA⟩ := hv
  have hl := lv_entry ([.int x0, .int x1]) (n := 2) (Nat.le_of_ble_eq_true rfl)
  rw [lg_entry_eq]
  generalize (lg_sl ([.int x0, .int x1]) ++ List.replicate (2 - (lg_sl ([.int x0, .int x1])).length) Slot.unset).toArray = ls at hl ⊢
  exact b_L_low_0 ⟨B0.exec, B0.bytes, hml, B0.returns, atoms_spec (ws := wsL_low) B0.pre, findClass_of_methodNamed B0.named, B0.notSynchronized, hC, hA⟩   h Z va_S.rf hl
set_option maxRecDepth 20000 in
set_option maxHeartbeats 4000000 in
theorem b_L_net_32 (B : wx_B p s m args meth c cL_net 3 (some .int) wsL_net RL D ad ca A)    {r : Int32} {σ : wx_St}  {x0 : Int32} {x1 : Int32} {y0 : Int32}   (h : f_L_net_32 x0 x1 y0 σ = some r) {H : Heap} {locs : List Loc} (Z : wx_Z D ad rd ca A σ H) (hS : va_S A s.heap H locs) {ls : Array Slot} (hl : lv_has ls 3 [(0, .int x0), (1, .int x1), (2, .ref (ad 16 3))]) : W p l e ({ frames := 0, cells := 0, slots := 0, locals := 0 } : Room) s m args below meth c H locs 0 0 (MQ below (wx_Q D ad rd ca A (some (.int r)) σ) args s 0 0 A) (F0 m 32 ls [.int y0]) := by
  obtain ⟨hx, hb, hml, hr, hts, hown, hlk, hC, hA⟩ := id B
  unfold f_L_net_32 at h
  obtain rfl := Option.some.inj h
  exact W.iret hx hb hr (fun t ht hW => ⟨rfl, by rw [ht]; exact Z, hS.F ht⟩) hS.2.2 dL_net_32
set_option maxRecDepth 20000 in
set_option maxHeartbeats 4000000 in
theorem b_L_net_20 (B : wx_B p s m args meth c cL_net 3 (some .int) wsL_net RL D ad ca A)    {r : Int32} {σ : wx_St}  {x0 : Int32} {x1 : Int32}   (h : f_L_net_20 x0 x1 σ = some r) {H : Heap} {locs : List Loc} (Z : wx_Z D ad rd ca A σ H) (hS : va_S A s.heap H locs) {ls : Array Slot} (hl : lv_has ls 3 [(0, .int x0), (1, .int x1), (2, .ref (ad 16 3))]) : W p l e ({ frames := 0, cells := 0, slots := 0, locals := 0 } : Room) s m args below meth c H locs 0 0 (MQ below (wx_Q D ad rd ca A (some (.int r)) σ) args s 0 0 A) (F0 m 20 ls []) := by
  obtain ⟨hx, hb, hml, hr, hts, hown, hlk, hC, hA⟩ := id B
  unfold f_L_net_20 at h
  refine lv_iconst (v := 0) hx hb dL_net_20 (by decide) ?_
  refine lv_goto (tgt := 32) hx hb dL_net_21 (by decide) ?_
  exact b_L_net_32 B h Z hS (lv_sub hl [0, 1, 2] rfl)
set_option maxRecDepth 20000 in
set_option maxHeartbeats 4000000 in
theorem b_L_net_0 (B : wx_B p s m args meth c cL_net 3 (some .int) wsL_net RL D ad ca A)    {r : Int32} {σ : wx_St}  {x0 : Int32} {x1 : Int32}   (h : f_L_net x0 x1 σ = some r) {H : Heap} {locs : List Loc} (Z : wx_Z D ad rd ca A σ H) (hS : va_S A s.heap H locs) {ls : Array Slot} (hl : lv_has ls 3 [(0, .int x0), (1, .int x1), (2, .ref (ad 16 3))]) : W p l e ({ frames := 0, cells := 0, slots := 0, locals := 0 } : Room) s m args below meth c H locs 0 0 (MQ below (wx_Q D ad rd ca A (some (.int r)) σ) args s 0 0 A) (F0 m 0 ls []) := by
  obtain ⟨hx, hb, hml, hr, hts, hown, hlk, hC, hA⟩ := id B
  unfold f_L_net at h
  refine lv_iload_n hx hb dL_net_0 rfl (lv_at hl 0 rfl) ?_
  refine lv_if_lt (tgt := 20) hx hb dL_net_1 (by decide) (fun c1 => ?_) (fun c1 => ?_)
  · replace h := wx_ift c1 h
    exact b_L_net_20 B h Z hS (lv_sub hl [0, 1, 2] rfl)
  · replace h := wx_iff c1 h
    refine lv_iload_n hx hb dL_net_4 rfl (lv_at hl 1 rfl) ?_
    refine lv_if_lt (tgt := 20) hx hb dL_net_5 (by decide) (fun c5 => ?_) (fun c5 => ?_)
    · replace h := wx_ift c5 h
      exact b_L_net_20 B h Z hS (lv_sub hl [0, 1, 2] rfl)
    · replace h := wx_iff c5 h
      refine lv_iload_n hx hb dL_net_8 rfl (lv_at hl 0 rfl) ?_
      refine lv_bipush (v := 7) hx hb dL_net_9 (by decide) ?_
      refine lv_icmp_gt (tgt := 20) hx hb dL_net_11 (by decide) (fun c11 => ?_) (fun c11 => ?_)
      · replace h := wx_ift c11 h
        exact b_L_net_20 B h Z hS (lv_sub hl [0, 1, 2] rfl)
      · replace h := wx_iff c11 h
        refine lv_iload_n hx hb dL_net_14 rfl (lv_at hl 1 rfl) ?_
        refine lv_bipush (v := 7) hx hb dL_net_15 (by decide) ?_
        refine lv_icmp_le (tgt := 24) hx hb dL_net_17 (by decide) (fun c17 => ?_) (fun c17 => ?_)
        · replace h := wx_ift c17 h
          refine lv_aload_n hx hb dL_net_24 rfl (lv_at hl 2 rfl) ?_
          refine lv_bipush (v := 8) hx hb dL_net_25 (by decide) ?_
          refine lv_iload_n hx hb dL_net_27 rfl (lv_at hl 0 rfl) ?_
          refine lv_imul hx hb dL_net_28 ?_
          refine lv_iload_n hx hb dL_net_29 rfl (lv_at hl 1 rfl) ?_
          refine lv_iadd hx hb dL_net_30 ?_
          obtain ⟨v31, ev31, iv31, h⟩ := wx_rI_ok h
          refine wx_iald hx hb hC.1 Z (o := 16) (k := 3) (n := 64) rfl rfl iv31 dL_net_31 ev31 ?_
          exact b_L_net_32 B h Z hS (lv_sub hl [0, 1, 2] rfl)
        · replace h := wx_iff c17 h
          exact b_L_net_20 B h Z hS (lv_sub hl [0, 1, 2] rfl)
set_option maxRecDepth 20000 in
theorem c_L_net (l : Launch) {D : va_G} {ad : Nat → Nat → Nat} {rd : Nat → Nat} {ca : Nat → ClassId} {A : Nat → Prop} {σ : wx_St}    {x0 : Int32} {x1 : Int32} {r : Int32} (h : f_L_net x0 x1 σ = some r) : wx_M l yL_net wsL_net 0 0 D ad rd ca A [.int x0, .int x1, .ref (ad 16 3)] σ (some (.int r)) σ := by
  refine Met.ofW (cc := cL_net) (maxL := 3) (ret := (some .int)) (by decide +kernel) rfl ?_
  intro p e s m args below meth c s₁ B0 hml hv
  obtain ⟨rfl, hC, Z, hA⟩ := hv
  have hl := lv_entry ([.int x0, .int x1, .ref (ad 16 3)]) (n := 3) (Nat.le_of_ble_eq_true rfl)
  rw [lg_entry_eq]
  generalize (lg_sl ([.int x0, .int x1, .ref (ad 16 3)]) ++ List.replicate (3 - (lg_sl ([.int x0, .int x1, .ref (ad 16 3)])).length) Slot.unset).toArray = ls at hl ⊢
  exact b_L_net_0 ⟨B0.exec, B0.bytes, hml, B0.returns, atoms_spec (ws := wsL_net) B0.pre, findClass_of_methodNamed B0.named, B0.notSynchronized, hC, hA⟩   h Z va_S.rf hl
set_option maxRecDepth 20000 in
set_option maxHeartbeats 4000000 in
theorem b_L_beside_79 (B : wx_B p s m args meth c cL_beside 3 (some .int) wsL_beside RL D ad ca A)    {r : Int32} {σ : wx_St}  {x0 : Int32} {x1 : Int32} {y0 : Int32}   (h : f_L_beside_79 x0 x1 y0 σ = some r) {H : Heap} {locs : List Loc} (Z : wx_Z D ad rd ca A σ H) (hS : va_S A s.heap H locs) {ls : Array Slot} (hl : lv_has ls 3 [(0, .int x0), (1, .int x1), (2, .ref (ad 16 3))]) : W p l e ({ frames := 1, cells := 0, slots := 0, locals := 22 } : Room) s m args below meth c H locs 0 0 (MQ below (wx_Q D ad rd ca A (some (.int r)) σ) args s 0 0 A) (F0 m 79 ls [.int y0]) := by
  obtain ⟨hx, hb, hml, hr, hts, hown, hlk, hC, hA⟩ := id B
  unfold f_L_beside_79 at h
  obtain rfl := Option.some.inj h
  exact W.iret hx hb hr (fun t ht hW => ⟨rfl, by rw [ht]; exact Z, hS.F ht⟩) hS.2.2 dL_beside_79
set_option maxRecDepth 20000 in
set_option maxHeartbeats 4000000 in
theorem b_L_beside_0 (B : wx_B p s m args meth c cL_beside 3 (some .int) wsL_beside RL D ad ca A)    {r : Int32} {σ : wx_St}  {x0 : Int32} {x1 : Int32}   (h : f_L_beside x0 x1 σ = some r) {H : Heap} {locs : List Loc} (Z : wx_Z D ad rd ca A σ H) (hS : va_S A s.heap H locs) {ls : Array Slot} (hl : lv_has ls 3 [(0, .int x0), (1, .int x1), (2, .ref (ad 16 3))]) : W p l e ({ frames := 1, cells := 0, slots := 0, locals := 22 } : Room) s m args below meth c H locs 0 0 (MQ below (wx_Q D ad rd ca A (some (.int r)) σ) args s 0 0 A) (F0 m 0 ls []) := by
  obtain ⟨hx, hb, hml, hr, hts, hown, hlk, hC, hA⟩ := id B
  unfold f_L_beside at h
  refine lv_iload_n hx hb dL_beside_0 rfl (lv_at hl 1 rfl) ?_
  refine lv_if_ne (tgt := 21) hx hb dL_beside_1 (by decide) (fun c1 => ?_) (fun c1 => ?_)
  · replace h := wx_iff c1 h
    refine lv_iload_n hx hb dL_beside_21 rfl (lv_at hl 1 rfl) ?_
    refine lv_iconst (v := 1) hx hb dL_beside_22 (by decide) ?_
    refine lv_icmp_ne (tgt := 43) hx hb dL_beside_23 (by decide) (fun c23 => ?_) (fun c23 => ?_)
    · replace h := wx_iff c23 h
      refine lv_iload_n hx hb dL_beside_43 rfl (lv_at hl 1 rfl) ?_
      refine lv_iconst (v := 2) hx hb dL_beside_44 (by decide) ?_
      refine lv_icmp_ne (tgt := 65) hx hb dL_beside_45 (by decide) (fun c45 => ?_) (fun c45 => ?_)
      · replace h := wx_iff c45 h
        refine lv_iload_n hx hb dL_beside_65 rfl (lv_at hl 0 rfl) ?_
        refine lv_bipush (v := 8) hx hb dL_beside_66 (by decide) ?_
        refine lv_idiv hx hb dL_beside_68 (by decide) ?_
        refine lv_iload_n hx hb dL_beside_69 rfl (lv_at hl 0 rfl) ?_
        refine lv_bipush (v := 8) hx hb dL_beside_70 (by decide) ?_
        refine lv_irem hx hb dL_beside_72 (by decide) ?_
        refine lv_iconst (v := 1) hx hb dL_beside_73 (by decide) ?_
        refine lv_iadd hx hb dL_beside_74 ?_
        refine lv_aload_n hx hb dL_beside_75 rfl (lv_at hl 2 rfl) ?_
        obtain ⟨v76, hc76, h⟩ := wx_o_ok h
        refine wx_call (va_runS (As := [.int (x0 / 8), .int ((x0 - x0 / 8 * 8) + 1), .ref (ad 16 3)]) (rest := []) ⟨hx, hb, hml, hown, hts⟩ (c_L_net l (D := D) (ad := ad) (rd := rd) (ca := ca) (A := A) (σ := σ) hc76) (va_cwS 3 hts gL_beside_L_net rfl rfl rfl (by decide +kernel) ⟨Nat.le_of_ble_eq_true rfl, Nat.le_of_ble_eq_true rfl⟩) (wx_preS hC Z hS hA) rfl rfl hl.1 rfl (lv_room (Nat.le_of_ble_eq_true rfl)) dL_beside_76 ⟨Nat.zero_le _, Nat.zero_le _⟩) hS (fun H locs Z hS => ?_)
        exact b_L_beside_79 B h Z hS (lv_sub hl [0, 1, 2] rfl)
      · replace h := wx_ift c45 h
        refine lv_iload_n hx hb dL_beside_48 rfl (lv_at hl 0 rfl) ?_
        refine lv_bipush (v := 8) hx hb dL_beside_49 (by decide) ?_
        refine lv_idiv hx hb dL_beside_51 (by decide) ?_
        refine lv_iload_n hx hb dL_beside_52 rfl (lv_at hl 0 rfl) ?_
        refine lv_bipush (v := 8) hx hb dL_beside_53 (by decide) ?_
        refine lv_irem hx hb dL_beside_55 (by decide) ?_
        refine lv_iconst (v := 1) hx hb dL_beside_56 (by decide) ?_
        refine lv_isub hx hb dL_beside_57 ?_
        refine lv_aload_n hx hb dL_beside_58 rfl (lv_at hl 2 rfl) ?_
        obtain ⟨v59, hc59, h⟩ := wx_o_ok h
        refine wx_call (va_runS (As := [.int (x0 / 8), .int ((x0 - x0 / 8 * 8) - 1), .ref (ad 16 3)]) (rest := []) ⟨hx, hb, hml, hown, hts⟩ (c_L_net l (D := D) (ad := ad) (rd := rd) (ca := ca) (A := A) (σ := σ) hc59) (va_cwS 3 hts gL_beside_L_net rfl rfl rfl (by decide +kernel) ⟨Nat.le_of_ble_eq_true rfl, Nat.le_of_ble_eq_true rfl⟩) (wx_preS hC Z hS hA) rfl rfl hl.1 rfl (lv_room (Nat.le_of_ble_eq_true rfl)) dL_beside_59 ⟨Nat.zero_le _, Nat.zero_le _⟩) hS (fun H locs Z hS => ?_)
        refine lv_goto (tgt := 79) hx hb dL_beside_62 (by decide) ?_
        exact b_L_beside_79 B h Z hS (lv_sub hl [0, 1, 2] rfl)
    · replace h := wx_ift c23 h
      refine lv_iload_n hx hb dL_beside_26 rfl (lv_at hl 0 rfl) ?_
      refine lv_bipush (v := 8) hx hb dL_beside_27 (by decide) ?_
      refine lv_idiv hx hb dL_beside_29 (by decide) ?_
      refine lv_iconst (v := 1) hx hb dL_beside_30 (by decide) ?_
      refine lv_iadd hx hb dL_beside_31 ?_
      refine lv_iload_n hx hb dL_beside_32 rfl (lv_at hl 0 rfl) ?_
      refine lv_bipush (v := 8) hx hb dL_beside_33 (by decide) ?_
      refine lv_irem hx hb dL_beside_35 (by decide) ?_
      refine lv_aload_n hx hb dL_beside_36 rfl (lv_at hl 2 rfl) ?_
      obtain ⟨v37, hc37, h⟩ := wx_o_ok h
      refine wx_call (va_runS (As := [.int ((x0 / 8) + 1), .int (x0 - x0 / 8 * 8), .ref (ad 16 3)]) (rest := []) ⟨hx, hb, hml, hown, hts⟩ (c_L_net l (D := D) (ad := ad) (rd := rd) (ca := ca) (A := A) (σ := σ) hc37) (va_cwS 3 hts gL_beside_L_net rfl rfl rfl (by decide +kernel) ⟨Nat.le_of_ble_eq_true rfl, Nat.le_of_ble_eq_true rfl⟩) (wx_preS hC Z hS hA) rfl rfl hl.1 rfl (lv_room (Nat.le_of_ble_eq_true rfl)) dL_beside_37 ⟨Nat.zero_le _, Nat.zero_le _⟩) hS (fun H locs Z hS => ?_)
      refine lv_goto (tgt := 79) hx hb dL_beside_40 (by decide) ?_
      exact b_L_beside_79 B h Z hS (lv_sub hl [0, 1, 2] rfl)
  · replace h := wx_ift c1 h
    refine lv_iload_n hx hb dL_beside_4 rfl (lv_at hl 0 rfl) ?_
    refine lv_bipush (v := 8) hx hb dL_beside_5 (by decide) ?_
    refine lv_idiv hx hb dL_beside_7 (by decide) ?_
    refine lv_iconst (v := 1) hx hb dL_beside_8 (by decide) ?_
    refine lv_isub hx hb dL_beside_9 ?_
    refine lv_iload_n hx hb dL_beside_10 rfl (lv_at hl 0 rfl) ?_
    refine lv_bipush (v := 8) hx hb dL_beside_11 (by decide) ?_
    refine lv_irem hx hb dL_beside_13 (by decide) ?_
    refine lv_aload_n hx hb dL_beside_14 rfl (lv_at hl 2 rfl) ?_
    obtain ⟨v15, hc15, h⟩ := wx_o_ok h
    refine wx_call (va_runS (As := [.int ((x0 / 8) - 1), .int (x0 - x0 / 8 * 8), .ref (ad 16 3)]) (rest := []) ⟨hx, hb, hml, hown, hts⟩ (c_L_net l (D := D) (ad := ad) (rd := rd) (ca := ca) (A := A) (σ := σ) hc15) (va_cwS 3 hts gL_beside_L_net rfl rfl rfl (by decide +kernel) ⟨Nat.le_of_ble_eq_true rfl, Nat.le_of_ble_eq_true rfl⟩) (wx_preS hC Z hS hA) rfl rfl hl.1 rfl (lv_room (Nat.le_of_ble_eq_true rfl)) dL_beside_15 ⟨Nat.zero_le _, Nat.zero_le _⟩) hS (fun H locs Z hS => ?_)
    refine lv_goto (tgt := 79) hx hb dL_beside_18 (by decide) ?_
    exact b_L_beside_79 B h Z hS (lv_sub hl [0, 1, 2] rfl)
set_option maxRecDepth 20000 in
theorem c_L_beside (l : Launch) {D : va_G} {ad : Nat → Nat → Nat} {rd : Nat → Nat} {ca : Nat → ClassId} {A : Nat → Prop} {σ : wx_St}    {x0 : Int32} {x1 : Int32} {r : Int32} (h : f_L_beside x0 x1 σ = some r) : wx_M l yL_beside wsL_beside 1 22 D ad rd ca A [.int x0, .int x1, .ref (ad 16 3)] σ (some (.int r)) σ := by
  refine Met.ofW (cc := cL_beside) (maxL := 3) (ret := (some .int)) (by decide +kernel) rfl ?_
  intro p e s m args below meth c s₁ B0 hml hv
  obtain ⟨rfl, hC, Z, hA⟩ := hv
  have hl := lv_entry ([.int x0, .int x1, .ref (ad 16 3)]) (n := 3) (Nat.le_of_ble_eq_true rfl)
  rw [lg_entry_eq]
  generalize (lg_sl ([.int x0, .int x1, .ref (ad 16 3)]) ++ List.replicate (3 - (lg_sl ([.int x0, .int x1, .ref (ad 16 3)])).length) Slot.unset).toArray = ls at hl ⊢
  exact b_L_beside_0 ⟨B0.exec, B0.bytes, hml, B0.returns, atoms_spec (ws := wsL_beside) B0.pre, findClass_of_methodNamed B0.named, B0.notSynchronized, hC, hA⟩   h Z va_S.rf hl
set_option maxRecDepth 20000 in
set_option maxHeartbeats 4000000 in
theorem b_L_near_36 (B : wx_B p s m args meth c cL_near 4 (some .boolean) wsL_near RL D ad ca A)    {r : Int32} {σ : wx_St}  {x0 : Int32} {x1 : Int32} {x2 : Int32} {x3 : Int32} {y0 : Int32}   (h : f_L_near_36 x0 x1 x2 x3 y0 = some r) {H : Heap} {locs : List Loc} (Z : wx_Z D ad rd ca A σ H) (hS : va_S A s.heap H locs) {ls : Array Slot} (hl : lv_has ls 4 [(0, .int x0), (1, .int x1), (2, .int x2), (3, .int x3)]) : W p l e ({ frames := 0, cells := 0, slots := 0, locals := 0 } : Room) s m args below meth c H locs 0 0 (MQ below (wx_Q D ad rd ca A (some (.int r)) σ) args s 0 0 A) (F0 m 36 ls [.int y0]) := by
  obtain ⟨hx, hb, hml, hr, hts, hown, hlk, hC, hA⟩ := id B
  unfold f_L_near_36 at h
  obtain ⟨hz, h⟩ := wx_z_ok h
  obtain rfl := Option.some.inj h
  exact W.zret hx hb hr (wx_nb hz) (fun t ht hW => ⟨rfl, by rw [ht]; exact Z, hS.F ht⟩) hS.2.2 dL_near_36
set_option maxRecDepth 20000 in
set_option maxHeartbeats 4000000 in
theorem b_L_near_0 (B : wx_B p s m args meth c cL_near 4 (some .boolean) wsL_near RL D ad ca A)    {r : Int32} {σ : wx_St}  {x0 : Int32} {x1 : Int32}   (h : f_L_near x0 x1 = some r) {H : Heap} {locs : List Loc} (Z : wx_Z D ad rd ca A σ H) (hS : va_S A s.heap H locs) {ls : Array Slot} (hl : lv_has ls 4 [(0, .int x0), (1, .int x1)]) : W p l e ({ frames := 0, cells := 0, slots := 0, locals := 0 } : Room) s m args below meth c H locs 0 0 (MQ below (wx_Q D ad rd ca A (some (.int r)) σ) args s 0 0 A) (F0 m 0 ls []) := by
  obtain ⟨hx, hb, hml, hr, hts, hown, hlk, hC, hA⟩ := id B
  unfold f_L_near at h
  refine lv_iload_n hx hb dL_near_0 rfl (lv_at hl 0 rfl) ?_
  refine lv_bipush (v := 8) hx hb dL_near_1 (by decide) ?_
  refine lv_idiv hx hb dL_near_3 (by decide) ?_
  refine lv_iload_n hx hb dL_near_4 rfl (lv_at hl 1 rfl) ?_
  refine lv_bipush (v := 8) hx hb dL_near_5 (by decide) ?_
  refine lv_idiv hx hb dL_near_7 (by decide) ?_
  refine lv_isub hx hb dL_near_8 ?_
  refine lv_istore_n (lv' := [(2, .int ((x0 / 8) - (x1 / 8))), (0, .int x0), (1, .int x1)]) hx hb dL_near_9 rfl hl (by decide) rfl (fun ls hl => ?_)
  refine lv_iload_n hx hb dL_near_10 rfl (lv_at hl 1 rfl) ?_
  refine lv_bipush (v := 8) hx hb dL_near_11 (by decide) ?_
  refine lv_irem hx hb dL_near_13 (by decide) ?_
  refine lv_iload_n hx hb dL_near_14 rfl (lv_at hl 2 rfl) ?_
  refine lv_bipush (v := 8) hx hb dL_near_15 (by decide) ?_
  refine lv_irem hx hb dL_near_17 (by decide) ?_
  refine lv_isub hx hb dL_near_18 ?_
  refine lv_istore_n (lv' := [(3, .int ((x0 - x0 / 8 * 8) - (x1 - x1 / 8 * 8))), (2, .int ((x0 / 8) - (x1 / 8))), (0, .int x0), (1, .int x1)]) hx hb dL_near_19 rfl hl (by decide) rfl (fun ls hl => ?_)
  refine lv_iload_n hx hb dL_near_20 rfl (lv_at hl 1 rfl) ?_
  refine lv_iload_n hx hb dL_near_21 rfl (lv_at hl 1 rfl) ?_
  refine lv_imul hx hb dL_near_22 ?_
  refine lv_iload_n hx hb dL_near_23 rfl (lv_at hl 0 rfl) ?_
  refine lv_iload_n hx hb dL_near_24 rfl (lv_at hl 0 rfl) ?_
  refine lv_imul hx hb dL_near_25 ?_
  refine lv_iadd hx hb dL_near_26 ?_
  refine lv_iconst (v := 1) hx hb dL_near_27 (by decide) ?_
  refine lv_icmp_ne (tgt := 35) hx hb dL_near_28 (by decide) (fun c28 => ?_) (fun c28 => ?_)
  · replace h := wx_iff c28 h
    refine lv_iconst (v := 0) hx hb dL_near_35 (by decide) ?_
    exact b_L_near_36 B h Z hS (lv_sub hl [2, 3, 1, 0] rfl)
  · replace h := wx_ift c28 h
    refine lv_iconst (v := 1) hx hb dL_near_31 (by decide) ?_
    refine lv_goto (tgt := 36) hx hb dL_near_32 (by decide) ?_
    exact b_L_near_36 B h Z hS (lv_sub hl [2, 3, 1, 0] rfl)
set_option maxRecDepth 20000 in
theorem c_L_near (l : Launch) {D : va_G} {ad : Nat → Nat → Nat} {rd : Nat → Nat} {ca : Nat → ClassId} {A : Nat → Prop} {σ : wx_St}    {x0 : Int32} {x1 : Int32} {r : Int32} (h : f_L_near x0 x1 = some r) : wx_M l yL_near wsL_near 0 0 D ad rd ca A [.int x0, .int x1] σ (some (.int r)) σ := by
  refine Met.ofW (cc := cL_near) (maxL := 4) (ret := (some .boolean)) (by decide +kernel) rfl ?_
  intro p e s m args below meth c s₁ B0 hml hv
  obtain ⟨rfl, hC, Z, hA⟩ := hv
  have hl := lv_entry ([.int x0, .int x1]) (n := 4) (Nat.le_of_ble_eq_true rfl)
  rw [lg_entry_eq]
  generalize (lg_sl ([.int x0, .int x1]) ++ List.replicate (4 - (lg_sl ([.int x0, .int x1])).length) Slot.unset).toArray = ls at hl ⊢
  exact b_L_near_0 ⟨B0.exec, B0.bytes, hml, B0.returns, atoms_spec (ws := wsL_near) B0.pre, findClass_of_methodNamed B0.named, B0.notSynchronized, hC, hA⟩   h Z va_S.rf hl
set_option maxRecDepth 20000 in
set_option maxHeartbeats 4000000 in
theorem b_L_fed_16 (B : wx_B p s m args meth c cL_fed 3 (some .boolean) wsL_fed RL D ad ca A)    {r : Int32} {σ : wx_St}  {x0 : Int32} {x1 : Int32} {y0 : Int32}   (h : f_L_fed_16 x0 x1 y0 σ = some r) {H : Heap} {locs : List Loc} (Z : wx_Z D ad rd ca A σ H) (hS : va_S A s.heap H locs) {ls : Array Slot} (hl : lv_has ls 3 [(0, .int x0), (1, .int x1), (2, .ref (ad 16 4))]) : W p l e ({ frames := 0, cells := 0, slots := 0, locals := 0 } : Room) s m args below meth c H locs 0 0 (MQ below (wx_Q D ad rd ca A (some (.int r)) σ) args s 0 0 A) (F0 m 16 ls [.int y0]) := by
  obtain ⟨hx, hb, hml, hr, hts, hown, hlk, hC, hA⟩ := id B
  unfold f_L_fed_16 at h
  obtain ⟨hz, h⟩ := wx_z_ok h
  obtain rfl := Option.some.inj h
  exact W.zret hx hb hr (wx_nb hz) (fun t ht hW => ⟨rfl, by rw [ht]; exact Z, hS.F ht⟩) hS.2.2 dL_fed_16
set_option maxRecDepth 20000 in
set_option maxHeartbeats 4000000 in
theorem b_L_fed_0 (B : wx_B p s m args meth c cL_fed 3 (some .boolean) wsL_fed RL D ad ca A)    {r : Int32} {σ : wx_St}  {x0 : Int32} {x1 : Int32}   (h : f_L_fed x0 x1 σ = some r) {H : Heap} {locs : List Loc} (Z : wx_Z D ad rd ca A σ H) (hS : va_S A s.heap H locs) {ls : Array Slot} (hl : lv_has ls 3 [(0, .int x0), (1, .int x1), (2, .ref (ad 16 4))]) : W p l e ({ frames := 0, cells := 0, slots := 0, locals := 0 } : Room) s m args below meth c H locs 0 0 (MQ below (wx_Q D ad rd ca A (some (.int r)) σ) args s 0 0 A) (F0 m 0 ls []) := by
  obtain ⟨hx, hb, hml, hr, hts, hown, hlk, hC, hA⟩ := id B
  unfold f_L_fed at h
  refine lv_aload_n hx hb dL_fed_0 rfl (lv_at hl 2 rfl) ?_
  refine lv_iload_n hx hb dL_fed_1 rfl (lv_at hl 0 rfl) ?_
  obtain ⟨v2, ev2, iv2, h⟩ := wx_rI_ok h
  refine wx_iald hx hb hC.1 Z (o := 16) (k := 4) (n := 8) rfl rfl iv2 dL_fed_2 ev2 ?_
  refine lv_iload_n hx hb dL_fed_3 rfl (lv_at hl 1 rfl) ?_
  refine lv_ishr hx hb dL_fed_4 ?_
  refine lv_iconst (v := 1) hx hb dL_fed_5 (by decide) ?_
  refine lv_iand hx hb dL_fed_6 ?_
  refine lv_iconst (v := 1) hx hb dL_fed_7 (by decide) ?_
  refine lv_icmp_ne (tgt := 15) hx hb dL_fed_8 (by decide) (fun c8 => ?_) (fun c8 => ?_)
  · replace h := wx_iff c8 h
    refine lv_iconst (v := 0) hx hb dL_fed_15 (by decide) ?_
    exact b_L_fed_16 B h Z hS (lv_sub hl [0, 1, 2] rfl)
  · replace h := wx_ift c8 h
    refine lv_iconst (v := 1) hx hb dL_fed_11 (by decide) ?_
    refine lv_goto (tgt := 16) hx hb dL_fed_12 (by decide) ?_
    exact b_L_fed_16 B h Z hS (lv_sub hl [0, 1, 2] rfl)
set_option maxRecDepth 20000 in
theorem c_L_fed (l : Launch) {D : va_G} {ad : Nat → Nat → Nat} {rd : Nat → Nat} {ca : Nat → ClassId} {A : Nat → Prop} {σ : wx_St}    {x0 : Int32} {x1 : Int32} {r : Int32} (h : f_L_fed x0 x1 σ = some r) : wx_M l yL_fed wsL_fed 0 0 D ad rd ca A [.int x0, .int x1, .ref (ad 16 4)] σ (some (.int r)) σ := by
  refine Met.ofW (cc := cL_fed) (maxL := 3) (ret := (some .boolean)) (by decide +kernel) rfl ?_
  intro p e s m args below meth c s₁ B0 hml hv
  obtain ⟨rfl, hC, Z, hA⟩ := hv
  have hl := lv_entry ([.int x0, .int x1, .ref (ad 16 4)]) (n := 3) (Nat.le_of_ble_eq_true rfl)
  rw [lg_entry_eq]
  generalize (lg_sl ([.int x0, .int x1, .ref (ad 16 4)]) ++ List.replicate (3 - (lg_sl ([.int x0, .int x1, .ref (ad 16 4)])).length) Slot.unset).toArray = ls at hl ⊢
  exact b_L_fed_0 ⟨B0.exec, B0.bytes, hml, B0.returns, atoms_spec (ws := wsL_fed) B0.pre, findClass_of_methodNamed B0.named, B0.notSynchronized, hC, hA⟩   h Z va_S.rf hl
set_option maxRecDepth 20000 in
set_option maxHeartbeats 4000000 in
theorem b_L_suspect_48 (B : wx_B p s m args meth c cL_suspect 5 (some .boolean) wsL_suspect RL D ad ca A)    {r : Int32} {σ : wx_St} {K2 : Int32 → Int32 → wx_St → Option Int32} (hK2 : ∀ {x0 : Int32} {x3 : Int32}   (h : K2 x0 x3 σ = some r) {H : Heap} {locs : List Loc} (Z : wx_Z D ad rd ca A σ H) (hS : va_S A s.heap H locs) {ls : Array Slot} (hl : lv_has ls 5 [(0, .int x0), (1, .ref (ad 16 3)), (2, .ref (ad 16 4)), (3, .int x3)]), W p l e ({ frames := 2, cells := 0, slots := 0, locals := 44 } : Room) s m args below meth c H locs 0 0 (MQ below (wx_Q D ad rd ca A (some (.int r)) σ) args s 0 0 A) (F0 m 2 ls [])) {x0 : Int32} {x3 : Int32} {x4 : Int32}   (h : f_L_suspect_48 K2 x0 x3 x4 σ = some r) {H : Heap} {locs : List Loc} (Z : wx_Z D ad rd ca A σ H) (hS : va_S A s.heap H locs) {ls : Array Slot} (hl : lv_has ls 5 [(0, .int x0), (1, .ref (ad 16 3)), (2, .ref (ad 16 4)), (3, .int x3), (4, .int x4)]) : W p l e ({ frames := 2, cells := 0, slots := 0, locals := 44 } : Room) s m args below meth c H locs 0 0 (MQ below (wx_Q D ad rd ca A (some (.int r)) σ) args s 0 0 A) (F0 m 48 ls []) := by
  obtain ⟨hx, hb, hml, hr, hts, hown, hlk, hC, hA⟩ := id B
  unfold f_L_suspect_48 at h
  refine lv_iinc (v := x3 + 1) (lv' := [(3, .int (x3 + 1)), (0, .int x0), (1, .ref (ad 16 3)), (2, .ref (ad 16 4)), (4, .int x4)]) hx hb dL_suspect_48 hl (k := 3) rfl rfl (by decide) rfl (fun ls hl => ?_)
  refine lv_goto (tgt := 2) hx hb dL_suspect_51 (by decide) ?_
  exact hK2 h Z hS (lv_sub hl [1, 2, 3, 0] rfl)
set_option maxRecDepth 20000 in
set_option maxHeartbeats 4000000 in
theorem b_L_suspect_2 (B : wx_B p s m args meth c cL_suspect 5 (some .boolean) wsL_suspect RL D ad ca A)    {r : Int32} {σ : wx_St}   :
    ∀ {n : Nat} {x0 : Int32} {x3 : Int32}   (h : f_L_suspect_2 n x0 x3 σ = some r) {H : Heap} {locs : List Loc} (Z : wx_Z D ad rd ca A σ H) (hS : va_S A s.heap H locs) {ls : Array Slot} (hl : lv_has ls 5 [(0, .int x0), (1, .ref (ad 16 3)), (2, .ref (ad 16 4)), (3, .int x3)]), W p l e ({ frames := 2, cells := 0, slots := 0, locals := 44 } : Room) s m args below meth c H locs 0 0 (MQ below (wx_Q D ad rd ca A (some (.int r)) σ) args s 0 0 A) (F0 m 2 ls []) := by
  obtain ⟨hx, hb, hml, hr, hts, hown, hlk, hC, hA⟩ := id B
  intro n
  induction n with
  | zero => intro x0 x3   h H locs Z hS ls hl; exact wx_no h
  | succ n ih =>
    intro x0 x3   h H locs Z hS ls hl
    rw [f_L_suspect_2] at h
    refine lv_iload_n hx hb dL_suspect_2 rfl (lv_at hl 3 rfl) ?_
    refine lv_iconst (v := 4) hx hb dL_suspect_3 (by decide) ?_
    refine lv_icmp_ge (tgt := 54) hx hb dL_suspect_4 (by decide) (fun c4 => ?_) (fun c4 => ?_)
    · replace h := wx_ift c4 h
      refine lv_iconst (v := 0) hx hb dL_suspect_54 (by decide) ?_
      obtain rfl := Option.some.inj h
      exact W.zret hx hb hr rfl (fun t ht hW => ⟨rfl, by rw [ht]; exact Z, hS.F ht⟩) hS.2.2 dL_suspect_55
    · replace h := wx_iff c4 h
      refine lv_iload_n hx hb dL_suspect_7 rfl (lv_at hl 0 rfl) ?_
      refine lv_iload_n hx hb dL_suspect_8 rfl (lv_at hl 3 rfl) ?_
      refine lv_aload_n hx hb dL_suspect_9 rfl (lv_at hl 1 rfl) ?_
      obtain ⟨v10, hc10, h⟩ := wx_o_ok h
      refine wx_call (va_runS (As := [.int x0, .int x3, .ref (ad 16 3)]) (rest := []) ⟨hx, hb, hml, hown, hts⟩ (c_L_beside l (D := D) (ad := ad) (rd := rd) (ca := ca) (A := A) (σ := σ) hc10) (va_cwS 3 hts gL_suspect_L_beside rfl rfl rfl (by decide +kernel) ⟨Nat.le_of_ble_eq_true rfl, Nat.le_of_ble_eq_true rfl⟩) (wx_preS hC Z hS hA) rfl rfl hl.1 rfl (lv_room (Nat.le_of_ble_eq_true rfl)) dL_suspect_10 ⟨Nat.zero_le _, Nat.zero_le _⟩) hS (fun H locs Z hS => ?_)
      refine lv_istore (lv' := [(4, .int v10), (0, .int x0), (1, .ref (ad 16 3)), (2, .ref (ad 16 4)), (3, .int x3)]) hx hb dL_suspect_13 hl (by decide) rfl (fun ls hl => ?_)
      refine lv_aload_n hx hb dL_suspect_15 rfl (lv_at hl 2 rfl) ?_
      refine lv_iload_n hx hb dL_suspect_16 rfl (lv_at hl 1 rfl) ?_
      obtain ⟨v17, ev17, iv17, h⟩ := wx_rI_ok h
      refine wx_iald hx hb hC.1 Z (o := 16) (k := 3) (n := 64) rfl rfl iv17 dL_suspect_17 ev17 ?_
      refine lv_if_le (tgt := 48) hx hb dL_suspect_18 (by decide) (fun c18 => ?_) (fun c18 => ?_)
      · replace h := wx_ift c18 h
        exact b_L_suspect_48 B (K2 := (f_L_suspect_2 n)) @ih h Z hS (lv_sub hl [1, 2, 3, 4, 0] rfl)
      · replace h := wx_iff c18 h
        refine lv_iload hx hb dL_suspect_21 (lv_at hl 0 rfl) ?_
        refine lv_if_le (tgt := 48) hx hb dL_suspect_23 (by decide) (fun c23 => ?_) (fun c23 => ?_)
        · replace h := wx_ift c23 h
          exact b_L_suspect_48 B (K2 := (f_L_suspect_2 n)) @ih h Z hS (lv_sub hl [1, 2, 3, 4, 0] rfl)
        · replace h := wx_iff c23 h
          refine lv_iload hx hb dL_suspect_26 (lv_at hl 0 rfl) ?_
          refine lv_aload_n hx hb dL_suspect_28 rfl (lv_at hl 2 rfl) ?_
          refine lv_iload_n hx hb dL_suspect_29 rfl (lv_at hl 1 rfl) ?_
          obtain ⟨v30, ev30, iv30, h⟩ := wx_rI_ok h
          refine wx_iald hx hb hC.1 Z (o := 16) (k := 3) (n := 64) rfl rfl iv30 dL_suspect_30 ev30 ?_
          refine lv_icmp_eq (tgt := 48) hx hb dL_suspect_31 (by decide) (fun c31 => ?_) (fun c31 => ?_)
          · replace h := wx_ift c31 h
            exact b_L_suspect_48 B (K2 := (f_L_suspect_2 n)) @ih h Z hS (lv_sub hl [1, 2, 3, 4, 0] rfl)
          · replace h := wx_iff c31 h
            refine lv_aload_n hx hb dL_suspect_34 rfl (lv_at hl 2 rfl) ?_
            refine lv_iload_n hx hb dL_suspect_35 rfl (lv_at hl 1 rfl) ?_
            obtain ⟨v36, ev36, iv36, h⟩ := wx_rI_ok h
            refine wx_iald hx hb hC.1 Z (o := 16) (k := 3) (n := 64) rfl rfl iv36 dL_suspect_36 ev36 ?_
            refine lv_iload hx hb dL_suspect_37 (lv_at hl 0 rfl) ?_
            refine lv_aload_n hx hb dL_suspect_39 rfl (lv_at hl 3 rfl) ?_
            obtain ⟨v40, hc40, h⟩ := wx_o_ok h
            refine wx_call (va_runS (As := [.int v36, .int v10, .ref (ad 16 4)]) (rest := []) ⟨hx, hb, hml, hown, hts⟩ (c_L_fed l (D := D) (ad := ad) (rd := rd) (ca := ca) (A := A) (σ := σ) hc40) (va_cwS 3 hts gL_suspect_L_fed rfl rfl rfl (by decide +kernel) ⟨Nat.le_of_ble_eq_true rfl, Nat.le_of_ble_eq_true rfl⟩) (wx_preS hC Z hS hA) rfl rfl hl.1 rfl (lv_room (Nat.le_of_ble_eq_true rfl)) dL_suspect_40 ⟨Nat.zero_le _, Nat.zero_le _⟩) hS (fun H locs Z hS => ?_)
            refine lv_if_eq (tgt := 48) hx hb dL_suspect_43 (by decide) (fun c43 => ?_) (fun c43 => ?_)
            · replace h := wx_ift c43 h
              exact b_L_suspect_48 B (K2 := (f_L_suspect_2 n)) @ih h Z hS (lv_sub hl [1, 2, 3, 4, 0] rfl)
            · replace h := wx_iff c43 h
              refine lv_iconst (v := 1) hx hb dL_suspect_46 (by decide) ?_
              obtain rfl := Option.some.inj h
              exact W.zret hx hb hr rfl (fun t ht hW => ⟨rfl, by rw [ht]; exact Z, hS.F ht⟩) hS.2.2 dL_suspect_47
set_option maxRecDepth 20000 in
set_option maxHeartbeats 4000000 in
theorem b_L_suspect_0 (B : wx_B p s m args meth c cL_suspect 5 (some .boolean) wsL_suspect RL D ad ca A)    {r : Int32} {σ : wx_St}  {x0 : Int32}   (h : f_L_suspect x0 σ = some r) {H : Heap} {locs : List Loc} (Z : wx_Z D ad rd ca A σ H) (hS : va_S A s.heap H locs) {ls : Array Slot} (hl : lv_has ls 5 [(0, .int x0), (1, .ref (ad 16 3)), (2, .ref (ad 16 4))]) : W p l e ({ frames := 2, cells := 0, slots := 0, locals := 44 } : Room) s m args below meth c H locs 0 0 (MQ below (wx_Q D ad rd ca A (some (.int r)) σ) args s 0 0 A) (F0 m 0 ls []) := by
  obtain ⟨hx, hb, hml, hr, hts, hown, hlk, hC, hA⟩ := id B
  unfold f_L_suspect at h
  refine lv_iconst (v := 0) hx hb dL_suspect_0 (by decide) ?_
  refine lv_istore_n (lv' := [(3, .int 0), (0, .int x0), (1, .ref (ad 16 3)), (2, .ref (ad 16 4))]) hx hb dL_suspect_1 rfl hl (by decide) rfl (fun ls hl => ?_)
  exact b_L_suspect_2 B h Z hS (lv_sub hl [1, 2, 3, 0] rfl)
set_option maxRecDepth 20000 in
theorem c_L_suspect (l : Launch) {D : va_G} {ad : Nat → Nat → Nat} {rd : Nat → Nat} {ca : Nat → ClassId} {A : Nat → Prop} {σ : wx_St}    {x0 : Int32} {r : Int32} (h : f_L_suspect x0 σ = some r) : wx_M l yL_suspect wsL_suspect 2 44 D ad rd ca A [.int x0, .ref (ad 16 3), .ref (ad 16 4)] σ (some (.int r)) σ := by
  refine Met.ofW (cc := cL_suspect) (maxL := 5) (ret := (some .boolean)) (by decide +kernel) rfl ?_
  intro p e s m args below meth c s₁ B0 hml hv
  obtain ⟨rfl, hC, Z, hA⟩ := hv
  have hl := lv_entry ([.int x0, .ref (ad 16 3), .ref (ad 16 4)]) (n := 5) (Nat.le_of_ble_eq_true rfl)
  rw [lg_entry_eq]
  generalize (lg_sl ([.int x0, .ref (ad 16 3), .ref (ad 16 4)]) ++ List.replicate (5 - (lg_sl ([.int x0, .ref (ad 16 3), .ref (ad 16 4)])).length) Slot.unset).toArray = ls at hl ⊢
  exact b_L_suspect_0 ⟨B0.exec, B0.bytes, hml, B0.returns, atoms_spec (ws := wsL_suspect) B0.pre, findClass_of_methodNamed B0.named, B0.notSynchronized, hC, hA⟩   h Z va_S.rf hl
set_option maxRecDepth 20000 in
set_option maxHeartbeats 4000000 in
theorem b_L_touch_2 (B : wx_B p s m args meth c cL_touch 4 (some .int) wsL_touch RL D ad ca A)    {r : Int32} {σ : wx_St}   :
    ∀ {n : Nat} {x0 : Int32} {x3 : Int32}   (h : f_L_touch_2 n x0 x3 σ = some r) {H : Heap} {locs : List Loc} (Z : wx_Z D ad rd ca A σ H) (hS : va_S A s.heap H locs) {ls : Array Slot} (hl : lv_has ls 4 [(0, .int x0), (1, .ref (ad 16 0)), (2, .ref (ad 16 1)), (3, .int x3)]), W p l e ({ frames := 0, cells := 0, slots := 0, locals := 0 } : Room) s m args below meth c H locs 0 0 (MQ below (wx_Q D ad rd ca A (some (.int r)) σ) args s 0 0 A) (F0 m 2 ls []) := by
  obtain ⟨hx, hb, hml, hr, hts, hown, hlk, hC, hA⟩ := id B
  intro n
  induction n with
  | zero => intro x0 x3   h H locs Z hS ls hl; exact wx_no h
  | succ n ih =>
    intro x0 x3   h H locs Z hS ls hl
    rw [f_L_touch_2] at h
    refine lv_iload_n hx hb dL_touch_2 rfl (lv_at hl 3 rfl) ?_
    refine lv_aload_n hx hb dL_touch_3 rfl (lv_at hl 1 rfl) ?_
    refine lv_iconst (v := 5) hx hb dL_touch_4 (by decide) ?_
    obtain ⟨v5, ev5, iv5, h⟩ := wx_rI_ok h
    refine wx_iald hx hb hC.1 Z (o := 16) (k := 0) (n := 7) rfl rfl iv5 dL_touch_5 ev5 ?_
    refine lv_icmp_ge (tgt := 26) hx hb dL_touch_6 (by decide) (fun c6 => ?_) (fun c6 => ?_)
    · replace h := wx_ift c6 h
      refine lv_bipush (v := (-6)) hx hb dL_touch_26 (by decide) ?_
      obtain rfl := Option.some.inj h
      exact W.iret hx hb hr (fun t ht hW => ⟨rfl, by rw [ht]; exact Z, hS.F ht⟩) hS.2.2 dL_touch_28
    · replace h := wx_iff c6 h
      refine lv_aload_n hx hb dL_touch_9 rfl (lv_at hl 2 rfl) ?_
      refine lv_iconst (v := 2) hx hb dL_touch_10 (by decide) ?_
      refine lv_iload_n hx hb dL_touch_11 rfl (lv_at hl 3 rfl) ?_
      refine lv_imul hx hb dL_touch_12 ?_
      obtain ⟨v13, ev13, iv13, h⟩ := wx_rI_ok h
      refine wx_iald hx hb hC.1 Z (o := 16) (k := 1) (n := 6) rfl rfl iv13 dL_touch_13 ev13 ?_
      refine lv_iload_n hx hb dL_touch_14 rfl (lv_at hl 0 rfl) ?_
      refine lv_icmp_ne (tgt := 20) hx hb dL_touch_15 (by decide) (fun c15 => ?_) (fun c15 => ?_)
      · replace h := wx_iff c15 h
        refine lv_iinc (v := x3 + 1) (lv' := [(3, .int (x3 + 1)), (0, .int x0), (1, .ref (ad 16 0)), (2, .ref (ad 16 1))]) hx hb dL_touch_20 hl (k := 3) rfl rfl (by decide) rfl (fun ls hl => ?_)
        refine lv_goto (tgt := 2) hx hb dL_touch_23 (by decide) ?_
        exact ih h Z hS (lv_sub hl [1, 2, 3, 0] rfl)
      · replace h := wx_ift c15 h
        refine lv_iload_n hx hb dL_touch_18 rfl (lv_at hl 3 rfl) ?_
        obtain rfl := Option.some.inj h
        exact W.iret hx hb hr (fun t ht hW => ⟨rfl, by rw [ht]; exact Z, hS.F ht⟩) hS.2.2 dL_touch_19
set_option maxRecDepth 20000 in
set_option maxHeartbeats 4000000 in
theorem b_L_touch_0 (B : wx_B p s m args meth c cL_touch 4 (some .int) wsL_touch RL D ad ca A)    {r : Int32} {σ : wx_St}  {x0 : Int32}   (h : f_L_touch x0 σ = some r) {H : Heap} {locs : List Loc} (Z : wx_Z D ad rd ca A σ H) (hS : va_S A s.heap H locs) {ls : Array Slot} (hl : lv_has ls 4 [(0, .int x0), (1, .ref (ad 16 0)), (2, .ref (ad 16 1))]) : W p l e ({ frames := 0, cells := 0, slots := 0, locals := 0 } : Room) s m args below meth c H locs 0 0 (MQ below (wx_Q D ad rd ca A (some (.int r)) σ) args s 0 0 A) (F0 m 0 ls []) := by
  obtain ⟨hx, hb, hml, hr, hts, hown, hlk, hC, hA⟩ := id B
  unfold f_L_touch at h
  refine lv_iconst (v := 0) hx hb dL_touch_0 (by decide) ?_
  refine lv_istore_n (lv' := [(3, .int 0), (0, .int x0), (1, .ref (ad 16 0)), (2, .ref (ad 16 1))]) hx hb dL_touch_1 rfl hl (by decide) rfl (fun ls hl => ?_)
  exact b_L_touch_2 B h Z hS (lv_sub hl [1, 2, 3, 0] rfl)
set_option maxRecDepth 20000 in
theorem c_L_touch (l : Launch) {D : va_G} {ad : Nat → Nat → Nat} {rd : Nat → Nat} {ca : Nat → ClassId} {A : Nat → Prop} {σ : wx_St}    {x0 : Int32} {r : Int32} (h : f_L_touch x0 σ = some r) : wx_M l yL_touch wsL_touch 0 0 D ad rd ca A [.int x0, .ref (ad 16 0), .ref (ad 16 1)] σ (some (.int r)) σ := by
  refine Met.ofW (cc := cL_touch) (maxL := 4) (ret := (some .int)) (by decide +kernel) rfl ?_
  intro p e s m args below meth c s₁ B0 hml hv
  obtain ⟨rfl, hC, Z, hA⟩ := hv
  have hl := lv_entry ([.int x0, .ref (ad 16 0), .ref (ad 16 1)]) (n := 4) (Nat.le_of_ble_eq_true rfl)
  rw [lg_entry_eq]
  generalize (lg_sl ([.int x0, .ref (ad 16 0), .ref (ad 16 1)]) ++ List.replicate (4 - (lg_sl ([.int x0, .ref (ad 16 0), .ref (ad 16 1)])).length) Slot.unset).toArray = ls at hl ⊢
  exact b_L_touch_0 ⟨B0.exec, B0.bytes, hml, B0.returns, atoms_spec (ws := wsL_touch) B0.pre, findClass_of_methodNamed B0.named, B0.notSynchronized, hC, hA⟩   h Z va_S.rf hl
set_option maxRecDepth 20000 in
set_option maxHeartbeats 4000000 in
theorem b_L_live_44 (B : wx_B p s m args meth c cL_live 6 (some .int) wsL_live RL D ad ca A)    {r : Int32} {σ : wx_St} {K6 : Int32 → Int32 → wx_St → Option Int32} (hK6 : ∀ {x4 : Int32} {x5 : Int32}   (h : K6 x4 x5 σ = some r) {H : Heap} {locs : List Loc} (Z : wx_Z D ad rd ca A σ H) (hS : va_S A s.heap H locs) {ls : Array Slot} (hl : lv_has ls 6 [(0, .ref (ad 16 0)), (1, .ref (ad 16 1)), (2, .ref (ad 16 3)), (3, .ref (ad 16 4)), (4, .int x4), (5, .int x5)]), W p l e ({ frames := 1, cells := 0, slots := 0, locals := 22 } : Room) s m args below meth c H locs 0 0 (MQ below (wx_Q D ad rd ca A (some (.int r)) σ) args s 0 0 A) (F0 m 6 ls [])) {x4 : Int32} {x5 : Int32} {y0 : Int32} {y1 : Int32}   (h : f_L_live_44 K6 x4 x5 y0 y1 σ = some r) {H : Heap} {locs : List Loc} (Z : wx_Z D ad rd ca A σ H) (hS : va_S A s.heap H locs) {ls : Array Slot} (hl : lv_has ls 6 [(0, .ref (ad 16 0)), (1, .ref (ad 16 1)), (2, .ref (ad 16 3)), (3, .ref (ad 16 4)), (4, .int x4), (5, .int x5)]) : W p l e ({ frames := 1, cells := 0, slots := 0, locals := 22 } : Room) s m args below meth c H locs 0 0 (MQ below (wx_Q D ad rd ca A (some (.int r)) σ) args s 0 0 A) (F0 m 44 ls [.int y1, .int y0]) := by
  obtain ⟨hx, hb, hml, hr, hts, hown, hlk, hC, hA⟩ := id B
  unfold f_L_live_44 at h
  refine lv_iadd hx hb dL_live_44 ?_
  refine lv_istore (lv' := [(4, .int (y0 + y1)), (0, .ref (ad 16 0)), (1, .ref (ad 16 1)), (2, .ref (ad 16 3)), (3, .ref (ad 16 4)), (5, .int x5)]) hx hb dL_live_45 hl (by decide) rfl (fun ls hl => ?_)
  refine lv_iinc (v := x5 + 1) (lv' := [(5, .int (x5 + 1)), (4, .int (y0 + y1)), (0, .ref (ad 16 0)), (1, .ref (ad 16 1)), (2, .ref (ad 16 3)), (3, .ref (ad 16 4))]) hx hb dL_live_47 hl (k := 5) rfl rfl (by decide) rfl (fun ls hl => ?_)
  refine lv_goto (tgt := 6) hx hb dL_live_50 (by decide) ?_
  exact hK6 h Z hS (lv_sub hl [2, 3, 4, 5, 1, 0] rfl)
set_option maxRecDepth 20000 in
set_option maxHeartbeats 4000000 in
theorem b_L_live_6 (B : wx_B p s m args meth c cL_live 6 (some .int) wsL_live RL D ad ca A)    {r : Int32} {σ : wx_St}   :
    ∀ {n : Nat} {x4 : Int32} {x5 : Int32}   (h : f_L_live_6 n x4 x5 σ = some r) {H : Heap} {locs : List Loc} (Z : wx_Z D ad rd ca A σ H) (hS : va_S A s.heap H locs) {ls : Array Slot} (hl : lv_has ls 6 [(0, .ref (ad 16 0)), (1, .ref (ad 16 1)), (2, .ref (ad 16 3)), (3, .ref (ad 16 4)), (4, .int x4), (5, .int x5)]), W p l e ({ frames := 1, cells := 0, slots := 0, locals := 22 } : Room) s m args below meth c H locs 0 0 (MQ below (wx_Q D ad rd ca A (some (.int r)) σ) args s 0 0 A) (F0 m 6 ls []) := by
  obtain ⟨hx, hb, hml, hr, hts, hown, hlk, hC, hA⟩ := id B
  intro n
  induction n with
  | zero => intro x4 x5   h H locs Z hS ls hl; exact wx_no h
  | succ n ih =>
    intro x4 x5   h H locs Z hS ls hl
    rw [f_L_live_6] at h
    refine lv_iload hx hb dL_live_6 (lv_at hl 5 rfl) ?_
    refine lv_aload_n hx hb dL_live_8 rfl (lv_at hl 0 rfl) ?_
    refine lv_iconst (v := 5) hx hb dL_live_9 (by decide) ?_
    obtain ⟨v10, ev10, iv10, h⟩ := wx_rI_ok h
    refine wx_iald hx hb hC.1 Z (o := 16) (k := 0) (n := 7) rfl rfl iv10 dL_live_10 ev10 ?_
    refine lv_icmp_ge (tgt := 53) hx hb dL_live_11 (by decide) (fun c11 => ?_) (fun c11 => ?_)
    · replace h := wx_ift c11 h
      refine lv_iload hx hb dL_live_53 (lv_at hl 4 rfl) ?_
      obtain rfl := Option.some.inj h
      exact W.iret hx hb hr (fun t ht hW => ⟨rfl, by rw [ht]; exact Z, hS.F ht⟩) hS.2.2 dL_live_55
    · replace h := wx_iff c11 h
      refine lv_iload hx hb dL_live_14 (lv_at hl 4 rfl) ?_
      refine lv_aload_n hx hb dL_live_16 rfl (lv_at hl 2 rfl) ?_
      refine lv_aload_n hx hb dL_live_17 rfl (lv_at hl 1 rfl) ?_
      refine lv_iconst (v := 2) hx hb dL_live_18 (by decide) ?_
      refine lv_iload hx hb dL_live_19 (lv_at hl 5 rfl) ?_
      refine lv_imul hx hb dL_live_21 ?_
      obtain ⟨v22, ev22, iv22, h⟩ := wx_rI_ok h
      refine wx_iald hx hb hC.1 Z (o := 16) (k := 1) (n := 6) rfl rfl iv22 dL_live_22 ev22 ?_
      obtain ⟨v23, ev23, iv23, h⟩ := wx_rI_ok h
      refine wx_iald hx hb hC.1 Z (o := 16) (k := 3) (n := 64) rfl rfl iv23 dL_live_23 ev23 ?_
      refine lv_aload_n hx hb dL_live_24 rfl (lv_at hl 1 rfl) ?_
      refine lv_iconst (v := 2) hx hb dL_live_25 (by decide) ?_
      refine lv_iload hx hb dL_live_26 (lv_at hl 5 rfl) ?_
      refine lv_imul hx hb dL_live_28 ?_
      refine lv_iconst (v := 1) hx hb dL_live_29 (by decide) ?_
      refine lv_iadd hx hb dL_live_30 ?_
      obtain ⟨v31, ev31, iv31, h⟩ := wx_rI_ok h
      refine wx_iald hx hb hC.1 Z (o := 16) (k := 1) (n := 6) rfl rfl iv31 dL_live_31 ev31 ?_
      refine lv_aload_n hx hb dL_live_32 rfl (lv_at hl 3 rfl) ?_
      obtain ⟨v33, hc33, h⟩ := wx_o_ok h
      refine wx_call (va_runS (As := [.int v23, .int v31, .ref (ad 16 4)]) (rest := [.int x4]) ⟨hx, hb, hml, hown, hts⟩ (c_L_fed l (D := D) (ad := ad) (rd := rd) (ca := ca) (A := A) (σ := σ) hc33) (va_cwS 3 hts gL_live_L_fed rfl rfl rfl (by decide +kernel) ⟨Nat.le_of_ble_eq_true rfl, Nat.le_of_ble_eq_true rfl⟩) (wx_preS hC Z hS hA) rfl rfl hl.1 rfl (lv_room (Nat.le_of_ble_eq_true rfl)) dL_live_33 ⟨Nat.zero_le _, Nat.zero_le _⟩) hS (fun H locs Z hS => ?_)
      refine lv_if_eq (tgt := 43) hx hb dL_live_36 (by decide) (fun c36 => ?_) (fun c36 => ?_)
      · replace h := wx_ift c36 h
        refine lv_iconst (v := 0) hx hb dL_live_43 (by decide) ?_
        exact b_L_live_44 B (K6 := (f_L_live_6 n)) @ih h Z hS (lv_sub hl [0, 1, 2, 3, 4, 5] rfl)
      · replace h := wx_iff c36 h
        refine lv_iconst (v := 1) hx hb dL_live_39 (by decide) ?_
        refine lv_goto (tgt := 44) hx hb dL_live_40 (by decide) ?_
        exact b_L_live_44 B (K6 := (f_L_live_6 n)) @ih h Z hS (lv_sub hl [0, 1, 2, 3, 4, 5] rfl)
set_option maxRecDepth 20000 in
set_option maxHeartbeats 4000000 in
theorem b_L_live_0 (B : wx_B p s m args meth c cL_live 6 (some .int) wsL_live RL D ad ca A)    {r : Int32} {σ : wx_St}     (h : f_L_live σ = some r) {H : Heap} {locs : List Loc} (Z : wx_Z D ad rd ca A σ H) (hS : va_S A s.heap H locs) {ls : Array Slot} (hl : lv_has ls 6 [(0, .ref (ad 16 0)), (1, .ref (ad 16 1)), (2, .ref (ad 16 3)), (3, .ref (ad 16 4))]) : W p l e ({ frames := 1, cells := 0, slots := 0, locals := 22 } : Room) s m args below meth c H locs 0 0 (MQ below (wx_Q D ad rd ca A (some (.int r)) σ) args s 0 0 A) (F0 m 0 ls []) := by
  obtain ⟨hx, hb, hml, hr, hts, hown, hlk, hC, hA⟩ := id B
  unfold f_L_live at h
  refine lv_iconst (v := 0) hx hb dL_live_0 (by decide) ?_
  refine lv_istore (lv' := [(4, .int 0), (0, .ref (ad 16 0)), (1, .ref (ad 16 1)), (2, .ref (ad 16 3)), (3, .ref (ad 16 4))]) hx hb dL_live_1 hl (by decide) rfl (fun ls hl => ?_)
  refine lv_iconst (v := 0) hx hb dL_live_3 (by decide) ?_
  refine lv_istore (lv' := [(5, .int 0), (4, .int 0), (0, .ref (ad 16 0)), (1, .ref (ad 16 1)), (2, .ref (ad 16 3)), (3, .ref (ad 16 4))]) hx hb dL_live_4 hl (by decide) rfl (fun ls hl => ?_)
  exact b_L_live_6 B h Z hS (lv_sub hl [2, 3, 4, 5, 1, 0] rfl)
set_option maxRecDepth 20000 in
theorem c_L_live (l : Launch) {D : va_G} {ad : Nat → Nat → Nat} {rd : Nat → Nat} {ca : Nat → ClassId} {A : Nat → Prop} {σ : wx_St}     {r : Int32} (h : f_L_live σ = some r) : wx_M l yL_live wsL_live 1 22 D ad rd ca A [.ref (ad 16 0), .ref (ad 16 1), .ref (ad 16 3), .ref (ad 16 4)] σ (some (.int r)) σ := by
  refine Met.ofW (cc := cL_live) (maxL := 6) (ret := (some .int)) (by decide +kernel) rfl ?_
  intro p e s m args below meth c s₁ B0 hml hv
  obtain ⟨rfl, hC, Z, hA⟩ := hv
  have hl := lv_entry ([.ref (ad 16 0), .ref (ad 16 1), .ref (ad 16 3), .ref (ad 16 4)]) (n := 6) (Nat.le_of_ble_eq_true rfl)
  rw [lg_entry_eq]
  generalize (lg_sl ([.ref (ad 16 0), .ref (ad 16 1), .ref (ad 16 3), .ref (ad 16 4)]) ++ List.replicate (6 - (lg_sl ([.ref (ad 16 0), .ref (ad 16 1), .ref (ad 16 3), .ref (ad 16 4)])).length) Slot.unset).toArray = ls at hl ⊢
  exact b_L_live_0 ⟨B0.exec, B0.bytes, hml, B0.returns, atoms_spec (ws := wsL_live) B0.pre, findClass_of_methodNamed B0.named, B0.notSynchronized, hC, hA⟩   h Z va_S.rf hl
