theorem i_X0_init_0 : ∀ w ∈ wsX00, w ∈ wsX0_init := by decide +kernel
theorem k_X0_init_w0 : Cond.methodLink RX0 3 objectInit ∈ wsX0_init := by decide +kernel
theorem k_X0_init_w1 : Cond.instanceMethod objectInit ∈ wsX0_init := by decide +kernel
theorem k_X0_init_w2 : Cond.code objectInit ⟨#[0xb1]⟩ 1 none ∈ wsX0_init := by decide +kernel
theorem k_X0_init_w3 : Cond.arrayClass .int ∈ wsX0_init := by decide +kernel
theorem k_X0_init_w4 : Cond.fieldLink RX0 9 "WarmProbes$Board" "settings" "[I" ∈ wsX0_init := by decide +kernel
theorem k_X0_init_w5 : Cond.fieldLink RX0 15 "WarmProbes$Board" "nets" "[I" ∈ wsX0_init := by decide +kernel
theorem k_X0_init_w6 : Cond.fieldLink RX0 18 "WarmProbes$Board" "fed" "[I" ∈ wsX0_init := by decide +kernel
theorem k_X0_init_w7 : Cond.fieldLink RX0 21 "WarmProbes$Board" "touches" "I" ∈ wsX0_init := by decide +kernel
theorem k_X0_init_w8 : Cond.fieldLink RX0 25 "WarmProbes$Board" "touchPlaces" "[I" ∈ wsX0_init := by decide +kernel
theorem k_X0_init_w9 : Cond.fieldLink RX0 28 "WarmProbes$Board" "touchOthers" "[I" ∈ wsX0_init := by decide +kernel
theorem k_X0_init_w10 : Cond.fieldLink RX0 31 "WarmProbes$Board" "steps" "I" ∈ wsX0_init := by decide +kernel
theorem k_X0_init_w11 : Cond.arrayClass .float ∈ wsX0_init := by decide +kernel
theorem k_X0_init_w12 : Cond.fieldLink RX0 34 "WarmProbes$Board" "warmth" "[F" ∈ wsX0_init := by decide +kernel
theorem k_X0_init_w13 : Cond.fieldLink RX0 38 "WarmProbes$Board" "nextWarmth" "[F" ∈ wsX0_init := by decide +kernel
theorem k_X0_init_w14 : Cond.fieldLink RX0 41 "WarmProbes$Board" "readings" "I" ∈ wsX0_init := by decide +kernel
theorem k_X0_init_w15 : Cond.fieldLink RX0 44 "WarmProbes$Board" "readingPlaces" "[I" ∈ wsX0_init := by decide +kernel
theorem k_X0_init_w16 : Cond.fieldLink RX0 47 "WarmProbes$Board" "readingReads" "[I" ∈ wsX0_init := by decide +kernel
theorem k_X0_init_w17 : Cond.fieldLink RX0 50 "WarmProbes$Board" "readingSteps" "[I" ∈ wsX0_init := by decide +kernel
theorem k_X0_init_w18 : Cond.methodLink RX0 56 arraycopyName ∈ wsX0_init := by decide +kernel
theorem k_X0_init_w19 : Cond.native arraycopyName ∈ wsX0_init := by decide +kernel
theorem k_X0_init_w20 : Cond.static arraycopyName ∈ wsX0_init := by decide +kernel
theorem k_X0_init_w21 : Cond.initialized "java/lang/System" ∈ wsX0_init := by decide +kernel
set_option maxRecDepth 20000 in
set_option maxHeartbeats 8000000 in
theorem c_X0_init (l : Launch) {D : va_G} {ad : Nat → Nat → Nat} {ca : Nat → ClassId} {A : Nat → Prop} {o : Nat} (ho : o < 11) {h0 : Nat} {w : gw_W} (he : w o 99 = some (h0, .inr (0, [.null, .null, .null, .int 0, .null, .null, .int 0, .null, .null, .int 0, .null, .null, .null]))) (hN : ∀ b, 0 ≤ b → b ≠ 99 → w o b = none) : gw_Mc l yX0_init wsX0_init 1 10 234 26 D ad ca A [.ref h0] w (fun a => gw_cl ca a (fun x => decide (x = o)) w) (fun a => a o 99 = h0) := by
  refine Met.ofW (cc := cX0_init) (maxL := 1) (ret := none) (by decide) rfl ?_
  intro p e s m args below meth c s₁ B0 hml hv
  obtain ⟨rfl, hC, Z, hA, hAO⟩ := hv
  have hx := B0.exec
  have hb := B0.bytes
  have hr := B0.returns
  have hts := atoms_spec (ws := wsX0_init) B0.pre
  have hown : s.vm.findClass RX0 = some m.cls := findClass_of_methodNamed B0.named
  have hlk := B0.notSynchronized
  have hin : meth.name = "<init>" := (name_of_methodNamed B0.named B0.method).1
  have hS : va_S A s.heap s.heap [] := va_S.rf
  have ho17 : o < 17 := by omega
  have hl := lv_entry ([.ref h0]) (n := 1) (Nat.le_of_ble_eq_true rfl)
  rw [lg_entry_eq]
  generalize (lg_sl ([.ref h0]) ++ List.replicate (1 - (lg_sl ([.ref h0])).length) Slot.unset).toArray = ls at hl ⊢
  replace hl : lv_has ls 1 [(0, .ref h0)] := hl
  refine lv_aload_n hx hb dX0_init_0 rfl (lv_at hl 0 rfl) ?_
  refine W.objInit hx hb hown (hts _ k_X0_init_w0) (hts _ k_X0_init_w1) (hts _ k_X0_init_w2) rfl (by rw [hml]; exact hl.1) rfl dX0_init_1 (Nat.le_of_ble_eq_true rfl) (Nat.le_of_ble_eq_true rfl) ?_
  refine W.eq (g2 := F0 m 4 ls []) rfl ?_
  refine lv_aload_n hx hb dX0_init_4 rfl (lv_at hl 0 rfl) ?_
  refine lv_iconst (v := 4) hx hb dX0_init_5 (by decide) ?_
  refine gw_arr (N' := 4) (atype := .int) (t0 := 0) (ty := .int) (a0 := (4, .inl (fun _ => 0))) (o := o) hx hb (hts _ k_X0_init_w3) rfl rfl (fun cA h => Option.some.inj (h.symm.trans (hC.1.1.2 0 _ rfl).2)) hts i_X0_init_0 tyX0 tyX0_ok nmX0 hown hC.1 Z hS hA ho17 he (rfl : vwCl[0]? = some (RX0, TX0, 13)) 0 (by decide) (by decide) (hN 0 (by decide) (by decide)) (hts _ k_X0_init_w4) (fun _ h9 => h9) rfl hin rfl (tyX0_ok 0 (by decide)) (fun _ => rfl) (fun _ => rfl) (Nat.le_of_ble_eq_true rfl) (fun _ => rfl) (by decide) (by decide) (by decide) (Nat.le_of_ble_eq_true rfl) (Nat.le_of_ble_eq_true rfl) dX0_init_6 dX0_init_8 (fun q0 H locs Z hS => ?_)
  obtain ⟨w1, hw1⟩ : ∃ z : gw_W, z = gw_up (gw_up w o 0 (q0, .inl (ca 0, 4, .inl (fun _ => 0)))) o 99 (h0, .inr (0, [.ref q0, .null, .null, .int 0, .null, .null, .int 0, .null, .null, .int 0, .null, .null, .null])) := ⟨_, rfl⟩
  replace Z : gw_Z D A w1 H := by rw [hw1]; exact Z
  replace he : w1 o 99 = some (h0, .inr (0, [.ref q0, .null, .null, .int 0, .null, .null, .int 0, .null, .null, .int 0, .null, .null, .null])) := by rw [hw1]; exact gw_same
  replace hN : ∀ b, 1 ≤ b → b ≠ 99 → w1 o b = none := fun b g1 g2 => by rw [hw1, gw_ne (by omega), gw_ne (by omega)]; exact hN b (by omega) g2
  refine lv_aload_n hx hb dX0_init_11 rfl (lv_at hl 0 rfl) ?_
  refine lv_bipush (v := 64) hx hb dX0_init_12 (by decide) ?_
  refine gw_arr (N' := 64) (atype := .int) (t0 := 0) (ty := .int) (a0 := (64, .inl (wx_0.1 o 1))) (o := o) hx hb (hts _ k_X0_init_w3) rfl rfl (fun cA h => Option.some.inj (h.symm.trans (hC.1.1.2 0 _ rfl).2)) hts i_X0_init_0 tyX0 tyX0_ok nmX0 hown hC.1 Z hS hA ho17 he (rfl : vwCl[0]? = some (RX0, TX0, 13)) 1 (by decide) (by decide) (hN 1 (by decide) (by decide)) (hts _ k_X0_init_w5) (fun _ h9 => h9) rfl hin rfl (tyX0_ok 1 (by decide)) (fun _ => rfl) (fun _ => rfl) (Nat.le_of_ble_eq_true rfl) (fun _ => rfl) (by decide) (by decide) (by decide) (Nat.le_of_ble_eq_true rfl) (Nat.le_of_ble_eq_true rfl) dX0_init_14 dX0_init_16 (fun q1 H locs Z hS => ?_)
  obtain ⟨w2, hw2⟩ : ∃ z : gw_W, z = gw_up (gw_up w1 o 1 (q1, .inl (ca 0, 64, .inl (wx_0.1 o 1)))) o 99 (h0, .inr (0, [.ref q0, .ref q1, .null, .int 0, .null, .null, .int 0, .null, .null, .int 0, .null, .null, .null])) := ⟨_, rfl⟩
  replace Z : gw_Z D A w2 H := by rw [hw2]; exact Z
  replace he : w2 o 99 = some (h0, .inr (0, [.ref q0, .ref q1, .null, .int 0, .null, .null, .int 0, .null, .null, .int 0, .null, .null, .null])) := by rw [hw2]; exact gw_same
  replace hN : ∀ b, 2 ≤ b → b ≠ 99 → w2 o b = none := fun b g1 g2 => by rw [hw2, gw_ne (by omega), gw_ne (by omega)]; exact hN b (by omega) g2
  refine lv_aload_n hx hb dX0_init_19 rfl (lv_at hl 0 rfl) ?_
  refine lv_bipush (v := 8) hx hb dX0_init_20 (by decide) ?_
  refine gw_arr (N' := 8) (atype := .int) (t0 := 0) (ty := .int) (a0 := (8, .inl (wx_0.1 o 2))) (o := o) hx hb (hts _ k_X0_init_w3) rfl rfl (fun cA h => Option.some.inj (h.symm.trans (hC.1.1.2 0 _ rfl).2)) hts i_X0_init_0 tyX0 tyX0_ok nmX0 hown hC.1 Z hS hA ho17 he (rfl : vwCl[0]? = some (RX0, TX0, 13)) 2 (by decide) (by decide) (hN 2 (by decide) (by decide)) (hts _ k_X0_init_w6) (fun _ h9 => h9) rfl hin rfl (tyX0_ok 2 (by decide)) (fun _ => rfl) (fun _ => rfl) (Nat.le_of_ble_eq_true rfl) (fun _ => rfl) (by decide) (by decide) (by decide) (Nat.le_of_ble_eq_true rfl) (Nat.le_of_ble_eq_true rfl) dX0_init_22 dX0_init_24 (fun q2 H locs Z hS => ?_)
  obtain ⟨w3, hw3⟩ : ∃ z : gw_W, z = gw_up (gw_up w2 o 2 (q2, .inl (ca 0, 8, .inl (wx_0.1 o 2)))) o 99 (h0, .inr (0, [.ref q0, .ref q1, .ref q2, .int 0, .null, .null, .int 0, .null, .null, .int 0, .null, .null, .null])) := ⟨_, rfl⟩
  replace Z : gw_Z D A w3 H := by rw [hw3]; exact Z
  replace he : w3 o 99 = some (h0, .inr (0, [.ref q0, .ref q1, .ref q2, .int 0, .null, .null, .int 0, .null, .null, .int 0, .null, .null, .null])) := by rw [hw3]; exact gw_same
  replace hN : ∀ b, 3 ≤ b → b ≠ 99 → w3 o b = none := fun b g1 g2 => by rw [hw3, gw_ne (by omega), gw_ne (by omega)]; exact hN b (by omega) g2
  refine lv_aload_n hx hb dX0_init_27 rfl (lv_at hl 0 rfl) ?_
  refine lv_iconst (v := 0) hx hb dX0_init_28 (by decide) ?_
  refine gw_putI (o := o) hx hb hts i_X0_init_0 tyX0 tyX0_ok nmX0 hown hC.1 Z hS he (rfl : vwCl[0]? = some (RX0, TX0, 13)) 3 (by decide) (hts _ k_X0_init_w7) (fun _ h9 => h9) rfl (by decide +kernel) (Nat.le_of_ble_eq_true rfl) dX0_init_29 (fun H locs Z hS => ?_)
  obtain ⟨w4, hw4⟩ : ∃ z : gw_W, z = gw_up w3 o 99 (h0, .inr (0, [.ref q0, .ref q1, .ref q2, .int 0, .null, .null, .int 0, .null, .null, .int 0, .null, .null, .null])) := ⟨_, rfl⟩
  replace Z : gw_Z D A w4 H := by rw [hw4]; exact Z
  replace he : w4 o 99 = some (h0, .inr (0, [.ref q0, .ref q1, .ref q2, .int 0, .null, .null, .int 0, .null, .null, .int 0, .null, .null, .null])) := by rw [hw4]; exact gw_same
  replace hN : ∀ b, 4 ≤ b → b ≠ 99 → w4 o b = none := fun b g1 g2 => by rw [hw4, gw_ne (by omega)]; exact hN b (by omega) g2
  refine lv_aload_n hx hb dX0_init_32 rfl (lv_at hl 0 rfl) ?_
  refine lv_iconst (v := 3) hx hb dX0_init_33 (by decide) ?_
  refine gw_arr (N' := 3) (atype := .int) (t0 := 0) (ty := .int) (a0 := (3, .inl (wx_0.1 o 4))) (o := o) hx hb (hts _ k_X0_init_w3) rfl rfl (fun cA h => Option.some.inj (h.symm.trans (hC.1.1.2 0 _ rfl).2)) hts i_X0_init_0 tyX0 tyX0_ok nmX0 hown hC.1 Z hS hA ho17 he (rfl : vwCl[0]? = some (RX0, TX0, 13)) 4 (by decide) (by decide) (hN 4 (by decide) (by decide)) (hts _ k_X0_init_w8) (fun _ h9 => h9) rfl hin rfl (tyX0_ok 4 (by decide)) (fun _ => rfl) (fun _ => rfl) (Nat.le_of_ble_eq_true rfl) (fun _ => rfl) (by decide) (by decide) (by decide) (Nat.le_of_ble_eq_true rfl) (Nat.le_of_ble_eq_true rfl) dX0_init_34 dX0_init_36 (fun q4 H locs Z hS => ?_)
  obtain ⟨w5, hw5⟩ : ∃ z : gw_W, z = gw_up (gw_up w4 o 4 (q4, .inl (ca 0, 3, .inl (wx_0.1 o 4)))) o 99 (h0, .inr (0, [.ref q0, .ref q1, .ref q2, .int 0, .ref q4, .null, .int 0, .null, .null, .int 0, .null, .null, .null])) := ⟨_, rfl⟩
  replace Z : gw_Z D A w5 H := by rw [hw5]; exact Z
  replace he : w5 o 99 = some (h0, .inr (0, [.ref q0, .ref q1, .ref q2, .int 0, .ref q4, .null, .int 0, .null, .null, .int 0, .null, .null, .null])) := by rw [hw5]; exact gw_same
  replace hN : ∀ b, 5 ≤ b → b ≠ 99 → w5 o b = none := fun b g1 g2 => by rw [hw5, gw_ne (by omega), gw_ne (by omega)]; exact hN b (by omega) g2
  refine lv_aload_n hx hb dX0_init_39 rfl (lv_at hl 0 rfl) ?_
  refine lv_iconst (v := 3) hx hb dX0_init_40 (by decide) ?_
  refine gw_arr (N' := 3) (atype := .int) (t0 := 0) (ty := .int) (a0 := (3, .inl (wx_0.1 o 5))) (o := o) hx hb (hts _ k_X0_init_w3) rfl rfl (fun cA h => Option.some.inj (h.symm.trans (hC.1.1.2 0 _ rfl).2)) hts i_X0_init_0 tyX0 tyX0_ok nmX0 hown hC.1 Z hS hA ho17 he (rfl : vwCl[0]? = some (RX0, TX0, 13)) 5 (by decide) (by decide) (hN 5 (by decide) (by decide)) (hts _ k_X0_init_w9) (fun _ h9 => h9) rfl hin rfl (tyX0_ok 5 (by decide)) (fun _ => rfl) (fun _ => rfl) (Nat.le_of_ble_eq_true rfl) (fun _ => rfl) (by decide) (by decide) (by decide) (Nat.le_of_ble_eq_true rfl) (Nat.le_of_ble_eq_true rfl) dX0_init_41 dX0_init_43 (fun q5 H locs Z hS => ?_)
  obtain ⟨w6, hw6⟩ : ∃ z : gw_W, z = gw_up (gw_up w5 o 5 (q5, .inl (ca 0, 3, .inl (wx_0.1 o 5)))) o 99 (h0, .inr (0, [.ref q0, .ref q1, .ref q2, .int 0, .ref q4, .ref q5, .int 0, .null, .null, .int 0, .null, .null, .null])) := ⟨_, rfl⟩
  replace Z : gw_Z D A w6 H := by rw [hw6]; exact Z
  replace he : w6 o 99 = some (h0, .inr (0, [.ref q0, .ref q1, .ref q2, .int 0, .ref q4, .ref q5, .int 0, .null, .null, .int 0, .null, .null, .null])) := by rw [hw6]; exact gw_same
  replace hN : ∀ b, 6 ≤ b → b ≠ 99 → w6 o b = none := fun b g1 g2 => by rw [hw6, gw_ne (by omega), gw_ne (by omega)]; exact hN b (by omega) g2
  refine lv_aload_n hx hb dX0_init_46 rfl (lv_at hl 0 rfl) ?_
  refine lv_iconst (v := 0) hx hb dX0_init_47 (by decide) ?_
  refine gw_putI (o := o) hx hb hts i_X0_init_0 tyX0 tyX0_ok nmX0 hown hC.1 Z hS he (rfl : vwCl[0]? = some (RX0, TX0, 13)) 6 (by decide) (hts _ k_X0_init_w10) (fun _ h9 => h9) rfl (by decide +kernel) (Nat.le_of_ble_eq_true rfl) dX0_init_48 (fun H locs Z hS => ?_)
  obtain ⟨w7, hw7⟩ : ∃ z : gw_W, z = gw_up w6 o 99 (h0, .inr (0, [.ref q0, .ref q1, .ref q2, .int 0, .ref q4, .ref q5, .int 0, .null, .null, .int 0, .null, .null, .null])) := ⟨_, rfl⟩
  replace Z : gw_Z D A w7 H := by rw [hw7]; exact Z
  replace he : w7 o 99 = some (h0, .inr (0, [.ref q0, .ref q1, .ref q2, .int 0, .ref q4, .ref q5, .int 0, .null, .null, .int 0, .null, .null, .null])) := by rw [hw7]; exact gw_same
  replace hN : ∀ b, 7 ≤ b → b ≠ 99 → w7 o b = none := fun b g1 g2 => by rw [hw7, gw_ne (by omega)]; exact hN b (by omega) g2
  refine lv_aload_n hx hb dX0_init_51 rfl (lv_at hl 0 rfl) ?_
  refine lv_bipush (v := 64) hx hb dX0_init_52 (by decide) ?_
  refine gw_arr (N' := 64) (atype := .float) (t0 := 1) (ty := .float) (a0 := (64, .inr (.inr (.inl (wx_0.2.1 o 7))))) (o := o) hx hb (hts _ k_X0_init_w11) rfl rfl (fun cA h => Option.some.inj (h.symm.trans (hC.1.1.2 1 _ rfl).2)) hts i_X0_init_0 tyX0 tyX0_ok nmX0 hown hC.1 Z hS hA ho17 he (rfl : vwCl[0]? = some (RX0, TX0, 13)) 7 (by decide) (by decide) (hN 7 (by decide) (by decide)) (hts _ k_X0_init_w12) (fun _ h9 => h9) rfl hin rfl (tyX0_ok 7 (by decide)) (fun _ => rfl) (fun _ => rfl) (Nat.le_of_ble_eq_true rfl) (fun _ => rfl) (by decide) (by decide) (by decide) (Nat.le_of_ble_eq_true rfl) (Nat.le_of_ble_eq_true rfl) dX0_init_54 dX0_init_56 (fun q7 H locs Z hS => ?_)
  obtain ⟨w8, hw8⟩ : ∃ z : gw_W, z = gw_up (gw_up w7 o 7 (q7, .inl (ca 1, 64, .inr (.inr (.inl (wx_0.2.1 o 7)))))) o 99 (h0, .inr (0, [.ref q0, .ref q1, .ref q2, .int 0, .ref q4, .ref q5, .int 0, .ref q7, .null, .int 0, .null, .null, .null])) := ⟨_, rfl⟩
  replace Z : gw_Z D A w8 H := by rw [hw8]; exact Z
  replace he : w8 o 99 = some (h0, .inr (0, [.ref q0, .ref q1, .ref q2, .int 0, .ref q4, .ref q5, .int 0, .ref q7, .null, .int 0, .null, .null, .null])) := by rw [hw8]; exact gw_same
  replace hN : ∀ b, 8 ≤ b → b ≠ 99 → w8 o b = none := fun b g1 g2 => by rw [hw8, gw_ne (by omega), gw_ne (by omega)]; exact hN b (by omega) g2
  refine lv_aload_n hx hb dX0_init_59 rfl (lv_at hl 0 rfl) ?_
  refine lv_bipush (v := 64) hx hb dX0_init_60 (by decide) ?_
  refine gw_arr (N' := 64) (atype := .float) (t0 := 1) (ty := .float) (a0 := (64, .inr (.inr (.inl (wx_0.2.1 o 8))))) (o := o) hx hb (hts _ k_X0_init_w11) rfl rfl (fun cA h => Option.some.inj (h.symm.trans (hC.1.1.2 1 _ rfl).2)) hts i_X0_init_0 tyX0 tyX0_ok nmX0 hown hC.1 Z hS hA ho17 he (rfl : vwCl[0]? = some (RX0, TX0, 13)) 8 (by decide) (by decide) (hN 8 (by decide) (by decide)) (hts _ k_X0_init_w13) (fun _ h9 => h9) rfl hin rfl (tyX0_ok 8 (by decide)) (fun _ => rfl) (fun _ => rfl) (Nat.le_of_ble_eq_true rfl) (fun _ => rfl) (by decide) (by decide) (by decide) (Nat.le_of_ble_eq_true rfl) (Nat.le_of_ble_eq_true rfl) dX0_init_62 dX0_init_64 (fun q8 H locs Z hS => ?_)
  obtain ⟨w9, hw9⟩ : ∃ z : gw_W, z = gw_up (gw_up w8 o 8 (q8, .inl (ca 1, 64, .inr (.inr (.inl (wx_0.2.1 o 8)))))) o 99 (h0, .inr (0, [.ref q0, .ref q1, .ref q2, .int 0, .ref q4, .ref q5, .int 0, .ref q7, .ref q8, .int 0, .null, .null, .null])) := ⟨_, rfl⟩
  replace Z : gw_Z D A w9 H := by rw [hw9]; exact Z
  replace he : w9 o 99 = some (h0, .inr (0, [.ref q0, .ref q1, .ref q2, .int 0, .ref q4, .ref q5, .int 0, .ref q7, .ref q8, .int 0, .null, .null, .null])) := by rw [hw9]; exact gw_same
  replace hN : ∀ b, 9 ≤ b → b ≠ 99 → w9 o b = none := fun b g1 g2 => by rw [hw9, gw_ne (by omega), gw_ne (by omega)]; exact hN b (by omega) g2
  refine lv_aload_n hx hb dX0_init_67 rfl (lv_at hl 0 rfl) ?_
  refine lv_iconst (v := 0) hx hb dX0_init_68 (by decide) ?_
  refine gw_putI (o := o) hx hb hts i_X0_init_0 tyX0 tyX0_ok nmX0 hown hC.1 Z hS he (rfl : vwCl[0]? = some (RX0, TX0, 13)) 9 (by decide) (hts _ k_X0_init_w14) (fun _ h9 => h9) rfl (by decide +kernel) (Nat.le_of_ble_eq_true rfl) dX0_init_69 (fun H locs Z hS => ?_)
  obtain ⟨w10, hw10⟩ : ∃ z : gw_W, z = gw_up w9 o 99 (h0, .inr (0, [.ref q0, .ref q1, .ref q2, .int 0, .ref q4, .ref q5, .int 0, .ref q7, .ref q8, .int 0, .null, .null, .null])) := ⟨_, rfl⟩
  replace Z : gw_Z D A w10 H := by rw [hw10]; exact Z
  replace he : w10 o 99 = some (h0, .inr (0, [.ref q0, .ref q1, .ref q2, .int 0, .ref q4, .ref q5, .int 0, .ref q7, .ref q8, .int 0, .null, .null, .null])) := by rw [hw10]; exact gw_same
  replace hN : ∀ b, 10 ≤ b → b ≠ 99 → w10 o b = none := fun b g1 g2 => by rw [hw10, gw_ne (by omega)]; exact hN b (by omega) g2
  refine lv_aload_n hx hb dX0_init_72 rfl (lv_at hl 0 rfl) ?_
  refine lv_bipush (v := 8) hx hb dX0_init_73 (by decide) ?_
  refine gw_arr (N' := 8) (atype := .int) (t0 := 0) (ty := .int) (a0 := (8, .inl (wx_0.1 o 10))) (o := o) hx hb (hts _ k_X0_init_w3) rfl rfl (fun cA h => Option.some.inj (h.symm.trans (hC.1.1.2 0 _ rfl).2)) hts i_X0_init_0 tyX0 tyX0_ok nmX0 hown hC.1 Z hS hA ho17 he (rfl : vwCl[0]? = some (RX0, TX0, 13)) 10 (by decide) (by decide) (hN 10 (by decide) (by decide)) (hts _ k_X0_init_w15) (fun _ h9 => h9) rfl hin rfl (tyX0_ok 10 (by decide)) (fun _ => rfl) (fun _ => rfl) (Nat.le_of_ble_eq_true rfl) (fun _ => rfl) (by decide) (by decide) (by decide) (Nat.le_of_ble_eq_true rfl) (Nat.le_of_ble_eq_true rfl) dX0_init_75 dX0_init_77 (fun q10 H locs Z hS => ?_)
  obtain ⟨w11, hw11⟩ : ∃ z : gw_W, z = gw_up (gw_up w10 o 10 (q10, .inl (ca 0, 8, .inl (wx_0.1 o 10)))) o 99 (h0, .inr (0, [.ref q0, .ref q1, .ref q2, .int 0, .ref q4, .ref q5, .int 0, .ref q7, .ref q8, .int 0, .ref q10, .null, .null])) := ⟨_, rfl⟩
  replace Z : gw_Z D A w11 H := by rw [hw11]; exact Z
  replace he : w11 o 99 = some (h0, .inr (0, [.ref q0, .ref q1, .ref q2, .int 0, .ref q4, .ref q5, .int 0, .ref q7, .ref q8, .int 0, .ref q10, .null, .null])) := by rw [hw11]; exact gw_same
  replace hN : ∀ b, 11 ≤ b → b ≠ 99 → w11 o b = none := fun b g1 g2 => by rw [hw11, gw_ne (by omega), gw_ne (by omega)]; exact hN b (by omega) g2
  refine lv_aload_n hx hb dX0_init_80 rfl (lv_at hl 0 rfl) ?_
  refine lv_bipush (v := 8) hx hb dX0_init_81 (by decide) ?_
  refine gw_arr (N' := 8) (atype := .int) (t0 := 0) (ty := .int) (a0 := (8, .inl (wx_0.1 o 11))) (o := o) hx hb (hts _ k_X0_init_w3) rfl rfl (fun cA h => Option.some.inj (h.symm.trans (hC.1.1.2 0 _ rfl).2)) hts i_X0_init_0 tyX0 tyX0_ok nmX0 hown hC.1 Z hS hA ho17 he (rfl : vwCl[0]? = some (RX0, TX0, 13)) 11 (by decide) (by decide) (hN 11 (by decide) (by decide)) (hts _ k_X0_init_w16) (fun _ h9 => h9) rfl hin rfl (tyX0_ok 11 (by decide)) (fun _ => rfl) (fun _ => rfl) (Nat.le_of_ble_eq_true rfl) (fun _ => rfl) (by decide) (by decide) (by decide) (Nat.le_of_ble_eq_true rfl) (Nat.le_of_ble_eq_true rfl) dX0_init_83 dX0_init_85 (fun q11 H locs Z hS => ?_)
  obtain ⟨w12, hw12⟩ : ∃ z : gw_W, z = gw_up (gw_up w11 o 11 (q11, .inl (ca 0, 8, .inl (wx_0.1 o 11)))) o 99 (h0, .inr (0, [.ref q0, .ref q1, .ref q2, .int 0, .ref q4, .ref q5, .int 0, .ref q7, .ref q8, .int 0, .ref q10, .ref q11, .null])) := ⟨_, rfl⟩
  replace Z : gw_Z D A w12 H := by rw [hw12]; exact Z
  replace he : w12 o 99 = some (h0, .inr (0, [.ref q0, .ref q1, .ref q2, .int 0, .ref q4, .ref q5, .int 0, .ref q7, .ref q8, .int 0, .ref q10, .ref q11, .null])) := by rw [hw12]; exact gw_same
  replace hN : ∀ b, 12 ≤ b → b ≠ 99 → w12 o b = none := fun b g1 g2 => by rw [hw12, gw_ne (by omega), gw_ne (by omega)]; exact hN b (by omega) g2
  refine lv_aload_n hx hb dX0_init_88 rfl (lv_at hl 0 rfl) ?_
  refine lv_bipush (v := 8) hx hb dX0_init_89 (by decide) ?_
  refine gw_arr (N' := 8) (atype := .int) (t0 := 0) (ty := .int) (a0 := (8, .inl (wx_0.1 o 12))) (o := o) hx hb (hts _ k_X0_init_w3) rfl rfl (fun cA h => Option.some.inj (h.symm.trans (hC.1.1.2 0 _ rfl).2)) hts i_X0_init_0 tyX0 tyX0_ok nmX0 hown hC.1 Z hS hA ho17 he (rfl : vwCl[0]? = some (RX0, TX0, 13)) 12 (by decide) (by decide) (hN 12 (by decide) (by decide)) (hts _ k_X0_init_w17) (fun _ h9 => h9) rfl hin rfl (tyX0_ok 12 (by decide)) (fun _ => rfl) (fun _ => rfl) (Nat.le_of_ble_eq_true rfl) (fun _ => rfl) (by decide) (by decide) (by decide) (Nat.le_of_ble_eq_true rfl) (Nat.le_of_ble_eq_true rfl) dX0_init_91 dX0_init_93 (fun q12 H locs Z hS => ?_)
  obtain ⟨w13, hw13⟩ : ∃ z : gw_W, z = gw_up (gw_up w12 o 12 (q12, .inl (ca 0, 8, .inl (wx_0.1 o 12)))) o 99 (h0, .inr (0, [.ref q0, .ref q1, .ref q2, .int 0, .ref q4, .ref q5, .int 0, .ref q7, .ref q8, .int 0, .ref q10, .ref q11, .ref q12])) := ⟨_, rfl⟩
  replace Z : gw_Z D A w13 H := by rw [hw13]; exact Z
  replace he : w13 o 99 = some (h0, .inr (0, [.ref q0, .ref q1, .ref q2, .int 0, .ref q4, .ref q5, .int 0, .ref q7, .ref q8, .int 0, .ref q10, .ref q11, .ref q12])) := by rw [hw13]; exact gw_same
  replace hN : ∀ b, 13 ≤ b → b ≠ 99 → w13 o b = none := fun b g1 g2 => by rw [hw13, gw_ne (by omega), gw_ne (by omega)]; exact hN b (by omega) g2
  refine va_getsN (own := RX0) hx hb hC.2.1.1.1 hS hown (wx_nst hC 1 rfl rfl) (fun _ h9 => h9) dX0_init_96 ?_
  refine lv_iconst (v := 0) hx hb dX0_init_99 (by decide) ?_
  refine lv_aload_n hx hb dX0_init_100 rfl (lv_at hl 0 rfl) ?_
  refine gw_get (o := o) hx hb hts i_X0_init_0 hown hC.1 Z he (rfl : vwCl[0]? = some (RX0, TX0, 13)) 0 (by decide) (hts _ k_X0_init_w4) (fun _ h9 => h9) rfl dX0_init_101 ?_
  refine lv_iconst (v := 0) hx hb dX0_init_104 (by decide) ?_
  refine lv_iconst (v := 4) hx hb dX0_init_105 (by decide) ?_
  refine gw_copyT (o := o) (k := 0) (g' := wx_0.1 o 0) hx hb (hml.trans hl.1.symm) hown (hts _ k_X0_init_w18) (hts _ k_X0_init_w19) (hts _ k_X0_init_w20) (hts _ k_X0_init_w21) hC.1 Z hS hC.2.1.2.1.1 (by rw [hw13, gw_ne (by omega), gw_ne (by omega), hw12, gw_ne (by omega), gw_ne (by omega), hw11, gw_ne (by omega), gw_ne (by omega), hw10, gw_ne (by omega), hw9, gw_ne (by omega), gw_ne (by omega), hw8, gw_ne (by omega), gw_ne (by omega), hw7, gw_ne (by omega), hw6, gw_ne (by omega), gw_ne (by omega), hw5, gw_ne (by omega), gw_ne (by omega), hw4, gw_ne (by omega), hw3, gw_ne (by omega), gw_ne (by omega), hw2, gw_ne (by omega), gw_ne (by omega), hw1, gw_ne (by omega)]; exact gw_same) ?_ (Nat.le_of_ble_eq_true rfl) (Nat.le_of_ble_eq_true rfl) dX0_init_106 (fun H locs Z hS => ?_)
  · funext j
    show (if 0 ≤ j ∧ j < 0 + 4 then wx_v0.getD (0 + (j - 0)) 0 else (0 : Int32)) = (if 0 = 0 ∧ (o < 11 ∨ o = 16) then wx_v0.getD j 0 else 0)
    rw [if_pos (show 0 = 0 ∧ (o < 11 ∨ o = 16) from ⟨rfl, by omega⟩)]
    by_cases hj : j < 4
    · rw [if_pos ⟨Nat.zero_le _, by omega⟩, Nat.zero_add, Nat.sub_zero]
    · rw [if_neg (fun z => hj (by omega)), List.getD_eq_getElem?_getD, List.getElem?_eq_none (by show 4 ≤ j; omega)]; rfl
  obtain ⟨w14, hw14⟩ : ∃ z : gw_W, z = gw_up w13 o 0 (q0, .inl (ca 0, 4, .inl (wx_0.1 o 0))) := ⟨_, rfl⟩
  replace Z : gw_Z D A w14 H := by rw [hw14]; exact Z
  replace he : w14 o 99 = some (h0, .inr (0, [.ref q0, .ref q1, .ref q2, .int 0, .ref q4, .ref q5, .int 0, .ref q7, .ref q8, .int 0, .ref q10, .ref q11, .ref q12])) := by rw [hw14, gw_ne (by omega)]; exact he
  refine W.widen (k := 10) (n := 234) (by decide) (by decide) ?_
  have Zf : gw_Z D A (gw_cl ca (fun x y => if y = 99 then h0 else if y = 0 then q0 else if y = 1 then q1 else if y = 2 then q2 else if y = 4 then q4 else if y = 5 then q5 else if y = 7 then q7 else if y = 8 then q8 else if y = 10 then q10 else if y = 11 then q11 else if y = 12 then q12 else 0) (fun x => decide (x = o)) w) H := by
    refine gw_sub Z ?_
    intro x y q h
    unfold gw_cl at h
    by_cases hxo : x = o
    · subst hxo
      rw [if_pos (decide_eq_true rfl)] at h
      rw [wx_sbo ho] at h
      by_cases h99 : y = 99
      · subst h99
        have hq := Option.some.inj h
        rw [← hq, hw14, hw13, hw12, hw11, hw10, hw9, hw8, hw7, hw6, hw5, hw4, hw3, hw2, hw1]
        simp [gw_up]
        try first | rfl | exact ⟨rfl, rfl⟩
      by_cases h0 : y = 0
      · subst h0
        have hq := Option.some.inj h
        rw [← hq, hw14, hw13, hw12, hw11, hw10, hw9, hw8, hw7, hw6, hw5, hw4, hw3, hw2, hw1]
        simp [gw_up]
        try first | rfl | exact ⟨rfl, rfl⟩
      by_cases h1 : y = 1
      · subst h1
        have hq := Option.some.inj h
        rw [← hq, hw14, hw13, hw12, hw11, hw10, hw9, hw8, hw7, hw6, hw5, hw4, hw3, hw2, hw1]
        simp [gw_up]
        try first | rfl | exact ⟨rfl, rfl⟩
      by_cases h2 : y = 2
      · subst h2
        have hq := Option.some.inj h
        rw [← hq, hw14, hw13, hw12, hw11, hw10, hw9, hw8, hw7, hw6, hw5, hw4, hw3, hw2, hw1]
        simp [gw_up]
        try first | rfl | exact ⟨rfl, rfl⟩
      by_cases h4 : y = 4
      · subst h4
        have hq := Option.some.inj h
        rw [← hq, hw14, hw13, hw12, hw11, hw10, hw9, hw8, hw7, hw6, hw5, hw4, hw3, hw2, hw1]
        simp [gw_up]
        try first | rfl | exact ⟨rfl, rfl⟩
      by_cases h5 : y = 5
      · subst h5
        have hq := Option.some.inj h
        rw [← hq, hw14, hw13, hw12, hw11, hw10, hw9, hw8, hw7, hw6, hw5, hw4, hw3, hw2, hw1]
        simp [gw_up]
        try first | rfl | exact ⟨rfl, rfl⟩
      by_cases h7 : y = 7
      · subst h7
        have hq := Option.some.inj h
        rw [← hq, hw14, hw13, hw12, hw11, hw10, hw9, hw8, hw7, hw6, hw5, hw4, hw3, hw2, hw1]
        simp [gw_up]
        try first | rfl | exact ⟨rfl, rfl⟩
      by_cases h8 : y = 8
      · subst h8
        have hq := Option.some.inj h
        rw [← hq, hw14, hw13, hw12, hw11, hw10, hw9, hw8, hw7, hw6, hw5, hw4, hw3, hw2, hw1]
        simp [gw_up]
        try first | rfl | exact ⟨rfl, rfl⟩
      by_cases h10 : y = 10
      · subst h10
        have hq := Option.some.inj h
        rw [← hq, hw14, hw13, hw12, hw11, hw10, hw9, hw8, hw7, hw6, hw5, hw4, hw3, hw2, hw1]
        simp [gw_up]
        try first | rfl | exact ⟨rfl, rfl⟩
      by_cases h11 : y = 11
      · subst h11
        have hq := Option.some.inj h
        rw [← hq, hw14, hw13, hw12, hw11, hw10, hw9, hw8, hw7, hw6, hw5, hw4, hw3, hw2, hw1]
        simp [gw_up]
        try first | rfl | exact ⟨rfl, rfl⟩
      by_cases h12 : y = 12
      · subst h12
        have hq := Option.some.inj h
        rw [← hq, hw14, hw13, hw12, hw11, hw10, hw9, hw8, hw7, hw6, hw5, hw4, hw3, hw2, hw1]
        simp [gw_up]
        try first | rfl | exact ⟨rfl, rfl⟩
      exfalso
      simp [wx_sb, wx_ek, h99, h0, h1, h2, h4, h5, h7, h8, h10, h11, h12] at h
    · rw [if_neg (fun z => hxo (of_decide_eq_true z))] at h
      rw [hw14, hw13, hw12, hw11, hw10, hw9, hw8, hw7, hw6, hw5, hw4, hw3, hw2, hw1]
      simp [gw_up, hxo]
      exact h
  exact W.vret hx hb hr (fun t ht hW => ⟨rfl, ⟨fun x y => if y = 99 then h0 else if y = 0 then q0 else if y = 1 then q1 else if y = 2 then q2 else if y = 4 then q4 else if y = 5 then q5 else if y = 7 then q7 else if y = 8 then q8 else if y = 10 then q10 else if y = 11 then q11 else if y = 12 then q12 else 0, rfl, by rw [ht]; exact Zf⟩, hS.F ht⟩) hS.2.2 dX0_init_109
theorem i_X1_init_1 : ∀ w ∈ wsX10, w ∈ wsX1_init := by decide +kernel
theorem k_X1_init_w0 : Cond.methodLink RX1 3 objectInit ∈ wsX1_init := by decide +kernel
theorem k_X1_init_w1 : Cond.instanceMethod objectInit ∈ wsX1_init := by decide +kernel
theorem k_X1_init_w2 : Cond.code objectInit ⟨#[0xb1]⟩ 1 none ∈ wsX1_init := by decide +kernel
theorem k_X1_init_w3 : Cond.arrayClass .int ∈ wsX1_init := by decide +kernel
theorem k_X1_init_w4 : Cond.fieldLink RX1 9 "WarmProbes$Lone" "settings" "[I" ∈ wsX1_init := by decide +kernel
theorem k_X1_init_w5 : Cond.classLink RX1 15 "[F" ∈ wsX1_init := by decide +kernel
theorem k_X1_init_w6 : Cond.fieldLink RX1 17 "WarmProbes$Lone" "fields" "[[F" ∈ wsX1_init := by decide +kernel
theorem k_X1_init_w7 : Cond.fieldLink RX1 21 "WarmProbes$Lone" "steps" "[I" ∈ wsX1_init := by decide +kernel
set_option maxRecDepth 20000 in
set_option maxHeartbeats 8000000 in
theorem c_X1_init (l : Launch) {D : va_G} {ad : Nat → Nat → Nat} {ca : Nat → ClassId} {A : Nat → Prop}  {h0 : Nat} {w : gw_W} (he : w 13 99 = some (h0, .inr (1, [.null, .null, .null]))) (hN : ∀ b, 0 ≤ b → b ≠ 99 → w 13 b = none) : gw_Mc l yX1_init wsX1_init 1 3 132 20 D ad ca A [.ref h0] w (fun a => gw_cl ca a (fun x => decide (x = 13)) w) (fun a => a 13 99 = h0) := by
  refine Met.ofW (cc := cX1_init) (maxL := 1) (ret := none) (by decide) rfl ?_
  intro p e s m args below meth c s₁ B0 hml hv
  obtain ⟨rfl, hC, Z, hA, hAO⟩ := hv
  have hx := B0.exec
  have hb := B0.bytes
  have hr := B0.returns
  have hts := atoms_spec (ws := wsX1_init) B0.pre
  have hown : s.vm.findClass RX1 = some m.cls := findClass_of_methodNamed B0.named
  have hlk := B0.notSynchronized
  have hin : meth.name = "<init>" := (name_of_methodNamed B0.named B0.method).1
  have hS : va_S A s.heap s.heap [] := va_S.rf
  have ho : 13 < 17 := by decide
  have hl := lv_entry ([.ref h0]) (n := 1) (Nat.le_of_ble_eq_true rfl)
  rw [lg_entry_eq]
  generalize (lg_sl ([.ref h0]) ++ List.replicate (1 - (lg_sl ([.ref h0])).length) Slot.unset).toArray = ls at hl ⊢
  replace hl : lv_has ls 1 [(0, .ref h0)] := hl
  refine lv_aload_n hx hb dX1_init_0 rfl (lv_at hl 0 rfl) ?_
  refine W.objInit hx hb hown (hts _ k_X1_init_w0) (hts _ k_X1_init_w1) (hts _ k_X1_init_w2) rfl (by rw [hml]; exact hl.1) rfl dX1_init_1 (Nat.le_of_ble_eq_true rfl) (Nat.le_of_ble_eq_true rfl) ?_
  refine W.eq (g2 := F0 m 4 ls []) rfl ?_
  refine lv_aload_n hx hb dX1_init_4 rfl (lv_at hl 0 rfl) ?_
  refine lv_iconst (v := 4) hx hb dX1_init_5 (by decide) ?_
  refine gw_arr (N' := 4) (atype := .int) (t0 := 0) (ty := .int) (a0 := (4, .inl (wx_0.1 13 0))) (o := 13) hx hb (hts _ k_X1_init_w3) rfl rfl (fun cA h => Option.some.inj (h.symm.trans (hC.1.1.2 0 _ rfl).2)) hts i_X1_init_1 tyX1 tyX1_ok nmX1 hown hC.1 Z hS hA ho he (rfl : vwCl[1]? = some (RX1, TX1, 3)) 0 (by decide) (by decide) (hN 0 (by decide) (by decide)) (hts _ k_X1_init_w4) (fun _ h9 => h9) rfl hin rfl (tyX1_ok 0 (by decide)) (fun _ => rfl) (fun _ => rfl) (Nat.le_of_ble_eq_true rfl) (fun _ => rfl) (by decide) (by decide) (by decide) (Nat.le_of_ble_eq_true rfl) (Nat.le_of_ble_eq_true rfl) dX1_init_6 dX1_init_8 (fun q0 H locs Z hS => ?_)
  obtain ⟨w1, hw1⟩ : ∃ z : gw_W, z = gw_up (gw_up w 13 0 (q0, .inl (ca 0, 4, .inl (wx_0.1 13 0)))) 13 99 (h0, .inr (1, [.ref q0, .null, .null])) := ⟨_, rfl⟩
  replace Z : gw_Z D A w1 H := by rw [hw1]; exact Z
  replace he : w1 13 99 = some (h0, .inr (1, [.ref q0, .null, .null])) := by rw [hw1]; exact gw_same
  replace hN : ∀ b, 1 ≤ b → b ≠ 99 → w1 13 b = none := fun b g1 g2 => by rw [hw1, gw_ne (by omega), gw_ne (by omega)]; exact hN b (by omega) g2
  refine lv_aload_n hx hb dX1_init_11 rfl (lv_at hl 0 rfl) ?_
  refine lv_bipush (v := 64) hx hb dX1_init_12 (by decide) ?_
  refine gw_anF (own := RX1) hx hb hown (hts _ k_X1_init_w5) hAO hC.1 (by decide) (by decide) (Nat.le_of_ble_eq_true rfl) (Nat.le_of_ble_eq_true rfl) dX1_init_14 (fun H1 hH1 => ?_)
  refine gw_arrR (N' := 64) (o := 13) hx hb hts i_X1_init_1 tyX1 tyX1_ok nmX1 hown hC.1 Z hS hA ho he (rfl : vwCl[1]? = some (RX1, TX1, 3)) 1 (by decide) (by decide) (hN 1 (by decide) (by decide)) (hts _ k_X1_init_w6) (fun _ h9 => h9) rfl hin rfl (tyX1_ok 1 (by decide)) (fun _ => rfl) (fun _ => rfl) (Nat.le_of_ble_eq_true rfl) hH1 dX1_init_17 (fun q1 H locs Z hS => ?_)
  obtain ⟨w2, hw2⟩ : ∃ z : gw_W, z = gw_up (gw_up w1 13 1 (q1, .inl (ca 4, 64, .inr (.inr (.inr (.inr (fun _ => none))))))) 13 99 (h0, .inr (1, [.ref q0, .ref q1, .null])) := ⟨_, rfl⟩
  replace Z : gw_Z D A w2 H := by rw [hw2]; exact Z
  replace he : w2 13 99 = some (h0, .inr (1, [.ref q0, .ref q1, .null])) := by rw [hw2]; exact gw_same
  replace hN : ∀ b, 2 ≤ b → b ≠ 99 → w2 13 b = none := fun b g1 g2 => by rw [hw2, gw_ne (by omega), gw_ne (by omega)]; exact hN b (by omega) g2
  refine lv_aload_n hx hb dX1_init_20 rfl (lv_at hl 0 rfl) ?_
  refine lv_bipush (v := 64) hx hb dX1_init_21 (by decide) ?_
  refine gw_arr (N' := 64) (atype := .int) (t0 := 0) (ty := .int) (a0 := (64, .inl (wx_0.1 13 2))) (o := 13) hx hb (hts _ k_X1_init_w3) rfl rfl (fun cA h => Option.some.inj (h.symm.trans (hC.1.1.2 0 _ rfl).2)) hts i_X1_init_1 tyX1 tyX1_ok nmX1 hown hC.1 Z hS hA ho he (rfl : vwCl[1]? = some (RX1, TX1, 3)) 2 (by decide) (by decide) (hN 2 (by decide) (by decide)) (hts _ k_X1_init_w7) (fun _ h9 => h9) rfl hin rfl (tyX1_ok 2 (by decide)) (fun _ => rfl) (fun _ => rfl) (Nat.le_of_ble_eq_true rfl) (fun _ => rfl) (by decide) (by decide) (by decide) (Nat.le_of_ble_eq_true rfl) (Nat.le_of_ble_eq_true rfl) dX1_init_23 dX1_init_25 (fun q2 H locs Z hS => ?_)
  obtain ⟨w3, hw3⟩ : ∃ z : gw_W, z = gw_up (gw_up w2 13 2 (q2, .inl (ca 0, 64, .inl (wx_0.1 13 2)))) 13 99 (h0, .inr (1, [.ref q0, .ref q1, .ref q2])) := ⟨_, rfl⟩
  replace Z : gw_Z D A w3 H := by rw [hw3]; exact Z
  replace he : w3 13 99 = some (h0, .inr (1, [.ref q0, .ref q1, .ref q2])) := by rw [hw3]; exact gw_same
  replace hN : ∀ b, 3 ≤ b → b ≠ 99 → w3 13 b = none := fun b g1 g2 => by rw [hw3, gw_ne (by omega), gw_ne (by omega)]; exact hN b (by omega) g2
  refine W.widen (k := 3) (n := 132) (by decide) (by decide) ?_
  have Zf : gw_Z D A (gw_cl ca (fun x y => if y = 99 then h0 else if y = 0 then q0 else if y = 1 then q1 else if y = 2 then q2 else 0) (fun x => decide (x = 13)) w) H := by
    refine gw_sub Z ?_
    intro x y q h
    unfold gw_cl at h
    by_cases hxo : x = 13
    · subst hxo
      rw [if_pos (decide_eq_true rfl)] at h
      by_cases h99 : y = 99
      · subst h99
        have hq := Option.some.inj h
        rw [← hq, hw3, hw2, hw1]
        simp [gw_up]
        try first | rfl | exact ⟨rfl, rfl⟩
      by_cases h0 : y = 0
      · subst h0
        have hq := Option.some.inj h
        rw [← hq, hw3, hw2, hw1]
        simp [gw_up]
        try first | rfl | exact ⟨rfl, rfl⟩
      by_cases h1 : y = 1
      · subst h1
        have hq := Option.some.inj h
        rw [← hq, hw3, hw2, hw1]
        simp [gw_up]
        try first | rfl | exact ⟨rfl, rfl⟩
      by_cases h2 : y = 2
      · subst h2
        have hq := Option.some.inj h
        rw [← hq, hw3, hw2, hw1]
        simp [gw_up]
        try first | rfl | exact ⟨rfl, rfl⟩
      exfalso
      simp [wx_sh, wx_sx, wx_sm, wx_ek, h99, h0, h1, h2] at h
    · rw [if_neg (fun z => hxo (of_decide_eq_true z))] at h
      rw [hw3, hw2, hw1]
      simp [gw_up, hxo]
      exact h
  exact W.vret hx hb hr (fun t ht hW => ⟨rfl, ⟨fun x y => if y = 99 then h0 else if y = 0 then q0 else if y = 1 then q1 else if y = 2 then q2 else 0, rfl, by rw [ht]; exact Zf⟩, hS.F ht⟩) hS.2.2 dX1_init_28
theorem i_X2_init_2 : ∀ w ∈ wsX20, w ∈ wsX2_init := by decide +kernel
theorem k_X2_init_w0 : Cond.methodLink RX2 3 objectInit ∈ wsX2_init := by decide +kernel
theorem k_X2_init_w1 : Cond.instanceMethod objectInit ∈ wsX2_init := by decide +kernel
theorem k_X2_init_w2 : Cond.code objectInit ⟨#[0xb1]⟩ 1 none ∈ wsX2_init := by decide +kernel
theorem k_X2_init_w3 : Cond.arrayClass .int ∈ wsX2_init := by decide +kernel
theorem k_X2_init_w4 : Cond.fieldLink RX2 9 "WarmProbes$Pad" "codes" "[I" ∈ wsX2_init := by decide +kernel
theorem k_X2_init_w5 : Cond.fieldLink RX2 15 "WarmProbes$Pad" "length" "I" ∈ wsX2_init := by decide +kernel
set_option maxRecDepth 20000 in
set_option maxHeartbeats 8000000 in
theorem c_X2_init (l : Launch) {D : va_G} {ad : Nat → Nat → Nat} {ca : Nat → ClassId} {A : Nat → Prop}  {h0 : Nat} {w : gw_W} (he : w 15 99 = some (h0, .inr (2, [.null, .int 0]))) (hN : ∀ b, 0 ≤ b → b ≠ 99 → w 15 b = none) : gw_Mc l yX2_init wsX2_init 1 1 80 20 D ad ca A [.ref h0] w (fun a => gw_cl ca a (fun x => decide (x = 15)) w) (fun a => a 15 99 = h0) := by
  refine Met.ofW (cc := cX2_init) (maxL := 1) (ret := none) (by decide) rfl ?_
  intro p e s m args below meth c s₁ B0 hml hv
  obtain ⟨rfl, hC, Z, hA, hAO⟩ := hv
  have hx := B0.exec
  have hb := B0.bytes
  have hr := B0.returns
  have hts := atoms_spec (ws := wsX2_init) B0.pre
  have hown : s.vm.findClass RX2 = some m.cls := findClass_of_methodNamed B0.named
  have hlk := B0.notSynchronized
  have hin : meth.name = "<init>" := (name_of_methodNamed B0.named B0.method).1
  have hS : va_S A s.heap s.heap [] := va_S.rf
  have ho : 15 < 17 := by decide
  have hl := lv_entry ([.ref h0]) (n := 1) (Nat.le_of_ble_eq_true rfl)
  rw [lg_entry_eq]
  generalize (lg_sl ([.ref h0]) ++ List.replicate (1 - (lg_sl ([.ref h0])).length) Slot.unset).toArray = ls at hl ⊢
  replace hl : lv_has ls 1 [(0, .ref h0)] := hl
  refine lv_aload_n hx hb dX2_init_0 rfl (lv_at hl 0 rfl) ?_
  refine W.objInit hx hb hown (hts _ k_X2_init_w0) (hts _ k_X2_init_w1) (hts _ k_X2_init_w2) rfl (by rw [hml]; exact hl.1) rfl dX2_init_1 (Nat.le_of_ble_eq_true rfl) (Nat.le_of_ble_eq_true rfl) ?_
  refine W.eq (g2 := F0 m 4 ls []) rfl ?_
  refine lv_aload_n hx hb dX2_init_4 rfl (lv_at hl 0 rfl) ?_
  refine lv_bipush (v := 80) hx hb dX2_init_5 (by decide) ?_
  refine gw_arr (N' := 80) (atype := .int) (t0 := 0) (ty := .int) (a0 := (80, .inl (wx_0.1 15 0))) (o := 15) hx hb (hts _ k_X2_init_w3) rfl rfl (fun cA h => Option.some.inj (h.symm.trans (hC.1.1.2 0 _ rfl).2)) hts i_X2_init_2 tyX2 tyX2_ok nmX2 hown hC.1 Z hS hA ho he (rfl : vwCl[2]? = some (RX2, TX2, 2)) 0 (by decide) (by decide) (hN 0 (by decide) (by decide)) (hts _ k_X2_init_w4) (fun _ h9 => h9) rfl hin rfl (tyX2_ok 0 (by decide)) (fun _ => rfl) (fun _ => rfl) (Nat.le_of_ble_eq_true rfl) (fun _ => rfl) (by decide) (by decide) (by decide) (Nat.le_of_ble_eq_true rfl) (Nat.le_of_ble_eq_true rfl) dX2_init_7 dX2_init_9 (fun q0 H locs Z hS => ?_)
  obtain ⟨w1, hw1⟩ : ∃ z : gw_W, z = gw_up (gw_up w 15 0 (q0, .inl (ca 0, 80, .inl (wx_0.1 15 0)))) 15 99 (h0, .inr (2, [.ref q0, .int 0])) := ⟨_, rfl⟩
  replace Z : gw_Z D A w1 H := by rw [hw1]; exact Z
  replace he : w1 15 99 = some (h0, .inr (2, [.ref q0, .int 0])) := by rw [hw1]; exact gw_same
  replace hN : ∀ b, 1 ≤ b → b ≠ 99 → w1 15 b = none := fun b g1 g2 => by rw [hw1, gw_ne (by omega), gw_ne (by omega)]; exact hN b (by omega) g2
  refine lv_aload_n hx hb dX2_init_12 rfl (lv_at hl 0 rfl) ?_
  refine lv_iconst (v := 0) hx hb dX2_init_13 (by decide) ?_
  refine gw_putI (o := 15) hx hb hts i_X2_init_2 tyX2 tyX2_ok nmX2 hown hC.1 Z hS he (rfl : vwCl[2]? = some (RX2, TX2, 2)) 1 (by decide) (hts _ k_X2_init_w5) (fun _ h9 => h9) rfl (by decide +kernel) (Nat.le_of_ble_eq_true rfl) dX2_init_14 (fun H locs Z hS => ?_)
  obtain ⟨w2, hw2⟩ : ∃ z : gw_W, z = gw_up w1 15 99 (h0, .inr (2, [.ref q0, .int 0])) := ⟨_, rfl⟩
  replace Z : gw_Z D A w2 H := by rw [hw2]; exact Z
  replace he : w2 15 99 = some (h0, .inr (2, [.ref q0, .int 0])) := by rw [hw2]; exact gw_same
  replace hN : ∀ b, 2 ≤ b → b ≠ 99 → w2 15 b = none := fun b g1 g2 => by rw [hw2, gw_ne (by omega)]; exact hN b (by omega) g2
  refine W.widen (k := 1) (n := 80) (by decide) (by decide) ?_
  have Zf : gw_Z D A (gw_cl ca (fun x y => if y = 99 then h0 else if y = 0 then q0 else 0) (fun x => decide (x = 15)) w) H := by
    refine gw_sub Z ?_
    intro x y q h
    unfold gw_cl at h
    by_cases hxo : x = 15
    · subst hxo
      rw [if_pos (decide_eq_true rfl)] at h
      by_cases h99 : y = 99
      · subst h99
        have hq := Option.some.inj h
        rw [← hq, hw2, hw1]
        simp [gw_up]
        try first | rfl | exact ⟨rfl, rfl⟩
      by_cases h0 : y = 0
      · subst h0
        have hq := Option.some.inj h
        rw [← hq, hw2, hw1]
        simp [gw_up]
        try first | rfl | exact ⟨rfl, rfl⟩
      exfalso
      simp [wx_sh, wx_sx, wx_sm, wx_ek, h99, h0] at h
    · rw [if_neg (fun z => hxo (of_decide_eq_true z))] at h
      rw [hw2, hw1]
      simp [gw_up, hxo]
      exact h
  exact W.vret hx hb hr (fun t ht hW => ⟨rfl, ⟨fun x y => if y = 99 then h0 else if y = 0 then q0 else 0, rfl, by rw [ht]; exact Zf⟩, hS.F ht⟩) hS.2.2 dX2_init_17
