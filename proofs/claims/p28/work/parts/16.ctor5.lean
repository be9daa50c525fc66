def gw_fin (ca : Nat → ClassId) (a : Nat → Nat → Nat) (w : gw_W) : gw_W := fun x y =>
  if x = 14 ∧ y = 0 then some (a 14 0, .inl (ca 3, 7, .inr (.inr (.inr (.inr (gw_pr a 7))))))
  else if x = 11 ∧ y = 5 then some (a 11 5, .inl (ca 3, 2, .inr (.inr (.inr (.inr (gw_sr a 2))))))
  else if x < 16 then (wx_ek a (fun _ => 0) ca wx_0 x y (wx_sh (fun _ => false) x y)).map (fun e => (a x y, e)) else w x y
theorem i_X5_init_0 : ∀ w ∈ wsX00, w ∈ wsX5_init := by decide +kernel
theorem i_X5_init_2 : ∀ w ∈ wsX20, w ∈ wsX5_init := by decide +kernel
theorem i_X5_init_3 : ∀ w ∈ wsX30, w ∈ wsX5_init := by decide +kernel
theorem i_X5_init_4 : ∀ w ∈ wsX40, w ∈ wsX5_init := by decide +kernel
theorem i_X5_init_5 : ∀ w ∈ wsX50, w ∈ wsX5_init := by decide +kernel
theorem k_X5i_w0 : Cond.methodLink RX5 1 objectInit ∈ wsX5_init := by decide +kernel
theorem k_X5i_w1 : Cond.instanceMethod objectInit ∈ wsX5_init := by decide +kernel
theorem k_X5i_w2 : Cond.code objectInit ⟨#[0xb1]⟩ 1 none ∈ wsX5_init := by decide +kernel
theorem k_X5i_w3 : Cond.classLink RX5 7 RX0 ∈ wsX5_init := by decide +kernel
theorem k_X5i_w4 : Cond.instantiable RX0 13 ∈ wsX5_init := by decide +kernel
theorem k_X5i_w5 : Cond.initialized RX0 ∈ wsX5_init := by decide +kernel
theorem k_X5i_w6 : Cond.instanceMethod yX0_init ∈ wsX5_init := by decide +kernel
theorem k_X5i_w7 : Cond.fieldLink RX5 10 "WarmProbes" "board" "LWarmProbes$Board;" ∈ wsX5_init := by decide +kernel
theorem k_X5i_w8 : Cond.fieldLink RX5 16 "WarmProbes" "ahead" "LWarmProbes$Board;" ∈ wsX5_init := by decide +kernel
theorem k_X5i_w9 : Cond.classLink RX5 19 RX4 ∈ wsX5_init := by decide +kernel
theorem k_X5i_w10 : Cond.instantiable RX4 2 ∈ wsX5_init := by decide +kernel
theorem k_X5i_w11 : Cond.initialized RX4 ∈ wsX5_init := by decide +kernel
theorem k_X5i_w12 : Cond.instanceMethod yX4_init ∈ wsX5_init := by decide +kernel
theorem k_X5i_w13 : Cond.fieldLink RX5 22 "WarmProbes" "suspicion" "LWarmProbes$Suspicion;" ∈ wsX5_init := by decide +kernel
theorem k_X5i_w14 : Cond.classLink RX5 26 RX3 ∈ wsX5_init := by decide +kernel
theorem k_X5i_w15 : Cond.instantiable RX3 2 ∈ wsX5_init := by decide +kernel
theorem k_X5i_w16 : Cond.initialized RX3 ∈ wsX5_init := by decide +kernel
theorem k_X5i_w17 : Cond.instanceMethod yX3_init ∈ wsX5_init := by decide +kernel
theorem k_X5i_w18 : Cond.fieldLink RX5 29 "WarmProbes" "past" "LWarmProbes$Past;" ∈ wsX5_init := by decide +kernel
theorem k_X5i_w19 : Cond.classLink RX5 33 RX2 ∈ wsX5_init := by decide +kernel
theorem k_X5i_w20 : Cond.instantiable RX2 2 ∈ wsX5_init := by decide +kernel
theorem k_X5i_w21 : Cond.initialized RX2 ∈ wsX5_init := by decide +kernel
theorem k_X5i_w22 : Cond.instanceMethod yX2_init ∈ wsX5_init := by decide +kernel
theorem k_X5i_w23 : Cond.fieldLink RX5 36 "WarmProbes" "pad" "LWarmProbes$Pad;" ∈ wsX5_init := by decide +kernel
theorem k_X5i_w24 : Cond.fieldLink RX5 40 "WarmProbes" "slots" "[LWarmProbes$Board;" ∈ wsX5_init := by decide +kernel
theorem k_X5i_w25 : Cond.arrayClass .boolean ∈ wsX5_init := by decide +kernel
theorem k_X5i_w26 : Cond.fieldLink RX5 44 "WarmProbes" "isSaved" "[Z" ∈ wsX5_init := by decide +kernel
set_option maxRecDepth 20000 in
set_option maxHeartbeats 16000000 in
theorem c_X5_init (l : Launch) {D : va_G} {ad : Nat → Nat → Nat} {ca : Nat → ClassId} {A : Nat → Prop} {h0 : Nat} {w : gw_W} (he : w 11 99 = some (h0, .inr (5, [.null, .null, .null, .null, .null, .null, .null]))) (hN : ∀ b, 0 ≤ b → b ≠ 99 → w 11 b = none) (hwo : ∀ x y, x < 16 → x ≠ 11 → w x y = none) : gw_Mc l yX5_init wsX5_init 3 133 3013 67 D ad ca A [.ref h0] w (fun a => gw_fin ca a w) (fun a => a 11 99 = h0) := by
  refine Met.ofW (cc := cX5_init) (maxL := 2) (ret := none) (by decide) rfl ?_
  intro p e s m args below meth c s₁ B0 hml hv
  obtain ⟨rfl, hC, Z, hA, hAO⟩ := hv
  have hx := B0.exec
  have hb := B0.bytes
  have hr := B0.returns
  have hts := atoms_spec (ws := wsX5_init) B0.pre
  have hown : s.vm.findClass RX5 = some m.cls := findClass_of_methodNamed B0.named
  have hlk := B0.notSynchronized
  have hin : meth.name = "<init>" := (name_of_methodNamed B0.named B0.method).1
  have hS : va_S A s.heap s.heap [] := va_S.rf
  have ho : 11 < 17 := by decide
  have hl := lv_entry ([.ref h0]) (n := 2) (Nat.le_of_ble_eq_true rfl)
  rw [lg_entry_eq]
  generalize (lg_sl ([.ref h0]) ++ List.replicate (2 - (lg_sl ([.ref h0])).length) Slot.unset).toArray = ls at hl ⊢
  replace hl : lv_has ls 2 [(0, .ref h0)] := hl
  refine lv_aload_n hx hb dX5_init_0 rfl (lv_at hl 0 rfl) ?_
  refine W.objInit hx hb hown (hts _ k_X5i_w0) (hts _ k_X5i_w1) (hts _ k_X5i_w2) rfl (by rw [hml]; exact hl.1) rfl dX5_init_1 (Nat.le_of_ble_eq_true rfl) (Nat.le_of_ble_eq_true rfl) ?_
  refine W.eq (g2 := F0 m 4 ls []) rfl ?_
  have Z0 : gw_Z D A (gw_cl ca (fun _ _ => 0) (fun _ => false) w) s.heap := gw_sub Z (fun x y q h => by rw [gw_cl_at rfl] at h; exact h)
  replace Z := Z0
  obtain ⟨T, hT⟩ : ∃ z : gw_W, z = w := ⟨_, rfl⟩
  rw [← hT] at Z he hN hwo
  refine lv_aload_n hx hb dX5_init_4 rfl (lv_at hl 0 rfl) ?_
  refine gw_obj (fs := [.null, .null, .null, .int 0, .null, .null, .int 0, .null, .null, .int 0, .null, .null, .null]) hx hb hts i_X5_init_0 tyX0 tyX0_ok hown (hts _ k_X5i_w3) (hts _ k_X5i_w4) (hts _ k_X5i_w5) hC.1 Z hS hA (rfl : vwCl[0]? = some (RX0, TX0, 13)) 7 (by decide) ((gw_cl_at rfl).trans (hwo 7 99 (by decide) (by decide))) hdf0 (Nat.le_of_ble_eq_true rfl) (Nat.le_of_ble_eq_true rfl) dX5_init_5 (fun q1 H Z hS => ?_)
  refine lv_dup hx hb dX5_init_8 rfl ?_
  refine gw_callc (va_runIN (As := []) (rest := [.ref q1, .ref h0]) ⟨hx, hb, hml, hown, hts⟩ (c_X0_init l (D := D) (ad := ad) (ca := ca) (A := A) (o := 7) (by decide) (h0 := q1) gw_same (fun b _ g2 => by rw [gw_ne (by omega), gw_cl_at rfl]; exact hwo 7 b (by decide) (by decide))) ⟨va_cnB 0 hts gX5_init_X0_init_n9 rfl rfl rfl (hC.1.2.1 _ (List.mem_of_getElem? (i := 0) rfl)) (hts _ k_X5i_w5) (by decide +kernel) ⟨Nat.le_of_ble_eq_true rfl, Nat.le_of_ble_eq_true rfl⟩, rfl, (hts _ k_X5i_w6)⟩ (gw_preI hC hAO Z hS hA) rfl rfl hl.1 rfl (lv_room (Nat.le_of_ble_eq_true rfl)) dX5_init_9 ⟨Nat.le_of_ble_eq_true rfl, Nat.le_of_ble_eq_true rfl⟩) hS (fun b1 H locs hb1 Z hS => ?_)
  replace Z := gw_made Z (o := 7) rfl (fun x hx => by have hx2 : x = 7 := (by simpa using hx); subst hx2; rfl) (fun x hx => by simp at hx; omega) ⟨by decide, by decide⟩
  refine gw_putF (o := 11) (q := q1) hx hb hts i_X5_init_5 tyX5 tyX5_ok nmX5 hown hC.1 Z hS ((gw_cl_at rfl).trans he) (rfl : vwCl[5]? = some (RX5, TX5, 7)) 0 (by decide) (hts _ k_X5i_w7) (fun _ h9 => h9) rfl hin rfl (tyX5_ok 0 (by decide)) rfl rfl (Nat.le_of_ble_eq_true rfl) dX5_init_12 (fun H locs Z hS => ?_)
  replace Z := gw_sub Z (gw_up_cl rfl)
  obtain ⟨U1, hU1⟩ : ∃ z : gw_W, z = gw_up T 11 99 (h0, .inr (5, [.ref q1, .null, .null, .null, .null, .null, .null])) := ⟨_, rfl⟩
  replace Z := gw_sub Z (w' := gw_cl ca _ _ U1) (fun x y q h => by rw [hU1] at h; exact h)
  replace he : U1 11 99 = some (h0, .inr (5, [.ref q1, .null, .null, .null, .null, .null, .null])) := by rw [hU1]; exact gw_same
  replace hN : ∀ b, 0 ≤ b → b ≠ 99 → U1 11 b = none := fun b g1 g2 => by rw [hU1, gw_ne (by omega)]; exact hN b g1 g2
  replace hwo : ∀ x y, x < 16 → x ≠ 11 → U1 x y = none := fun x y g1 g2 => by rw [hU1, gw_ne (by omega)]; exact hwo x y g1 g2
  refine lv_aload_n hx hb dX5_init_15 rfl (lv_at hl 0 rfl) ?_
  refine gw_obj (fs := [.null, .null, .null, .int 0, .null, .null, .int 0, .null, .null, .int 0, .null, .null, .null]) hx hb hts i_X5_init_0 tyX0 tyX0_ok hown (hts _ k_X5i_w3) (hts _ k_X5i_w4) (hts _ k_X5i_w5) hC.1 Z hS hA (rfl : vwCl[0]? = some (RX0, TX0, 13)) 8 (by decide) ((gw_cl_at rfl).trans (hwo 8 99 (by decide) (by decide))) hdf0 (Nat.le_of_ble_eq_true rfl) (Nat.le_of_ble_eq_true rfl) dX5_init_16 (fun q2 H Z hS => ?_)
  refine lv_dup hx hb dX5_init_19 rfl ?_
  refine gw_callc (va_runIN (As := []) (rest := [.ref q2, .ref h0]) ⟨hx, hb, hml, hown, hts⟩ (c_X0_init l (D := D) (ad := ad) (ca := ca) (A := A) (o := 8) (by decide) (h0 := q2) gw_same (fun b _ g2 => by rw [gw_ne (by omega), gw_cl_at rfl]; exact hwo 8 b (by decide) (by decide))) ⟨va_cnB 0 hts gX5_init_X0_init_n9 rfl rfl rfl (hC.1.2.1 _ (List.mem_of_getElem? (i := 0) rfl)) (hts _ k_X5i_w5) (by decide +kernel) ⟨Nat.le_of_ble_eq_true rfl, Nat.le_of_ble_eq_true rfl⟩, rfl, (hts _ k_X5i_w6)⟩ (gw_preI hC hAO Z hS hA) rfl rfl hl.1 rfl (lv_room (Nat.le_of_ble_eq_true rfl)) dX5_init_20 ⟨Nat.le_of_ble_eq_true rfl, Nat.le_of_ble_eq_true rfl⟩) hS (fun b2 H locs hb2 Z hS => ?_)
  replace Z := gw_made Z (o := 8) rfl (fun x hx => by have hx2 : x = 8 := (by simpa using hx); subst hx2; rfl) (fun x hx => by simp at hx; omega) ⟨by decide, by decide⟩
  refine gw_putF (o := 11) (q := q2) hx hb hts i_X5_init_5 tyX5 tyX5_ok nmX5 hown hC.1 Z hS ((gw_cl_at rfl).trans he) (rfl : vwCl[5]? = some (RX5, TX5, 7)) 1 (by decide) (hts _ k_X5i_w8) (fun _ h9 => h9) rfl hin rfl (tyX5_ok 1 (by decide)) rfl rfl (Nat.le_of_ble_eq_true rfl) dX5_init_23 (fun H locs Z hS => ?_)
  replace Z := gw_sub Z (gw_up_cl rfl)
  obtain ⟨U2, hU2⟩ : ∃ z : gw_W, z = gw_up U1 11 99 (h0, .inr (5, [.ref q1, .ref q2, .null, .null, .null, .null, .null])) := ⟨_, rfl⟩
  replace Z := gw_sub Z (w' := gw_cl ca _ _ U2) (fun x y q h => by rw [hU2] at h; exact h)
  replace he : U2 11 99 = some (h0, .inr (5, [.ref q1, .ref q2, .null, .null, .null, .null, .null])) := by rw [hU2]; exact gw_same
  replace hN : ∀ b, 0 ≤ b → b ≠ 99 → U2 11 b = none := fun b g1 g2 => by rw [hU2, gw_ne (by omega)]; exact hN b g1 g2
  replace hwo : ∀ x y, x < 16 → x ≠ 11 → U2 x y = none := fun x y g1 g2 => by rw [hU2, gw_ne (by omega)]; exact hwo x y g1 g2
  refine lv_aload_n hx hb dX5_init_26 rfl (lv_at hl 0 rfl) ?_
  refine gw_obj (fs := [.null, .null]) hx hb hts i_X5_init_4 tyX4 tyX4_ok hown (hts _ k_X5i_w9) (hts _ k_X5i_w10) (hts _ k_X5i_w11) hC.1 Z hS hA (rfl : vwCl[4]? = some (RX4, TX4, 2)) 12 (by decide) ((gw_cl_at rfl).trans (hwo 12 99 (by decide) (by decide))) hdf4 (Nat.le_of_ble_eq_true rfl) (Nat.le_of_ble_eq_true rfl) dX5_init_27 (fun q3 H Z hS => ?_)
  refine lv_dup hx hb dX5_init_30 rfl ?_
  refine gw_callc (va_runIN (As := []) (rest := [.ref q3, .ref h0]) ⟨hx, hb, hml, hown, hts⟩ (c_X4_init l (D := D) (ad := ad) (ca := ca) (A := A) (h0 := q3) gw_same (fun b _ g2 => by rw [gw_ne (by omega), gw_cl_at rfl]; exact hwo 12 b (by decide) (by decide)) (fun b => by rw [gw_ne (by omega), gw_cl_at rfl]; exact hwo 13 b (by decide) (by decide))) ⟨va_cnB 0 hts gX5_init_X4_init_n21 rfl rfl rfl (hC.1.2.1 _ (List.mem_of_getElem? (i := 20) rfl)) (hts _ k_X5i_w11) (by decide +kernel) ⟨Nat.le_of_ble_eq_true rfl, Nat.le_of_ble_eq_true rfl⟩, rfl, (hts _ k_X5i_w12)⟩ (gw_preI hC hAO Z hS hA) rfl rfl hl.1 rfl (lv_room (Nat.le_of_ble_eq_true rfl)) dX5_init_31 ⟨Nat.le_of_ble_eq_true rfl, Nat.le_of_ble_eq_true rfl⟩) hS (fun b3 H locs hb3 Z hS => ?_)
  replace Z := gw_made Z (o := 12) rfl (fun x hx => by have hx2 : x = 12 ∨ x = 13 := (by simpa using hx); rcases hx2 with rfl | rfl <;> rfl) (fun x hx => by simp at hx; omega) ⟨by decide, by decide⟩
  refine gw_putF (o := 11) (q := q3) hx hb hts i_X5_init_5 tyX5 tyX5_ok nmX5 hown hC.1 Z hS ((gw_cl_at rfl).trans he) (rfl : vwCl[5]? = some (RX5, TX5, 7)) 2 (by decide) (hts _ k_X5i_w13) (fun _ h9 => h9) rfl hin rfl (tyX5_ok 2 (by decide)) rfl rfl (Nat.le_of_ble_eq_true rfl) dX5_init_34 (fun H locs Z hS => ?_)
  replace Z := gw_sub Z (gw_up_cl rfl)
  obtain ⟨U3, hU3⟩ : ∃ z : gw_W, z = gw_up U2 11 99 (h0, .inr (5, [.ref q1, .ref q2, .ref q3, .null, .null, .null, .null])) := ⟨_, rfl⟩
  replace Z := gw_sub Z (w' := gw_cl ca _ _ U3) (fun x y q h => by rw [hU3] at h; exact h)
  replace he : U3 11 99 = some (h0, .inr (5, [.ref q1, .ref q2, .ref q3, .null, .null, .null, .null])) := by rw [hU3]; exact gw_same
  replace hN : ∀ b, 0 ≤ b → b ≠ 99 → U3 11 b = none := fun b g1 g2 => by rw [hU3, gw_ne (by omega)]; exact hN b g1 g2
  replace hwo : ∀ x y, x < 16 → x ≠ 11 → U3 x y = none := fun x y g1 g2 => by rw [hU3, gw_ne (by omega)]; exact hwo x y g1 g2
  refine lv_aload_n hx hb dX5_init_37 rfl (lv_at hl 0 rfl) ?_
  refine gw_obj (fs := [.null, .int 0]) hx hb hts i_X5_init_3 tyX3 tyX3_ok hown (hts _ k_X5i_w14) (hts _ k_X5i_w15) (hts _ k_X5i_w16) hC.1 Z hS hA (rfl : vwCl[3]? = some (RX3, TX3, 2)) 14 (by decide) ((gw_cl_at rfl).trans (hwo 14 99 (by decide) (by decide))) hdf3 (Nat.le_of_ble_eq_true rfl) (Nat.le_of_ble_eq_true rfl) dX5_init_38 (fun q4 H Z hS => ?_)
  refine lv_dup hx hb dX5_init_41 rfl ?_
  refine gw_callc (va_runIN (As := []) (rest := [.ref q4, .ref h0]) ⟨hx, hb, hml, hown, hts⟩ (c_X3_init l (D := D) (ad := ad) (ca := ca) (A := A) (h0 := q4) gw_same (fun b _ g2 => by rw [gw_ne (by omega), gw_cl_at rfl]; exact hwo 14 b (by decide) (by decide)) (fun x y hxy => by rw [gw_ne (by omega), gw_cl_at (by match x, hxy with | 0, _ => rfl | 1, _ => rfl | 2, _ => rfl | 3, _ => rfl | 4, _ => rfl | 5, _ => rfl | 6, _ => rfl | n + 7, h => exact absurd h (by omega))]; exact hwo x y (by omega) (by omega))) ⟨va_cnB 0 hts gX5_init_X3_init_n28 rfl rfl rfl (hC.1.2.1 _ (List.mem_of_getElem? (i := 22) rfl)) (hts _ k_X5i_w16) (by decide +kernel) ⟨Nat.le_of_ble_eq_true rfl, Nat.le_of_ble_eq_true rfl⟩, rfl, (hts _ k_X5i_w17)⟩ (gw_preI hC hAO Z hS hA) rfl rfl hl.1 rfl (lv_room (Nat.le_of_ble_eq_true rfl)) dX5_init_42 ⟨Nat.le_of_ble_eq_true rfl, Nat.le_of_ble_eq_true rfl⟩) hS (fun b4 H locs hb4 Z hS => ?_)
  replace Z := gw_madeP Z (fun x hxy => by match x, hxy with | 0, _ => rfl | 1, _ => rfl | 2, _ => rfl | 3, _ => rfl | 4, _ => rfl | 5, _ => rfl | 6, _ => rfl | n + 7, h => exact absurd h (by omega)) rfl (fun x hx => by simp at hx; omega) (fun _ => rfl)
  obtain ⟨T2, hT2⟩ : ∃ z : gw_W, z = gw_up (gw_up U3 14 0 (b4 14 0, .inl (ca 3, 7, .inr (.inr (.inr (.inr (gw_pr b4 7))))))) 14 99 (q4, .inr (3, [.ref (b4 14 0), .int 0])) := ⟨_, rfl⟩
  rw [← hT2] at Z
  replace he : T2 11 99 = some (h0, .inr (5, [.ref q1, .ref q2, .ref q3, .null, .null, .null, .null])) := by rw [hT2, gw_ne (by omega), gw_ne (by omega)]; exact he
  replace hN : ∀ b, 0 ≤ b → b ≠ 99 → T2 11 b = none := fun b g1 g2 => by rw [hT2, gw_ne (by omega), gw_ne (by omega)]; exact hN b g1 g2
  replace hwo : ∀ x y, x < 16 → x ≠ 11 ∧ x ≠ 14 → T2 x y = none := fun x y g1 g2 => by rw [hT2, gw_ne (by omega), gw_ne (by omega)]; exact hwo x y g1 g2.1
  refine gw_putF (o := 11) (q := q4) hx hb hts i_X5_init_5 tyX5 tyX5_ok nmX5 hown hC.1 Z hS ((gw_cl_at rfl).trans he) (rfl : vwCl[5]? = some (RX5, TX5, 7)) 3 (by decide) (hts _ k_X5i_w18) (fun _ h9 => h9) rfl hin rfl (tyX5_ok 3 (by decide)) rfl rfl (Nat.le_of_ble_eq_true rfl) dX5_init_45 (fun H locs Z hS => ?_)
  replace Z := gw_sub Z (gw_up_cl rfl)
  obtain ⟨U4, hU4⟩ : ∃ z : gw_W, z = gw_up T2 11 99 (h0, .inr (5, [.ref q1, .ref q2, .ref q3, .ref q4, .null, .null, .null])) := ⟨_, rfl⟩
  replace Z := gw_sub Z (w' := gw_cl ca _ _ U4) (fun x y q h => by rw [hU4] at h; exact h)
  replace he : U4 11 99 = some (h0, .inr (5, [.ref q1, .ref q2, .ref q3, .ref q4, .null, .null, .null])) := by rw [hU4]; exact gw_same
  replace hN : ∀ b, 0 ≤ b → b ≠ 99 → U4 11 b = none := fun b g1 g2 => by rw [hU4, gw_ne (by omega)]; exact hN b g1 g2
  replace hwo : ∀ x y, x < 16 → x ≠ 11 ∧ x ≠ 14 → U4 x y = none := fun x y g1 g2 => by rw [hU4, gw_ne (by omega)]; exact hwo x y g1 g2
  refine lv_aload_n hx hb dX5_init_48 rfl (lv_at hl 0 rfl) ?_
  refine gw_obj (fs := [.null, .int 0]) hx hb hts i_X5_init_2 tyX2 tyX2_ok hown (hts _ k_X5i_w19) (hts _ k_X5i_w20) (hts _ k_X5i_w21) hC.1 Z hS hA (rfl : vwCl[2]? = some (RX2, TX2, 2)) 15 (by decide) ((gw_cl_at rfl).trans (hwo 15 99 (by decide) (by decide))) hdf2 (Nat.le_of_ble_eq_true rfl) (Nat.le_of_ble_eq_true rfl) dX5_init_49 (fun q5 H Z hS => ?_)
  refine lv_dup hx hb dX5_init_52 rfl ?_
  refine gw_callc (va_runIN (As := []) (rest := [.ref q5, .ref h0]) ⟨hx, hb, hml, hown, hts⟩ (c_X2_init l (D := D) (ad := ad) (ca := ca) (A := A) (h0 := q5) gw_same (fun b _ g2 => by rw [gw_ne (by omega), gw_cl_at rfl]; exact hwo 15 b (by decide) (by decide))) ⟨va_cnB 0 hts gX5_init_X2_init_n35 rfl rfl rfl (hC.1.2.1 _ (List.mem_of_getElem? (i := 25) rfl)) (hts _ k_X5i_w21) (by decide +kernel) ⟨Nat.le_of_ble_eq_true rfl, Nat.le_of_ble_eq_true rfl⟩, rfl, (hts _ k_X5i_w22)⟩ (gw_preI hC hAO Z hS hA) rfl rfl hl.1 rfl (lv_room (Nat.le_of_ble_eq_true rfl)) dX5_init_53 ⟨Nat.le_of_ble_eq_true rfl, Nat.le_of_ble_eq_true rfl⟩) hS (fun b5 H locs hb5 Z hS => ?_)
  replace Z := gw_made Z (o := 15) rfl (fun x hx => by have hx2 : x = 15 := (by simpa using hx); subst hx2; rfl) (fun x hx => by simp at hx; omega) ⟨by decide, by decide⟩
  refine gw_putF (o := 11) (q := q5) hx hb hts i_X5_init_5 tyX5 tyX5_ok nmX5 hown hC.1 Z hS ((gw_cl_at rfl).trans he) (rfl : vwCl[5]? = some (RX5, TX5, 7)) 4 (by decide) (hts _ k_X5i_w23) (fun _ h9 => h9) rfl hin rfl (tyX5_ok 4 (by decide)) rfl rfl (Nat.le_of_ble_eq_true rfl) dX5_init_56 (fun H locs Z hS => ?_)
  replace Z := gw_sub Z (gw_up_cl rfl)
  obtain ⟨U5, hU5⟩ : ∃ z : gw_W, z = gw_up U4 11 99 (h0, .inr (5, [.ref q1, .ref q2, .ref q3, .ref q4, .ref q5, .null, .null])) := ⟨_, rfl⟩
  replace Z := gw_sub Z (w' := gw_cl ca _ _ U5) (fun x y q h => by rw [hU5] at h; exact h)
  replace he : U5 11 99 = some (h0, .inr (5, [.ref q1, .ref q2, .ref q3, .ref q4, .ref q5, .null, .null])) := by rw [hU5]; exact gw_same
  replace hN : ∀ b, 0 ≤ b → b ≠ 99 → U5 11 b = none := fun b g1 g2 => by rw [hU5, gw_ne (by omega)]; exact hN b g1 g2
  replace hwo : ∀ x y, x < 16 → x ≠ 11 ∧ x ≠ 14 → U5 x y = none := fun x y g1 g2 => by rw [hU5, gw_ne (by omega)]; exact hwo x y g1 g2
  refine lv_aload_n hx hb dX5_init_59 rfl (lv_at hl 0 rfl) ?_
  refine lv_iconst (v := 2) hx hb dX5_init_60 (by decide) ?_
  refine gw_anB (own := RX5) hx hb hown (hts _ k_X5i_w3) hAO hC.1 (by decide) (by decide) (Nat.le_of_ble_eq_true rfl) (Nat.le_of_ble_eq_true rfl) dX5_init_61 (fun H1 hH1 => ?_)
  refine gw_arrR (N' := 2) (o := 11) hx hb hts i_X5_init_5 tyX5 tyX5_ok nmX5 hown hC.1 Z hS hA ho ((gw_cl_at rfl).trans he) (rfl : vwCl[5]? = some (RX5, TX5, 7)) 5 (by decide) (by decide) ((gw_cl_at rfl).trans (hN 5 (by decide) (by decide))) (hts _ k_X5i_w24) (fun _ h9 => h9) rfl hin rfl (tyX5_ok 5 (by decide)) (fun _ => rfl) (fun _ => rfl) (Nat.le_of_ble_eq_true rfl) hH1 dX5_init_64 (fun q6 H locs Z hS => ?_)
  replace Z := gw_sub Z (gw_up_cl2 rfl)
  obtain ⟨U6, hU6⟩ : ∃ z : gw_W, z = gw_up (gw_up U5 11 5 (q6, .inl (ca 3, 2, .inr (.inr (.inr (.inr (fun _ => none))))))) 11 99 (h0, .inr (5, [.ref q1, .ref q2, .ref q3, .ref q4, .ref q5, .ref q6, .null])) := ⟨_, rfl⟩
  replace Z := gw_sub Z (w' := gw_cl ca _ _ U6) (fun x y q h => by rw [hU6] at h; exact h)
  replace he : U6 11 99 = some (h0, .inr (5, [.ref q1, .ref q2, .ref q3, .ref q4, .ref q5, .ref q6, .null])) := by rw [hU6]; exact gw_same
  replace hN : ∀ b, 6 ≤ b → b ≠ 99 → U6 11 b = none := fun b g1 g2 => by rw [hU6, gw_ne (by omega), gw_ne (by omega)]; exact hN b (by omega) g2
  refine lv_aload_n hx hb dX5_init_67 rfl (lv_at hl 0 rfl) ?_
  refine lv_iconst (v := 2) hx hb dX5_init_68 (by decide) ?_
  refine gw_arr (N' := 2) (atype := .boolean) (t0 := 2) (ty := .boolean) (a0 := (2, .inl (wx_0.1 11 6))) (o := 11) hx hb (hts _ k_X5i_w25) rfl rfl (fun cA h => Option.some.inj (h.symm.trans (hC.1.1.2 2 _ rfl).2)) hts i_X5_init_5 tyX5 tyX5_ok nmX5 hown hC.1 Z hS hA ho ((gw_cl_at rfl).trans he) (rfl : vwCl[5]? = some (RX5, TX5, 7)) 6 (by decide) (by decide) ((gw_cl_at rfl).trans (hN 6 (by decide) (by decide))) (hts _ k_X5i_w26) (fun _ h9 => h9) rfl hin rfl (tyX5_ok 6 (by decide)) (fun _ => rfl) (fun _ => rfl) (Nat.le_of_ble_eq_true rfl) (fun _ => rfl) (by decide) (by decide) (by decide) (Nat.le_of_ble_eq_true rfl) (Nat.le_of_ble_eq_true rfl) dX5_init_69 dX5_init_71 (fun q7 H locs Z hS => ?_)
  replace Z := gw_sub Z (gw_up_cl2 rfl)
  obtain ⟨T0, hT0⟩ : ∃ z : gw_W, z = gw_up U5 11 6 (q7, .inl (ca 2, 2, .inl (wx_0.1 11 6))) := ⟨_, rfl⟩
  obtain ⟨a0, ha0⟩ : ∃ z : Nat → Nat → Nat, z = (fun x y => if (fun x => decide (x = 15)) x = true then b5 x y else (fun x y => if decide (x < 7) = true then b4 x y else (fun x y => if (fun x => decide (x = 12) || decide (x = 13)) x = true then b3 x y else (fun x y => if (fun x => decide (x = 8)) x = true then b2 x y else (fun x y => if (fun x => decide (x = 7)) x = true then b1 x y else (fun _ _ => 0) x y) x y) x y) x y) x y) := ⟨_, rfl⟩
  have Zl : gw_Z D A (gw_cl ca a0 (fun x => (fun x => decide (x = 7) || decide (x = 8) || (decide (x = 12) || decide (x = 13)) || decide (x < 7) || decide (x = 15)) x || decide (9 ≤ x ∧ x < 9 + 0)) (gw_up (gw_up T0 11 5 (q6, .inl (ca 3, 2, .inr (.inr (.inr (.inr (gw_sr a0 0))))))) 11 99 (h0, .inr (5, [.ref q1, .ref q2, .ref q3, .ref q4, .ref q5, .ref q6, .ref q7])))) H := by
    refine gw_sub Z ?_
    intro x y q h
    have hz : gw_sr a0 0 = fun _ => none := by
      funext j
      unfold gw_sr
      rw [if_neg (by omega)]
    rw [hz] at h
    by_cases h11 : x = 11
    · subst h11
      rw [gw_cl_at rfl] at h ⊢
      by_cases h99 : y = 99
      · subst h99
        rw [gw_same] at h ⊢
        exact h
      · rw [gw_ne (by omega)] at h ⊢
        by_cases h5 : y = 5
        · subst h5
          rw [gw_same] at h
          rw [gw_ne (by omega), hU6, gw_ne (by omega), gw_same]
          exact h
        · rw [gw_ne (by omega), hT0] at h
          by_cases h6 : y = 6
          · subst h6
            rw [gw_same] at h ⊢
            exact h
          · rw [gw_ne (by omega)] at h ⊢
            rw [hU6, gw_ne (by omega), gw_ne (by omega)]
            exact h
    · have hs0 : decide (9 ≤ x ∧ x < 9 + 0) = false := decide_eq_false (by omega)
      unfold gw_cl at h ⊢
      rw [gw_ne (by omega), gw_ne (by omega), hT0, gw_ne (by omega)] at h
      rw [gw_ne (by omega), gw_ne (by omega), hU6, gw_ne (by omega), gw_ne (by omega)]
      rw [ha0] at h
      simp only [hs0, Bool.or_false, Bool.false_or] at h ⊢
      exact h
  have hT0w : T0 = gw_up U5 11 6 (q7, .inl (ca 2, 2, .inl (wx_0.1 11 6))) := hT0
  have h7 : a0 7 99 = q1 ∧ a0 8 99 = q2 ∧ a0 12 99 = q3 ∧ a0 15 99 = q5 ∧ ∀ j, j < 7 → a0 j 99 = b4 j 99 := by
    rw [ha0]
    refine ⟨hb1, hb2, hb3, hb5, fun j hj => ?_⟩
    match j, hj with
    | 0, _ => rfl
    | 1, _ => rfl
    | 2, _ => rfl
    | 3, _ => rfl
    | 4, _ => rfl
    | 5, _ => rfl
    | 6, _ => rfl
    | n + 7, h => exact absurd h (by omega)
  have h14a : T0 14 99 = some (q4, .inr (3, [.ref (b4 14 0), .int 0])) := by rw [hT0, gw_ne (by omega), hU5, gw_ne (by omega), hU4, gw_ne (by omega), hT2, gw_same]
  have h14b : T0 14 0 = some (b4 14 0, .inl (ca 3, 7, .inr (.inr (.inr (.inr (gw_pr b4 7)))))) := by rw [hT0, gw_ne (by omega), hU5, gw_ne (by omega), hU4, gw_ne (by omega), hT2, gw_ne (by omega), gw_same]
  have h11b : T0 11 6 = some (q7, .inl (ca 2, 2, .inl (wx_0.1 11 6))) := by rw [hT0]; exact gw_same
  have hT0o : ∀ x y, 16 ≤ x → T0 x y = w x y := fun x y g => by rw [hT0, gw_ne (by omega), hU5, gw_ne (by omega), hU4, gw_ne (by omega), hT2, gw_ne (by omega), gw_ne (by omega), hU3, gw_ne (by omega), hU2, gw_ne (by omega), hU1, gw_ne (by omega), hT]
  refine lv_iconst (v := 0) hx hb dX5_init_74 (by decide) ?_
  refine lv_istore_n (lv' := [(1, .int 0), (0, .ref h0)]) hx hb dX5_init_75 rfl hl (by decide) rfl (fun ls hl => ?_)
  have loop : ∀ (n i : Nat) (a : Nat → Nat → Nat) (x1 : Int32) (H : Heap) (locs : List Loc) (ls : Array Slot), i + n = 2 → x1 = nI i → (∀ x, x ≠ 9 → x ≠ 10 → a x = a0 x) → (Zl : gw_Z D A (gw_cl ca a (fun x => (fun x => decide (x = 7) || decide (x = 8) || (decide (x = 12) || decide (x = 13)) || decide (x < 7) || decide (x = 15)) x || decide (9 ≤ x ∧ x < 9 + i)) (gw_up (gw_up T0 11 5 (q6, .inl (ca 3, 2, .inr (.inr (.inr (.inr (gw_sr a i))))))) 11 99 (h0, .inr (5, [.ref q1, .ref q2, .ref q3, .ref q4, .ref q5, .ref q6, .ref q7])))) H) → va_S A s.heap H locs → lv_has ls 2 [(1, .int x1), (0, .ref h0)] → W p l e (headSpec wsX5_init ({ frames := 3, cells := 133, slots := 3013, locals := 67 } : Room)).room s m #[Value.ref h0] below meth c H locs (111 + 11 * i) (2519 + 247 * i) (MQ below (gw_Qc D A (fun a => gw_fin ca a w) (fun a => a 11 99 = h0)) #[Value.ref h0] s 133 3013 A) (F0 m 76 ls []) := by
    intro n
    induction n with
    | zero =>
      intro i a x1 H locs ls hi hx1 haa Zl hS hl
      have hi2 : i = 2 := by omega
      subst hi2
      refine lv_iload_n hx hb dX5_init_76 rfl (lv_at hl 0 rfl) ?_
      refine lv_iconst (v := 2) hx hb dX5_init_77 (by decide) ?_
      refine lv_icmp_ge (tgt := 100) hx hb dX5_init_78 (by decide) (fun c1 => ?_) (fun c1 => absurd (by rw [hx1]; decide) c1)
      refine W.widen (k := 133) (n := 3013) (by decide) (by decide) ?_
      have Zf : gw_Z D A (gw_fin ca (fun x y => if x = 11 then (if y = 99 then h0 else if y = 5 then q6 else q7) else if x = 14 then (if y = 99 then q4 else b4 14 0) else a x y) w) H := by
        refine gw_sub Zl ?_
        intro x y q h
        have e7 : a 7 99 = q1 := by rw [haa 7 (by decide) (by decide)]; exact h7.1
        have e8 : a 8 99 = q2 := by rw [haa 8 (by decide) (by decide)]; exact h7.2.1
        have e12 : a 12 99 = q3 := by rw [haa 12 (by decide) (by decide)]; exact h7.2.2.1
        have e15 : a 15 99 = q5 := by rw [haa 15 (by decide) (by decide)]; exact h7.2.2.2.1
        have ej : ∀ j, j < 7 → a j 99 = b4 j 99 := fun j hj => by rw [haa j (by omega) (by omega)]; exact h7.2.2.2.2 j hj
        unfold gw_fin at h
        by_cases hA1 : x = 14 ∧ y = 0
        · obtain ⟨rfl, rfl⟩ := hA1
          rw [if_pos ⟨rfl, rfl⟩] at h
          rw [gw_cl_at rfl, gw_ne (by omega), gw_ne (by omega), h14b, ← h]
          have : gw_pr (fun x y => if x = 11 then (if y = 99 then h0 else if y = 5 then q6 else q7) else if x = 14 then (if y = 99 then q4 else b4 14 0) else a x y) 7 = gw_pr b4 7 := by
            funext j
            unfold gw_pr
            by_cases hj : j < 7
            · rw [if_pos hj, if_pos hj]
              show some (if j = 11 then _ else if j = 14 then _ else a j 99) = _
              rw [if_neg (by omega), if_neg (by omega), ej j hj]
            · rw [if_neg hj, if_neg hj]
          rw [this]
          rfl
        · rw [if_neg hA1] at h
          by_cases hA2 : x = 11 ∧ y = 5
          · obtain ⟨rfl, rfl⟩ := hA2
            rw [if_pos ⟨rfl, rfl⟩] at h
            rw [gw_cl_at rfl, gw_ne (by omega), gw_same, ← h]
            have : gw_sr (fun x y => if x = 11 then (if y = 99 then h0 else if y = 5 then q6 else q7) else if x = 14 then (if y = 99 then q4 else b4 14 0) else a x y) 2 = gw_sr a 2 := by
              funext j
              unfold gw_sr
              by_cases hj : j < 2
              · rw [if_pos hj, if_pos hj]
                show some (if 9 + j = 11 then _ else if 9 + j = 14 then _ else a (9 + j) 99) = _
                rw [if_neg (by omega), if_neg (by omega)]
              · rw [if_neg hj, if_neg hj]
            rw [this]
            rfl
          · rw [if_neg hA2] at h
            by_cases h16 : x < 16
            · rw [if_pos h16] at h
              by_cases h11 : x = 11
              · subst h11
                rw [gw_cl_at rfl]
                by_cases h99 : y = 99
                · subst h99
                  have hq := Option.some.inj h
                  rw [gw_same, ← hq]
                  show some (h0, Sum.inr (5, [Value.ref q1, Value.ref q2, Value.ref q3, Value.ref q4, Value.ref q5, Value.ref q6, Value.ref q7])) = some (h0, Sum.inr (5, [Value.ref (a 7 99), Value.ref (a 8 99), Value.ref (a 12 99), Value.ref q4, Value.ref (a 15 99), Value.ref q6, Value.ref q7]))
                  rw [e7, e8, e12, e15]
                · by_cases h6 : y = 6
                  · subst h6
                    have hq := Option.some.inj h
                    rw [gw_ne (by omega), gw_ne (by omega), h11b, ← hq]
                    rfl
                  · exfalso
                    have hy5 : y ≠ 5 := fun z => hA2 ⟨rfl, z⟩
                    simp [wx_sh, wx_sx, wx_ek, h99, h6, hy5] at h
              · by_cases h14 : x = 14
                · subst h14
                  rw [gw_cl_at rfl, gw_ne (by omega), gw_ne (by omega)]
                  by_cases h99 : y = 99
                  · subst h99
                    have hq := Option.some.inj h
                    rw [h14a, ← hq]
                    rfl
                  · exfalso
                    have hy0 : y ≠ 0 := fun z => hA1 ⟨rfl, z⟩
                    simp [wx_sh, wx_sx, wx_ek, h99, hy0] at h
                · have hsx : ((fun x => decide (x = 7) || decide (x = 8) || (decide (x = 12) || decide (x = 13)) || decide (x < 7) || decide (x = 15)) x || decide (9 ≤ x ∧ x < 9 + 2)) = true := by
                    simp; omega
                  unfold gw_cl
                  rw [if_pos hsx]
                  have e : wx_ek (fun x y => if x = 11 then (if y = 99 then h0 else if y = 5 then q6 else q7) else if x = 14 then (if y = 99 then q4 else b4 14 0) else a x y) (fun _ => 0) ca wx_0 x y (wx_sh (fun _ => false) x y) = wx_ek a (fun _ => 0) ca wx_0 x y (wx_sh (fun _ => false) x y) := by
                    by_cases h12 : x = 12
                    · subst h12
                      exact gw_ek_12 rfl rfl
                    · exact gw_ek_congr (fun j => by rw [if_neg h11, if_neg h14]) ⟨h11, h12, h14⟩
                  rw [e] at h
                  simpa [h11, h14] using h
            · rw [if_neg h16] at h
              have hsx : ((fun x => decide (x = 7) || decide (x = 8) || (decide (x = 12) || decide (x = 13)) || decide (x < 7) || decide (x = 15)) x || decide (9 ≤ x ∧ x < 9 + 2)) = false := by
                simp; omega
              rw [gw_cl_at hsx, gw_ne (by omega), gw_ne (by omega), hT0o x y (by omega)]
              exact h
      exact W.vret hx hb hr (fun t ht hW => ⟨rfl, ⟨_, rfl, by rw [ht]; exact Zf⟩, hS.F ht⟩) hS.2.2 dX5_init_100
    | succ n ih =>
      intro i a x1 H locs ls hi hx1 haa Zl hS hl
      have hi2 : i < 2 := by omega
      have hin1 : wx_in x1 2 = true := by rw [hx1]; exact wx_in_nI hi2 (by decide)
      have hcl : x1.toNatClampNeg = i := by rw [hx1]; exact nI_clamp (by omega)
      have hS11 : (fun x => (fun x => decide (x = 7) || decide (x = 8) || (decide (x = 12) || decide (x = 13)) || decide (x < 7) || decide (x = 15)) x || decide (9 ≤ x ∧ x < 9 + i)) 11 = false := by
        show (false || decide (9 ≤ 11 ∧ 11 < 9 + i)) = false
        rw [Bool.false_or]; exact decide_eq_false (by omega)
      refine lv_iload_n hx hb dX5_init_76 rfl (lv_at hl 0 rfl) ?_
      refine lv_iconst (v := 2) hx hb dX5_init_77 (by decide) ?_
      refine lv_icmp_ge (tgt := 100) hx hb dX5_init_78 (by decide) (fun c1 => ?_) (fun c1 => ?_)
      · exfalso
        rw [hx1, show (2 : Int32) = nI 2 from rfl, nI_leI (by decide) (by omega)] at c1
        omega
      refine lv_aload_n hx hb dX5_init_81 rfl (lv_at hl 1 rfl) ?_
      refine gw_get (o := 11) hx hb hts i_X5_init_5 hown hC.1 Zl ((gw_cl_at hS11).trans gw_same) (rfl : vwCl[5]? = some (RX5, TX5, 7)) 5 (by decide) (hts _ k_X5i_w24) (fun _ h9 => h9) rfl dX5_init_82 ?_
      refine lv_iload_n hx hb dX5_init_85 rfl (lv_at hl 0 rfl) ?_
      have hS9 : (fun x => (fun x => decide (x = 7) || decide (x = 8) || (decide (x = 12) || decide (x = 13)) || decide (x < 7) || decide (x = 15)) x || decide (9 ≤ x ∧ x < 9 + i)) (9 + i) = false := by
        simp; omega
      have hT9 : ∀ b, T0 (9 + i) b = none := fun b => by
        rw [hT0, gw_ne (by omega)]
        exact hwo (9 + i) b (by omega) ⟨by omega, by omega⟩
      refine gw_obj (fs := [.null, .null, .null, .int 0, .null, .null, .int 0, .null, .null, .int 0, .null, .null, .null]) hx hb hts i_X5_init_0 tyX0 tyX0_ok hown (hts _ k_X5i_w3) (hts _ k_X5i_w4) (hts _ k_X5i_w5) hC.1 Zl hS hA (rfl : vwCl[0]? = some (RX0, TX0, 13)) (9 + i) (by omega) ((gw_cl_at hS9).trans (by rw [gw_ne (by omega), gw_ne (by omega)]; exact hT9 99)) hdf0 (by show 111 + 11 * i + 1 ≤ 133; omega) (by show 2519 + 247 * i + 13 ≤ 3013; omega) dX5_init_86 (fun qb H Z hS => ?_)
      refine lv_dup hx hb dX5_init_89 rfl ?_
      refine gw_callc (va_runIN (As := []) (rest := [.ref qb, .int x1, .ref q6]) ⟨hx, hb, hml, hown, hts⟩ (c_X0_init l (D := D) (ad := ad) (ca := ca) (A := A) (o := 9 + i) (by omega) (h0 := qb) gw_same (fun b _ g2 => by rw [gw_ne (by omega), gw_cl_at hS9, gw_ne (by omega), gw_ne (by omega)]; exact hT9 b)) ⟨va_cnB 0 hts gX5_init_X0_init_n9 rfl rfl rfl (hC.1.2.1 _ (List.mem_of_getElem? (i := 0) rfl)) (hts _ k_X5i_w5) (by decide +kernel) ⟨Nat.le_of_ble_eq_true rfl, Nat.le_of_ble_eq_true rfl⟩, rfl, (hts _ k_X5i_w6)⟩ (gw_preI hC hAO Z hS hA) rfl rfl hl.1 rfl (lv_room (Nat.le_of_ble_eq_true rfl)) dX5_init_90 ⟨by show 111 + 11 * i + 1 + 10 ≤ 133; omega, by show 2519 + 247 * i + 13 + 234 ≤ 3013; omega⟩) hS (fun b H locs hb13 Z hS => ?_)
      have ho11 : 9 + i < 11 := by omega
      refine gw_aast (o := 11) (k := 5) (a := q6) (n := 2) (f := gw_sr a i) (o2 := 9 + i) (v := qb) (vs := wx_fl b wx_0 (9 + i) 0 (wx_fc 0)) hx hb hC.1 Z hS ?_ ?_ hin1 dX5_init_93 (fun H locs Z hS => ?_)
      · rw [gw_cl_at (by simp; omega), gw_ne (by omega), gw_cl_at hS11, gw_ne (by omega), gw_same]
      · unfold gw_cl
        rw [if_pos (by simp), wx_sbo ho11]
        show some (b (9 + i) 99, _) = _
        rw [hb13]
        rfl
      rw [hcl] at Z
      have Z2 := gw_madeS (S := (fun x => decide (x = 7) || decide (x = 8) || (decide (x = 12) || decide (x = 13)) || decide (x < 7) || decide (x = 15))) hi2 (fun x hx => by simp at hx; omega) (fun _ => rfl) hb13 rfl Z rfl
      obtain ⟨x2, hx2⟩ : ∃ y : Int32, y = x1 + 1 := ⟨_, rfl⟩
      refine lv_iinc (v := x2) (lv' := [(1, .int x2), (0, .ref h0)]) hx hb dX5_init_94 hl (k := 0) rfl (by rw [hx2]; rfl) (by decide) rfl (fun ls hl => ?_)
      refine lv_goto (tgt := 76) hx hb dX5_init_97 (by decide) ?_
      refine W.widen (k := 111 + 11 * (i + 1)) (n := 2519 + 247 * (i + 1)) (by omega) (by omega) ?_
      refine ih (i + 1) _ x2 H locs ls (by omega) (by rw [hx2, hx1]; exact nI_1 i) (fun x g1 g2 => ?_) Z2 hS hl
      rw [← haa x g1 g2]
      funext y
      rw [if_neg (fun z => by have := of_decide_eq_true z; omega)]
  exact loop 2 0 a0 0 H locs ls rfl rfl (fun _ _ _ => rfl) Zl hS hl
