theorem hdf0 : ∀ j, j < 13 → defaultValue (tyX0 j) = vp_V [.null, .null, .null, .int 0, .null, .null, .int 0, .null, .null, .int 0, .null, .null, .null] j := fun j hj => match j, hj with
  | 0, _ => rfl
  | 1, _ => rfl
  | 2, _ => rfl
  | 3, _ => rfl
  | 4, _ => rfl
  | 5, _ => rfl
  | 6, _ => rfl
  | 7, _ => rfl
  | 8, _ => rfl
  | 9, _ => rfl
  | 10, _ => rfl
  | 11, _ => rfl
  | 12, _ => rfl
  | n + 13, h => absurd h (by omega)
theorem hdf1 : ∀ j, j < 3 → defaultValue (tyX1 j) = vp_V [.null, .null, .null] j := fun j hj => match j, hj with
  | 0, _ => rfl
  | 1, _ => rfl
  | 2, _ => rfl
  | n + 3, h => absurd h (by omega)
theorem hdf2 : ∀ j, j < 2 → defaultValue (tyX2 j) = vp_V [.null, .int 0] j := fun j hj => match j, hj with
  | 0, _ => rfl
  | 1, _ => rfl
  | n + 2, h => absurd h (by omega)
theorem hdf3 : ∀ j, j < 2 → defaultValue (tyX3 j) = vp_V [.null, .int 0] j := fun j hj => match j, hj with
  | 0, _ => rfl
  | 1, _ => rfl
  | n + 2, h => absurd h (by omega)
theorem hdf4 : ∀ j, j < 2 → defaultValue (tyX4 j) = vp_V [.null, .null] j := fun j hj => match j, hj with
  | 0, _ => rfl
  | 1, _ => rfl
  | n + 2, h => absurd h (by omega)
theorem i_X4_init_1 : ∀ w ∈ wsX10, w ∈ wsX4_init := by decide +kernel
theorem i_X4_init_4 : ∀ w ∈ wsX40, w ∈ wsX4_init := by decide +kernel
theorem k_X4_init_w0 : Cond.methodLink RX4 3 objectInit ∈ wsX4_init := by decide +kernel
theorem k_X4_init_w1 : Cond.instanceMethod objectInit ∈ wsX4_init := by decide +kernel
theorem k_X4_init_w2 : Cond.code objectInit ⟨#[0xb1]⟩ 1 none ∈ wsX4_init := by decide +kernel
theorem k_X4_init_w3 : Cond.classLink RX4 9 RX1 ∈ wsX4_init := by decide +kernel
theorem k_X4_init_w4 : Cond.instantiable RX1 3 ∈ wsX4_init := by decide +kernel
theorem k_X4_init_w5 : Cond.initialized RX1 ∈ wsX4_init := by decide +kernel
theorem k_X4_init_w6 : Cond.instanceMethod yX1_init ∈ wsX4_init := by decide +kernel
theorem k_X4_init_w7 : Cond.fieldLink RX4 12 "WarmProbes$Suspicion" "lone" "LWarmProbes$Lone;" ∈ wsX4_init := by decide +kernel
theorem k_X4_init_w8 : Cond.arrayClass .int ∈ wsX4_init := by decide +kernel
theorem k_X4_init_w9 : Cond.fieldLink RX4 18 "WarmProbes$Suspicion" "reads" "[I" ∈ wsX4_init := by decide +kernel
set_option maxRecDepth 20000 in
set_option maxHeartbeats 8000000 in
theorem c_X4_init (l : Launch) {D : va_G} {ad : Nat → Nat → Nat} {ca : Nat → ClassId} {A : Nat → Prop} {h0 : Nat} {w : gw_W} (he : w 12 99 = some (h0, .inr (4, [.null, .null]))) (hN : ∀ b, 0 ≤ b → b ≠ 99 → w 12 b = none) (hw13 : ∀ b, w 13 b = none) : gw_Mc l yX4_init wsX4_init 2 5 199 40 D ad ca A [.ref h0] w (fun a => gw_cl ca a (fun x => decide (x = 12) || decide (x = 13)) w) (fun a => a 12 99 = h0) := by
  refine Met.ofW (cc := cX4_init) (maxL := 1) (ret := none) (by decide) rfl ?_
  intro p e s m args below meth c s₁ B0 hml hv
  obtain ⟨rfl, hC, Z, hA, hAO⟩ := hv
  have hx := B0.exec
  have hb := B0.bytes
  have hr := B0.returns
  have hts := atoms_spec (ws := wsX4_init) B0.pre
  have hown : s.vm.findClass RX4 = some m.cls := findClass_of_methodNamed B0.named
  have hlk := B0.notSynchronized
  have hin : meth.name = "<init>" := (name_of_methodNamed B0.named B0.method).1
  have hS : va_S A s.heap s.heap [] := va_S.rf
  have ho : 12 < 17 := by decide
  have hl := lv_entry ([.ref h0]) (n := 1) (Nat.le_of_ble_eq_true rfl)
  rw [lg_entry_eq]
  generalize (lg_sl ([.ref h0]) ++ List.replicate (1 - (lg_sl ([.ref h0])).length) Slot.unset).toArray = ls at hl ⊢
  replace hl : lv_has ls 1 [(0, .ref h0)] := hl
  refine lv_aload_n hx hb dX4_init_0 rfl (lv_at hl 0 rfl) ?_
  refine W.objInit hx hb hown (hts _ k_X4_init_w0) (hts _ k_X4_init_w1) (hts _ k_X4_init_w2) rfl (by rw [hml]; exact hl.1) rfl dX4_init_1 (Nat.le_of_ble_eq_true rfl) (Nat.le_of_ble_eq_true rfl) ?_
  refine W.eq (g2 := F0 m 4 ls []) rfl ?_
  refine lv_aload_n hx hb dX4_init_4 rfl (lv_at hl 0 rfl) ?_
  refine gw_obj (fs := [.null, .null, .null]) hx hb hts i_X4_init_1 tyX1 tyX1_ok hown (hts _ k_X4_init_w3) (hts _ k_X4_init_w4) (hts _ k_X4_init_w5) hC.1 Z hS hA (rfl : vwCl[1]? = some (RX1, TX1, 3)) 13 (by decide) (hw13 99) hdf1 (Nat.le_of_ble_eq_true rfl) (Nat.le_of_ble_eq_true rfl) dX4_init_5 (fun qn1 H Z hS => ?_)
  obtain ⟨w1, hw1⟩ : ∃ z : gw_W, z = gw_up w 13 99 (qn1, .inr (1, [.null, .null, .null])) := ⟨_, rfl⟩
  replace Z : gw_Z D A w1 H := by rw [hw1]; exact Z
  refine lv_dup hx hb dX4_init_8 rfl ?_
  refine gw_callc (va_runIN (As := []) (rest := [.ref qn1, .ref h0]) ⟨hx, hb, hml, hown, hts⟩ (c_X1_init l (D := D) (ad := ad) (ca := ca) (A := A) (h0 := qn1) (w := w1) (by rw [hw1]; exact gw_same) (fun b _ g2 => by rw [hw1, gw_ne (by omega)]; exact hw13 b)) ⟨va_cnB 0 hts gX4_init_X1_init_n11 rfl rfl rfl (hC.1.2.1 _ (List.mem_of_getElem? (i := 21) rfl)) (hts _ k_X4_init_w5) (by decide +kernel) ⟨Nat.le_of_ble_eq_true rfl, Nat.le_of_ble_eq_true rfl⟩, rfl, (hts _ k_X4_init_w6)⟩ (gw_preI hC hAO Z hS hA) rfl rfl hl.1 rfl (lv_room (Nat.le_of_ble_eq_true rfl)) dX4_init_9 ⟨Nat.le_of_ble_eq_true rfl, Nat.le_of_ble_eq_true rfl⟩) hS (fun b H locs hb13 Z hS => ?_)
  obtain ⟨w2, hw2⟩ : ∃ z : gw_W, z = gw_cl ca b (fun x => decide (x = 13)) w1 := ⟨_, rfl⟩
  replace Z : gw_Z D A w2 H := by rw [hw2]; exact Z
  replace he : w2 12 99 = some (h0, .inr (4, [.null, .null])) := by rw [hw2]; unfold gw_cl; rw [if_neg (by decide), hw1, gw_ne (by omega)]; exact he
  replace hN : ∀ b, 0 ≤ b → b ≠ 99 → w2 12 b = none := fun b g1 g2 => by rw [hw2]; unfold gw_cl; rw [if_neg (by decide), hw1, gw_ne (by omega)]; exact hN b g1 g2
  refine gw_putF (o := 12) (q := qn1) hx hb hts i_X4_init_4 tyX4 tyX4_ok nmX4 hown hC.1 Z hS he (rfl : vwCl[4]? = some (RX4, TX4, 2)) 0 (by decide) (hts _ k_X4_init_w7) (fun _ h9 => h9) rfl hin rfl (tyX4_ok 0 (by decide)) rfl rfl (Nat.le_of_ble_eq_true rfl) dX4_init_12 (fun H locs Z hS => ?_)
  obtain ⟨w3, hw3⟩ : ∃ z : gw_W, z = gw_up w2 12 99 (h0, .inr (4, [.ref qn1, .null])) := ⟨_, rfl⟩
  replace Z : gw_Z D A w3 H := by rw [hw3]; exact Z
  replace he : w3 12 99 = some (h0, .inr (4, [.ref qn1, .null])) := by rw [hw3]; exact gw_same
  replace hN : ∀ b, 1 ≤ b → b ≠ 99 → w3 12 b = none := fun b g1 g2 => by rw [hw3, gw_ne (by omega)]; exact hN b (by omega) g2
  refine lv_aload_n hx hb dX4_init_15 rfl (lv_at hl 0 rfl) ?_
  refine lv_bipush (v := 64) hx hb dX4_init_16 (by decide) ?_
  refine gw_arr (N' := 64) (atype := .int) (t0 := 0) (ty := .int) (a0 := (64, .inl (wx_0.1 12 1))) (o := 12) hx hb (hts _ k_X4_init_w8) rfl rfl (fun cA h => Option.some.inj (h.symm.trans (hC.1.1.2 0 _ rfl).2)) hts i_X4_init_4 tyX4 tyX4_ok nmX4 hown hC.1 Z hS hA ho he (rfl : vwCl[4]? = some (RX4, TX4, 2)) 1 (by decide) (by decide) (hN 1 (by decide) (by decide)) (hts _ k_X4_init_w9) (fun _ h9 => h9) rfl hin rfl (tyX4_ok 1 (by decide)) (fun _ => rfl) (fun _ => rfl) (Nat.le_of_ble_eq_true rfl) (fun _ => rfl) (by decide) (by decide) (by decide) (Nat.le_of_ble_eq_true rfl) (Nat.le_of_ble_eq_true rfl) dX4_init_18 dX4_init_20 (fun q1 H locs Z hS => ?_)
  refine W.widen (k := 5) (n := 199) (by decide) (by decide) ?_
  have Zf : gw_Z D A (gw_cl ca (fun x y => if x = 12 then (if y = 99 then h0 else if y = 1 then q1 else 0) else b x y) (fun x => decide (x = 12) || decide (x = 13)) w) H := by
    refine gw_sub Z ?_
    intro x y q h
    unfold gw_cl at h
    by_cases h12 : x = 12
    · subst h12
      rw [if_pos (by decide)] at h
      by_cases h99 : y = 99
      · subst h99
        have hq := Option.some.inj h
        rw [← hq]
        rw [gw_same]
        show some (h0, Sum.inr (4, [Value.ref qn1, Value.ref q1])) = some (h0, Sum.inr (4, [Value.ref (b 13 99), Value.ref q1]))
        rw [hb13]
      · by_cases h1 : y = 1
        · subst h1
          have hq := Option.some.inj h
          rw [← hq, gw_ne (by omega), gw_same]
          rfl
        · exfalso
          simp [wx_sh, wx_sx, wx_ek, h99, h1] at h
    · by_cases h13 : x = 13
      · subst h13
        rw [if_pos (by decide), gw_ek_congr (a := fun x y => if x = 12 then (if y = 99 then h0 else if y = 1 then q1 else 0) else b x y) (a' := b) (x := 13) (fun j => rfl) ⟨by decide, by decide, by decide⟩] at h
        rw [gw_ne (by omega), gw_ne (by omega), hw3, gw_ne (by omega), hw2]
        unfold gw_cl
        rw [if_pos (by decide)]
        exact h
      · rw [if_neg (by simp [h12, h13])] at h
        rw [gw_ne (by omega), gw_ne (by omega), hw3, gw_ne (by omega), hw2]
        unfold gw_cl
        rw [if_neg (by simp [h13]), hw1, gw_ne (by omega)]
        exact h
  exact W.vret hx hb hr (fun t ht hW => ⟨rfl, ⟨_, rfl, by rw [ht]; exact Zf⟩, hS.F ht⟩) hS.2.2 dX4_init_23
