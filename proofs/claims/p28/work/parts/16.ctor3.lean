def gw_pr (a : Nat → Nat → Nat) (i : Nat) : Nat → Option Nat := fun j => if j < i then some (a j 99) else none
/-- the past while it is made: i boards stand in its row -/
def gw_pw (ca : Nat → ClassId) (w : gw_W) (h0 q0 : Nat) (a : Nat → Nat → Nat) (i : Nat) : gw_W :=
  gw_cl ca a (fun x => decide (x < i)) (gw_up (gw_up w 14 0 (q0, .inl (ca 3, 7, .inr (.inr (.inr (.inr (gw_pr a i))))))) 14 99 (h0, .inr (3, [.ref q0, .int 0])))
theorem gw_pw_14 {ca : Nat → ClassId} {w : gw_W} {h0 q0 : Nat} {a : Nat → Nat → Nat} {i : Nat} (hi : i ≤ 7) (y : Nat) : gw_pw ca w h0 q0 a i 14 y = gw_up (gw_up w 14 0 (q0, .inl (ca 3, 7, .inr (.inr (.inr (.inr (gw_pr a i))))))) 14 99 (h0, .inr (3, [.ref q0, .int 0])) 14 y := by
  unfold gw_pw gw_cl
  rw [if_neg (by simp; omega)]
theorem gw_pw_o {ca : Nat → ClassId} {w : gw_W} {h0 q0 : Nat} {a : Nat → Nat → Nat} {i x : Nat} (hx : ¬ x < i) (h14 : x ≠ 14) (y : Nat) : gw_pw ca w h0 q0 a i x y = w x y := by
  unfold gw_pw gw_cl
  rw [if_neg (by simp; omega), gw_ne (by omega), gw_ne (by omega)]
theorem gw_pw_i {ca : Nat → ClassId} {w : gw_W} {h0 q0 : Nat} {a : Nat → Nat → Nat} {i x : Nat} (hx : x < i) (y : Nat) : gw_pw ca w h0 q0 a i x y = (wx_ek a (fun _ => 0) ca wx_0 x y (wx_sh (fun _ => false) x y)).map (fun e => (a x y, e)) := by
  unfold gw_pw gw_cl
  rw [if_pos (by simpa using hx)]
theorem gw_pw_step {ca : Nat → ClassId} {w : gw_W} {h0 q0 qb : Nat} {a b : Nat → Nat → Nat} {i : Nat} (hi : i < 7) (hb : b i 99 = qb) {e : va_E} {f : Nat → Option Nat} (hf : f = va_up (gw_pr a i) i (some qb)) :
    ∀ x y q, gw_pw ca w h0 q0 (fun x y => if x = i then b x y else a x y) (i + 1) x y = some q → gw_up (gw_cl ca b (fun x => decide (x = i)) (gw_up (gw_pw ca w h0 q0 a i) i 99 (qb, e))) 14 0 (q0, .inl (ca 3, 7, .inr (.inr (.inr (.inr f))))) x y = some q := by
  intro x y q h
  by_cases hxi : x = i
  · subst hxi
    rw [gw_pw_i (by omega), gw_ek_congr (a := fun z y => if z = x then b z y else a z y) (a' := b) (fun j => if_pos rfl) ⟨by omega, by omega, by omega⟩] at h
    rw [gw_ne (by omega)]
    unfold gw_cl
    rw [if_pos (by simp)]
    simpa using h
  · by_cases hlt : x < i
    · rw [gw_pw_i (by omega), gw_ek_congr (a := fun z y => if z = i then b z y else a z y) (a' := a) (fun j => if_neg hxi) ⟨by omega, by omega, by omega⟩] at h
      rw [gw_ne (by omega)]
      unfold gw_cl
      rw [if_neg (by simpa using hxi), gw_ne (by omega), gw_pw_i hlt]
      simpa [hxi] using h
    · by_cases h14 : x = 14
      · subst h14
        rw [gw_pw_14 (by omega)] at h
        by_cases hy : y = 0
        · subst hy
          rw [gw_same]
          rw [gw_ne (by omega), gw_same] at h
          rw [← h, hf]
          have : va_up (gw_pr a i) i (some qb) = gw_pr (fun x y => if x = i then b x y else a x y) (i + 1) := by
            funext j
            unfold va_up gw_pr
            by_cases hj : j = i
            · subst hj
              rw [if_pos rfl, if_pos (by omega)]
              simp [hb]
            · rw [if_neg hj]
              by_cases hj2 : j < i
              · rw [if_pos hj2, if_pos (by omega)]
                simp [hj]
              · rw [if_neg hj2, if_neg (by omega)]
          rw [this]
        · rw [gw_ne (by omega)]
          unfold gw_cl
          rw [if_neg (by simp; omega), gw_ne (by omega), gw_pw_14 (by omega)]
          by_cases h99 : y = 99
          · subst h99
            rw [gw_same] at h ⊢
            exact h
          · rw [gw_ne (by omega), gw_ne (by omega)] at h ⊢
            exact h
      · rw [gw_pw_o (by omega) h14] at h
        rw [gw_ne (by omega)]
        unfold gw_cl
        rw [if_neg (by simpa using hxi), gw_ne (by omega), gw_pw_o hlt h14]
        exact h
theorem i_X3_init_0 : ∀ w ∈ wsX00, w ∈ wsX3_init := by decide +kernel
theorem i_X3_init_3 : ∀ w ∈ wsX30, w ∈ wsX3_init := by decide +kernel
theorem k_X3_w0 : Cond.methodLink RX3 3 objectInit ∈ wsX3_init := by decide +kernel
theorem k_X3_w1 : Cond.instanceMethod objectInit ∈ wsX3_init := by decide +kernel
theorem k_X3_w2 : Cond.code objectInit ⟨#[0xb1]⟩ 1 none ∈ wsX3_init := by decide +kernel
theorem k_X3_w3 : Cond.classLink RX3 9 RX0 ∈ wsX3_init := by decide +kernel
theorem k_X3_w4 : Cond.fieldLink RX3 11 "WarmProbes$Past" "states" "[LWarmProbes$Board;" ∈ wsX3_init := by decide +kernel
theorem k_X3_w5 : Cond.fieldLink RX3 17 "WarmProbes$Past" "size" "I" ∈ wsX3_init := by decide +kernel
theorem k_X3_w6 : Cond.instantiable RX0 13 ∈ wsX3_init := by decide +kernel
theorem k_X3_w7 : Cond.initialized RX0 ∈ wsX3_init := by decide +kernel
theorem k_X3_w8 : Cond.instanceMethod yX0_init ∈ wsX3_init := by decide +kernel
set_option maxRecDepth 20000 in
set_option maxHeartbeats 8000000 in
theorem c_X3_init (l : Launch) {D : va_G} {ad : Nat → Nat → Nat} {ca : Nat → ClassId} {A : Nat → Prop} {h0 : Nat} {w : gw_W} (he : w 14 99 = some (h0, .inr (3, [.null, .int 0]))) (hN : ∀ b, 0 ≤ b → b ≠ 99 → w 14 b = none) (hwb : ∀ x y, x < 7 → w x y = none) : gw_Mc l yX3_init wsX3_init 2 78 1736 46 D ad ca A [.ref h0] w (fun a => gw_pw ca w h0 (a 14 0) a 7) (fun _ => True) := by
  refine Met.ofW (cc := cX3_init) (maxL := 2) (ret := none) (by decide) rfl ?_
  intro p e s m args below meth c s₁ B0 hml hv
  obtain ⟨rfl, hC, Z, hA, hAO⟩ := hv
  have hx := B0.exec
  have hb := B0.bytes
  have hr := B0.returns
  have hts := atoms_spec (ws := wsX3_init) B0.pre
  have hown : s.vm.findClass RX3 = some m.cls := findClass_of_methodNamed B0.named
  have hlk := B0.notSynchronized
  have hin : meth.name = "<init>" := (name_of_methodNamed B0.named B0.method).1
  have hS : va_S A s.heap s.heap [] := va_S.rf
  have ho : 14 < 17 := by decide
  have hl := lv_entry ([.ref h0]) (n := 2) (Nat.le_of_ble_eq_true rfl)
  rw [lg_entry_eq]
  generalize (lg_sl ([.ref h0]) ++ List.replicate (2 - (lg_sl ([.ref h0])).length) Slot.unset).toArray = ls at hl ⊢
  replace hl : lv_has ls 2 [(0, .ref h0)] := hl
  refine lv_aload_n hx hb dX3_init_0 rfl (lv_at hl 0 rfl) ?_
  refine W.objInit hx hb hown (hts _ k_X3_w0) (hts _ k_X3_w1) (hts _ k_X3_w2) rfl (by rw [hml]; exact hl.1) rfl dX3_init_1 (Nat.le_of_ble_eq_true rfl) (Nat.le_of_ble_eq_true rfl) ?_
  refine W.eq (g2 := F0 m 4 ls []) rfl ?_
  refine lv_aload_n hx hb dX3_init_4 rfl (lv_at hl 0 rfl) ?_
  refine lv_bipush (v := 7) hx hb dX3_init_5 (by decide) ?_
  refine gw_anB (own := RX3) hx hb hown (hts _ k_X3_w3) hAO hC.1 (by decide) (by decide) (Nat.le_of_ble_eq_true rfl) (Nat.le_of_ble_eq_true rfl) dX3_init_7 (fun H1 hH1 => ?_)
  refine gw_arrR (N' := 7) (o := 14) hx hb hts i_X3_init_3 tyX3 tyX3_ok nmX3 hown hC.1 Z hS hA ho he (rfl : vwCl[3]? = some (RX3, TX3, 2)) 0 (by decide) (by decide) (hN 0 (by decide) (by decide)) (hts _ k_X3_w4) (fun _ h9 => h9) rfl hin rfl (tyX3_ok 0 (by decide)) (fun _ => rfl) (fun _ => rfl) (Nat.le_of_ble_eq_true rfl) hH1 dX3_init_10 (fun q0 H locs Z hS => ?_)
  refine lv_aload_n hx hb dX3_init_13 rfl (lv_at hl 0 rfl) ?_
  refine lv_iconst (v := 0) hx hb dX3_init_14 (by decide) ?_
  refine gw_putI (o := 14) hx hb hts i_X3_init_3 tyX3 tyX3_ok nmX3 hown hC.1 Z hS gw_same (rfl : vwCl[3]? = some (RX3, TX3, 2)) 1 (by decide) (hts _ k_X3_w5) (fun _ h9 => h9) rfl (by decide +kernel) (Nat.le_of_ble_eq_true rfl) dX3_init_15 (fun H locs Z hS => ?_)
  have Zp : gw_Z D A (gw_pw ca w h0 q0 (fun _ _ => 0) 0) H := by
    refine gw_sub Z ?_
    intro x y q h
    by_cases h14 : x = 14
    · subst h14
      rw [gw_pw_14 (by omega)] at h
      by_cases h99 : y = 99
      · subst h99
        rw [gw_same] at h ⊢
        exact h
      · rw [gw_ne (by omega)] at h ⊢
        rw [gw_ne (by omega)]
        by_cases hy : y = 0
        · subst hy
          rw [gw_same] at h ⊢
          rw [← h]
          have : gw_pr (fun _ _ => 0) 0 = fun _ => none := by
            funext j
            unfold gw_pr
            rw [if_neg (by omega)]
          rw [this]
        · rw [gw_ne (by omega)] at h ⊢
          exact h
    · rw [gw_pw_o (by omega) h14] at h
      rw [gw_ne (by omega), gw_ne (by omega), gw_ne (by omega)]
      exact h
  refine lv_iconst (v := 0) hx hb dX3_init_18 (by decide) ?_
  refine lv_istore_n (lv' := [(1, .int 0), (0, .ref h0)]) hx hb dX3_init_19 rfl hl (by decide) rfl (fun ls hl => ?_)
  have loop : ∀ (n i : Nat) (a : Nat → Nat → Nat) (x1 : Int32) (H : Heap) (locs : List Loc) (ls : Array Slot), i + n = 7 → x1 = nI i → gw_Z D A (gw_pw ca w h0 q0 a i) H → va_S A s.heap H locs → lv_has ls 2 [(1, .int x1), (0, .ref h0)] → W p l e (headSpec wsX3_init ({ frames := 2, cells := 78, slots := 1736, locals := 46 } : Room)).room s m #[Value.ref h0] below meth c H locs (1 + 11 * i) (7 + 247 * i) (MQ below (gw_Qc D A (fun a => gw_pw ca w h0 (a 14 0) a 7) (fun _ => True)) #[Value.ref h0] s 78 1736 A) (F0 m 20 ls []) := by
    intro n
    induction n with
    | zero =>
      intro i a x1 H locs ls hi hx1 Z hS hl
      have hi7 : i = 7 := by omega
      subst hi7
      refine lv_iload_n hx hb dX3_init_20 rfl (lv_at hl 0 rfl) ?_
      refine lv_bipush (v := 6) hx hb dX3_init_21 (by decide) ?_
      refine lv_icmp_gt (tgt := 45) hx hb dX3_init_23 (by decide) (fun c1 => ?_) (fun c1 => absurd (by rw [hx1]; decide) c1)
      refine W.widen (k := 78) (n := 1736) (by decide) (by decide) ?_
      have Zf : gw_Z D A (gw_pw ca w h0 q0 (fun x y => if x = 14 then q0 else a x y) 7) H := by
        refine gw_sub Z ?_
        intro x y q h
        by_cases h14 : x = 14
        · subst h14
          rw [gw_pw_14 (by omega)] at h ⊢
          have : gw_pr (fun x y => if x = 14 then q0 else a x y) 7 = gw_pr a 7 := by
            funext j
            unfold gw_pr
            by_cases hj : j < 7
            · rw [if_pos hj, if_pos hj]
              show some (if j = 14 then q0 else a j 99) = some (a j 99)
              rw [if_neg (show ¬ j = 14 by omega)]
            · rw [if_neg hj, if_neg hj]
          rw [this] at h
          exact h
        · by_cases hlt : x < 7
          · rw [gw_pw_i hlt, gw_ek_congr (a := fun x y => if x = 14 then q0 else a x y) (a' := a) (fun j => if_neg h14) ⟨by omega, by omega, by omega⟩] at h
            rw [gw_pw_i hlt]
            simpa [h14] using h
          · rw [gw_pw_o hlt h14] at h ⊢
            exact h
      exact W.vret hx hb hr (fun t ht hW => ⟨rfl, ⟨fun x y => if x = 14 then q0 else a x y, trivial, by rw [ht]; exact Zf⟩, hS.F ht⟩) hS.2.2 dX3_init_45
    | succ n ih =>
      intro i a x1 H locs ls hi hx1 Z hS hl
      have hi7 : i < 7 := by omega
      have hin1 : wx_in x1 7 = true := by rw [hx1]; exact wx_in_nI hi7 (by decide)
      have hcl : x1.toNatClampNeg = i := by rw [hx1]; exact nI_clamp (by omega)
      refine lv_iload_n hx hb dX3_init_20 rfl (lv_at hl 0 rfl) ?_
      refine lv_bipush (v := 6) hx hb dX3_init_21 (by decide) ?_
      refine lv_icmp_gt (tgt := 45) hx hb dX3_init_23 (by decide) (fun c1 => ?_) (fun c1 => ?_)
      · exfalso
        rw [hx1, show (6 : Int32) = nI 6 from rfl, nI_ltI (by decide) (by omega)] at c1
        omega
      refine lv_aload_n hx hb dX3_init_26 rfl (lv_at hl 1 rfl) ?_
      refine gw_get (o := 14) hx hb hts i_X3_init_3 hown hC.1 Z ((gw_pw_14 (by omega) 99).trans gw_same) (rfl : vwCl[3]? = some (RX3, TX3, 2)) 0 (by decide) (hts _ k_X3_w4) (fun _ h9 => h9) rfl dX3_init_27 ?_
      refine lv_iload_n hx hb dX3_init_30 rfl (lv_at hl 0 rfl) ?_
      refine gw_obj (fs := [.null, .null, .null, .int 0, .null, .null, .int 0, .null, .null, .int 0, .null, .null, .null]) hx hb hts i_X3_init_0 tyX0 tyX0_ok hown (hts _ k_X3_w3) (hts _ k_X3_w6) (hts _ k_X3_w7) hC.1 Z hS hA (rfl : vwCl[0]? = some (RX0, TX0, 13)) i (by omega) ((gw_pw_o (by omega) (by omega) 99).trans (hwb i 99 hi7)) hdf0 (by show 1 + 11 * i + 1 ≤ 78; omega) (by show 7 + 247 * i + 13 ≤ 1736; omega) dX3_init_31 (fun qb H Z hS => ?_)
      refine lv_dup hx hb dX3_init_34 rfl ?_
      refine gw_callc (va_runIN (As := []) (rest := [.ref qb, .int x1, .ref q0]) ⟨hx, hb, hml, hown, hts⟩ (c_X0_init l (D := D) (ad := ad) (ca := ca) (A := A) (o := i) (by omega) (h0 := qb) gw_same (fun b _ g2 => by rw [gw_ne (by omega), gw_pw_o (by omega) (by omega)]; exact hwb i b hi7)) ⟨va_cnB 0 hts gX3_init_X0_init_n21 rfl rfl rfl (hC.1.2.1 _ (List.mem_of_getElem? (i := 23) rfl)) (hts _ k_X3_w7) (by decide +kernel) ⟨Nat.le_of_ble_eq_true rfl, Nat.le_of_ble_eq_true rfl⟩, rfl, hts _ k_X3_w8⟩ (gw_preI hC hAO Z hS hA) rfl rfl hl.1 rfl (lv_room (Nat.le_of_ble_eq_true rfl)) dX3_init_35 ⟨by show 1 + 11 * i + 1 + 10 ≤ 78; omega, by show 7 + 247 * i + 13 + 234 ≤ 1736; omega⟩) hS (fun b H locs hb13 Z hS => ?_)
      have ho11 : i < 11 := by omega
      refine gw_aast (o := 14) (k := 0) (a := q0) (n := 7) (f := gw_pr a i) (o2 := i) (v := qb) (vs := wx_fl b wx_0 i 0 (wx_fc 0)) hx hb hC.1 Z hS ?_ ?_ hin1 dX3_init_38 (fun H locs Z hS => ?_)
      · unfold gw_cl
        rw [if_neg (by simp; omega), gw_ne (by omega), gw_pw_14 (by omega), gw_ne (by omega), gw_same]
      · unfold gw_cl
        rw [if_pos (by simp), wx_sbo ho11]
        show some (b i 99, _) = _
        rw [hb13]
        rfl
      rw [hcl] at Z
      have Z2 := gw_sub Z (gw_pw_step (ca := ca) (w := w) (h0 := h0) (q0 := q0) (a := a) hi7 hb13 rfl)
      obtain ⟨x2, hx2⟩ : ∃ y : Int32, y = x1 + 1 := ⟨_, rfl⟩
      refine lv_iinc (v := x2) (lv' := [(1, .int x2), (0, .ref h0)]) hx hb dX3_init_39 hl (k := 0) rfl (by rw [hx2]; rfl) (by decide) rfl (fun ls hl => ?_)
      refine lv_goto (tgt := 20) hx hb dX3_init_42 (by decide) ?_
      refine W.widen (k := 1 + 11 * (i + 1)) (n := 7 + 247 * (i + 1)) (by omega) (by omega) ?_
      exact ih (i + 1) _ x2 H locs ls (by omega) (by rw [hx2, hx1]; exact nI_1 i) Z2 hS hl
  exact loop 7 0 (fun _ _ => 0) 0 H locs ls rfl rfl Zp hS hl
