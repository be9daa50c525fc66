/-! THE START: what the tables say of the classes, the arrays, the links, the statics and the strings -/
theorem lw_arr {U : State} {cA comp : ClassId} {k : Class} {ty : FieldType} (h1 : U.vm.classes[cA]? = some k) (h2 : k.kind = .array comp ty) : ArrOfT U cA ty :=
  fun n z => ⟨fun k hk => by simp [arrV] at hk, k, h1, comp, h2⟩
def lw_nestp : List Nat := [52, 56, 62, 63, 65, 67, 69, 71, 73, 75, 76, 78, 81, 82, 84, 85, 87, 88, 90, 91, 123, 129, 154, 160, 163, 171, 177, 210, 214, 218, 222, 224, 230, 238, 242, 245, 252, 262, 274, 279, 287, 299, 304, 320, 331, 335, 350, 354, 358, 363, 368, 372, 373, 377, 387, 433, 441, 446, 455, 465, 469, 477, 484, 488, 489, 490, 392]
theorem lw_nest_in : ∀ w ∈ wx_nest, w ∈ lw_tbl := wx_pl lw_nestp (by decide +kernel)
theorem lw_isN_tab : ∀ w : Cond, wx_isN w = true → w.onTables = true := by
  intro w hw
  cases w with
  | fieldLinkNest a i b n d x => rfl
  | methodLinkNest a i x y => rfl
  | _ => exact absurd hw (by simp [wx_isN])
theorem lw_classes {b : Nat} {s : State} (hts : ∀ w ∈ lw_tbl, w.before #[Value.ref b] s = true) : ∃ D : va_G, ∀ (c : Nat) (q : vw_C), vwCl[c]? = some q → u_Kn s q.1 q.2.1 q.2.2 (D.1 c) (D.2 c) := by
  obtain ⟨c0, i0, h0⟩ := u_known (C := RX0) (T := TX0) (N := 13) (n := 13) hts inX0 (hts (.instantiable RX0 13) (List.mem_of_getElem? (i := 51) (by decide +kernel)))
  obtain ⟨c1, i1, h1⟩ := u_known (C := RX1) (T := TX1) (N := 3) (n := 3) hts inX1 (hts (.instantiable RX1 3) (List.mem_of_getElem? (i := 128) (by decide +kernel)))
  obtain ⟨c2, i2, h2⟩ := u_known (C := RX2) (T := TX2) (N := 2) (n := 2) hts inX2 (hts (.instantiable RX2 2) (List.mem_of_getElem? (i := 170) (by decide +kernel)))
  obtain ⟨c3, i3, h3⟩ := u_known (C := RX3) (T := TX3) (N := 2) (n := 2) hts inX3 (hts (.instantiable RX3 2) (List.mem_of_getElem? (i := 153) (by decide +kernel)))
  obtain ⟨c4, i4, h4⟩ := u_known (C := RX4) (T := TX4) (N := 2) (n := 2) hts inX4 (hts (.instantiable RX4 2) (List.mem_of_getElem? (i := 122) (by decide +kernel)))
  obtain ⟨c5, i5, h5⟩ := u_known (C := RX5) (T := TX5) (N := 7) (n := 7) hts inX5 (hts (.instantiable RX5 7) (List.mem_of_getElem? (i := 43) (by decide +kernel)))
  refine ⟨(fun k => if k = 0 then c0 else if k = 1 then c1 else if k = 2 then c2 else if k = 3 then c3 else if k = 4 then c4 else c5, fun k => if k = 0 then i0 else if k = 1 then i1 else if k = 2 then i2 else if k = 3 then i3 else if k = 4 then i4 else i5), fun c q hq => ?_⟩
  match c, hq with
  | 0, hq => cases hq; exact h0
  | 1, hq => cases hq; exact h1
  | 2, hq => cases hq; exact h2
  | 3, hq => cases hq; exact h3
  | 4, hq => cases hq; exact h4
  | 5, hq => cases hq; exact h5
  | c + 6, hq => simp [vwCl] at hq
theorem lw_arrays {b : Nat} {s : State} (hts : ∀ w ∈ lw_tbl, w.before #[Value.ref b] s = true) : ∃ ca : Nat → ClassId, (∀ (k : Nat) (q : ClassId × FieldType), (wx_tys ca)[k]? = some q → ArrOfT s q.1 q.2 ∧ va_RA s q.1 q.2) ∧ ∃ kF : Class, s.vm.classes[ca 4]? = some kF ∧ kF.kind = .array (ca 1) (.array .float) := by
  obtain ⟨a0, k0, p0, f0, g0, e0⟩ := Cond.arrayClass_spec (hts (.arrayClass .int) (List.mem_of_getElem? (i := 119) (by decide +kernel)))
  obtain ⟨a1, k1, p1, f1, g1, e1⟩ := Cond.arrayClass_spec (hts (.arrayClass .float) (List.mem_of_getElem? (i := 120) (by decide +kernel)))
  obtain ⟨a2, k2, p2, f2, g2, e2⟩ := Cond.arrayClass_spec (hts (.arrayClass .boolean) (List.mem_of_getElem? (i := 205) (by decide +kernel)))
  obtain ⟨p3, a3, k3, f3, -, g3, e3, n3⟩ := Cond.arrayOver_spec (hts (.arrayOver (.object RX0)) (List.mem_of_getElem? (i := 159) (by decide +kernel)))
  obtain ⟨p4, a4, k4, f4, -, g4, e4, n4⟩ := arrayOverA_spec (hts (.arrayOver (.array .float)) (List.mem_of_getElem? (i := 134) (by decide +kernel)))
  have q4 : p4 = a1 := Option.some.inj (f4.symm.trans f1)
  subst q4
  refine ⟨fun k => if k = 0 then a0 else if k = 1 then p4 else if k = 2 then a2 else if k = 3 then a3 else a4, fun k q hq => ?_, k4, g4, e4⟩
  match k, hq with
  | 0, hq => cases hq; exact ⟨lw_arr g0 e0, f0⟩
  | 1, hq => cases hq; exact ⟨lw_arr g1 e1, f1⟩
  | 2, hq => cases hq; exact ⟨lw_arr g2 e2, f2⟩
  | 3, hq => cases hq; exact ⟨lw_arr g3 e3, ⟨k3, p3, g3, e3, f3, n3⟩⟩
  | 4, hq => cases hq; exact ⟨lw_arr g4 e4, n4⟩
  | k + 5, hq => simp [wx_tys] at hq
theorem ofNat_bits (x : Int32) : nI x.toBitVec.toNat = x := by
  rw [← Int32.toBitVec_inj]
  show BitVec.ofNat 32 _ = _
  rw [BitVec.ofNat_toNat, BitVec.setWidth_eq]
theorem lw_statics {b L : Nat} {xs : Nat → Int32} {s : State} (hts : ∀ w ∈ lw_tbl, w.before #[Value.ref b] s = true) (hgv : (Jvm.Cond.and given_1 narrow_1).before #[Value.ref b] s = true) (hX : va_X b L xs s s.heap) (hbl : b < s.heap.size) : ∃ ad : Nat → Nat → Nat, wx_T ad (fun q => s.heap.size ≤ q) s s.heap ∧ ad 18 0 = b ∧ ad 18 1 = L := by
  have hA : ∀ a : Nat, a < s.heap.size → ¬ (fun q : Nat => s.heap.size ≤ q) a := fun a h => Nat.not_le.mpr h
  have hn := flat_of_before _ hgv
  obtain ⟨t0, e0, T0⟩ := va_Tof (args := #[Value.ref b]) (s := s) (tm := .static "WarmProbes" "FIRST_VALUES" "[I") (ty := .int) (N := 4) (f := fun j => .int (wx_v0.getD j 0)) (A := fun q => s.heap.size ≤ q) (by decide) (hn _ (by decide +kernel)) (va_eqt (hn (.eq (.length (.static "WarmProbes" "FIRST_VALUES" "[I")) (.int 4)) (by decide +kernel))) (fun j hj => by
    match j, hj with
    | 0, _ => exact va_eqt (hn (.eq (.elem (.static "WarmProbes" "FIRST_VALUES" "[I") (.int 0)) (.int 15)) (by decide +kernel))
    | 1, _ => exact va_eqt (hn (.eq (.elem (.static "WarmProbes" "FIRST_VALUES" "[I") (.int 1)) (.int 5)) (by decide +kernel))
    | 2, _ => exact va_eqt (hn (.eq (.elem (.static "WarmProbes" "FIRST_VALUES" "[I") (.int 2)) (.int 20)) (by decide +kernel))
    | 3, _ => exact va_eqt (hn (.eq (.elem (.static "WarmProbes" "FIRST_VALUES" "[I") (.int 3)) (.int 3)) (by decide +kernel))
    ) hA
  obtain ⟨t1, e1, T1⟩ := va_Tof (args := #[Value.ref b]) (s := s) (tm := .static "WarmProbes" "LEAST_VALUES" "[I") (ty := .int) (N := 4) (f := fun j => .int (wx_v1.getD j 0)) (A := fun q => s.heap.size ≤ q) (by decide) (hn _ (by decide +kernel)) (va_eqt (hn (.eq (.length (.static "WarmProbes" "LEAST_VALUES" "[I")) (.int 4)) (by decide +kernel))) (fun j hj => by
    match j, hj with
    | 0, _ => exact va_eqt (hn (.eq (.elem (.static "WarmProbes" "LEAST_VALUES" "[I") (.int 0)) (.int 0)) (by decide +kernel))
    | 1, _ => exact va_eqt (hn (.eq (.elem (.static "WarmProbes" "LEAST_VALUES" "[I") (.int 1)) (.int 0)) (by decide +kernel))
    | 2, _ => exact va_eqt (hn (.eq (.elem (.static "WarmProbes" "LEAST_VALUES" "[I") (.int 2)) (.int 1)) (by decide +kernel))
    | 3, _ => exact va_eqt (hn (.eq (.elem (.static "WarmProbes" "LEAST_VALUES" "[I") (.int 3)) (.int 0)) (by decide +kernel))
    ) hA
  obtain ⟨t2, e2, T2⟩ := va_Tof (args := #[Value.ref b]) (s := s) (tm := .static "WarmProbes" "MOST_VALUES" "[I") (ty := .int) (N := 4) (f := fun j => .int (wx_v2.getD j 0)) (A := fun q => s.heap.size ≤ q) (by decide) (hn _ (by decide +kernel)) (va_eqt (hn (.eq (.length (.static "WarmProbes" "MOST_VALUES" "[I")) (.int 4)) (by decide +kernel))) (fun j hj => by
    match j, hj with
    | 0, _ => exact va_eqt (hn (.eq (.elem (.static "WarmProbes" "MOST_VALUES" "[I") (.int 0)) (.int 24)) (by decide +kernel))
    | 1, _ => exact va_eqt (hn (.eq (.elem (.static "WarmProbes" "MOST_VALUES" "[I") (.int 1)) (.int 50)) (by decide +kernel))
    | 2, _ => exact va_eqt (hn (.eq (.elem (.static "WarmProbes" "MOST_VALUES" "[I") (.int 2)) (.int 99)) (by decide +kernel))
    | 3, _ => exact va_eqt (hn (.eq (.elem (.static "WarmProbes" "MOST_VALUES" "[I") (.int 3)) (.int 99)) (by decide +kernel))
    ) hA
  have hX' : va_X b L (fun j => nI ((xs j).toBitVec.toNat)) s s.heap := by
    have : (fun j => nI ((xs j).toBitVec.toNat)) = xs := by
      funext j
      exact ofNat_bits (xs j)
    rw [this]
    exact hX
  refine ⟨fun o k => if o = 18 then (if k = 0 then b else L) else if o = 19 then (xs k).toBitVec.toNat else if k = 0 then t0 else if k = 1 then t1 else t2, ⟨⟨va_Zref (hts (.laysStatic "WarmProbes" "FIRST_VALUES" "[I") (List.mem_of_getElem? (i := 57) (by decide +kernel))) (hts (.initialized "WarmProbes") (List.mem_of_getElem? (i := 33) (by decide +kernel))) e0 hA, va_Zref (hts (.laysStatic "WarmProbes" "LEAST_VALUES" "[I") (List.mem_of_getElem? (i := 223) (by decide +kernel))) (hts (.initialized "WarmProbes") (List.mem_of_getElem? (i := 33) (by decide +kernel))) e1 hA, va_Zref (hts (.laysStatic "WarmProbes" "MOST_VALUES" "[I") (List.mem_of_getElem? (i := 225) (by decide +kernel))) (hts (.initialized "WarmProbes") (List.mem_of_getElem? (i := 33) (by decide +kernel))) e2 hA⟩, ⟨T0, T1, T2⟩, hX', hbl, Nat.not_le.mpr hbl⟩, rfl, rfl⟩
theorem lw_begin {b L : Nat} {xs : Nat → Int32} {s : State} (hts : ∀ w ∈ lw_tbl, w.before #[Value.ref b] s = true) (hgv : (Jvm.Cond.and given_1 narrow_1).before #[Value.ref b] s = true) (hX : va_X b L xs s s.heap) (hbl : b < s.heap.size) : ∃ (D : va_G) (ad : Nat → Nat → Nat) (ca : Nat → ClassId), wx_C D ad ca (fun q => s.heap.size ≤ q) s s.heap ∧ gw_AO s ∧ ad 18 0 = b ∧ ad 18 1 = L := by
  obtain ⟨D, hD⟩ := lw_classes hts
  obtain ⟨ca, hca, hF⟩ := lw_arrays hts
  obtain ⟨ad, hT, h0, h1⟩ := lw_statics hts hgv hX hbl
  exact ⟨D, ad, ca, ⟨⟨⟨hD, hca⟩, fun w hw => va_Nw.of (lw_isN_tab w (List.all_eq_true.mp wx_nest_ok w hw)) (hts w (lw_nest_in w hw)), hF⟩, hT, trivial⟩, ⟨va_AO.of (hts (.arrayOver (.object RX0)) (List.mem_of_getElem? (i := 159) (by decide +kernel))), (hts (.arrayOver (.array .float)) (List.mem_of_getElem? (i := 134) (by decide +kernel)))⟩, h0, h1⟩
