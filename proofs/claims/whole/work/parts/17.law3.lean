/-! THE START: what the tables say of the classes, the arrays, the links, the statics and the strings -/
theorem lw_arr {U : State} {cA comp : ClassId} {k : Class} {ty : FieldType} (h1 : U.vm.classes[cA]? = some k) (h2 : k.kind = .array comp ty) : ArrOfT U cA ty :=
  fun n z => ⟨fun k hk => by simp [arrV] at hk, k, h1, comp, h2⟩
def lw_tm (i : Nat) : Term := .string "WarmProbes$Pad" (if i = 0 then 32 else if i = 1 then 50 else if i = 2 then 41 else if i = 3 then 43 else 45)
def lw_nestp : List Nat := [128, 132, 138, 139, 141, 143, 145, 147, 149, 151, 152, 154, 157, 158, 160, 161, 163, 164, 166, 167, 199, 205, 230, 236, 239, 247, 253, 286, 290, 294, 298, 300, 306, 314, 318, 321, 328, 338, 350, 355, 363, 375, 380, 396, 407, 411, 426, 430, 434, 439, 444, 448, 449, 453, 463, 468, 476, 481, 490, 500, 504, 512, 519, 523, 524, 525, 545, 561, 562, 567, 572, 583, 591, 685, 686, 694, 695, 699, 703, 712]
theorem lw_nest_in : ∀ w ∈ wx_nest, w ∈ lw_tbl := wx_pl lw_nestp (by decide +kernel)
theorem lw_isN_tab : ∀ w : Cond, wx_isN w = true → w.onTables = true := by
  intro w hw
  cases w with
  | fieldLinkNest a i b n d x => rfl
  | methodLinkNest a i x y => rfl
  | _ => exact absurd hw (by simp [wx_isN])
theorem lw_classes {b : Nat} {s : State} (hts : ∀ w ∈ lw_tbl, w.before #[Value.ref b] s = true) : ∃ D : va_G, ∀ (c : Nat) (q : vw_C), vwCl[c]? = some q → u_Kn s q.1 q.2.1 q.2.2 (D.1 c) (D.2 c) := by
  obtain ⟨c0, i0, h0⟩ := u_known (C := RX0) (T := TX0) (N := 13) (n := 13) hts inX0 (hts (.instantiable RX0 13) (List.mem_of_getElem? (i := 127) (by decide +kernel)))
  obtain ⟨c1, i1, h1⟩ := u_known (C := RX1) (T := TX1) (N := 3) (n := 3) hts inX1 (hts (.instantiable RX1 3) (List.mem_of_getElem? (i := 204) (by decide +kernel)))
  obtain ⟨c2, i2, h2⟩ := u_known (C := RX2) (T := TX2) (N := 2) (n := 2) hts inX2 (hts (.instantiable RX2 2) (List.mem_of_getElem? (i := 246) (by decide +kernel)))
  obtain ⟨c3, i3, h3⟩ := u_known (C := RX3) (T := TX3) (N := 2) (n := 2) hts inX3 (hts (.instantiable RX3 2) (List.mem_of_getElem? (i := 229) (by decide +kernel)))
  obtain ⟨c4, i4, h4⟩ := u_known (C := RX4) (T := TX4) (N := 2) (n := 2) hts inX4 (hts (.instantiable RX4 2) (List.mem_of_getElem? (i := 198) (by decide +kernel)))
  obtain ⟨c5, i5, h5⟩ := u_known (C := RX5) (T := TX5) (N := 7) (n := 7) hts inX5 (hts (.instantiable RX5 7) (List.mem_of_getElem? (i := 119) (by decide +kernel)))
  obtain ⟨c6, i6, h6⟩ := u_known (C := RX6) (T := TX6) (N := 25) (n := 25) hts inX6 (hts (.instantiable RX6 25) (List.mem_of_getElem? (i := 725) (by decide +kernel)))
  refine ⟨(fun k => if k = 0 then c0 else if k = 1 then c1 else if k = 2 then c2 else if k = 3 then c3 else if k = 4 then c4 else if k = 5 then c5 else c6, fun k => if k = 0 then i0 else if k = 1 then i1 else if k = 2 then i2 else if k = 3 then i3 else if k = 4 then i4 else if k = 5 then i5 else i6), fun c q hq => ?_⟩
  match c, hq with
  | 0, hq => cases hq; exact h0
  | 1, hq => cases hq; exact h1
  | 2, hq => cases hq; exact h2
  | 3, hq => cases hq; exact h3
  | 4, hq => cases hq; exact h4
  | 5, hq => cases hq; exact h5
  | 6, hq => cases hq; exact h6
  | c + 7, hq => simp [vwCl] at hq
theorem lw_arrays {b : Nat} {s : State} (hts : ∀ w ∈ lw_tbl, w.before #[Value.ref b] s = true) : ∃ ca : Nat → ClassId, (∀ (k : Nat) (q : ClassId × FieldType), (wx_tys ca)[k]? = some q → ArrOfT s q.1 q.2 ∧ va_RA s q.1 q.2) ∧ ∃ kF : Class, s.vm.classes[ca 4]? = some kF ∧ kF.kind = .array (ca 1) (.array .float) := by
  obtain ⟨a0, k0, p0, f0, g0, e0⟩ := Cond.arrayClass_spec (hts (.arrayClass .int) (List.mem_of_getElem? (i := 195) (by decide +kernel)))
  obtain ⟨a1, k1, p1, f1, g1, e1⟩ := Cond.arrayClass_spec (hts (.arrayClass .float) (List.mem_of_getElem? (i := 196) (by decide +kernel)))
  obtain ⟨a2, k2, p2, f2, g2, e2⟩ := Cond.arrayClass_spec (hts (.arrayClass .boolean) (List.mem_of_getElem? (i := 281) (by decide +kernel)))
  obtain ⟨p3, a3, k3, f3, -, g3, e3, n3⟩ := Cond.arrayOver_spec (hts (.arrayOver (.object RX0)) (List.mem_of_getElem? (i := 235) (by decide +kernel)))
  obtain ⟨p4, a4, k4, f4, -, g4, e4, n4⟩ := arrayOverA_spec (hts (.arrayOver (.array .float)) (List.mem_of_getElem? (i := 210) (by decide +kernel)))
  have q4 : p4 = a1 := Option.some.inj (f4.symm.trans f1)
  subst q4
  refine ⟨fun k => if k = 0 then a0 else if k = 1 then p4 else if k = 2 then a2 else if k = 3 then a3 else a4, fun k q hq => ?_, k4, g4, e4⟩
  match k, hq with
  | 0, hq => cases hq; exact ⟨lw_arr g0 e0, f0⟩
  | 1, hq => cases hq; exact ⟨lw_arr g1 e1, f1⟩
  | 2, hq => cases hq; exact ⟨lw_arr g2 e2, f2⟩
  | 3, hq => cases hq; exact ⟨lw_arr g3 e3, ⟨k3, p3, g3, e3, f3, n3⟩⟩
  | 4, hq => cases hq; exact ⟨lw_arr g4 e4, n4⟩
  | k + 5, hq => simp [wx_tys] at hq
