theorem lw_statics {b : Nat} {s : State} (hts : ∀ w ∈ lw_tbl, w.before #[Value.ref b] s = true) (hgv : (Jvm.Cond.and given_1 narrow_1).before #[Value.ref b] s = true) : ∃ ad : Nat → Nat → Nat, wx_T ad (fun q => s.heap.size ≤ q) s s.heap ∧ wx_R ad s := by
  have hA : ∀ a : Nat, a < s.heap.size → ¬ (fun q : Nat => s.heap.size ≤ q) a := fun a h => Nat.not_le.mpr h
  have hn := flat_of_before _ hgv
  obtain ⟨t0, e0, T0⟩ := va_Tof (args := #[Value.ref b]) (s := s) (tm := .static "WarmProbes" "FIRST_VALUES" "[I") (ty := .int) (N := 4) (f := fun j => .int (wx_v0.getD j 0)) (A := fun q => s.heap.size ≤ q) (by decide) (hn _ (by decide +kernel)) (va_eqt (hn (.eq (.length (.static "WarmProbes" "FIRST_VALUES" "[I")) (.int 4)) (by decide +kernel))) (fun j hj => by
    match j, hj with
    | 0, _ => exact va_eqt (hn (.eq (.elem (.static "WarmProbes" "FIRST_VALUES" "[I") (.int 0)) (.int 15)) (by decide +kernel))
    | 1, _ => exact va_eqt (hn (.eq (.elem (.static "WarmProbes" "FIRST_VALUES" "[I") (.int 1)) (.int 5)) (by decide +kernel))
    | 2, _ => exact va_eqt (hn (.eq (.elem (.static "WarmProbes" "FIRST_VALUES" "[I") (.int 2)) (.int 20)) (by decide +kernel))
    | 3, _ => exact va_eqt (hn (.eq (.elem (.static "WarmProbes" "FIRST_VALUES" "[I") (.int 3)) (.int 3)) (by decide +kernel))
    ) hA
  obtain ⟨t1, e1, T1⟩ := va_Tof (args := #[Value.ref b]) (s := s) (tm := .static "WarmProbes" "LEAST_VALUES" "[I") (ty := .int) (N := 4) (f := fun j => .int (wx_v1.getD j 0)) (A := fun q => s.heap.size ≤ q) (by decide) (hn _ (by decide +kernel)) (va_eqt (hn (.eq (.length (.static "WarmProbes" "LEAST_VALUES" "[I")) (.int 4)) (by decide +kernel))) (fun j hj => by
    match j, hj with
    | 0, _ => exact va_eqt (hn (.eq (.elem (.static "WarmProbes" "LEAST_VALUES" "[I") (.int 0)) (.int 0)) (by decide +kernel))
    | 1, _ => exact va_eqt (hn (.eq (.elem (.static "WarmProbes" "LEAST_VALUES" "[I") (.int 1)) (.int 0)) (by decide +kernel))
    | 2, _ => exact va_eqt (hn (.eq (.elem (.static "WarmProbes" "LEAST_VALUES" "[I") (.int 2)) (.int 1)) (by decide +kernel))
    | 3, _ => exact va_eqt (hn (.eq (.elem (.static "WarmProbes" "LEAST_VALUES" "[I") (.int 3)) (.int 0)) (by decide +kernel))
    ) hA
  obtain ⟨t2, e2, T2⟩ := va_Tof (args := #[Value.ref b]) (s := s) (tm := .static "WarmProbes" "MOST_VALUES" "[I") (ty := .int) (N := 4) (f := fun j => .int (wx_v2.getD j 0)) (A := fun q => s.heap.size ≤ q) (by decide) (hn _ (by decide +kernel)) (va_eqt (hn (.eq (.length (.static "WarmProbes" "MOST_VALUES" "[I")) (.int 4)) (by decide +kernel))) (fun j hj => by
    match j, hj with
    | 0, _ => exact va_eqt (hn (.eq (.elem (.static "WarmProbes" "MOST_VALUES" "[I") (.int 0)) (.int 24)) (by decide +kernel))
    | 1, _ => exact va_eqt (hn (.eq (.elem (.static "WarmProbes" "MOST_VALUES" "[I") (.int 1)) (.int 50)) (by decide +kernel))
    | 2, _ => exact va_eqt (hn (.eq (.elem (.static "WarmProbes" "MOST_VALUES" "[I") (.int 2)) (.int 99)) (by decide +kernel))
    | 3, _ => exact va_eqt (hn (.eq (.elem (.static "WarmProbes" "MOST_VALUES" "[I") (.int 3)) (.int 99)) (by decide +kernel))
    ) hA
  obtain ⟨aK, aV, S, eS⟩ := vk_Sof (args := #[Value.ref b]) (s := s) (N := 5) (tm := lw_tm) (len := wx_len) (byt := wx_byt) (A := fun q => s.heap.size ≤ q) (by decide)
    (fun i hi => by
      match i, hi with
      | 0, _ => exact hn _ (by decide +kernel)
      | 1, _ => exact hn _ (by decide +kernel)
      | 2, _ => exact hn _ (by decide +kernel)
      | 3, _ => exact hn _ (by decide +kernel)
      | 4, _ => exact hn _ (by decide +kernel))
    (fun i hi => by
      match i, hi with
      | 0, _ => exact hn _ (by decide +kernel)
      | 1, _ => exact hn _ (by decide +kernel)
      | 2, _ => exact hn _ (by decide +kernel)
      | 3, _ => exact hn _ (by decide +kernel)
      | 4, _ => exact hn _ (by decide +kernel))
    (fun i hi => by
      match i, hi with
      | 0, _ => exact hn _ (by decide +kernel)
      | 1, _ => exact hn _ (by decide +kernel)
      | 2, _ => exact hn _ (by decide +kernel)
      | 3, _ => exact hn _ (by decide +kernel)
      | 4, _ => exact hn _ (by decide +kernel))
    (fun i hi => by
      match i, hi with
      | 0, _ => exact hn _ (by decide +kernel)
      | 1, _ => exact hn _ (by decide +kernel)
      | 2, _ => exact hn _ (by decide +kernel)
      | 3, _ => exact hn _ (by decide +kernel)
      | 4, _ => exact hn _ (by decide +kernel))
    (fun i hi j hj => by
      match i, hi, j, hj with
      | 0, _, 0, _ => exact hn _ (by decide +kernel)
      | 0, _, 1, _ => exact hn _ (by decide +kernel)
      | 0, _, 2, _ => exact hn _ (by decide +kernel)
      | 0, _, j + 3, h => exact absurd h (by simp [wx_len])
      | 1, _, 0, _ => exact hn _ (by decide +kernel)
      | 1, _, 1, _ => exact hn _ (by decide +kernel)
      | 1, _, j + 2, h => exact absurd h (by simp [wx_len])
      | 2, _, 0, _ => exact hn _ (by decide +kernel)
      | 2, _, 1, _ => exact hn _ (by decide +kernel)
      | 2, _, j + 2, h => exact absurd h (by simp [wx_len])
      | 3, _, 0, _ => exact hn _ (by decide +kernel)
      | 3, _, 1, _ => exact hn _ (by decide +kernel)
      | 3, _, 2, _ => exact hn _ (by decide +kernel)
      | 3, _, 3, _ => exact hn _ (by decide +kernel)
      | 3, _, j + 4, h => exact absurd h (by simp [wx_len])
      | 4, _, 0, _ => exact hn _ (by decide +kernel)
      | 4, _, j + 1, h => exact absurd h (by simp [wx_len])
      )
    (fun i j hi hj hij => by
      match i, hi, j, hj with
      | 0, _, 0, _ => exact absurd rfl hij
      | 0, _, 1, _ => exact Or.inl (hn _ (by decide +kernel))
      | 0, _, 2, _ => exact Or.inl (hn _ (by decide +kernel))
      | 0, _, 3, _ => exact Or.inl (hn _ (by decide +kernel))
      | 0, _, 4, _ => exact Or.inl (hn _ (by decide +kernel))
      | 1, _, 0, _ => exact Or.inr (hn _ (by decide +kernel))
      | 1, _, 1, _ => exact absurd rfl hij
      | 1, _, 2, _ => exact Or.inl (hn _ (by decide +kernel))
      | 1, _, 3, _ => exact Or.inl (hn _ (by decide +kernel))
      | 1, _, 4, _ => exact Or.inl (hn _ (by decide +kernel))
      | 2, _, 0, _ => exact Or.inr (hn _ (by decide +kernel))
      | 2, _, 1, _ => exact Or.inr (hn _ (by decide +kernel))
      | 2, _, 2, _ => exact absurd rfl hij
      | 2, _, 3, _ => exact Or.inl (hn _ (by decide +kernel))
      | 2, _, 4, _ => exact Or.inl (hn _ (by decide +kernel))
      | 3, _, 0, _ => exact Or.inr (hn _ (by decide +kernel))
      | 3, _, 1, _ => exact Or.inr (hn _ (by decide +kernel))
      | 3, _, 2, _ => exact Or.inr (hn _ (by decide +kernel))
      | 3, _, 3, _ => exact absurd rfl hij
      | 3, _, 4, _ => exact Or.inl (hn _ (by decide +kernel))
      | 4, _, 0, _ => exact Or.inr (hn _ (by decide +kernel))
      | 4, _, 1, _ => exact Or.inr (hn _ (by decide +kernel))
      | 4, _, 2, _ => exact Or.inr (hn _ (by decide +kernel))
      | 4, _, 3, _ => exact Or.inr (hn _ (by decide +kernel))
      | 4, _, 4, _ => exact absurd rfl hij
      ) hA
  have hz : ∀ i : Nat, i < 5 → (lw_tm i).eval #[Value.ref b] s none [] s = some (.ref (aK i)) := eS
  refine ⟨fun o k => if o = 18 then aK k else if o = 19 then aV k else if k = 0 then t0 else if k = 1 then t1 else t2, ⟨⟨va_Zref (hts (.laysStatic "WarmProbes" "FIRST_VALUES" "[I") (List.mem_of_getElem? (i := 133) (by decide +kernel))) (hts (.initialized "WarmProbes") (List.mem_of_getElem? (i := 102) (by decide +kernel))) e0 hA, va_Zref (hts (.laysStatic "WarmProbes" "LEAST_VALUES" "[I") (List.mem_of_getElem? (i := 299) (by decide +kernel))) (hts (.initialized "WarmProbes") (List.mem_of_getElem? (i := 102) (by decide +kernel))) e1 hA, va_Zref (hts (.laysStatic "WarmProbes" "MOST_VALUES" "[I") (List.mem_of_getElem? (i := 301) (by decide +kernel))) (hts (.initialized "WarmProbes") (List.mem_of_getElem? (i := 102) (by decide +kernel))) e2 hA⟩, ⟨T0, T1, T2⟩, ⟨va_Zof (hts (.laysStatic "java/lang/String" "COMPACT_STRINGS" "Z") (List.mem_of_getElem? (i := 617) (by decide +kernel))) (hts (.initialized "java/lang/String") (List.mem_of_getElem? (i := 114) (by decide +kernel))) (va_eqi (hn _ (by decide +kernel))) hA, va_Zqof (hts (.laysStatic "jdk/internal/util/Preconditions" "SIOOBE_FORMATTER" "Ljava/util/function/BiFunction;") (List.mem_of_getElem? (i := 633) (by decide +kernel))) (hts (.initialized "jdk/internal/util/Preconditions") (List.mem_of_getElem? (i := 116) (by decide +kernel))) (hn _ (by decide +kernel)) hA⟩, S⟩, ?_⟩
  exact ⟨vk_R.of (hts (.stringRef "WarmProbes$Pad" 32 "dcd") (List.mem_of_getElem? (i := 603) (by decide +kernel))) (hz 0 (by decide)), vk_R.of (hts (.stringRef "WarmProbes$Pad" 50 "cd") (List.mem_of_getElem? (i := 668) (by decide +kernel))) (hz 1 (by decide)), vk_R.of (hts (.stringRef "WarmProbes$Pad" 41 "dd") (List.mem_of_getElem? (i := 669) (by decide +kernel))) (hz 2 (by decide)), vk_R.of (hts (.stringRef "WarmProbes$Pad" 43 "cd=d") (List.mem_of_getElem? (i := 670) (by decide +kernel))) (hz 3 (by decide)), vk_R.of (hts (.stringRef "WarmProbes$Pad" 45 "d") (List.mem_of_getElem? (i := 671) (by decide +kernel))) (hz 4 (by decide))⟩
