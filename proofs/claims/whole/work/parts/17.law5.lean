theorem lw_begin {b : Nat} {s : State} (hts : ∀ w ∈ lw_tbl, w.before #[Value.ref b] s = true) (hgv : (Jvm.Cond.and given_1 narrow_1).before #[Value.ref b] s = true) : ∃ (D : va_G) (ad : Nat → Nat → Nat) (ca : Nat → ClassId), wx_C D ad ca (fun q => s.heap.size ≤ q) s s.heap ∧ gw_AO s := by
  obtain ⟨D, hD⟩ := lw_classes hts
  obtain ⟨ca, hca, hF⟩ := lw_arrays hts
  obtain ⟨ad, hT, hR⟩ := lw_statics hts hgv
  exact ⟨D, ad, ca, ⟨⟨⟨hD, hca⟩, fun w hw => va_Nw.of (lw_isN_tab w (List.all_eq_true.mp wx_nest_ok w hw)) (hts w (lw_nest_in w hw)), hF⟩, hT, hR⟩, va_AO.of (hts (.arrayOver (.object RX0)) (List.mem_of_getElem? (i := 235) (by decide +kernel))), (hts (.arrayOver (.array .float)) (List.mem_of_getElem? (i := 210) (by decide +kernel)))⟩
