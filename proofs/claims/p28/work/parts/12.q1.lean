theorem invC_kL {b n h v sl len c} {σ : wx_St} (i : invC b n h v sl len c σ) : kL b σ := ⟨i.1.1, i.2.2.2.2⟩
theorem invC.ofM {b n h v sl len c} {σ τ : wx_St} (hn : n ≤ 6) (i : invC b n h v sl len c σ) (e : eqM σ τ) (k : kL b τ) : invC b n h v sl len c τ := by
  obtain ⟨⟨i1, i2⟩, i3, i4, i5, -⟩ := i
  have a : ∀ x, x ≠ 8 ∧ x ≠ 12 ∧ x ≠ 13 → agr x σ τ := e.1
  refine ⟨⟨k.1, i2.agr (a 7 (by decide))⟩, i3.of (by omega) (fun j hj => a _ ?_) (a 14 (by decide)).2.2 e.2.1, i4.of (a 9 (by decide)) (a 10 (by decide)) (a 11 (by decide)).1, i5.of (a 15 (by decide)), k.2⟩
  have := i3.2.1 j (by omega)
  omega
theorem eqM.eqC {σ τ : wx_St} (e : eqM σ τ) : eqC σ τ := ⟨e.1 16 (by decide), e.2.2⟩
/-- both sides without a change -/
def two1 {α : Type} (f g : wx_St → Option α) : Prop := ∀ σ, Inv σ → ∃ r, f σ = some r ∧ g σ = some r
theorem warm_z (b : Bd) (g : good b) : ∃ z : Nat → Int, ∀ p, p < 64 → fl (bWarm b p) false (z p) ∧ 0 ≤ z p ∧ z p ≤ 301 * 2 ^ 156 ∧ (z p = 0 ∨ 2 ^ 36 ≤ z p) := by
  have gK := g.2.2.2.2.2.2.1
  exact runs_low (h := heat b) g.set (k := bK b) (by omega)
theorem wm6.at {b : Bd} {σ : wx_St} (h : wm6 1 0 b σ) {p : Nat} (hp : p < 64) : σ.2.1 16 1 p = bWarm b p := by
  have := h p hp
  rw [Nat.zero_add] at this
  exact this
theorem b01_if (c : Bool) {σ : wx_St} : (if b01 c = 0 then some ((0 : Int32), σ) else some (1, σ)) = some (b01 c, σ) := by
  cases c
  · exact if_pos rfl
  · exact if_neg (by decide)
theorem b01_ifo (c : Bool) : (if b01 c = 0 then some (0 : Int32) else some 1) = some (b01 c) := by
  cases c
  · exact if_pos rfl
  · exact if_neg (by decide)
theorem IC.ofM {b : Bd} {σ τ : wx_St} (h : IC b σ) (e : eqM σ τ) (k : kL b τ) : IC b τ := by
  obtain ⟨n, hh, v, sl, len, c, G, iC⟩ := h
  exact ⟨n, hh, v, sl, len, c, G, iC.ofM G.2.1 e k⟩
theorem IC.kL {b : Bd} {σ : wx_St} (h : IC b σ) : kL b σ := by
  obtain ⟨n, hh, v, sl, len, c, G, iC⟩ := h
  exact invC_kL iC
theorem IC.bd {b : Bd} {σ : wx_St} (h : IC b σ) : bdI 7 b σ ∧ wm5 7 b σ := by
  obtain ⟨n, hh, v, sl, len, c, G, iC⟩ := h
  exact iC.1
theorem Ch.same {α : Type} {f : wx_St → Option (α × wx_St)} {b : Bd} {r : α} (h : ∀ σ, IC b σ → f σ = some (r, σ)) : Ch f b r b := fun σ i => ⟨σ, h σ i, i, eqC.rf σ⟩
theorem Ch.mk {α : Type} {f : wx_St → Option (α × wx_St)} {b : Bd} {r : α} (h : ∀ σ, IC b σ → ∃ τ, f σ = some (r, τ) ∧ kL b τ ∧ eqM σ τ) : Ch f b r b := fun σ i => by
  obtain ⟨τ, t1, t2, t3⟩ := h σ i
  exact ⟨τ, t1, i.ofM t3 t2, t3.eqC⟩
theorem at5_0 {b : Bd} {R C : Nat} (hR : R < 8) (hC : C < 8) : Ch (f_X5_at (nI R) (nI C) 0) b (nI (bN b (8 * R + C))) b := Ch.same (fun σ i => by
  have hP : 8 * R + C < 64 := by omega
  unfold f_X5_at
  rw [px_o (placeOf_yes R hR C hC).1, if_pos (nI_pos' (by omega)), if_pos rfl, px_rI hP (by decide), i.bd.1.2.1 _ hP])
theorem at5_1 {b : Bd} {R C : Nat} (hR : R < 8) (hC : C < 8) : Ch (f_X5_at (nI R) (nI C) 1) b ((bWarm b (8 * R + C)).toInt32) b := Ch.same (fun σ i => by
  have hP : 8 * R + C < 64 := by omega
  obtain ⟨z, hz⟩ := warm_z b i.good
  obtain ⟨z1, z2, z3, z4⟩ := hz _ hP
  unfold f_X5_at
  rw [px_o (placeOf_yes R hR C hC).1, if_pos (nI_pos' (by omega)), if_neg (by decide), if_pos rfl, px_rF hP (by decide), i.bd.2 _ hP, px_o (bitsOfFloat_eq z1 z4 (by omega))])
theorem warm_ok {b : Bd} (g : good b) {P : Nat} (hP : P < 64) : okW (bWarm b P) := by
  have gK := g.2.2.2.2.2.2.1
  exact rd_ok g.set (by omega) hP
theorem at5_2 {b : Bd} {R C : Nat} (hR : R < 8) (hC : C < 8) : Ch (f_X5_at (nI R) (nI C) 2) b (rdf (bWarm b (8 * R + C))) b := Ch.same (fun σ i => by
  have hP : 8 * R + C < 64 := by omega
  unfold f_X5_at
  rw [px_o (placeOf_yes R hR C hC).1, if_pos (nI_pos' (by omega)), if_neg (by decide), if_neg (by decide), if_pos rfl, px_rF hP (by decide), i.bd.2 _ hP, px_o (readOf5 (warm_ok i.good hP).1)])
theorem at5_3 {b : Bd} {R C : Nat} (hR : R < 8) (hC : C < 8) : Ch (f_X5_at (nI R) (nI C) 3) b (b01 (sus b (8 * R + C))) b := Ch.same (fun σ i => by
  have hP : 8 * R + C < 64 := by omega
  unfold f_X5_at
  rw [px_o (placeOf_yes R hR C hC).1, if_pos (nI_pos' (by omega)), if_neg (by decide), if_neg (by decide), if_neg (by decide), if_pos rfl, px_o (isSuspect5 i.bd.1 i.good hP)]
  exact b01_if _)
theorem at5_4 {b : Bd} {R C : Nat} (hR : R < 8) (hC : C < 8) : Ch (f_X5_at (nI R) (nI C) 4) b (b01 (cb b (8 * R + C))) b := Ch.mk (fun σ i => by
  have hP : 8 * R + C < 64 := by omega
  obtain ⟨τ, t1, t2, t3⟩ := couldBe5 i.good i.kL hP
  refine ⟨τ, ?_, t2, t3.eqM⟩
  unfold f_X5_at
  rw [px_o (placeOf_yes R hR C hC).1, if_pos (nI_pos' (by omega)), if_neg (by decide), if_neg (by decide), if_neg (by decide), if_neg (by decide), if_pos rfl, px_b t1]
  exact b01_if _)
theorem at5_6 {b : Bd} {R C : Nat} (hR : R < 8) (hC : C < 8) {r : Int32} (hr : TA b (8 * R + C) r) : Ch (f_X5_at (nI R) (nI C) 6) b r b := Ch.same (fun σ i => by
  have hP : 8 * R + C < 64 := by omega
  obtain ⟨r', t1, t2⟩ := touchAt5 i.bd.1 i.good hP
  unfold f_X5_at
  rw [px_o (placeOf_yes R hR C hC).1, if_pos (nI_pos' (by omega)), if_neg (by decide), if_neg (by decide), if_neg (by decide), if_neg (by decide), if_neg (by decide), if_neg (by decide), if_pos rfl, px_o t1, t2.uniq i.good hr])
theorem row5_0 {b : Bd} {R : Nat} (hR : R < 8) : Ch (f_X5_row (nI R) 0) b (colF (fun p => decide (bN b p ≠ 0)) R 8) b := Ch.same (fun σ i => by
  have hlt : nI R < 8 := nI_lt (b := 8) hR (by decide)
  obtain ⟨M, m1, m2⟩ := tracked5 i.good i.bd.1
  unfold f_X5_row
  rw [if_neg (nI_pos (by omega)), if_pos hlt, if_pos rfl, px_o m1, px_o (columnsOf5 m2 hR)])
theorem row5_1 {b : Bd} {R : Nat} (hR : R < 8) : Ch (f_X5_row (nI R) 1) b (colF (sus b) R 8) b := Ch.same (fun σ i => by
  have hlt : nI R < 8 := nI_lt (b := 8) hR (by decide)
  obtain ⟨M, m1, m2⟩ := suspects5 i.good i.bd.1
  unfold f_X5_row
  rw [if_neg (nI_pos (by omega)), if_pos hlt, if_neg (by decide), if_pos rfl, px_o m1, px_o (columnsOf5 m2 hR)])
theorem row5_2 {b : Bd} {R : Nat} (hR : R < 8) : Ch (f_X5_row (nI R) 2) b (colF (cb b) R 8) b := Ch.mk (fun σ i => by
  have hlt : nI R < 8 := nI_lt (b := 8) hR (by decide)
  obtain ⟨M, τ, m1, m2, m3, m4⟩ := fitting5 i.good i.kL
  refine ⟨τ, ?_, m3, m4.eqM⟩
  unfold f_X5_row
  rw [if_neg (nI_pos (by omega)), if_pos hlt, if_neg (by decide), if_neg (by decide), if_pos rfl, px_b m1]
  unfold f_X5_row_75
  rw [px_o (columnsOf5 m2 hR)])
theorem b01_rev (c : Bool) : some (b01 c) = (if b01 c = 0 then some (0 : Int32) else some 1) := (b01_ifo c).symm
theorem ofTouch5 {b : Bd} {t : Nat} (ht : t < bT b) (x2 : Int32) : Rd (f_X5_ofTouch (nI t) x2) b (if x2 = 0 then nI (bP b t) else if x2 = 1 then nI (bN b (bP b t)) else if x2 = 2 then nI (bO b t) else if x2 = 3 then b01 (live b t) else -2) := fun σ i => by
  have g := i.good
  have gT := g.2.2.2.1
  have hb := i.bd.1
  obtain ⟨g1, g2, g3, g4⟩ := g.2.2.2.2.1 t ht
  obtain ⟨b1, b2⟩ := hb.2.2.2.2.1 t ht
  unfold f_X5_ofTouch f_X5_ofTouch_15 f_X5_ofTouch_102
  rw [if_neg (nI_pos (by omega)), hb.2.2.2.1, if_pos (nI_lt ht (by omega)), px_rI (by omega) (by decide), b1, px_rI (by omega) (by decide), b1, px_rI g1 (by decide), hb.2.1 _ g1, px_rI (by omega) (by decide), b2, px_o (isLive5 hb g ht), b01_ifo]
  by_cases h0 : x2 = 0
  · rw [if_pos h0, if_pos h0]
  · rw [if_neg h0, if_neg h0]
    by_cases h1 : x2 = 1
    · rw [if_pos h1, if_pos h1]
    · rw [if_neg h1, if_neg h1]
      by_cases h2 : x2 = 2
      · rw [if_pos h2, if_pos h2]
      · rw [if_neg h2, if_neg h2]
        by_cases h3 : x2 = 3
        · rw [if_pos h3, if_pos h3]
        · rw [if_neg h3, if_neg h3]
theorem ofTouch5n {b : Bd} (x2 : Int32) : Rd (f_X5_ofTouch (nI (bT b)) x2) b (-1) := fun σ i => by
  have gT := i.good.2.2.2.1
  unfold f_X5_ofTouch f_X5_ofTouch_15
  rw [if_neg (nI_pos (by omega)), i.bd.1.2.2.2.1, if_neg (nI_nlt (Nat.le_refl _) (by omega))]
theorem reading5 {b : Bd} {k : Nat} (hk : k < bR b) : Rd (f_X5_reading (nI k) 0) b (nI (bA b k)) ∧ Rd (f_X5_reading (nI k) 1) b (nI (bB b k)) ∧ Rd (f_X5_reading (nI k) 2) b (nI (bC b k)) := by
  refine ⟨fun σ i => ?_, fun σ i => ?_, fun σ i => ?_⟩ <;>
  · have gR := i.good.2.2.2.2.2.2.2.1
    have hb := i.bd.1
    obtain ⟨b1, b2, b3⟩ := hb.2.2.2.2.2.2.2 k hk
    unfold f_X5_reading f_X5_reading_15
    rw [hb.2.2.2.2.2.2.1, if_neg (nI_pos (by omega)), if_pos (nI_lt hk (by omega))]
    first
      | rw [if_pos (show (0 : Int32) = 0 from rfl), px_rI (by omega) (by decide), b1]
      | rw [if_neg (show ¬ (1 : Int32) = 0 by decide), if_pos (show (1 : Int32) = 1 from rfl), px_rI (by omega) (by decide), b2]
      | rw [if_neg (show ¬ (2 : Int32) = 0 by decide), if_neg (show ¬ (2 : Int32) = 1 by decide), if_pos (show (2 : Int32) = 2 from rfl), px_rI (by omega) (by decide), b3]
theorem reading5n {b : Bd} (x2 : Int32) : Rd (f_X5_reading (nI (bR b)) x2) b (-1) := fun σ i => by
  have gR := i.good.2.2.2.2.2.2.2.1
  unfold f_X5_reading f_X5_reading_15
  rw [i.bd.1.2.2.2.2.2.2.1, if_neg (nI_pos (by omega)), if_neg (nI_nlt (Nat.le_refl _) (by omega))]
