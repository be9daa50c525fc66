/-! of a net; numbers; what if -/
theorem places5 {b : Bd} {σ : wx_St} (g : good b) (h : bdI 7 b σ) {N : Nat} (hN : N < 8) : ∀ (n i m : Nat), i + n = 64 → n < m → f_X0_placesOf_4 7 m (nI N) (nI (cnt (fun p => decide (bN b p = N)) i)) (nI i) σ = some (nI (cnt (fun p => decide (bN b p = N)) 64)) := by
  intro n
  induction n with
  | zero =>
    intro i m hi hm
    obtain ⟨m, rfl⟩ : ∃ k, m = k + 1 := ⟨m - 1, by omega⟩
    have hi : i = 64 := by omega
    subst hi
    rw [f_X0_placesOf_4, if_pos (by decide)]
  | succ n ih =>
    intro i m hi hm
    obtain ⟨m, rfl⟩ : ∃ k, m = k + 1 := ⟨m - 1, by omega⟩
    have hi64 : i < 64 := by omega
    have gN := g.2.1 i hi64
    have hS : cnt (fun p => decide (bN b p = N)) (i + 1) = cnt (fun p => decide (bN b p = N)) i + (if decide (bN b i = N) = true then 1 else 0) := rfl
    have hn := ih (i + 1) m (by omega) (by omega)
    rw [hS] at hn
    rw [f_X0_placesOf_4, if_neg (p64_c i hi64).2.2.2.2, px_rI hi64 (by decide), h.2.1 i hi64]
    unfold f_X0_placesOf_23
    rw [nI_1, nI_1]
    by_cases he : bN b i = N
    · rw [decide_eq_true he, if_pos rfl] at hn
      rw [if_pos (by rw [he])]
      exact hn
    · rw [decide_eq_false he, if_neg (by decide), Nat.add_zero] at hn
      rw [if_neg (fun hx => he ((nI_eq (by omega) (by omega)).mp hx))]
      exact hn
theorem warmthOf5 {b : Bd} {σ : wx_St} (g : good b) (h : bdI 7 b σ) (hw : wm5 7 b σ) {N : Nat} (hN : N < 8) (nn : ∀ q, q < 64 → wx_nn (FP.fadd (ws (bWarm b) (fun p => decide (bN b p = N)) q) (bWarm b q)) = true) : ∀ (n i m : Nat), i + n = 64 → n < m → f_X0_warmthOf_4 7 m (nI N) (ws (bWarm b) (fun p => decide (bN b p = N)) i) (nI i) σ = some (ws (bWarm b) (fun p => decide (bN b p = N)) 64) := by
  intro n
  induction n with
  | zero =>
    intro i m hi hm
    obtain ⟨m, rfl⟩ : ∃ k, m = k + 1 := ⟨m - 1, by omega⟩
    have hi : i = 64 := by omega
    subst hi
    rw [f_X0_warmthOf_4, if_pos (by decide)]
  | succ n ih =>
    intro i m hi hm
    obtain ⟨m, rfl⟩ : ∃ k, m = k + 1 := ⟨m - 1, by omega⟩
    have hi64 : i < 64 := by omega
    have gN := g.2.1 i hi64
    have hS : ws (bWarm b) (fun p => decide (bN b p = N)) (i + 1) = if decide (bN b i = N) = true then FP.fadd (ws (bWarm b) (fun p => decide (bN b p = N)) i) (bWarm b i) else ws (bWarm b) (fun p => decide (bN b p = N)) i := rfl
    have hn := ih (i + 1) m (by omega) (by omega)
    rw [hS] at hn
    rw [f_X0_warmthOf_4, if_neg (p64_c i hi64).2.2.2.2, px_rI hi64 (by decide), h.2.1 i hi64]
    unfold f_X0_warmthOf_29
    rw [nI_1]
    by_cases he : bN b i = N
    · rw [decide_eq_true he, if_pos rfl] at hn
      rw [if_pos (by rw [he]), px_rF hi64 (by decide), hw i hi64, px_f (nn i hi64)]
      exact hn
    · rw [decide_eq_false he, if_neg (by decide)] at hn
      rw [if_neg (fun hx => he ((nI_eq (by omega) (by omega)).mp hx))]
      exact hn
theorem ofNet5 {b : Bd} {N : Nat} (h1 : 1 ≤ N) (hN : N < 8) : Rd (f_X5_ofNet (nI N) 0) b (nI (cnt (fun p => decide (bN b p = N)) 64)) ∧ Rd (f_X5_ofNet (nI N) 1) b (nI (bF b N)) := by
  have p1 := (net_yes N hN).1
  rw [decide_eq_true h1] at p1
  refine ⟨fun σ i => ?_, fun σ i => ?_⟩
  · have e5 : f_X0_placesOf 7 (nI N) σ = some (nI (cnt (fun p => decide (bN b p = N)) 64)) := places5 i.good i.bd.1 hN 64 0 2000 (by omega) (by omega)
    unfold f_X5_ofNet
    rw [px_o p1, if_neg (by decide), if_pos rfl, px_o e5]
  · unfold f_X5_ofNet
    rw [px_o p1, if_neg (by decide), if_neg (by decide), if_pos rfl, px_rI hN (by decide), i.bd.1.2.2.1 N hN]
theorem bc5 {M : Int64} {hh : Nat → Bool} (hM : ∀ p, p < 64 → mk M p = hh p) : f_J13_bitCount_95d88 M = some (nI (cnt hh 64)) := by rw [bitCount_eq, cnt_congr 64 hM]
theorem count5_0 {b : Bd} : Ch (f_X5_count 0) b (nI (bK b)) b := Ch.same (fun σ i => by
  unfold f_X5_count; rw [if_pos rfl, i.bd.1.2.2.2.2.2.1])
theorem count5_1 {b : Bd} : Ch (f_X5_count 1) b (nI (bT b)) b := Ch.same (fun σ i => by
  unfold f_X5_count; rw [if_neg (by decide), if_pos rfl, i.bd.1.2.2.2.1])
theorem count5_2 {b : Bd} : Ch (f_X5_count 2) b (nI (cnt (heat b) 64)) b := Ch.same (fun σ i => by
  obtain ⟨M, m1, m2⟩ := heated5 i.bd.1 i.good
  unfold f_X5_count
  rw [if_neg (by decide), if_neg (by decide), if_pos rfl, px_o m1, px_o (bc5 m2)])
theorem count5_3 {b : Bd} : Ch (f_X5_count 3) b (nI (bR b)) b := Ch.same (fun σ i => by
  unfold f_X5_count; rw [if_neg (by decide), if_neg (by decide), if_neg (by decide), if_pos rfl, i.bd.1.2.2.2.2.2.2.1])
theorem count5_4 {b : Bd} : Ch (f_X5_count 4) b (nI (cnt (fun p => decide (bN b p ≠ 0)) 64)) b := Ch.same (fun σ i => by
  obtain ⟨M, m1, m2⟩ := tracked5 i.good i.bd.1
  unfold f_X5_count
  rw [if_neg (by decide), if_neg (by decide), if_neg (by decide), if_neg (by decide), if_pos rfl, px_o m1, px_o (bc5 m2)])
theorem count5_5 {b : Bd} : Ch (f_X5_count 5) b (nI (cnt (sus b) 64)) b := Ch.same (fun σ i => by
  obtain ⟨M, m1, m2⟩ := suspects5 i.good i.bd.1
  unfold f_X5_count
  rw [if_neg (by decide), if_neg (by decide), if_neg (by decide), if_neg (by decide), if_neg (by decide), if_pos rfl, px_o m1, px_o (bc5 m2)])
theorem count5_6 {b : Bd} : Ch (f_X5_count 6) b (nI (cnt (cb b) 64)) b := Ch.mk (fun σ i => by
  obtain ⟨M, τ, m1, m2, m3, m4⟩ := fitting5 i.good i.kL
  refine ⟨τ, ?_, m3, m4.eqM⟩
  unfold f_X5_count f_X5_count_144
  rw [if_neg (by decide), if_neg (by decide), if_neg (by decide), if_neg (by decide), if_neg (by decide), if_neg (by decide), if_pos rfl, px_b m1, px_o (bc5 m2)])
theorem count5_7 {b : Bd} : Ch (f_X5_count 7) b (nI (outr b 64 0)) b := Ch.mk (fun σ i => by
  obtain ⟨τ, m1, m3, m4⟩ := pairs5 i.good i.kL
  refine ⟨τ, ?_, m3, m4.eqM⟩
  unfold f_X5_count f_X5_count_159
  rw [if_neg (by decide), if_neg (by decide), if_neg (by decide), if_neg (by decide), if_neg (by decide), if_neg (by decide), if_neg (by decide), if_pos rfl, px_b m1])
theorem count5_9 {b : Bd} {k : Nat} (hk : k < 4) : Ch (f_X5_count (nI (9 + k))) b (nI (bS b k)) b := Ch.same (fun σ i => by
  have r7 : ∀ (j : Nat), j < 4 → wx_rI σ 7 0 4 (nI j) (fun v => some (v, σ)) = some (nI (bS b j), σ) := fun j hj => by rw [px_rI hj (by decide), i.bd.1.1 j hj]
  rcases (show k = 0 ∨ k = 1 ∨ k = 2 ∨ k = 3 by omega) with rfl | rfl | rfl | rfl
  · unfold f_X5_count
    rw [if_neg (by decide), if_neg (by decide), if_neg (by decide), if_neg (by decide), if_neg (by decide), if_neg (by decide), if_neg (by decide), if_neg (by decide), if_neg (by decide), if_pos (by decide)]
    exact r7 0 (by decide)
  · unfold f_X5_count
    rw [if_neg (by decide), if_neg (by decide), if_neg (by decide), if_neg (by decide), if_neg (by decide), if_neg (by decide), if_neg (by decide), if_neg (by decide), if_neg (by decide), if_neg (by decide), if_pos (by decide)]
    exact r7 1 (by decide)
  · unfold f_X5_count
    rw [if_neg (by decide), if_neg (by decide), if_neg (by decide), if_neg (by decide), if_neg (by decide), if_neg (by decide), if_neg (by decide), if_neg (by decide), if_neg (by decide), if_neg (by decide), if_neg (by decide), if_pos (by decide)]
    exact r7 2 (by decide)
  · unfold f_X5_count
    rw [if_neg (by decide), if_neg (by decide), if_neg (by decide), if_neg (by decide), if_neg (by decide), if_neg (by decide), if_neg (by decide), if_neg (by decide), if_neg (by decide), if_neg (by decide), if_neg (by decide), if_neg (by decide), if_pos (by decide)]
    exact r7 3 (by decide))
theorem wouldRead5 {b : Bd} {R C R' C' : Nat} (hR : R < 8) (hC : C < 8) (hR' : R' < 8) (hC' : C' < 8) (hs : sus b (8 * R' + C') = true) : Ch (f_X5_wouldRead (nI R) (nI C) (nI R') (nI C')) b (rdf (rl b (8 * R' + C') (bK b) (8 * R + C))) b := Ch.mk (fun σ i => by
  have hP : 8 * R + C < 64 := by omega
  have hQ : 8 * R' + C' < 64 := by omega
  obtain ⟨τ, t1, t2, t3⟩ := readBy5 i.good i.kL hQ hP
  refine ⟨τ, ?_, t2, t3.eqM⟩
  unfold f_X5_wouldRead f_X5_wouldRead_54
  rw [px_o (placeOf_yes R hR C hC).1, px_o (placeOf_yes R' hR' C' hC').1, if_neg (nI_pos (by omega)), if_neg (nI_pos (by omega)), px_o (isSuspect5 i.bd.1 i.good hQ), hs, if_neg (show ¬ b01 true = 0 by decide), px_b t1])
