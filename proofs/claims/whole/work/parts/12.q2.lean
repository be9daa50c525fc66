/-! of a net; numbers; what if -/
theorem places5 {b : Bd} {σ : wx_St} (g : good b) (h : bdI 7 b σ) {N : Nat} (hN : N < 8) : ∀ (n i m : Nat), i + n = 64 → n < m → f_X0_placesOf_4 7 m (nI N) (nI (cnt (fun p => decide (bN b p = N)) i)) (nI i) σ = some (nI (cnt (fun p => decide (bN b p = N)) 64)) := by
  intro n
  induction n with
  | zero =>
    intro i m hi hm
    obtain ⟨m, rfl⟩ : ∃ k, m = k + 1 := ⟨m - 1, by omega⟩
    have hi : i = 64 := by omega
    subst hi
    rw [f_X0_placesOf_4, if_pos (by decide)]
  | succ n ih =>
    intro i m hi hm
    obtain ⟨m, rfl⟩ : ∃ k, m = k + 1 := ⟨m - 1, by omega⟩
    have hi64 : i < 64 := by omega
    have gN := g.2.1 i hi64
    have hS : cnt (fun p => decide (bN b p = N)) (i + 1) = cnt (fun p => decide (bN b p = N)) i + (if decide (bN b i = N) = true then 1 else 0) := rfl
    have hn := ih (i + 1) m (by omega) (by omega)
    rw [hS] at hn
    rw [f_X0_placesOf_4, if_neg (p64_c i hi64).2.2.2.2, px_rI hi64 (by decide), h.2.1 i hi64]
    unfold f_X0_placesOf_23
    rw [nI_1, nI_1]
    by_cases he : bN b i = N
    · rw [decide_eq_true he, if_pos rfl] at hn
      rw [if_pos (by rw [he])]
      exact hn
    · rw [decide_eq_false he, if_neg (by decide), Nat.add_zero] at hn
      rw [if_neg (fun hx => he ((nI_eq (by omega) (by omega)).mp hx))]
      exact hn
theorem warmthOf5 {b : Bd} {σ : wx_St} (g : good b) (h : bdI 7 b σ) (hw : wm5 7 b σ) {N : Nat} (hN : N < 8) (nn : ∀ q, q < 64 → wx_nn (FP.fadd (ws (bWarm b) (fun p => decide (bN b p = N)) q) (bWarm b q)) = true) : ∀ (n i m : Nat), i + n = 64 → n < m → f_X0_warmthOf_4 7 m (nI N) (ws (bWarm b) (fun p => decide (bN b p = N)) i) (nI i) σ = some (ws (bWarm b) (fun p => decide (bN b p = N)) 64) := by
  intro n
  induction n with
  | zero =>
    intro i m hi hm
    obtain ⟨m, rfl⟩ : ∃ k, m = k + 1 := ⟨m - 1, by omega⟩
    have hi : i = 64 := by omega
    subst hi
    rw [f_X0_warmthOf_4, if_pos (by decide)]
  | succ n ih =>
    intro i m hi hm
    obtain ⟨m, rfl⟩ : ∃ k, m = k + 1 := ⟨m - 1, by omega⟩
    have hi64 : i < 64 := by omega
    have gN := g.2.1 i hi64
    have hS : ws (bWarm b) (fun p => decide (bN b p = N)) (i + 1) = if decide (bN b i = N) = true then FP.fadd (ws (bWarm b) (fun p => decide (bN b p = N)) i) (bWarm b i) else ws (bWarm b) (fun p => decide (bN b p = N)) i := rfl
    have hn := ih (i + 1) m (by omega) (by omega)
    rw [hS] at hn
    rw [f_X0_warmthOf_4, if_neg (p64_c i hi64).2.2.2.2, px_rI hi64 (by decide), h.2.1 i hi64]
    unfold f_X0_warmthOf_29
    rw [nI_1]
    by_cases he : bN b i = N
    · rw [decide_eq_true he, if_pos rfl] at hn
      rw [if_pos (by rw [he]), px_rF hi64 (by decide), hw i hi64, px_f (nn i hi64)]
      exact hn
    · rw [decide_eq_false he, if_neg (by decide)] at hn
      rw [if_neg (fun hx => he ((nI_eq (by omega) (by omega)).mp hx))]
      exact hn
theorem ofNet6_loop {b : Bd} {σ : wx_St} (g : good b) (h : rfI 0 0 b σ) (hw : wm6 1 0 b σ) {N : Nat} {x2 : Int32} (hN : N < 8) (nn : ∀ q, q < 64 → wx_nn (FP.fadd (ws (bWarm b) (fun p => decide (bN b p = N)) q) (bWarm b q)) = true) {r : Int32}
    (H : (if x2 = 0 then some (nI (cnt (fun p => decide (bN b p = N)) 64)) else if x2 = 1 then wx_rI σ 16 0 109 (71 + nI N) (fun v76 => some v76) else if x2 = 2 then wx_o (f_Jxf58ca_floatToIntBits_5c35a (ws (bWarm b) (fun p => decide (bN b p = N)) 64)) (fun v87 => some v87) else some (-2)) = some r) : ∀ (n i m : Nat), i + n = 64 → n < m → f_X6_ofNet_17 m (nI N) x2 (nI (cnt (fun p => decide (bN b p = N)) i)) (ws (bWarm b) (fun p => decide (bN b p = N)) i) (nI i) σ = some r := by
  intro n
  induction n with
  | zero =>
    intro i m hi hm
    obtain ⟨m, rfl⟩ : ∃ k, m = k + 1 := ⟨m - 1, by omega⟩
    have hi : i = 64 := by omega
    subst hi
    rw [f_X6_ofNet_17, if_pos (by decide)]
    unfold f_X6_ofNet_95
    exact H
  | succ n ih =>
    intro i m hi hm
    obtain ⟨m, rfl⟩ : ∃ k, m = k + 1 := ⟨m - 1, by omega⟩
    have hi64 : i < 64 := by omega
    have gN := g.2.1 i hi64
    have hS : ws (bWarm b) (fun p => decide (bN b p = N)) (i + 1) = if decide (bN b i = N) = true then FP.fadd (ws (bWarm b) (fun p => decide (bN b p = N)) i) (bWarm b i) else ws (bWarm b) (fun p => decide (bN b p = N)) i := rfl
    have hS2 : cnt (fun p => decide (bN b p = N)) (i + 1) = cnt (fun p => decide (bN b p = N)) i + (if decide (bN b i = N) = true then 1 else 0) := rfl
    have hn := ih (i + 1) m (by omega) (by omega)
    rw [hS, hS2] at hn
    rw [f_X6_ofNet_17, if_neg (p64_c i hi64).2.2.2.2, px_o (netAt6 h hi64)]
    unfold f_X6_ofNet_49
    rw [nI_1, nI_1]
    by_cases he : bN b i = N
    · rw [decide_eq_true he, if_pos rfl, if_pos rfl] at hn
      rw [if_pos (by rw [he]), px_rF hi64 (by decide), hw.at hi64, px_f (nn i hi64)]
      exact hn
    · rw [decide_eq_false he, if_neg (by decide), if_neg (by decide), Nat.add_zero] at hn
      rw [if_neg (fun hx => he ((nI_eq (by omega) (by omega)).mp hx))]
      exact hn
theorem i_ofNet (x1 x2 : Int32) : two1 (f_X5_ofNet x1 x2) (f_X6_ofNet x1 x2) := by
  intro σ hI
  obtain ⟨b, n, h, v, sl, len, c, G, iC, iR⟩ := hI
  have g := G.1
  have hb := iC.1.1
  have hr := iR.1.1
  unfold f_X5_ofNet f_X6_ofNet
  rcases net1_cases x1 with ⟨N, hN1, hN, rfl, p1, p2⟩ | ⟨p1, p2⟩
  · rw [px_o p1, if_neg (show ¬ (1 : Int32) = 0 by decide), px_o p2, if_neg (show ¬ (1 : Int32) = 0 by decide)]
    obtain ⟨z, hz⟩ := warm_z b g
    obtain ⟨⟨w, w1, w2, w3, w4⟩, nn⟩ := ws_ok (f := bWarm b) (h := fun p => decide (bN b p = N)) hz 64 (Nat.le_refl _)
    have L := fun r H => ofNet6_loop (x2 := x2) (r := r) g hr iR.1.2 hN nn H 64 0 2000 (by omega) (by omega)
    have e5 : f_X0_placesOf 7 (nI N) σ = some (nI (cnt (fun p => decide (bN b p = N)) 64)) := places5 g hb hN 64 0 2000 (by omega) (by omega)
    have w5 : f_X0_warmthOf 7 (nI N) σ = some (ws (bWarm b) (fun p => decide (bN b p = N)) 64) := warmthOf5 g hb iC.1.2 hN nn 64 0 2000 (by omega) (by omega)
    by_cases h0 : x2 = 0
    · rw [if_pos h0, px_o e5]
      exact ⟨_, rfl, L _ (by rw [if_pos h0])⟩
    · by_cases h1 : x2 = 1
      · have e71 : (71 : Int32) + nI N = nI (71 + N) := nI_add 71 N
        have hF : σ.1 16 0 (71 + N) = nI (bF b N) := by have := hr.2.2.1 N hN; rw [Nat.zero_add] at this; exact this
        rw [if_neg h0, if_pos h1, px_rI hN (by decide), hb.2.2.1 N hN]
        exact ⟨_, rfl, L _ (by rw [if_neg h0, if_pos h1, e71, r16 σ _ (by omega), hF])⟩
      · by_cases h2 : x2 = 2
        · rw [if_neg h0, if_neg h1, if_pos h2, px_o w5, px_o (bitsOfFloat_eq' w1 (by omega) (by omega))]
          exact ⟨_, rfl, L _ (by rw [if_neg h0, if_neg h1, if_pos h2, px_o (floatToIntBits_eq w1)])⟩
        · rw [if_neg h0, if_neg h1, if_neg h2]
          exact ⟨_, rfl, L _ (by rw [if_neg h0, if_neg h1, if_neg h2])⟩
  · rw [px_o p1, if_pos rfl, px_o p2, if_pos rfl]
    exact ⟨-1, rfl, rfl⟩
theorem i_count (x : Int32) : two (f_X5_count x) (f_X6_count x) := by
  refine two.rd (fun b n h v sl len c σ G iC => ?_)
  have g := G.1
  have k0 := invC_kL iC
  have hb := iC.1.1
  have hw := iC.1.2
  have keep : ∀ r, f_X5_count x σ = some (r, σ) → (∀ ν, invR b n h v sl len c ν → f_X6_count x ν = some (r, ν)) → ∃ r σ1, f_X5_count x σ = some (r, σ1) ∧ kL b σ1 ∧ eqM σ σ1 ∧ ∀ ν, invR b n h v sl len c ν → ∃ σ2, f_X6_count x ν = some (r, σ2) ∧ eqr ν σ2 := fun r h1 h2 => ⟨r, σ, h1, k0, eqM.rf σ, fun ν iR => ⟨ν, h2 ν iR, eqr.rf ν⟩⟩
  have bc : ∀ (M : Int64) (hh : Nat → Bool), (∀ p, p < 64 → mk M p = hh p) → f_J13_bitCount_95d88 M = some (nI (cnt hh 64)) := fun M hh hM => by rw [bitCount_eq, cnt_congr 64 hM]
  have r4 : ∀ (ν : wx_St) (j : Nat) (hj : j < 109), wx_rI ν 16 0 109 (nI j) (fun v => some (v, ν)) = some (ν.1 16 0 j, ν) := fun ν j hj => r16 ν j hj _
  by_cases h0 : x = 0
  · subst h0
    exact keep (nI (bK b)) (by unfold f_X5_count; rw [if_pos rfl, hb.2.2.2.2.2.1]) (fun ν iR => by
      unfold f_X6_count
      rw [if_pos rfl, show (4 : Int32) = nI 4 from rfl, r4 ν 4 (by decide), (rf_st iR.1.1).2.1])
  by_cases h1 : x = 1
  · subst h1
    exact keep (nI (bT b)) (by unfold f_X5_count; rw [if_neg (by decide), if_pos rfl, hb.2.2.2.1]) (fun ν iR => by
      unfold f_X6_count
      rw [if_neg (by decide), if_pos rfl, show (5 : Int32) = nI 5 from rfl, r4 ν 5 (by decide), (rf_st iR.1.1).2.2.1])
  by_cases h2 : x = 2
  · subst h2
    obtain ⟨M, m1, m2⟩ := heated5 hb g
    have e : cnt (heat b) 64 = cnt (live b) (bT b) := cnt_heat g (bT b) (Nat.le_refl _)
    exact keep (nI (cnt (heat b) 64)) (by
      unfold f_X5_count
      rw [if_neg (by decide), if_neg (by decide), if_pos rfl, px_o m1, px_o (bc M _ m2)]) (fun ν iR => by
      unfold f_X6_count
      rw [if_neg (by decide), if_neg (by decide), if_pos rfl, px_o (live6 iR.1.1 g), e])
  by_cases h3 : x = 3
  · subst h3
    exact keep (nI (bR b)) (by unfold f_X5_count; rw [if_neg (by decide), if_neg (by decide), if_neg (by decide), if_pos rfl, hb.2.2.2.2.2.2.1]) (fun ν iR => by
      unfold f_X6_count
      rw [if_neg (by decide), if_neg (by decide), if_neg (by decide), if_pos rfl, show (6 : Int32) = nI 6 from rfl, r4 ν 6 (by decide), (rf_st iR.1.1).2.2.2])
  by_cases h4 : x = 4
  · subst h4
    obtain ⟨M, m1, m2⟩ := tracked5 g hb
    exact keep (nI (cnt (fun p => decide (bN b p ≠ 0)) 64)) (by
      unfold f_X5_count
      rw [if_neg (by decide), if_neg (by decide), if_neg (by decide), if_neg (by decide), if_pos rfl, px_o m1, px_o (bc M _ m2)]) (fun ν iR => by
      unfold f_X6_count
      rw [if_neg (by decide), if_neg (by decide), if_neg (by decide), if_neg (by decide), if_pos rfl, px_o (tracks6 iR.1.1 g)])
  by_cases h5 : x = 5
  · subst h5
    obtain ⟨M, m1, m2⟩ := suspects5 g hb
    exact keep (nI (cnt (sus b) 64)) (by
      unfold f_X5_count
      rw [if_neg (by decide), if_neg (by decide), if_neg (by decide), if_neg (by decide), if_neg (by decide), if_pos rfl, px_o m1, px_o (bc M _ m2)]) (fun ν iR => by
      unfold f_X6_count
      rw [if_neg (by decide), if_neg (by decide), if_neg (by decide), if_neg (by decide), if_neg (by decide), if_pos rfl, px_o (susm6 iR.1.1 g)])
  by_cases h6 : x = 6
  · subst h6
    obtain ⟨M, τ, m1, m2, m3, m4⟩ := fitting5 g k0
    refine ⟨nI (cnt (cb b) 64), τ, ?_, m3, m4.eqM, fun ν iR => ?_⟩
    · unfold f_X5_count f_X5_count_144
      rw [if_neg (by decide), if_neg (by decide), if_neg (by decide), if_neg (by decide), if_neg (by decide), if_neg (by decide), if_pos rfl, px_b m1, px_o (bc M _ m2)]
    · obtain ⟨ρ, r1, r2, r3⟩ := singles6 g iR.1.1
      refine ⟨ρ, ?_, r3.eqr⟩
      unfold f_X6_count
      rw [if_neg (by decide), if_neg (by decide), if_neg (by decide), if_neg (by decide), if_neg (by decide), if_neg (by decide), if_pos rfl, px_b r1]
  by_cases h7 : x = 7
  · subst h7
    obtain ⟨τ, m1, m3, m4⟩ := pairs5 g k0
    refine ⟨nI (outr b 64 0), τ, ?_, m3, m4.eqM, fun ν iR => ?_⟩
    · unfold f_X5_count f_X5_count_159
      rw [if_neg (by decide), if_neg (by decide), if_neg (by decide), if_neg (by decide), if_neg (by decide), if_neg (by decide), if_neg (by decide), if_pos rfl, px_b m1]
    · obtain ⟨ρ, r1, r2, r3⟩ := fp6 g iR.1.1
      refine ⟨ρ, ?_, r3.eqr⟩
      unfold f_X6_count f_X6_pairsMany
      rw [if_neg (by decide), if_neg (by decide), if_neg (by decide), if_neg (by decide), if_neg (by decide), if_neg (by decide), if_neg (by decide), if_pos rfl, px_b r1, r2.2.1]
      rfl
  by_cases h8 : x = 8
  · subst h8
    have e5 : f_X0_warmest 7 σ = some (nI (wmt (bWarm b) 63 0)) := warmest5 (f := bWarm b) (fun p hp => hw p hp) 63 1 2000 0 (by omega) (by omega) (by omega)
    exact keep (nI (wmt (bWarm b) 63 0)) (by
      unfold f_X5_count
      rw [if_neg (by decide), if_neg (by decide), if_neg (by decide), if_neg (by decide), if_neg (by decide), if_neg (by decide), if_neg (by decide), if_neg (by decide), if_pos rfl, px_o e5]) (fun ν iR => by
      have e6 : f_X6_warmest ν = some (nI (wmt (bWarm b) 63 0)) := warmest6 (f := bWarm b) (fun p hp => iR.1.2.at hp) 63 1 2000 0 (by omega) (by omega) (by omega)
      unfold f_X6_count
      rw [if_neg (by decide), if_neg (by decide), if_neg (by decide), if_neg (by decide), if_neg (by decide), if_neg (by decide), if_neg (by decide), if_neg (by decide), if_pos rfl, px_o e6])
  have r7 : ∀ (j : Nat), j < 4 → wx_rI σ 7 0 4 (nI j) (fun v => some (v, σ)) = some (nI (bS b j), σ) := fun j hj => by rw [px_rI hj (by decide), hb.1 j hj]
  by_cases h9 : x = 9
  · subst h9
    exact keep (nI (bS b 0)) (by
      unfold f_X5_count
      rw [if_neg (by decide), if_neg (by decide), if_neg (by decide), if_neg (by decide), if_neg (by decide), if_neg (by decide), if_neg (by decide), if_neg (by decide), if_neg (by decide), if_pos rfl]
      exact r7 0 (by decide)) (fun ν iR => by
      unfold f_X6_count
      rw [if_neg (by decide), if_neg (by decide), if_neg (by decide), if_neg (by decide), if_neg (by decide), if_neg (by decide), if_neg (by decide), if_neg (by decide), if_neg (by decide), if_pos rfl, ← (rf_st iR.1.1).1 0 (by decide)]
      exact r4 ν 0 (by decide))
  by_cases h10 : x = 10
  · subst h10
    exact keep (nI (bS b 1)) (by
      unfold f_X5_count
      rw [if_neg (by decide), if_neg (by decide), if_neg (by decide), if_neg (by decide), if_neg (by decide), if_neg (by decide), if_neg (by decide), if_neg (by decide), if_neg (by decide), if_neg (by decide), if_pos rfl]
      exact r7 1 (by decide)) (fun ν iR => by
      unfold f_X6_count
      rw [if_neg (by decide), if_neg (by decide), if_neg (by decide), if_neg (by decide), if_neg (by decide), if_neg (by decide), if_neg (by decide), if_neg (by decide), if_neg (by decide), if_neg (by decide), if_pos rfl, ← (rf_st iR.1.1).1 1 (by decide)]
      exact r4 ν 1 (by decide))
  by_cases h11 : x = 11
  · subst h11
    exact keep (nI (bS b 2)) (by
      unfold f_X5_count
      rw [if_neg (by decide), if_neg (by decide), if_neg (by decide), if_neg (by decide), if_neg (by decide), if_neg (by decide), if_neg (by decide), if_neg (by decide), if_neg (by decide), if_neg (by decide), if_neg (by decide), if_pos rfl]
      exact r7 2 (by decide)) (fun ν iR => by
      unfold f_X6_count
      rw [if_neg (by decide), if_neg (by decide), if_neg (by decide), if_neg (by decide), if_neg (by decide), if_neg (by decide), if_neg (by decide), if_neg (by decide), if_neg (by decide), if_neg (by decide), if_neg (by decide), if_pos rfl, ← (rf_st iR.1.1).1 2 (by decide)]
      exact r4 ν 2 (by decide))
  by_cases h12 : x = 12
  · subst h12
    exact keep (nI (bS b 3)) (by
      unfold f_X5_count
      rw [if_neg (by decide), if_neg (by decide), if_neg (by decide), if_neg (by decide), if_neg (by decide), if_neg (by decide), if_neg (by decide), if_neg (by decide), if_neg (by decide), if_neg (by decide), if_neg (by decide), if_neg (by decide), if_pos rfl]
      exact r7 3 (by decide)) (fun ν iR => by
      unfold f_X6_count
      rw [if_neg (by decide), if_neg (by decide), if_neg (by decide), if_neg (by decide), if_neg (by decide), if_neg (by decide), if_neg (by decide), if_neg (by decide), if_neg (by decide), if_neg (by decide), if_neg (by decide), if_neg (by decide), if_pos rfl, ← (rf_st iR.1.1).1 3 (by decide)]
      exact r4 ν 3 (by decide))
  have pre5 : f_X5_count x σ = if x = 13 then some (σ.2.2.1 15 1, σ) else if x = 14 then some (σ.2.2.1 14 1, σ) else some (-2, σ) := by
    unfold f_X5_count
    rw [if_neg h0, if_neg h1, if_neg h2, if_neg h3, if_neg h4, if_neg h5, if_neg h6, if_neg h7, if_neg h8, if_neg h9, if_neg h10, if_neg h11, if_neg h12]
  have pre6 : ∀ ν, f_X6_count x ν = if x = 13 then some (ν.2.2.1 16 9, ν) else if x = 14 then some (ν.2.2.1 16 4, ν) else some (-2, ν) := by
    intro ν
    unfold f_X6_count
    rw [if_neg h0, if_neg h1, if_neg h2, if_neg h3, if_neg h4, if_neg h5, if_neg h6, if_neg h7, if_neg h8, if_neg h9, if_neg h10, if_neg h11, if_neg h12]
  by_cases h13 : x = 13
  · exact keep (nI len) (by rw [pre5, if_pos h13, iC.2.2.2.1.1]) (fun ν iR => by rw [pre6, if_pos h13, iR.2.2.2.1])
  by_cases h14 : x = 14
  · exact keep (nI n) (by rw [pre5, if_neg h13, if_pos h14, iC.2.1.1]) (fun ν iR => by rw [pre6, if_neg h13, if_pos h14, iR.2.1.1])
  exact keep (-2) (by rw [pre5, if_neg h13, if_neg h14]) (fun ν iR => by rw [pre6, if_neg h13, if_neg h14])
theorem i_bestProbe (x : Int32) : two (f_X5_bestProbe x) (f_X6_bestProbe x) := by
  refine two.rd (fun b n h v sl len c σ G iC => ?_)
  have g := G.1
  have k0 := invC_kL iC
  rcases slot_cases x with ⟨s, hs, rfl, c1, c2, c3⟩ | ⟨c1, c2⟩
  · have e5 : f_X5_bestProbe (nI s) σ = f_X5_bestProbe_12 (nI s) σ := by
      unfold f_X5_bestProbe
      rcases (show s = 0 ∨ s = 1 by omega) with rfl | rfl
      · rw [if_pos (by decide)]
      · rw [if_neg (by decide), if_pos (by decide)]
    obtain ⟨M, τ, m1, m2, m3, m4⟩ := fitting5 g k0
    have bc : f_J13_bitCount_95d88 M = some (nI (cnt (cb b) 64)) := by rw [bitCount_eq, cnt_congr 64 m2]
    have hc64 := cnt_le (cb b) 64
    rw [e5]
    unfold f_X5_bestProbe_12 f_X5_bestProbe_23
    rw [px_b m1, px_o bc]
    have e6 : ∀ ν ρ, f_X6_singlesMany ν = some (nI (cnt (cb b) 64), ρ) → f_X6_bestProbe (nI s) ν = if 2 ≤ nI (cnt (cb b) 64) then f_X6_bestProbe_25 2000 (nI s) 0 ρ else some (-6, ρ) := by
      intro ν ρ hh
      unfold f_X6_bestProbe
      rw [px_o c1, if_neg (by decide), px_b hh]
    by_cases h2 : 2 ≤ cnt (cb b) 64
    · have h2' : (2 : Int32) ≤ nI (cnt (cb b) 64) := nI_le (a := 2) h2 (by omega)
      obtain ⟨μ, u1, u2, u3⟩ := best5_44 g m2 (x1 := nI s) 64 0 2000 τ (by omega) (by omega) m3
      have u1' : f_X5_bestProbe_44 2000 (nI s) M 0 0 0 τ = some (bpA b (nI s), μ) := u1
      rw [if_pos h2', u1']
      refine ⟨_, μ, rfl, u2, m4.eqM.tr u3, fun ν iR => ?_⟩
      obtain ⟨ρ, r1, r2, r3⟩ := singles6 g iR.1.1
      have h14 : ∀ q, q < 64 → ρ.1 16 14 q = b01 (cb b q) := fun q hq => (r2.1 q hq).2.1
      obtain ⟨κ, k1, k2, k3⟩ := best_25 g (x1 := nI s) 64 0 2000 ρ (by omega) (by omega) (r3.rfI (by decide) iR.1.1) h14 (fun q hq => absurd hq (Nat.not_lt_zero _))
      have k1' : f_X6_bestProbe_25 2000 (nI s) 0 ρ = f_X6_bestProbe_99 2000 (nI s) 0 (wx_sS κ 16 19 0) := k1
      have ex : bpE κ (wx_sS κ 16 19 0) := ⟨fun _ _ _ _ => rfl, fun _ _ _ _ => rfl, fun x y hn => by
        show (if x = 16 ∧ y = 19 then _ else κ.2.2.1 x y) = _
        rw [if_neg (fun hh => hn ⟨hh.1, Or.inr hh.2⟩)], rfl⟩
      obtain ⟨ω, o1, o2⟩ := best_99 (x1 := nI s) h2 64 0 2000 (wx_sS κ 16 19 0) (by omega) (by omega) (fun q hq => by
        show κ.1 16 14 q = _
        rw [k3.1 16 14 q (by omega)]
        exact h14 q hq) k2 rfl (Or.inl rfl)
      have o1' : f_X6_bestProbe_99 2000 (nI s) 0 (wx_sS κ 16 19 0) = some (bpA b (nI s), ω) := o1
      refine ⟨ω, ?_, r3.eqr.tr ((k3.tr ex).tr o2).eqr⟩
      rw [e6 ν ρ r1, if_pos h2', k1', o1']
    · have h2' : ¬ (2 : Int32) ≤ nI (cnt (cb b) 64) := nI_ge (b := 2) (by omega) (by decide)
      rw [if_neg h2']
      refine ⟨-6, τ, rfl, m3, m4.eqM, fun ν iR => ?_⟩
      obtain ⟨ρ, r1, r2, r3⟩ := singles6 g iR.1.1
      exact ⟨ρ, by rw [e6 ν ρ r1, if_neg h2'], r3.eqr⟩
  · have e5 : f_X5_bestProbe x σ = some (-2, σ) := by
      unfold f_X5_bestProbe
      rw [if_neg (fun e => by subst e; rcases c2 with h | h <;> exact absurd h (by decide)), if_neg (fun e => by subst e; rcases c2 with h | h <;> exact absurd h (by decide))]
    refine ⟨-2, σ, e5, k0, eqM.rf σ, fun ν iR => ⟨ν, ?_, eqr.rf ν⟩⟩
    unfold f_X6_bestProbe
    rw [px_o c1, if_pos rfl]
