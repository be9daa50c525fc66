/-! READERS, on both sides -/
def eqr (σ τ : wx_St) : Prop := eqx 16 σ τ ∧ (∀ k, k < 9 → τ.1 16 k = σ.1 16 k) ∧ (∀ k, k < 10 → τ.2.1 16 k = σ.2.1 16 k) ∧ (∀ y, y < 16 → τ.2.2.1 16 y = σ.2.2.1 16 y)
theorem eqr.rf (σ : wx_St) : eqr σ σ := ⟨eqx.rf 16 σ, fun _ _ => rfl, fun _ _ => rfl, fun _ _ => rfl⟩
theorem eqr.tr {σ τ ρ : wx_St} (h : eqr σ τ) (h' : eqr τ ρ) : eqr σ ρ := ⟨h.1.tr h'.1, fun k hk => (h'.2.1 k hk).trans (h.2.1 k hk), fun k hk => (h'.2.2.1 k hk).trans (h.2.2.1 k hk), fun y hy => (h'.2.2.2 y hy).trans (h.2.2.2 y hy)⟩
theorem invR.eqr {b n h v sl len c} {σ τ : wx_St} (i : invR b n h v sl len c σ) (e : eqr σ τ) : invR b n h v sl len c τ :=
  i.rows (i.1.1.agr (e.2.1 0 (by decide))) (i.1.2.agr (e.2.2.1 1 (by decide))) (fun k hk => e.2.1 k (by omega)) (fun k hk => e.2.2.1 k (by omega)) (e.2.2.2 4 (by decide)) (e.2.2.2 9 (by decide))
theorem fpE.eqr {σ τ : wx_St} (h : fpE σ τ) : eqr σ τ := ⟨⟨fun x hx => ⟨by funext k i; exact h.1 x k i (fun hh => hx hh.1), by funext k i; exact h.2.1 x k i (fun hh => hx hh.1), by funext y; exact h.2.2.1 x y (fun hh => hx hh.1)⟩, h.2.2.2⟩, fun k hk => by funext i; exact h.1 16 k i (by omega), fun k hk => by funext i; exact h.2.1 16 k i (by omega), fun y hy => h.2.2.1 16 y (by omega)⟩
theorem fsE.eqr {σ τ : wx_St} (h : fsE σ τ) : eqr σ τ := h.fpE.eqr
theorem bpE.eqr {σ τ : wx_St} (h : bpE σ τ) : eqr σ τ := ⟨⟨fun x hx => ⟨by funext k i; exact h.1 x k i (fun hh => hx hh.1), by funext k i; exact h.2.1 x k i (fun hh => hx hh.1), by funext y; exact h.2.2.1 x y (fun hh => hx hh.1)⟩, h.2.2.2⟩, fun k hk => by funext i; exact h.1 16 k i (by omega), fun k hk => by funext i; exact h.2.1 16 k i (by omega), fun y hy => h.2.2.1 16 y (by omega)⟩
theorem invC_kL {b n h v sl len c} {σ : wx_St} (i : invC b n h v sl len c σ) : kL b σ := ⟨i.1.1, i.2.2.2.2⟩
theorem invC.ofM {b n h v sl len c} {σ τ : wx_St} (hn : n ≤ 6) (i : invC b n h v sl len c σ) (e : eqM σ τ) (k : kL b τ) : invC b n h v sl len c τ := by
  obtain ⟨⟨i1, i2⟩, i3, i4, i5, -⟩ := i
  have a : ∀ x, x ≠ 8 ∧ x ≠ 12 ∧ x ≠ 13 → agr x σ τ := e.1
  refine ⟨⟨k.1, i2.agr (a 7 (by decide))⟩, i3.of (by omega) (fun j hj => a _ ?_) (a 14 (by decide)).2.2 e.2.1, i4.of (a 9 (by decide)) (a 10 (by decide)) (a 11 (by decide)).1, i5.of (a 15 (by decide)), k.2⟩
  have := i3.2.1 j (by omega)
  omega
theorem eqM.eqC {σ τ : wx_St} (e : eqM σ τ) : eqC σ τ := ⟨e.1 16 (by decide), e.2.2⟩
theorem two.rd {α : Type} {f g : wx_St → Option (α × wx_St)} (H : ∀ b n h v sl len c σ, gA b n h v sl len c → invC b n h v sl len c σ → ∃ r σ1, f σ = some (r, σ1) ∧ kL b σ1 ∧ eqM σ σ1 ∧ ∀ ν, invR b n h v sl len c ν → ∃ σ2, g ν = some (r, σ2) ∧ eqr ν σ2) : two f g := by
  refine two.of (fun b n h v sl len c σ G iC iR => ?_)
  obtain ⟨r, σ1, f1, k1, e1, g1⟩ := H b n h v sl len c σ G iC
  refine ⟨r, σ1, b, n, h, v, sl, len, c, f1, G, iC.ofM G.2.1 e1 k1, e1.eqC, fun iR' => ?_⟩
  obtain ⟨σ2, h1, h2⟩ := g1 σ1 iR'
  exact ⟨σ2, h1, iR'.eqr h2, h2.1⟩
/-- both sides without a change -/
def two1 {α : Type} (f g : wx_St → Option α) : Prop := ∀ σ, Inv σ → ∃ r, f σ = some r ∧ g σ = some r
theorem warm_z (b : Bd) (g : good b) : ∃ z : Nat → Int, ∀ p, p < 64 → fl (bWarm b p) false (z p) ∧ 0 ≤ z p ∧ z p ≤ 301 * 2 ^ 156 ∧ (z p = 0 ∨ 2 ^ 36 ≤ z p) := by
  have gK := g.2.2.2.2.2.2.1
  exact runs_low (h := heat b) g.set (k := bK b) (by omega)
theorem wm6.at {b : Bd} {σ : wx_St} (h : wm6 1 0 b σ) {p : Nat} (hp : p < 64) : σ.2.1 16 1 p = bWarm b p := by
  have := h p hp
  rw [Nat.zero_add] at this
  exact this
theorem b01_if (c : Bool) {σ : wx_St} : (if b01 c = 0 then some ((0 : Int32), σ) else some (1, σ)) = some (b01 c, σ) := by
  cases c
  · exact if_pos rfl
  · exact if_neg (by decide)
theorem b01_ifo (c : Bool) : (if b01 c = 0 then some (0 : Int32) else some 1) = some (b01 c) := by
  cases c
  · exact if_pos rfl
  · exact if_neg (by decide)
theorem i_at (x1 x2 x3 : Int32) : two (f_X5_at x1 x2 x3) (f_X6_at x1 x2 x3) := by
  refine two.rd (fun b n h v sl len c σ G iC => ?_)
  have g := G.1
  have gK := g.2.2.2.2.2.2.1
  have k0 := invC_kL iC
  have hb := iC.1.1
  have hw := iC.1.2
  rcases place_cases x1 x2 with ⟨R, C, hR, hC, rfl, rfl, p1, p2, p3⟩ | ⟨p1, p2⟩
  · have hP : 8 * R + C < 64 := by omega
    unfold f_X5_at
    rw [px_o p1, if_pos (nI_pos' (by omega))]
    have pre : ∀ (ν : wx_St) r σ2, (if x3 = 0 then wx_o (f_X6_netAt (nI (8 * R + C)) ν) (fun v63 => some (v63, ν)) else if x3 = 1 then wx_rF ν 16 1 64 (nI (8 * R + C)) (fun v73 => wx_o (f_Jxf58ca_floatToIntBits_5c35a v73) (fun v74 => some (v74, ν))) else if x3 = 2 then wx_rF ν 16 1 64 (nI (8 * R + C)) (fun v84 => wx_o (f_X6_readOf v84) (fun v85 => some (v85, ν))) else if x3 = 3 then wx_o (f_X6_isSuspect (nI (8 * R + C)) ν) (fun v92 => if v92 = 0 then f_X6_at_103 (nI R) (nI C) x3 (nI (8 * R + C)) 0 ν else f_X6_at_103 (nI R) (nI C) x3 (nI (8 * R + C)) 1 ν) else if x3 = 4 then wx_b (f_X6_findSuspects ν) (fun v105 σ105 => wx_rI σ105 16 14 64 (nI (8 * R + C)) (fun v114 => some (v114, σ105))) else if x3 = 5 then wx_b (f_X6_findPairs ν) (fun v117 σ117 => wx_rI σ117 16 15 64 (nI (8 * R + C)) (fun v126 => some (v126, σ117))) else if x3 = 6 then wx_o (f_X6_touchAt (nI (8 * R + C)) ν) (fun v131 => some (v131, ν)) else some ((-2), ν)) = some (r, σ2) → f_X6_at (nI R) (nI C) x3 ν = some (r, σ2) := by
      intro ν r σ2 hh
      unfold f_X6_at
      rw [px_o p2, if_neg (by decide), px_o p3]
      exact hh
    by_cases h0 : x3 = 0
    · rw [if_pos h0, px_rI hP (by decide), hb.2.1 _ hP]
      refine ⟨_, σ, rfl, k0, eqM.rf σ, fun ν iR => ⟨ν, pre ν _ _ ?_, eqr.rf ν⟩⟩
      rw [if_pos h0, px_o (netAt6 iR.1.1 hP)]
    · by_cases h1 : x3 = 1
      · obtain ⟨z, hz⟩ := warm_z b g
        obtain ⟨z1, z2, z3, z4⟩ := hz _ hP
        rw [if_neg h0, if_pos h1, px_rF hP (by decide), hw _ hP, px_o (bitsOfFloat_eq z1 z4 (by omega))]
        refine ⟨_, σ, rfl, k0, eqM.rf σ, fun ν iR => ⟨ν, pre ν _ _ ?_, eqr.rf ν⟩⟩
        rw [if_neg h0, if_pos h1, px_rF hP (by decide), iR.1.2.at hP, px_o (floatToIntBits_eq z1)]
      · by_cases h2 : x3 = 2
        · have ok : okW (bWarm b (8 * R + C)) := rd_ok g.set (by omega) hP
          rw [if_neg h0, if_neg h1, if_pos h2, px_rF hP (by decide), hw _ hP, px_o (readOf5 ok.1)]
          refine ⟨_, σ, rfl, k0, eqM.rf σ, fun ν iR => ⟨ν, pre ν _ _ ?_, eqr.rf ν⟩⟩
          rw [if_neg h0, if_neg h1, if_pos h2, px_rF hP (by decide), iR.1.2.at hP, px_o (readOf6 ok.1)]
        · by_cases h3 : x3 = 3
          · rw [if_neg h0, if_neg h1, if_neg h2, if_pos h3, px_o (isSuspect5 hb g hP)]
            refine ⟨_, σ, b01_if (sus b (8 * R + C)), k0, eqM.rf σ, fun ν iR => ⟨ν, pre ν _ _ ?_, eqr.rf ν⟩⟩
            rw [if_neg h0, if_neg h1, if_neg h2, if_pos h3, px_o (isSuspect6 iR.1.1 g hP)]
            exact b01_if _
          · by_cases h4 : x3 = 4
            · obtain ⟨τ, t1, t2, t3⟩ := couldBe5 g k0 hP
              rw [if_neg h0, if_neg h1, if_neg h2, if_neg h3, if_pos h4, px_b t1]
              refine ⟨_, τ, b01_if (cb b (8 * R + C)), t2, t3.eqM, fun ν iR => ?_⟩
              obtain ⟨ρ, r1, r2, r3⟩ := fs6 g iR.1.1
              refine ⟨ρ, pre ν _ _ ?_, r3.eqr⟩
              rw [if_neg h0, if_neg h1, if_neg h2, if_neg h3, if_pos h4, px_b r1, px_rI hP (by decide), (r2.1 _ hP).2.1]
            · by_cases h5 : x3 = 5
              · obtain ⟨τ, t1, t2, t3⟩ := one2_5 g k0 hP
                rw [if_neg h0, if_neg h1, if_neg h2, if_neg h3, if_neg h4, if_pos h5, px_b t1]
                refine ⟨_, τ, b01_if (cb2 b (8 * R + C)), t2, t3.eqM, fun ν iR => ?_⟩
                obtain ⟨ρ, r1, r2, r3⟩ := fp6 g iR.1.1
                refine ⟨ρ, pre ν _ _ ?_, r3.eqr⟩
                rw [if_neg h0, if_neg h1, if_neg h2, if_neg h3, if_neg h4, if_pos h5, px_b r1, px_rI hP (by decide), r2.2.2 _ hP, outD_cb2 b hP]
              · by_cases h6 : x3 = 6
                · obtain ⟨r, t1, t2⟩ := touchAt5 hb g hP
                  rw [if_neg h0, if_neg h1, if_neg h2, if_neg h3, if_neg h4, if_neg h5, if_pos h6, px_o t1]
                  refine ⟨_, σ, rfl, k0, eqM.rf σ, fun ν iR => ?_⟩
                  obtain ⟨r', u1, u2⟩ := touchAt6 iR.1.1 g hP
                  refine ⟨ν, pre ν _ _ ?_, eqr.rf ν⟩
                  rw [if_neg h0, if_neg h1, if_neg h2, if_neg h3, if_neg h4, if_neg h5, if_pos h6, px_o u1, u2.uniq g t2]
                · rw [if_neg h0, if_neg h1, if_neg h2, if_neg h3, if_neg h4, if_neg h5, if_neg h6]
                  refine ⟨_, σ, rfl, k0, eqM.rf σ, fun ν iR => ⟨ν, pre ν _ _ ?_, eqr.rf ν⟩⟩
                  rw [if_neg h0, if_neg h1, if_neg h2, if_neg h3, if_neg h4, if_neg h5, if_neg h6]
  · unfold f_X5_at
    rw [px_o p1, if_neg (by decide)]
    refine ⟨-1, σ, rfl, k0, eqM.rf σ, fun ν iR => ⟨ν, ?_, eqr.rf ν⟩⟩
    unfold f_X6_at
    rw [px_o p2, if_pos rfl]
theorem row6_loop {h : Nat → Bool} {R : Nat} (hR : R < 8) {x2 : Int32} {ν : wx_St} (H : ∀ c, c < 8 → ∀ K y, (wx_o (f_X6_placeOf (nI R) (nI c)) (fun v40 => if x2 = 0 then wx_o (f_X6_netAt v40 ν) (fun v52 => if v52 ≤ 0 then f_X6_row_88 K (nI R) x2 y (nI c) v40 0 ν else f_X6_row_88 K (nI R) x2 y (nI c) v40 1 ν) else if x2 = 1 then wx_rI ν 16 13 64 v40 (fun v77 => f_X6_row_88 K (nI R) x2 y (nI c) v40 v77 ν) else wx_rI ν 16 14 64 v40 (fun v87 => f_X6_row_88 K (nI R) x2 y (nI c) v40 v87 ν))) = K (nI R) x2 (y ||| (b01 (h (8 * R + c)) <<< (nI c &&& 31))) (nI (c + 1)) ν) : ∀ (n c m : Nat), c + n = 8 → n < m → f_X6_row_30 m (nI R) x2 (colF h R c) (nI c) ν = some (colF h R 8, ν) := by
  intro n
  induction n with
  | zero =>
    intro c m hc hm
    obtain ⟨m, rfl⟩ : ∃ k, m = k + 1 := ⟨m - 1, by omega⟩
    have hc : c = 8 := by omega
    subst hc
    rw [f_X6_row_30, if_pos (by decide)]
  | succ n ih =>
    intro c m hc hm
    obtain ⟨m, rfl⟩ : ∃ k, m = k + 1 := ⟨m - 1, by omega⟩
    rw [f_X6_row_30, if_neg (show ¬ (8 : Int32) ≤ nI c from nI_ge (a := c) (b := 8) (by omega) (by decide)), H c (by omega)]
    exact ih (c + 1) m (by omega) (by omega)
theorem x2_cases (x : Int32) : (x = 0 ∧ f_X6_within x 0 2 = some 1) ∨ (x = 1 ∧ f_X6_within x 0 2 = some 1) ∨ (x = 2 ∧ f_X6_within x 0 2 = some 1) ∨ (¬ x = 0 ∧ ¬ x = 1 ∧ ¬ x = 2 ∧ f_X6_within x 0 2 = some 0) := by
  rcases in_cases x (n := 3) (by decide) with ⟨s, hs, rfl⟩ | hx
  · rcases (show s = 0 ∨ s = 1 ∨ s = 2 by omega) with rfl | rfl | rfl
    · exact Or.inl ⟨rfl, by decide +kernel⟩
    · exact Or.inr (Or.inl ⟨rfl, by decide +kernel⟩)
    · exact Or.inr (Or.inr (Or.inl ⟨rfl, by decide +kernel⟩))
  · refine Or.inr (Or.inr (Or.inr ⟨fun e => ?_, fun e => ?_, fun e => ?_, within6_o (n := 2) (by decide) hx⟩))
    · subst e; rcases hx with h | h <;> exact absurd h (by decide)
    · subst e; rcases hx with h | h <;> exact absurd h (by decide)
    · subst e; rcases hx with h | h <;> exact absurd h (by decide)
theorem i_row (x1 x2 : Int32) : two (f_X5_row x1 x2) (f_X6_row x1 x2) := by
  refine two.rd (fun b n h v sl len c σ G iC => ?_)
  have g := G.1
  have k0 := invC_kL iC
  have hb := iC.1.1
  rcases in_cases x1 (n := 8) (by decide) with ⟨R, hR, rfl⟩ | hx
  · have hlt : nI R < 8 := nI_lt (b := 8) hR (by decide)
    have pre : ∀ (ν ρ : wx_St) (hh : Nat → Bool), f_X6_within x2 0 2 = some 1 → f_X6_findSuspects ν = some ((), ρ) → (∀ c, c < 8 → ∀ K y, (wx_o (f_X6_placeOf (nI R) (nI c)) (fun v40 => if x2 = 0 then wx_o (f_X6_netAt v40 ρ) (fun v52 => if v52 ≤ 0 then f_X6_row_88 K (nI R) x2 y (nI c) v40 0 ρ else f_X6_row_88 K (nI R) x2 y (nI c) v40 1 ρ) else if x2 = 1 then wx_rI ρ 16 13 64 v40 (fun v77 => f_X6_row_88 K (nI R) x2 y (nI c) v40 v77 ρ) else wx_rI ρ 16 14 64 v40 (fun v87 => f_X6_row_88 K (nI R) x2 y (nI c) v40 v87 ρ))) = K (nI R) x2 (y ||| (b01 (hh (8 * R + c)) <<< (nI c &&& 31))) (nI (c + 1)) ρ) → f_X6_row (nI R) x2 ν = some (colF hh R 8, ρ) := by
      intro ν ρ hh hwi hfs H
      unfold f_X6_row
      rw [px_o (onSide_yes R hR), if_neg (by decide), px_o hwi, if_neg (by decide), px_b hfs]
      exact row6_loop hR H 8 0 2000 (by omega) (by omega)
    unfold f_X5_row
    rw [if_neg (nI_pos (by omega)), if_pos hlt]
    rcases x2_cases x2 with ⟨rfl, hwi⟩ | ⟨rfl, hwi⟩ | ⟨rfl, hwi⟩ | ⟨n0, n1, n2, hwi⟩
    · obtain ⟨M, m1, m2⟩ := tracked5 g hb
      rw [if_pos rfl, px_o m1, px_o (columnsOf5 m2 hR)]
      refine ⟨_, σ, rfl, k0, eqM.rf σ, fun ν iR => ?_⟩
      obtain ⟨ρ, r1, r2, r3⟩ := fs6 g iR.1.1
      refine ⟨ρ, pre ν ρ _ hwi r1 (fun c hc K y => ?_), r3.eqr⟩
      have hP : 8 * R + c < 64 := by omega
      rw [px_o (placeOf_yes R hR c hc).2.2, if_pos rfl, px_o (netAt6 (r3.rfI (by decide) iR.1.1) hP)]
      unfold f_X6_row_88
      rw [nI_1]
      by_cases h0 : bN b (8 * R + c) = 0
      · rw [if_pos ((nI_le0 _ (g.2.1 _ hP)).mpr h0), decide_eq_false (fun hh : bN b (8 * R + c) ≠ 0 => hh h0)]
        rfl
      · rw [if_neg (fun hh => h0 ((nI_le0 _ (g.2.1 _ hP)).mp hh)), decide_eq_true (show bN b (8 * R + c) ≠ 0 from h0)]
        rfl
    · obtain ⟨M, m1, m2⟩ := suspects5 g hb
      rw [if_neg (by decide), if_pos rfl, px_o m1, px_o (columnsOf5 m2 hR)]
      refine ⟨_, σ, rfl, k0, eqM.rf σ, fun ν iR => ?_⟩
      obtain ⟨ρ, r1, r2, r3⟩ := fs6 g iR.1.1
      refine ⟨ρ, pre ν ρ _ hwi r1 (fun c hc K y => ?_), r3.eqr⟩
      have hP : 8 * R + c < 64 := by omega
      rw [px_o (placeOf_yes R hR c hc).2.2, if_neg (by decide), if_pos rfl, px_rI hP (by decide), (r2.1 _ hP).1]
      unfold f_X6_row_88
      rw [nI_1]
    · obtain ⟨M, τ, m1, m2, m3, m4⟩ := fitting5 g k0
      rw [if_neg (by decide), if_neg (by decide), if_pos rfl, px_b m1]
      unfold f_X5_row_75
      rw [px_o (columnsOf5 m2 hR)]
      refine ⟨_, τ, rfl, m3, m4.eqM, fun ν iR => ?_⟩
      obtain ⟨ρ, r1, r2, r3⟩ := fs6 g iR.1.1
      refine ⟨ρ, pre ν ρ _ hwi r1 (fun c hc K y => ?_), r3.eqr⟩
      have hP : 8 * R + c < 64 := by omega
      rw [px_o (placeOf_yes R hR c hc).2.2, if_neg (by decide), if_neg (by decide), px_rI hP (by decide), (r2.1 _ hP).2.1]
      unfold f_X6_row_88
      rw [nI_1]
    · rw [if_neg n0, if_neg n1, if_neg n2]
      refine ⟨-2, σ, rfl, k0, eqM.rf σ, fun ν iR => ⟨ν, ?_, eqr.rf ν⟩⟩
      unfold f_X6_row
      rw [px_o (onSide_yes R hR), if_neg (by decide), px_o hwi, if_pos rfl]
  · have e : f_X5_row x1 x2 σ = some (-1, σ) := by
      unfold f_X5_row f_X5_row_10
      rcases out_not hx with h | h
      · rw [if_pos h]
      · by_cases h2 : x1 < 0
        · rw [if_pos h2]
        · rw [if_neg h2, if_neg (show ¬ x1 < 8 from h)]
    refine ⟨-1, σ, e, k0, eqM.rf σ, fun ν iR => ⟨ν, ?_, eqr.rf ν⟩⟩
    unfold f_X6_row
    rw [px_o (onSide_no hx), if_pos rfl]
theorem b01_rev (c : Bool) : some (b01 c) = (if b01 c = 0 then some (0 : Int32) else some 1) := (b01_ifo c).symm
theorem i_ofTouch (x1 x2 : Int32) : two1 (f_X5_ofTouch x1 x2) (f_X6_ofTouch x1 x2) := by
  intro σ hI
  obtain ⟨b, n, h, v, sl, len, c, G, iC, iR⟩ := hI
  have g := G.1
  have gT := g.2.2.2.1
  have hb := iC.1.1
  have hr := iR.1.1
  rcases isTouch6 hr g x1 with ⟨⟨t, ht, rfl⟩, h1⟩ | ⟨hx, h1⟩
  · obtain ⟨g1, g2, g3, g4⟩ := g.2.2.2.2.1 t ht
    obtain ⟨b1, b2⟩ := hb.2.2.2.2.1 t ht
    obtain ⟨q1, q2⟩ := touchP6 hr g ht
    have e5 : f_X5_ofTouch (nI t) x2 σ = if x2 = 0 then some (nI (bP b t)) else if x2 = 1 then some (nI (bN b (bP b t))) else if x2 = 2 then some (nI (bO b t)) else if x2 = 3 then some (b01 (live b t)) else some (-2) := by
      unfold f_X5_ofTouch f_X5_ofTouch_15 f_X5_ofTouch_102
      rw [if_neg (nI_pos (by omega)), hb.2.2.2.1, if_pos (nI_lt ht (by omega)), px_rI (by omega) (by decide), b1, px_rI (by omega) (by decide), b1, px_rI g1 (by decide), hb.2.1 _ g1, px_rI (by omega) (by decide), b2, px_o (isLive5 hb g ht), b01_ifo]
    have e6 : f_X6_ofTouch (nI t) x2 σ = if x2 = 0 then some (nI (bP b t)) else if x2 = 1 then some (nI (bN b (bP b t))) else if x2 = 2 then some (nI (bO b t)) else if x2 = 3 then some (b01 (live b t)) else some (-2) := by
      unfold f_X6_ofTouch f_X6_ofTouch_78
      rw [px_o h1, if_neg (show ¬ (1 : Int32) = 0 by decide), px_o q1, px_o q1, px_o (netAt6 hr g1), px_o q2, px_o (isLive6 hr g ht), b01_ifo]
    rw [e5, e6]
    by_cases h0 : x2 = 0
    · rw [if_pos h0]
      exact ⟨_, rfl, rfl⟩
    · rw [if_neg h0]
      by_cases h1 : x2 = 1
      · rw [if_pos h1]
        exact ⟨_, rfl, rfl⟩
      · rw [if_neg h1]
        by_cases h2 : x2 = 2
        · rw [if_pos h2]
          exact ⟨_, rfl, rfl⟩
        · rw [if_neg h2]
          by_cases h3 : x2 = 3
          · rw [if_pos h3]
            exact ⟨_, rfl, rfl⟩
          · rw [if_neg h3]
            exact ⟨_, rfl, rfl⟩
  · refine ⟨-1, ?_, ?_⟩
    · unfold f_X5_ofTouch f_X5_ofTouch_15
      rcases out_not hx with h | h
      · rw [if_pos h]
      · by_cases h2 : x1 < 0
        · rw [if_pos h2]
        · rw [if_neg h2, hb.2.2.2.1, if_neg h]
    · unfold f_X6_ofTouch
      rw [px_o h1, if_pos rfl]
theorem i_reading (x1 x2 : Int32) : two1 (f_X5_reading x1 x2) (f_X6_reading x1 x2) := by
  intro σ hI
  obtain ⟨b, n, h, v, sl, len, c, G, iC, iR⟩ := hI
  have g := G.1
  have gR := g.2.2.2.2.2.2.2.1
  have hb := iC.1.1
  have hr := iR.1.1
  obtain ⟨s1, s2, s3, s4⟩ := rf_st hr
  unfold f_X5_reading f_X5_reading_15 f_X6_reading f_X6_reading_39
  rw [show wx_rI σ 16 0 109 6 = wx_rI σ 16 0 109 (nI 6) from rfl, r16 σ 6 (by decide), s4, hb.2.2.2.2.2.2.1]
  rcases in_cases x1 (n := bR b) (by omega) with ⟨i, hi, rfl⟩ | hx
  · obtain ⟨b1, b2, b3⟩ := hb.2.2.2.2.2.2.2 i hi
    obtain ⟨d0, d1, d2⟩ := rdp6 hr g hi
    have e1 : nI (bR b) - 1 = nI (bR b - 1) := nI_sub (m := bR b) (k := 1) (by omega)
    rw [if_neg (nI_pos (by omega)), if_pos (nI_lt hi (by omega)), e1, px_o (within6_i (by omega) (by omega)), if_neg (show ¬ (1 : Int32) = 0 by decide)]
    rcases x2_cases x2 with ⟨rfl, hwi⟩ | ⟨rfl, hwi⟩ | ⟨rfl, hwi⟩ | ⟨n0, n1, n2, hwi⟩
    · rw [if_pos (show (0 : Int32) = 0 from rfl), px_rI (by omega) (by decide), b1, px_o hwi, if_neg (show ¬ (1 : Int32) = 0 by decide), px_o d0]
      exact ⟨_, rfl, rfl⟩
    · rw [if_neg (show ¬ (1 : Int32) = 0 by decide), if_pos (show (1 : Int32) = 1 from rfl), px_rI (by omega) (by decide), b2, px_o hwi, if_neg (show ¬ (1 : Int32) = 0 by decide), px_o d1]
      exact ⟨_, rfl, rfl⟩
    · rw [if_neg (show ¬ (2 : Int32) = 0 by decide), if_neg (show ¬ (2 : Int32) = 1 by decide), if_pos (show (2 : Int32) = 2 from rfl), px_rI (by omega) (by decide), b3, px_o hwi, if_neg (show ¬ (1 : Int32) = 0 by decide), px_o d2]
      exact ⟨_, rfl, rfl⟩
    · rw [if_neg n0, if_neg n1, if_neg n2, px_o hwi, if_pos (show (0 : Int32) = 0 from rfl)]
      exact ⟨_, rfl, rfl⟩
  · have hno : ¬ ((0 : Int32) ≤ x1 ∧ x1 ≤ nI (bR b) - 1) := by
      rintro ⟨h1, h2⟩
      have e0 : (0 : Int32).toInt = 0 := rfl
      by_cases hT0 : bR b = 0
      · rw [hT0] at h2 hx
        rw [Int32.le_iff_toInt_le, e0] at h1
        rw [Int32.le_iff_toInt_le, show (nI 0 - 1 : Int32).toInt = -1 from rfl] at h2
        omega
      · have e1 : nI (bR b) - 1 = nI (bR b - 1) := nI_sub (m := bR b) (k := 1) (by omega)
        rw [e1, Int32.le_iff_toInt_le, nI_toInt (by omega)] at h2
        rw [Int32.le_iff_toInt_le, e0] at h1
        rcases hx with hx | hx
        · rw [Int32.lt_iff_toInt_lt, e0] at hx
          omega
        · rw [Int32.le_iff_toInt_le, nI_toInt (by omega)] at hx
          omega
    rw [px_o (within6_f hno), if_pos (show (0 : Int32) = 0 from rfl)]
    refine ⟨-1, ?_, rfl⟩
    rcases out_not hx with h | h
    · rw [if_pos h]
    · by_cases h2 : x1 < 0
      · rw [if_pos h2]
      · rw [if_neg h2, if_neg h]
theorem i_mean : two1 f_X5_mean f_X6_mean := by
  intro σ hI
  obtain ⟨b, n, h, v, sl, len, c, G, iC, iR⟩ := hI
  obtain ⟨z, hz⟩ := warm_z b G.1
  have h0 : dl FP.dconst0 false 0 := ⟨0, -1074, by decide +kernel, rfl⟩
  have hI0 : msI 0 0 := ⟨by omega, by omega, Or.inl rfl⟩
  have e5 := mean5 (σ := σ) (f := bWarm b) (z := z) (fun i hi => ⟨iC.1.2 i hi, hz i hi⟩) 64 0 2000 FP.dconst0 0 (by omega) (by omega) h0 hI0
  have e6 := mean6 (σ := σ) (f := bWarm b) (z := z) (fun i hi => ⟨iR.1.2.at hi, hz i hi⟩) 64 0 2000 FP.dconst0 0 (by omega) (by omega) h0 hI0
  exact ⟨_, e5, e6⟩
