theorem flt_pos {len : Nat} {c : Nat → Int32} (h : fltE len c 28 0 = -6) : 0 < len := by
  apply Classical.byContradiction
  intro hn
  have hl : len = 0 := by omega
  subst hl
  have hoL : ordE 0 c 0 = (false, 0) := by
    unfold ordE cd
    rw [if_neg (Nat.lt_irrefl 0)]
    rfl
  unfold fltE at h
  rw [hoL, if_neg (show ¬ (false, 0).1 = true from (by decide : ¬ false = true))] at h
  exact absurd h (by decide)
theorem spare.agr {n : Nat} {b0 : Bd} {σ τ : wx_St} (s : spare n b0 σ) (a : agr (σ.2.2.2.1 n) σ τ) (r : τ.2.2.2 = σ.2.2.2) : spare n b0 τ := by
  unfold spare
  rw [r]
  exact ⟨s.1.agr a, s.2.agr a⟩
theorem i_carryOut : two f_X5_carryOut f_X6_carryOut := by
  refine two.of (fun b n h v sl len c σ G iC iR => ?_)
  have G0 := G
  obtain ⟨gb, gn, gh, gs, gl, gc⟩ := G
  have f5 := firstFault5 (c := c) iC.2.2.2.1 gl
  unfold f_X5_carryOut
  rw [px_o f5]
  by_cases hf : fltE len c 28 0 = -6
  · have h0 := flt_pos hf
    obtain ⟨r, b', q1, q2, q3, q4⟩ := out_loop gl 28 0 2000 2000 0 0 b h0 hf (by omega) (by omega) (by omega) gb (Nat.le_refl 0)
    obtain ⟨σ8, p1, p2, p3, p4⟩ := prepare_ok G0 iC
    obtain ⟨τ, t1, t2, t3, t4⟩ := q3 σ8 p2.1.1 p2.1.2 p2.2.2.2.1
    have t1' : f_X5_carriedOut σ8 = some (nI r, τ) := t1
    have iC2 := p2.board gn t4 t2 t3
    have hρ := p2.2.1.2.1 n (by omega)
    have s2 := p3.board hρ t4
    obtain ⟨ρ, c1, c2, c3⟩ := clear5 gn iC2
    have hρ2 := iC2.2.1.2.1 n (by omega)
    have s3 := s2.agr (c3.1 _ (by omega)) c3.2
    obtain ⟨μ, k1, k2, k3⟩ := kept_ok (x := nI r) gn (nI_pos' (by omega)) c2 s3
    rw [if_pos hf, px_b p1, px_b t1', px_b c1, px_b k1]
    obtain ⟨g1, g2⟩ := push_good gn gb gh
    refine ⟨nI r, μ, b', pushN n, pushH n h b, v, sl, 0, c, rfl, ⟨q2, g1, g2, gs, Nat.zero_le _, fun _ _ => rfl⟩, k2, ((p4.tr (t4.eqC (by decide))).tr (c3.eqC (by decide))).tr k3, fun iR' => ?_⟩
    obtain ⟨κ, f1, f2⟩ := findFault6 (c := c) gl iR'.2.2.2
    have iR2 := iR'.eqr f2.eqr
    obtain ⟨ω, r1, r2, r3⟩ := record_ok G0 iR2
    have tx : txE ω (wx_sS ω 16 20 0) := txE.s ω (by decide) 0
    have iR3 := r2.eqr tx.eqr
    obtain ⟨ζ, z1, z2, z3, z4, z5⟩ := q4 (wx_sS ω 16 20 0) iR3.1.1 iR3.1.2 iR3.2.2.2 rfl
    have z1' : f_X6_carryOut_25 2000 0 1 (wx_sS ω 16 20 0) = some (nI r, ζ) := z1
    refine ⟨ζ, ?_, ?_, ((f2.eqr.1.tr r3).tr tx.eqr.1).tr z4.1⟩
    · unfold f_X6_carryOut
      rw [px_b f1, if_pos hf, px_b r1, px_l, z1']
    · obtain ⟨-, ⟨i3, i4⟩, i5, -⟩ := iR3
      refine ⟨⟨z2, z3⟩, ⟨(z4.2.2.2 4 (by decide) (by decide)).trans i3, fun j hj => ⟨(i4 j hj).1.agr (z4.2.1 2 (by decide)), (i4 j hj).2.agr (z4.2.2.1 3 (by decide) (by decide) (by decide))⟩⟩, fun s hs => ?_, z5, fun j hj => absurd hj (Nat.not_lt_zero _)⟩
      rw [z4.2.1 7 (by decide)]
      exact ⟨(i5 s hs).1, fun hv => ⟨((i5 s hs).2 hv).1.agr (z4.2.1 5 (by decide)), ((i5 s hs).2 hv).2.agr (z4.2.2.1 6 (by decide) (by decide) (by decide))⟩⟩
  · rw [if_neg hf]
    refine ⟨-3, σ, b, n, h, v, sl, len, c, rfl, G0, iC, eqC.rf σ, fun iR' => ?_⟩
    obtain ⟨κ, f1, f2⟩ := findFault6 (c := c) gl iR'.2.2.2
    refine ⟨κ, ?_, iR'.eqr f2.eqr, f2.eqr.1⟩
    unfold f_X6_carryOut
    rw [px_b f1, if_neg hf]
/-! the beginning; all together -/
theorem v0_4 {i : Nat} (h : 4 ≤ i) : wx_v0.getD i 0 = 0 := by
  match i, h with
  | 0, h => omega
  | 1, h => omega
  | 2, h => omega
  | 3, h => omega
  | i + 4, _ => rfl
def b00 : Bd := (fun i => if i = 0 then 15 else if i = 1 then 5 else if i = 2 then 20 else 3, fun _ => 0, fun _ => 0, 0, fun _ => 0, fun _ => 0, 0, 0, fun _ => 0, fun _ => 0, fun _ => 0)
theorem b00_good : good b00 := ⟨⟨by decide, by decide, by decide, by decide, by decide⟩, fun _ _ => (by decide : 0 < 8), ⟨rfl, fun _ _ => ⟨(by decide : 0 < 256), Nat.zero_testBit _, Nat.zero_testBit _⟩⟩, Nat.zero_le _, fun i hi => absurd hi (Nat.not_lt_zero _), fun i j hi => absurd hi (Nat.not_lt_zero _), Nat.zero_le _, Nat.zero_le _, fun i hi => absurd hi (Nat.not_lt_zero _)⟩
theorem wx0_I (o k i : Nat) : wx_0.1 o k i = if k = 0 ∧ (o < 11 ∨ o = 16) then wx_v0.getD i 0 else 0 := rfl
theorem b00_S : ∀ i, i < 4 → wx_v0.getD i 0 = nI (bS b00 i) := by decide +kernel
theorem inv_0 : Inv wx_0 := by
  refine ⟨b00, 0, fun _ => b00, fun _ => false, fun _ => b00, 0, fun _ => 0, ⟨b00_good, by decide, fun j hj => absurd hj (Nat.not_lt_zero _), fun _ _ h => (by cases h), by decide, fun _ _ => rfl⟩, ⟨⟨⟨fun i hi => ?_, fun p hp => ?_, fun n hn => ?_, rfl, fun i hi => absurd hi (Nat.not_lt_zero _), rfl, rfl, fun i hi => absurd hi (Nat.not_lt_zero _)⟩, fun p hp => ?_⟩, ⟨rfl, fun j hj => hj, fun i j _ _ e => e, fun j hj => absurd hj (Nat.not_lt_zero _)⟩, fun s hs => ⟨?_, fun h => (by cases h)⟩, ⟨rfl, fun j hj => absurd hj (Nat.not_lt_zero _)⟩, 0, 0, 0, fun _ => 0, ⟨by decide, by decide, by decide⟩, ?_, ?_, ?_, fun j hj => ⟨Nat.zero_le _, ?_, fun _ => rfl, fun h => (by cases h)⟩⟩, ⟨⟨⟨fun i hi => ?_, fun p hp => ?_, fun n hn => ?_, ?_, fun i hi => absurd hi (Nat.not_lt_zero _), ?_, ?_, fun i hi => absurd hi (Nat.not_lt_zero _)⟩, fun p hp => ?_⟩, ⟨rfl, fun j hj => absurd hj (Nat.not_lt_zero _)⟩, fun s hs => ⟨?_, fun h => (by cases h)⟩, ⟨rfl, fun j hj => absurd hj (Nat.not_lt_zero _)⟩⟩⟩
  · rw [wx0_I, if_pos (by decide)]
    exact b00_S i hi
  · rw [wx0_I, if_neg (by omega)]
    rfl
  · rw [wx0_I, if_neg (by omega)]
    rfl
  · rw [bWarm_0 rfl]
    rfl
  · rw [wx0_I, if_neg (by omega)]
    rfl
  · rw [wx0_I, if_neg (by omega)]
    rfl
  · rw [wx0_I, if_neg (by omega)]
    rfl
  · rw [wx0_I, if_neg (by omega)]
    rfl
  · rw [wx0_I, if_neg (by omega)]
    rfl
  · rw [wx0_I, if_pos (by decide), Nat.zero_add]
    exact b00_S i hi
  · rw [wx0_I, if_pos (by decide), v0_4 (by omega)]
    rfl
  · rw [wx0_I, if_pos (by decide), v0_4 (by omega)]
    rfl
  · rw [wx0_I, if_pos (by decide), v0_4 (by omega)]
    rfl
  · rw [wx0_I, if_pos (by decide), v0_4 (by omega)]
    rfl
  · rw [wx0_I, if_pos (by decide), v0_4 (by omega)]
    rfl
  · rw [bWarm_0 rfl]
    rfl
  · rw [wx0_I, if_neg (by omega)]
    rfl
theorem two_lw {α : Type} {f g : wx_St → Option (α × wx_St)} (h : two f g) : lw_two Inv f g := h
theorem two1_lw {α : Type} {f g : wx_St → Option α} (h : two1 f g) : lw_two Inv (lw_r f) (lw_r g) := by
  intro σ hI
  obtain ⟨r, h1, h2⟩ := h σ hI
  refine ⟨r, σ, σ, ?_, ?_, hI, Nat.le_refl _, Nat.le_refl _⟩
  · unfold lw_r
    rw [h1]
  · unfold lw_r
    rw [h2]
theorem fault_lw : lw_two Inv (lw_r f_X5_fault) f_X6_fault := by
  intro σ hI
  obtain ⟨r, σ2, h1, h2, h3, h4⟩ := i_fault σ hI
  refine ⟨r, σ, σ2, ?_, h2, h3, Nat.le_refl _, ?_⟩
  · unfold lw_r
    rw [h1]
  · rw [h4]
    exact Nat.le_refl _
theorem all_q : lw_all Inv := ⟨fun a0 a1 => two_lw (i_set a0 a1), fun a0 a1 a2 => two_lw (i_track a0 a1 a2), fun a0 a1 a2 => two_lw (i_touch a0 a1 a2), fun a0 => two_lw (i_mend a0), fun a0 a1 => two_lw (i_feed a0 a1), two_lw i_cool, fun a0 => two_lw (i_warm a0), fun a0 a1 => two_lw (i_probe a0 a1), fun a0 a1 a2 => two_lw (i_at a0 a1 a2), fun a0 a1 => two_lw (i_row a0 a1), fun a0 a1 => two1_lw (i_ofTouch a0 a1), fun a0 a1 => two1_lw (i_reading a0 a1), fun a0 a1 => two1_lw (i_ofNet a0 a1), fun a0 => two_lw (i_count a0), two1_lw i_mean, fun a0 => two_lw (i_bestProbe a0), fun a0 a1 a2 => two_lw (i_readsIn a0 a1 a2), fun a0 a1 a2 a3 => two_lw (i_wouldRead a0 a1 a2 a3), fun a0 => two_lw (i_put a0), two_lw i_wipe, fault_lw, two_lw i_carryOut, two_lw i_undo, fun a0 => two_lw (i_save a0), fun a0 => two_lw (i_restore a0)⟩
