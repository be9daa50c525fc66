theorem measure5 {b : Bd} (g : good b) {R C v : Nat} (hR : R < 8) (hC : C < 8) (hr : bR b < 8) (w3 : rdf (bWarm b (8 * R + C)) = nI v) : Cs (f_X0_measure 7 (nI R) (nI C)) b (nI v) (bRead b (8 * R + C) v) := by
  have p1 := (placeOf_yes R hR C hC).1
  have gR := g.2.2.2.2.2.2.2.1
  have gK := g.2.2.2.2.2.2.1
  have gT := g.2.2.2.1
  have hP : 8 * R + C < 64 := by omega
  have w1 : wx_nn (FP.fmul (bWarm b (8 * R + C)) 1092616192) = true := (rd_ok (h := heat b) g.set (k := bK b) (p := 8 * R + C) (by omega) hP).1
  intro σ hb hw
  obtain ⟨b1, b2, b3, b4, b5, b6, b7, b8⟩ := hb
  unfold f_X0_measure
  rw [px_o p1, if_pos (nI_pos' (by omega)), b7, if_pos (show nI (bR b) < 8 from nI_lt (b := 8) hr (by decide)), px_rF hP (by decide), hw _ hP, px_o (readOf5 w1), w3, px_w hr (by decide), nI_clamp (by omega)]
  show ∃ τ, wx_w (wx_sI _ 7 11 (Int32.toNatClampNeg (σ.2.2.1 7 9)) (nI v)) 8 (σ.2.2.1 7 9) _ = _ ∧ _
  rw [b7, px_w hr (by decide), nI_clamp (by omega)]
  show ∃ τ, wx_w (wx_sI _ 7 12 (Int32.toNatClampNeg (σ.2.2.1 7 9)) (σ.2.2.1 7 6)) 8 (σ.2.2.1 7 9) _ = _ ∧ _
  rw [b7, b6, px_w hr (by decide), nI_clamp (by omega)]
  unfold wx_l
  show ∃ τ, some (nI v, wx_sS _ 7 9 (σ.2.2.1 7 9 + 1)) = _ ∧ _
  rw [b7, nI_1]
  have hI : ∀ x y i, (wx_sS (wx_sI (wx_sI (wx_sI σ 7 10 (bR b) (nI (8 * R + C))) 7 11 (bR b) (nI v)) 7 12 (bR b) (nI (bK b))) 7 9 (nI (bR b + 1))).1 x y i = if x = 7 ∧ y = 12 ∧ i = bR b then nI (bK b) else if x = 7 ∧ y = 11 ∧ i = bR b then nI v else if x = 7 ∧ y = 10 ∧ i = bR b then nI (8 * R + C) else σ.1 x y i := fun _ _ _ => rfl
  have hS : ∀ x y, (wx_sS (wx_sI (wx_sI (wx_sI σ 7 10 (bR b) (nI (8 * R + C))) 7 11 (bR b) (nI v)) 7 12 (bR b) (nI (bK b))) 7 9 (nI (bR b + 1))).2.2.1 x y = if x = 7 ∧ y = 9 then nI (bR b + 1) else σ.2.2.1 x y := fun _ _ => rfl
  refine ⟨_, rfl, ⟨fun i hi => ?_, fun p hp => ?_, fun n hn => ?_, ?_, fun i hi => ?_, ?_, ?_, fun i hi => ?_⟩, fun p hp => hw p hp, fun x hx => ⟨?_, rfl, ?_⟩, rfl⟩
  · rw [hI, if_neg (by omega), if_neg (by omega), if_neg (by omega)]; exact b1 i hi
  · rw [hI, if_neg (by omega), if_neg (by omega), if_neg (by omega)]; exact b2 p hp
  · rw [hI, if_neg (by omega), if_neg (by omega), if_neg (by omega)]; exact b3 n hn
  · rw [hS, if_neg (by omega)]; exact b4
  · rw [hI, if_neg (by omega), if_neg (by omega), if_neg (by omega), hI, if_neg (by omega), if_neg (by omega), if_neg (by omega)]; exact b5 i hi
  · rw [hS, if_neg (by omega)]; exact b6
  · rw [hS, if_pos ⟨rfl, rfl⟩]; rfl
  · have hi : i < bR b + 1 := hi
    refine ⟨?_, ?_, ?_⟩
    · rw [hI, if_neg (by omega), if_neg (by omega)]
      show _ = nI (if i = bR b then 8 * R + C else bA b i)
      by_cases he : i = bR b
      · rw [if_pos ⟨rfl, rfl, he⟩, if_pos he]
      · rw [if_neg (by omega), if_neg he]
        exact (b8 i (by omega)).1
    · rw [hI, if_neg (by omega)]
      show _ = nI (if i = bR b then v else bB b i)
      by_cases he : i = bR b
      · rw [if_pos ⟨rfl, rfl, he⟩, if_pos he]
      · rw [if_neg (by omega), if_neg (by omega), if_neg he]
        exact (b8 i (by omega)).2.1
    · rw [hI]
      show _ = nI (if i = bR b then bK b else bC b i)
      by_cases he : i = bR b
      · rw [if_pos ⟨rfl, rfl, he⟩, if_pos he]
      · rw [if_neg (by omega), if_neg (by omega), if_neg (by omega), if_neg he]
        exact (b8 i (by omega)).2.2
  · funext y i
    rw [hI, if_neg (fun hh => hx hh.1), if_neg (fun hh => hx hh.1), if_neg (fun hh => hx hh.1)]
  · funext y
    rw [hS, if_neg (fun hh => hx hh.1)]
theorem measure5n {b : Bd} (g : good b) {R C : Nat} (hR : R < 8) (hC : C < 8) (hr : ¬ bR b < 8) : Cs (f_X0_measure 7 (nI R) (nI C)) b (-4) b := by
  have p1 := (placeOf_yes R hR C hC).1
  have gR := g.2.2.2.2.2.2.2.1
  have hP : 8 * R + C < 64 := by omega
  refine Cs.no (fun σ hb => ?_)
  unfold f_X0_measure
  rw [px_o p1, if_pos (nI_pos' (by omega)), hb.2.2.2.2.2.2.1, if_neg (show ¬ nI (bR b) < 8 from nI_nlt (b := 8) (by omega) (by omega))]
def bCool (b : Bd) : Bd := (bS b, bN b, bF b, bT b, bP b, bO b, 0, 0, bA b, bB b, bC b)
theorem bCool_good {b : Bd} (g : good b) : good (bCool b) := by
  obtain ⟨gS, gN, gF, gT, gP, gA, gK, gR, gr⟩ := g
  exact ⟨gS, gN, gF, gT, gP, gA, Nat.zero_le _, Nat.zero_le _, fun i hi => absurd hi (Nat.not_lt_zero _)⟩
theorem cool5 {b : Bd} (g : good b) : Cs (fun σ8 => wx_b (f_X0_beginRun 7 σ8) (fun _ σ23 => some (σ8.2.2.1 7 6, σ23))) b (nI (bK b)) (bCool b) := by
  intro σ hb hw
  obtain ⟨b1, b2, b3, b4, b5, b6, -⟩ := hb
  obtain ⟨k1, k2, k3⟩ := begin5 (b := bCool b) (o := 7) (σ := σ) rfl rfl ⟨b1, b2, b3, b4, b5⟩
  simp only []
  rw [px_b beginRun_eq, b6]
  exact ⟨_, rfl, k1, k2, k3⟩
