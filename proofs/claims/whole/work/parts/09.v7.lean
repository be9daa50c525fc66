/-! measure and probes; cool -/
theorem probe_why {b : Bd} (g : good b) (x1 x2 : Int32) : Why (f_X0_measure 7 x1 x2) (f_X6_whyNotProbed x1 x2) (f_X6_probes x1 x2) b := by
  have gR := g.2.2.2.2.2.2.2.1
  have gK := g.2.2.2.2.2.2.1
  have gT := g.2.2.2.1
  have r6 : ∀ (τ : wx_St) (F : Int32 → Option Int32), wx_rI τ 16 0 109 6 F = F (τ.1 16 0 6) := fun τ F => px_rI (j := 6) (by decide) (by decide)
  rcases place_cases x1 x2 with ⟨R, C, hR, hC, rfl, rfl, p1, p2, p3⟩ | ⟨p1, p2⟩
  · have hP : 8 * R + C < 64 := by omega
    by_cases hr : bR b < 8
    · right
      obtain ⟨w1, v, w2, w3⟩ := rd_ok (h := heat b) g.set (k := bK b) (p := 8 * R + C) (by omega) hP
      have w1 : wx_nn (FP.fmul (bWarm b (8 * R + C)) 1092616192) = true := w1
      have w3 : rdf (bWarm b (8 * R + C)) = nI v := w3
      refine ⟨nI v, bRead b (8 * R + C) v, nI_pos' w2, bRead_good g hP w2 hr, ?_, ?_, ?_⟩
      · intro σ hb hw
        obtain ⟨b1, b2, b3, b4, b5, b6, b7, b8⟩ := hb
        unfold f_X0_measure
        rw [px_o p1, if_pos (nI_pos' (by omega)), b7, if_pos (show nI (bR b) < 8 from nI_lt (b := 8) hr (by decide)), px_rF hP (by decide), hw _ hP, px_o (readOf5 w1), w3, px_w hr (by decide), nI_clamp (by omega)]
        show ∃ τ, wx_w (wx_sI _ 7 11 (Int32.toNatClampNeg (σ.2.2.1 7 9)) (nI v)) 8 (σ.2.2.1 7 9) _ = _ ∧ _
        rw [b7, px_w hr (by decide), nI_clamp (by omega)]
        show ∃ τ, wx_w (wx_sI _ 7 12 (Int32.toNatClampNeg (σ.2.2.1 7 9)) (σ.2.2.1 7 6)) 8 (σ.2.2.1 7 9) _ = _ ∧ _
        rw [b7, b6, px_w hr (by decide), nI_clamp (by omega)]
        unfold wx_l
        show ∃ τ, some (nI v, wx_sS _ 7 9 (σ.2.2.1 7 9 + 1)) = _ ∧ _
        rw [b7, nI_1]
        have hI : ∀ x y i, (wx_sS (wx_sI (wx_sI (wx_sI σ 7 10 (bR b) (nI (8 * R + C))) 7 11 (bR b) (nI v)) 7 12 (bR b) (nI (bK b))) 7 9 (nI (bR b + 1))).1 x y i = if x = 7 ∧ y = 12 ∧ i = bR b then nI (bK b) else if x = 7 ∧ y = 11 ∧ i = bR b then nI v else if x = 7 ∧ y = 10 ∧ i = bR b then nI (8 * R + C) else σ.1 x y i := fun _ _ _ => rfl
        have hS : ∀ x y, (wx_sS (wx_sI (wx_sI (wx_sI σ 7 10 (bR b) (nI (8 * R + C))) 7 11 (bR b) (nI v)) 7 12 (bR b) (nI (bK b))) 7 9 (nI (bR b + 1))).2.2.1 x y = if x = 7 ∧ y = 9 then nI (bR b + 1) else σ.2.2.1 x y := fun _ _ => rfl
        refine ⟨_, rfl, ⟨fun i hi => ?_, fun p hp => ?_, fun n hn => ?_, ?_, fun i hi => ?_, ?_, ?_, fun i hi => ?_⟩, fun p hp => hw p hp, fun x hx => ⟨?_, rfl, ?_⟩, rfl⟩
        · rw [hI, if_neg (by omega), if_neg (by omega), if_neg (by omega)]; exact b1 i hi
        · rw [hI, if_neg (by omega), if_neg (by omega), if_neg (by omega)]; exact b2 p hp
        · rw [hI, if_neg (by omega), if_neg (by omega), if_neg (by omega)]; exact b3 n hn
        · rw [hS, if_neg (by omega)]; exact b4
        · rw [hI, if_neg (by omega), if_neg (by omega), if_neg (by omega), hI, if_neg (by omega), if_neg (by omega), if_neg (by omega)]; exact b5 i hi
        · rw [hS, if_neg (by omega)]; exact b6
        · rw [hS, if_pos ⟨rfl, rfl⟩]; rfl
        · have hi : i < bR b + 1 := hi
          refine ⟨?_, ?_, ?_⟩
          · rw [hI, if_neg (by omega), if_neg (by omega)]
            show _ = nI (if i = bR b then 8 * R + C else bA b i)
            by_cases he : i = bR b
            · rw [if_pos ⟨rfl, rfl, he⟩, if_pos he]
            · rw [if_neg (by omega), if_neg he]
              exact (b8 i (by omega)).1
          · rw [hI, if_neg (by omega)]
            show _ = nI (if i = bR b then v else bB b i)
            by_cases he : i = bR b
            · rw [if_pos ⟨rfl, rfl, he⟩, if_pos he]
            · rw [if_neg (by omega), if_neg (by omega), if_neg he]
              exact (b8 i (by omega)).2.1
          · rw [hI]
            show _ = nI (if i = bR b then bK b else bC b i)
            by_cases he : i = bR b
            · rw [if_pos ⟨rfl, rfl, he⟩, if_pos he]
            · rw [if_neg (by omega), if_neg (by omega), if_neg (by omega), if_neg he]
              exact (b8 i (by omega)).2.2
        · funext y i
          rw [hI, if_neg (fun hh => hx hh.1), if_neg (fun hh => hx hh.1), if_neg (fun hh => hx hh.1)]
        · funext y
          rw [hS, if_neg (fun hh => hx hh.1)]
      · intro σ hb
        have h6 : σ.1 16 0 6 = nI (bR b) := by have := hb.2.2.2.2.2.2.1; rw [Nat.zero_add] at this; exact this
        unfold f_X6_whyNotProbed f_X6_whyNotProbed_30
        rw [px_o p2, if_neg (by decide), r6, h6, if_neg (fun hh => by have := (nI_eq (b := 8) (by omega) (by decide)).mp hh; omega)]
      · intro σ hb hw
        have hw : ∀ p, p < 64 → σ.2.1 16 1 p = bWarm b p := fun p hp => by have := hw p hp; rw [Nat.zero_add] at this; exact this
        obtain ⟨b1, b2, b3, b4, b5, b6, b7, b8⟩ := hb
        simp only [Nat.zero_add] at b1 b2 b3 b4 b5 b6 b7 b8
        have q6 : ∀ (τ : wx_St) (F : Int32 → Option (Int32 × wx_St)), wx_rI τ 16 0 109 6 F = F (τ.1 16 0 6) := fun τ F => px_rI (j := 6) (by decide) (by decide)
        have q4 : ∀ (τ : wx_St) (F : Int32 → Option (Int32 × wx_St)), wx_rI τ 16 0 109 4 F = F (τ.1 16 0 4) := fun τ F => px_rI (j := 4) (by decide) (by decide)
        have w6 : ∀ (τ : wx_St) (F : wx_St → Option (Int32 × wx_St)), wx_w τ 109 6 F = F τ := fun τ F => px_w (j := 6) (by decide) (by decide)
        have e0 : (85 : Int32) + 3 * nI (bR b) + 0 = nI (85 + 3 * bR b) := by
          have : ∀ i, i < 8 → (85 : Int32) + 3 * nI i + 0 = nI (85 + 3 * i) := by decide
          exact this _ hr
        have e1 : (85 : Int32) + 3 * nI (bR b) + 1 = nI (86 + 3 * bR b) := by
          have : ∀ i, i < 8 → (85 : Int32) + 3 * nI i + 1 = nI (86 + 3 * i) := by decide
          exact this _ hr
        have e2 : (85 : Int32) + 3 * nI (bR b) + 2 = nI (87 + 3 * bR b) := by
          have : ∀ i, i < 8 → (85 : Int32) + 3 * nI i + 2 = nI (87 + 3 * i) := by decide
          exact this _ hr
        unfold f_X6_probes
        rw [q6, b7, px_o p3, e0, e1, e2, px_w (by omega) (by decide), nI_clamp (by omega), px_o p3, px_rF hP (by decide)]
        show ∃ τ, wx_o (f_X6_readOf (σ.2.1 16 1 (8 * R + C))) _ = _ ∧ _
        rw [hw _ hP, px_o (readOf6 w1), w3, px_w (by omega) (by decide), nI_clamp (by omega), q4]
        have f4 : (wx_sI (wx_sI σ 16 0 (85 + 3 * bR b) (nI (8 * R + C))) 16 0 (86 + 3 * bR b) (nI v)).1 16 0 4 = nI (bK b) := by
          show (if (16 : Nat) = 16 ∧ (0 : Nat) = 0 ∧ 4 = 86 + 3 * bR b then _ else if (16 : Nat) = 16 ∧ (0 : Nat) = 0 ∧ 4 = 85 + 3 * bR b then _ else σ.1 16 0 4) = _
          rw [if_neg (by omega), if_neg (by omega), b6]
        rw [f4, px_w (by omega) (by decide), nI_clamp (by omega), q6, w6]
        have f6 : (wx_sI (wx_sI (wx_sI σ 16 0 (85 + 3 * bR b) (nI (8 * R + C))) 16 0 (86 + 3 * bR b) (nI v)) 16 0 (87 + 3 * bR b) (nI (bK b))).1 16 0 6 + 1 = nI (bR b + 1) := by
          show (if (16 : Nat) = 16 ∧ (0 : Nat) = 0 ∧ 6 = 87 + 3 * bR b then _ else if (16 : Nat) = 16 ∧ (0 : Nat) = 0 ∧ 6 = 86 + 3 * bR b then _ else if (16 : Nat) = 16 ∧ (0 : Nat) = 0 ∧ 6 = 85 + 3 * bR b then _ else σ.1 16 0 6) + 1 = _
          rw [if_neg (by omega), if_neg (by omega), if_neg (by omega), b7, nI_1]
        rw [f6, show Int32.toNatClampNeg 6 = 6 from rfl, px_rI (by omega) (by decide)]
        have hI : ∀ x y i, (wx_sI (wx_sI (wx_sI (wx_sI σ 16 0 (85 + 3 * bR b) (nI (8 * R + C))) 16 0 (86 + 3 * bR b) (nI v)) 16 0 (87 + 3 * bR b) (nI (bK b))) 16 0 6 (nI (bR b + 1))).1 x y i = if x = 16 ∧ y = 0 ∧ i = 6 then nI (bR b + 1) else if x = 16 ∧ y = 0 ∧ i = 87 + 3 * bR b then nI (bK b) else if x = 16 ∧ y = 0 ∧ i = 86 + 3 * bR b then nI v else if x = 16 ∧ y = 0 ∧ i = 85 + 3 * bR b then nI (8 * R + C) else σ.1 x y i := fun _ _ _ => rfl
        rw [hI, if_neg (by omega), if_neg (by omega), if_pos ⟨rfl, rfl, rfl⟩]
        refine ⟨_, rfl, ?_, fun p hp => by rw [Nat.zero_add]; exact hw p hp, ⟨fun x hx => ⟨?_, rfl, rfl⟩, rfl⟩, fun k hk => ?_, fun _ _ _ _ => rfl, rfl⟩
        · unfold rfI
          simp only [Nat.zero_add]
          refine ⟨fun i hi => ?_, fun p hp => ?_, fun n hn => ?_, ?_, fun i hi => ?_, ?_, ?_, fun i hi => ?_⟩
          · rw [hI, if_neg (by omega), if_neg (by omega), if_neg (by omega), if_neg (by omega)]; exact b1 i hi
          · rw [hI, if_neg (by omega), if_neg (by omega), if_neg (by omega), if_neg (by omega)]; exact b2 p hp
          · rw [hI, if_neg (by omega), if_neg (by omega), if_neg (by omega), if_neg (by omega)]; exact b3 n hn
          · rw [hI, if_neg (by omega), if_neg (by omega), if_neg (by omega), if_neg (by omega)]; exact b4
          · have hi : i < bT b := hi
            rw [hI, if_neg (by omega), if_neg (by omega), if_neg (by omega), if_neg (by omega), hI, if_neg (by omega), if_neg (by omega), if_neg (by omega), if_neg (by omega)]; exact b5 i hi
          · rw [hI, if_neg (by omega), if_neg (by omega), if_neg (by omega), if_neg (by omega)]; exact b6
          · rw [hI, if_pos ⟨rfl, rfl, rfl⟩]; rfl
          · have hi : i < bR b + 1 := hi
            refine ⟨?_, ?_, ?_⟩
            · rw [hI, if_neg (by omega), if_neg (by omega), if_neg (by omega)]
              show _ = nI (if i = bR b then 8 * R + C else bA b i)
              by_cases he : i = bR b
              · rw [if_pos ⟨rfl, rfl, by omega⟩, if_pos he]
              · rw [if_neg (by omega), if_neg he]
                exact (b8 i (by omega)).1
            · rw [hI, if_neg (by omega), if_neg (by omega)]
              show _ = nI (if i = bR b then v else bB b i)
              by_cases he : i = bR b
              · rw [if_pos ⟨rfl, rfl, by omega⟩, if_pos he]
              · rw [if_neg (by omega), if_neg (by omega), if_neg he]
                exact (b8 i (by omega)).2.1
            · rw [hI, if_neg (by omega)]
              show _ = nI (if i = bR b then bK b else bC b i)
              by_cases he : i = bR b
              · rw [if_pos ⟨rfl, rfl, by omega⟩, if_pos he]
              · rw [if_neg (by omega), if_neg (by omega), if_neg (by omega), if_neg he]
                exact (b8 i (by omega)).2.2
        · funext y i
          rw [hI, if_neg (fun hh => hx hh.1), if_neg (fun hh => hx hh.1), if_neg (fun hh => hx hh.1), if_neg (fun hh => hx hh.1)]
        · funext i
          rw [hI, if_neg (fun hh => hk hh.2.1), if_neg (fun hh => hk hh.2.1), if_neg (fun hh => hk hh.2.1), if_neg (fun hh => hk hh.2.1)]
    · left
      refine ⟨-4, by decide, Cs.no (fun σ hb => ?_), fun σ hb => ?_⟩
      · unfold f_X0_measure
        rw [px_o p1, if_pos (nI_pos' (by omega)), hb.2.2.2.2.2.2.1, if_neg (show ¬ nI (bR b) < 8 from nI_nlt (b := 8) (by omega) (by omega))]
      · have h6 : σ.1 16 0 6 = nI (bR b) := by have := hb.2.2.2.2.2.2.1; rw [Nat.zero_add] at this; exact this
        unfold f_X6_whyNotProbed f_X6_whyNotProbed_30
        rw [px_o p2, if_neg (by decide), r6, h6, if_pos (show nI (bR b) = 8 by rw [show bR b = 8 by omega]; rfl)]
  · left
    refine ⟨-1, by decide, Cs.no (fun σ hb => ?_), fun σ hb => ?_⟩
    · unfold f_X0_measure
      rw [px_o p1, if_neg (by decide)]
    · unfold f_X6_whyNotProbed f_X6_whyNotProbed_30
      rw [px_o p2, if_pos rfl]
def bCool (b : Bd) : Bd := (bS b, bN b, bF b, bT b, bP b, bO b, 0, 0, bA b, bB b, bC b)
theorem cool_two {b : Bd} (g : good b) : Two (fun σ8 => wx_b (f_X0_beginRun 7 σ8) (fun _ σ23 => some (σ8.2.2.1 7 6, σ23))) f_X6_cool b := by
  have gK := g.2.2.2.2.2.2.1
  right
  refine ⟨nI (bK b), bCool b, fun σ1 => wx_rI σ1 16 0 109 4 (fun v9 => wx_b (f_X6_beginsRun σ1) (fun v12 σ12 => some (v9, σ12))), nI_pos' (by omega), ?_, ?_, fun σ _ => rfl, ?_⟩
  · obtain ⟨gS, gN, gF, gT, gP, gA, gK, gR, gr⟩ := g
    exact ⟨gS, gN, gF, gT, gP, gA, Nat.zero_le _, Nat.zero_le _, fun i hi => absurd hi (Nat.not_lt_zero _)⟩
  · intro σ hb hw
    obtain ⟨b1, b2, b3, b4, b5, b6, -⟩ := hb
    obtain ⟨k1, k2, k3⟩ := begin5 (b := bCool b) (o := 7) (σ := σ) rfl rfl ⟨b1, b2, b3, b4, b5⟩
    simp only []
    rw [px_b beginRun_eq, b6]
    exact ⟨_, rfl, k1, k2, k3⟩
  · intro σ hb hw
    obtain ⟨b1, b2, b3, b4, b5, b6, -⟩ := hb
    simp only [Nat.zero_add] at b1 b2 b3 b4 b5 b6
    obtain ⟨k1, k2, k3⟩ := begin6 (b := bCool b) (σ := σ) g.2.2.2.1 rfl rfl ⟨b1, b2, b3, b4, b5⟩
    simp only []
    rw [show wx_rI σ 16 0 109 4 = wx_rI σ 16 0 109 (nI 4) from rfl, px_rI (by decide) (by decide), px_b beginsRun_eq, b6]
    exact ⟨_, rfl, k1, k2, k3⟩
