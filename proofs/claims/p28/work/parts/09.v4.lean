/-! join and touches -/
def hnL (b : Bd) (P N s : Nat) : Bool := (sp_nl P s).any (fun n => decide (bN b n = N))
def hnb (b : Bd) (P N : Nat) : Bool := hnL b P N 0 || hnL b P N 1 || hnL b P N 2 || hnL b P N 3
theorem hn5_side {b : Bd} {σ : wx_St} (h : bdI 7 b σ) (g : good b) {P N s m : Nat} (hP : P < 64) (hN : N < 8) (hs : s < 4) : f_X0_hasNeighbourOf_2 7 (m + 1) (nI P) (nI N) (nI s) σ = if hnL b P N s = true then some 1 else f_X0_hasNeighbourOf_2 7 m (nI P) (nI N) (nI (s + 1)) σ := by
  rw [f_X0_hasNeighbourOf_2, if_neg (p4_i s hs), px_o (nb5 P hP s hs)]
  unfold hnL f_X0_hasNeighbourOf_32
  rcases (sp_nl_v P hP s hs).2 with e | ⟨n, hn, e⟩
  · rw [e, if_pos (by decide), nI_1]
    simp
  · rw [e]
    show (if nI n < 0 then _ else _) = _
    rw [if_neg (p64_n n hn)]
    show wx_rI σ 7 1 64 (nI n) _ = _
    rw [px_rI hn (by decide), h.2.1 n hn]
    have := g.2.1 n hn
    by_cases he : bN b n = N
    · rw [if_pos (by rw [he])]
      simp [he]
    · rw [if_neg (fun hx => he ((nI_eq (by omega) (by omega)).mp hx)), nI_1]
      simp [he]
theorem hasN5 {b : Bd} {σ : wx_St} (h : bdI 7 b σ) (g : good b) {P N : Nat} (hP : P < 64) (hN : N < 8) : f_X0_hasNeighbourOf 7 (nI P) (nI N) σ = some (b01 (hnb b P N)) := by
  unfold f_X0_hasNeighbourOf
  rw [show (0 : Int32) = nI 0 from rfl, hn5_side h g hP hN (s := 0) (by decide), hn5_side h g hP hN (s := 1) (by decide), hn5_side h g hP hN (s := 2) (by decide), hn5_side h g hP hN (s := 3) (by decide), f_X0_hasNeighbourOf_2, if_pos (show (4 : Int32) ≤ nI (3 + 1) by decide)]
  unfold hnb
  cases hnL b P N 0 <;> cases hnL b P N 1 <;> cases hnL b P N 2 <;> cases hnL b P N 3 <;> rfl
/-- what refuses a touch, ahead of the number of touches -/
def notJ (b : Bd) (P N : Nat) : Bool := decide (bN b P = 0) || decide (bN b P = N) || (List.range (bT b)).any (fun i => decide (bP b i = P)) || !hnb b P N
theorem TA.some {b : Bd} {p : Nat} {r : Int32} (g : good b) (h : TA b p r) : (r = -6 ↔ (List.range (bT b)).any (fun i => decide (bP b i = p)) = false) := by
  have hT := g.2.2.2.1
  rcases h with ⟨i, i1, i2, rfl⟩ | ⟨i1, rfl⟩
  · constructor
    · intro hh
      exact absurd hh (p64_i i (by omega))
    · intro hh
      rw [List.any_eq_false] at hh
      exact absurd (by simp [i2]) (hh i (List.mem_range.mpr i1))
  · constructor
    · intro _
      rw [List.any_eq_false]
      intro i hi
      simp [i1 i (List.mem_range.mp hi)]
    · intro _
      rfl
def bJoin (b : Bd) (P N : Nat) : Bd := (bS b, bN b, bF b, bT b + 1, fun i => if i = bT b then P else bP b i, fun i => if i = bT b then N else bO b i, 0, 0, bA b, bB b, bC b)
theorem bJoin_good {b : Bd} (g : good b) {P N : Nat} (hP : P < 64) (h1 : 1 ≤ N) (h8 : N < 8) (hT : bT b < 3) (hn : notJ b P N = false) : good (bJoin b P N) := by
  obtain ⟨gS, gN, gF, gT, gP, gA, gK, gR, gr⟩ := g
  unfold notJ at hn
  simp only [Bool.or_eq_false_iff, decide_eq_false_iff_not] at hn
  obtain ⟨⟨⟨n1, n2⟩, n3⟩, n4⟩ := hn
  rw [List.any_eq_false] at n3
  have n3 : ∀ i, i < bT b → bP b i ≠ P := fun i hi hh => n3 i (List.mem_range.mpr hi) (by simp [hh])
  have hPP : ∀ i, bP (bJoin b P N) i = if i = bT b then P else bP b i := fun _ => rfl
  have hOO : ∀ i, bO (bJoin b P N) i = if i = bT b then N else bO b i := fun _ => rfl
  refine ⟨gS, gN, gF, ?_, fun i hi => ?_, fun i j hi hj hh => ?_, Nat.zero_le _, Nat.zero_le _, fun i hi => absurd hi (Nat.not_lt_zero _)⟩
  · show bT b + 1 ≤ 3
    omega
  · have hi : i < bT b + 1 := hi
    rw [hPP, hOO]
    show _ ∧ _ ∧ _ ∧ bN b _ ≠ 0
    by_cases he : i = bT b
    · rw [if_pos he, if_pos he]
      exact ⟨hP, h1, h8, n1⟩
    · rw [if_neg he, if_neg he]
      exact gP i (by omega)
  · have hi : i < bT b + 1 := hi
    have hj : j < bT b + 1 := hj
    rw [hPP, hPP] at hh
    by_cases hei : i = bT b
    · by_cases hej : j = bT b
      · omega
      · rw [if_pos hei, if_neg hej] at hh
        exact absurd hh.symm (n3 j (by omega))
    · by_cases hej : j = bT b
      · rw [if_neg hei, if_pos hej] at hh
        exact absurd hh (n3 i (by omega))
      · rw [if_neg hei, if_neg hej] at hh
        exact gA i j (by omega) (by omega) hh
theorem join5_eq {b : Bd} {σ : wx_St} (h : bdI 7 b σ) (g : good b) {R C N : Nat} (hR : R < 8) (hC : C < 8) (h1 : 1 ≤ N) (h8 : N < 8) : f_X0_join 7 (nI R) (nI C) (nI N) σ = if notJ b (8 * R + C) N = true then some (-5, σ) else if bT b < 3 then some (nI (bT b), brn 7 (wx_sS (wx_sI (wx_sI σ 7 4 (bT b) (nI (8 * R + C))) 7 5 (bT b) (nI N)) 7 3 (nI (bT b + 1)))) else some (-4, σ) := by
  have hT := g.2.2.2.1
  have hP : 8 * R + C < 64 := by omega
  have gN := g.2.1 _ hP
  obtain ⟨r, hr1, hr2⟩ := touchAt5 h g hP
  have hr3 := hr2.some g
  unfold f_X0_join f_X0_join_66
  rw [px_o (placeOf_yes R hR C hC).1, if_pos (nI_pos' (by omega)), px_o (net_yes N h8).1, decide_eq_true h1, if_neg (by decide), px_rI hP (by decide), h.2.1 _ hP, px_rI hP (by decide), h.2.1 _ hP, px_o hr1, px_o (hasN5 h g hP h8)]
  unfold notJ
  by_cases c1 : bN b (8 * R + C) = 0
  · rw [c1, if_pos (show nI 0 = 0 from rfl), if_pos (by simp)]
  · rw [if_neg (nI_ne0 (by omega) (by omega)), decide_eq_false c1]
    by_cases c2 : bN b (8 * R + C) = N
    · rw [if_pos (by rw [c2]), if_pos (by simp [c2])]
    · rw [if_neg (fun hx => c2 ((nI_eq (by omega) (by omega)).mp hx)), decide_eq_false c2]
      cases c3 : (List.range (bT b)).any (fun i => decide (bP b i = 8 * R + C)) with
      | true =>
        rw [if_neg (fun hx => by rw [hr3.mp hx] at c3; cases c3), if_pos (by simp)]
      | false =>
        rw [if_pos (hr3.mpr c3)]
        cases c4 : hnb b (8 * R + C) N with
        | false => rw [if_pos (show b01 false = 0 from rfl), if_pos (by simp)]
        | true =>
          rw [if_neg (show ¬ b01 true = 0 by decide), if_neg (show ¬ (false || false || false || !true) = true by decide), h.2.2.2.1]
          by_cases c5 : bT b < 3
          · rw [if_pos (show nI (bT b) < 3 from nI_lt (b := 3) c5 (by decide)), if_pos c5]
            have e1 : ∀ (τ : wx_St) F, τ.2.2.1 7 3 = nI (bT b) → wx_w (α := Int32 × wx_St) τ 3 (nI (bT b)) F = F τ := fun τ F _ => px_w c5 (by decide)
            rw [px_w c5 (by decide), nI_clamp (by omega)]
            show wx_w (wx_sI _ 7 5 (Int32.toNatClampNeg (σ.2.2.1 7 3)) (nI N)) 3 (σ.2.2.1 7 3) _ = _
            rw [h.2.2.2.1, px_w c5 (by decide), nI_clamp (by omega)]
            rw [px_l, px_b beginRun_eq]
            have e3 : (wx_sI (wx_sI σ 7 4 (bT b) (nI (8 * R + C))) 7 5 (bT b) (nI N)).2.2.1 7 3 + 1 = nI (bT b + 1) := by
              show σ.2.2.1 7 3 + 1 = _
              rw [h.2.2.2.1, nI_1]
            rw [e3]
            have e4 : (brn 7 (wx_sS (wx_sI (wx_sI σ 7 4 (bT b) (nI (8 * R + C))) 7 5 (bT b) (nI N)) 7 3 (nI (bT b + 1)))).2.2.1 7 3 = nI (bT b + 1) := rfl
            rw [e4, nI_pred]
          · rw [if_neg (show ¬ nI (bT b) < 3 from nI_nlt (a := bT b) (b := 3) (by omega) (by omega)), if_neg c5]
theorem join5n {b : Bd} (g : good b) {R C N : Nat} (hR : R < 8) (hC : C < 8) (h1 : 1 ≤ N) (h8 : N < 8) (hn : notJ b (8 * R + C) N = true) : Cs (f_X0_join 7 (nI R) (nI C) (nI N)) b (-5) b :=
  Cs.no (fun σ hb => by rw [join5_eq hb g hR hC h1 h8, hn, if_pos rfl])
theorem join5f {b : Bd} (g : good b) {R C N : Nat} (hR : R < 8) (hC : C < 8) (h1 : 1 ≤ N) (h8 : N < 8) (hn : notJ b (8 * R + C) N = false) (hT : ¬ bT b < 3) : Cs (f_X0_join 7 (nI R) (nI C) (nI N)) b (-4) b :=
  Cs.no (fun σ hb => by rw [join5_eq hb g hR hC h1 h8, hn, if_neg (by decide), if_neg hT])
theorem join5 {b : Bd} (g : good b) {R C N : Nat} (hR : R < 8) (hC : C < 8) (h1 : 1 ≤ N) (h8 : N < 8) (hn : notJ b (8 * R + C) N = false) (hT : bT b < 3) : Cs (f_X0_join 7 (nI R) (nI C) (nI N)) b (nI (bT b)) (bJoin b (8 * R + C) N) := by
  intro σ hb hw
  rw [join5_eq hb g hR hC h1 h8, hn, if_neg (by decide), if_pos hT]
  obtain ⟨b1, b2, b3, b4, b5, -⟩ := hb
  have hI : ∀ x y i, (wx_sS (wx_sI (wx_sI σ 7 4 (bT b) (nI (8 * R + C))) 7 5 (bT b) (nI N)) 7 3 (nI (bT b + 1))).1 x y i = if x = 7 ∧ y = 5 ∧ i = bT b then nI N else if x = 7 ∧ y = 4 ∧ i = bT b then nI (8 * R + C) else σ.1 x y i := fun _ _ _ => rfl
  have hst : st5 7 (bJoin b (8 * R + C) N) (wx_sS (wx_sI (wx_sI σ 7 4 (bT b) (nI (8 * R + C))) 7 5 (bT b) (nI N)) 7 3 (nI (bT b + 1))) := by
    refine ⟨fun i hi => ?_, fun p hp => ?_, fun n hn => ?_, rfl, fun i hi => ?_⟩
    · rw [hI, if_neg (by omega), if_neg (by omega)]; exact b1 i hi
    · rw [hI, if_neg (by omega), if_neg (by omega)]; exact b2 p hp
    · rw [hI, if_neg (by omega), if_neg (by omega)]; exact b3 n hn
    · have hi : i < bT b + 1 := hi
      rw [hI, hI, if_neg (by omega)]
      show _ = nI (if i = bT b then 8 * R + C else bP b i) ∧ _ = nI (if i = bT b then N else bO b i)
      by_cases he : i = bT b
      · rw [if_pos ⟨rfl, rfl, he⟩, if_pos he, if_pos ⟨rfl, rfl, he⟩, if_pos he]
        exact ⟨rfl, rfl⟩
      · rw [if_neg (fun hh => he hh.2.2), if_neg he, if_neg (fun hh => he hh.2.2), if_neg he, if_neg (by omega)]
        exact b5 i (by omega)
  have hex : eqx 7 σ (wx_sS (wx_sI (wx_sI σ 7 4 (bT b) (nI (8 * R + C))) 7 5 (bT b) (nI N)) 7 3 (nI (bT b + 1))) := by
    refine ⟨fun x hx => ⟨?_, rfl, ?_⟩, rfl⟩
    · funext y i
      rw [hI, if_neg (fun hh => hx hh.1), if_neg (fun hh => hx hh.1)]
    · funext y
      show (if x = 7 ∧ y = 3 then _ else σ.2.2.1 x y) = _
      rw [if_neg (fun hh => hx hh.1)]
  obtain ⟨k1, k2, k3⟩ := begin5 (b := bJoin b (8 * R + C) N) rfl rfl hst
  exact ⟨_, rfl, k1, k2, hex.tr k3⟩
