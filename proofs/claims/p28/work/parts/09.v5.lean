/-! part and mends -/
def bPart (b : Bd) (t : Nat) : Bd := (bS b, bN b, bF b, bT b - 1, fun i => if i < t then bP b i else bP b (i + 1), fun i => if i < t then bO b i else bO b (i + 1), 0, 0, bA b, bB b, bC b)
theorem bPart_good {b : Bd} (g : good b) {t : Nat} (ht : t < bT b) : good (bPart b t) := by
  obtain ⟨gS, gN, gF, gT, gP, gA, gK, gR, gr⟩ := g
  have hPP : ∀ i, bP (bPart b t) i = if i < t then bP b i else bP b (i + 1) := fun _ => rfl
  have hOO : ∀ i, bO (bPart b t) i = if i < t then bO b i else bO b (i + 1) := fun _ => rfl
  refine ⟨gS, gN, gF, ?_, fun i hi => ?_, fun i j hi hj hh => ?_, Nat.zero_le _, Nat.zero_le _, fun i hi => absurd hi (Nat.not_lt_zero _)⟩
  · show bT b - 1 ≤ 3
    omega
  · have hi : i < bT b - 1 := hi
    rw [hPP, hOO]
    show _ ∧ _ ∧ _ ∧ bN b _ ≠ 0
    by_cases he : i < t
    · rw [if_pos he, if_pos he]
      exact gP i (by omega)
    · rw [if_neg he, if_neg he]
      exact gP (i + 1) (by omega)
  · have hi : i < bT b - 1 := hi
    have hj : j < bT b - 1 := hj
    rw [hPP, hPP] at hh
    by_cases hei : i < t
    · by_cases hej : j < t
      · rw [if_pos hei, if_pos hej] at hh
        exact gA i j (by omega) (by omega) hh
      · rw [if_pos hei, if_neg hej] at hh
        have := gA i (j + 1) (by omega) (by omega) hh
        omega
    · by_cases hej : j < t
      · rw [if_neg hei, if_pos hej] at hh
        have := gA (i + 1) j (by omega) (by omega) hh
        omega
      · rw [if_neg hei, if_neg hej] at hh
        have := gA (i + 1) (j + 1) (by omega) (by omega) hh
        omega
theorem part_loop {T : Nat} (hT : T ≤ 3) {x1 : Int32} : ∀ (n j m : Nat) (σ : wx_St), j + n + 1 = T → n < m → σ.2.2.1 7 3 = nI T →
    ∃ τ, f_X0_part_16 7 m x1 (nI j) σ = some (nI (T - 1), brn 7 (wx_sS τ 7 3 (nI (T - 1)))) ∧ (∀ x y i, τ.1 x y i = if x = 7 ∧ (y = 4 ∨ y = 5) ∧ j ≤ i ∧ i < T - 1 then σ.1 x y (i + 1) else σ.1 x y i) ∧ τ.2 = σ.2 := by
  intro n
  induction n with
  | zero =>
    intro j m σ hj hm h3
    obtain ⟨m, rfl⟩ : ∃ k, m = k + 1 := ⟨m - 1, by omega⟩
    have e1 : nI T - 1 = nI (T - 1) := nI_sub (m := T) (k := 1) (by omega)
    rw [f_X0_part_16, h3, e1, if_pos (nI_le (by omega) (by omega))]
    rw [px_l, px_b beginRun_eq]
    refine ⟨σ, rfl, fun x y i => ?_, rfl⟩
    rw [if_neg (by omega)]
  | succ n ih =>
    intro j m σ hj hm h3
    obtain ⟨m, rfl⟩ : ∃ k, m = k + 1 := ⟨m - 1, by omega⟩
    have e1 : nI T - 1 = nI (T - 1) := nI_sub (m := T) (k := 1) (by omega)
    rw [f_X0_part_16, h3, e1, if_neg (nI_ge (by omega) (by omega)), nI_1, px_rI (by omega) (by decide), px_w (by omega) (by decide), nI_clamp (by omega), px_rI (by omega) (by decide), px_w (by omega) (by decide)]
    obtain ⟨τ, t1, t2, t3⟩ := ih (j + 1) m (wx_sI (wx_sI σ 7 4 j (σ.1 7 4 (j + 1))) 7 5 j ((wx_sI σ 7 4 j (σ.1 7 4 (j + 1))).1 7 5 (j + 1))) (by omega) (by omega) h3
    refine ⟨τ, t1, fun x y i => ?_, t3⟩
    have hI : ∀ x y i, (wx_sI (wx_sI σ 7 4 j (σ.1 7 4 (j + 1))) 7 5 j ((wx_sI σ 7 4 j (σ.1 7 4 (j + 1))).1 7 5 (j + 1))).1 x y i = if x = 7 ∧ y = 5 ∧ i = j then σ.1 7 5 (j + 1) else if x = 7 ∧ y = 4 ∧ i = j then σ.1 7 4 (j + 1) else σ.1 x y i := by
      intro x y i
      show (if x = 7 ∧ y = 5 ∧ i = j then (if (7 : Nat) = 7 ∧ (5 : Nat) = 4 ∧ j + 1 = j then σ.1 7 4 (j + 1) else σ.1 7 5 (j + 1)) else if x = 7 ∧ y = 4 ∧ i = j then σ.1 7 4 (j + 1) else σ.1 x y i) = _
      rw [if_neg (fun hh : (7 : Nat) = 7 ∧ (5 : Nat) = 4 ∧ j + 1 = j => absurd hh.2.1 (by decide))]
    rw [t2, hI, hI]
    by_cases hx : x = 7 ∧ (y = 4 ∨ y = 5)
    · obtain ⟨rfl, hy⟩ := hx
      by_cases hc : j + 1 ≤ i ∧ i < T - 1
      · rw [if_pos ⟨rfl, hy, hc.1, hc.2⟩, if_neg (by omega), if_neg (by omega), if_pos ⟨rfl, hy, by omega, hc.2⟩]
      · rw [if_neg (fun hh => hc hh.2.2)]
        by_cases hij : i = j
        · subst hij
          rcases hy with rfl | rfl
          · rw [if_neg (by omega), if_pos ⟨rfl, rfl, rfl⟩, if_pos ⟨rfl, Or.inl rfl, by omega, by omega⟩]
          · rw [if_pos ⟨rfl, rfl, rfl⟩, if_pos ⟨rfl, Or.inr rfl, by omega, by omega⟩]
        · rw [if_neg (fun hh => hij hh.2.2), if_neg (fun hh => hij hh.2.2), if_neg (fun hh => by omega)]
    · rw [if_neg (fun hh => hx ⟨hh.1, hh.2.1⟩), if_neg (fun hh => hx ⟨hh.1, Or.inr hh.2.1⟩), if_neg (fun hh => hx ⟨hh.1, Or.inl hh.2.1⟩), if_neg (fun hh => hx ⟨hh.1, hh.2.1⟩)]
theorem part_cs {b : Bd} (g : good b) {t : Nat} (ht : t < bT b) : Cs (f_X0_part 7 (nI t)) b (nI (bT b - 1)) (bPart b t) := by
  have hT := g.2.2.2.1
  intro σ hb hw
  obtain ⟨b1, b2, b3, b4, b5, -⟩ := hb
  obtain ⟨τ, t1, t2, t3⟩ := part_loop hT (x1 := nI t) (bT b - t - 1) t 2000 σ (by omega) (by omega) b4
  unfold f_X0_part
  rw [if_neg (nI_pos (by omega)), b4, if_pos (nI_lt ht (by omega)), t1]
  have hst : st5 7 (bPart b t) (wx_sS τ 7 3 (nI (bT b - 1))) := by
    refine ⟨fun i hi => ?_, fun p hp => ?_, fun n hn => ?_, rfl, fun i hi => ?_⟩
    · show τ.1 7 0 i = _
      rw [t2, if_neg (by omega)]; exact b1 i hi
    · show τ.1 7 1 p = _
      rw [t2, if_neg (by omega)]; exact b2 p hp
    · show τ.1 7 2 n = _
      rw [t2, if_neg (by omega)]; exact b3 n hn
    · have hi : i < bT b - 1 := hi
      show τ.1 7 4 i = nI (if i < t then bP b i else bP b (i + 1)) ∧ τ.1 7 5 i = nI (if i < t then bO b i else bO b (i + 1))
      rw [t2, t2]
      by_cases he : i < t
      · rw [if_neg (by omega), if_pos he, if_neg (by omega), if_pos he]
        exact b5 i (by omega)
      · rw [if_pos ⟨rfl, Or.inl rfl, by omega, hi⟩, if_neg he, if_pos ⟨rfl, Or.inr rfl, by omega, hi⟩, if_neg he]
        exact b5 (i + 1) (by omega)
  have hex : eqx 7 σ (wx_sS τ 7 3 (nI (bT b - 1))) := by
    refine ⟨fun x hx => ⟨?_, ?_, ?_⟩, ?_⟩
    · funext y i
      show τ.1 x y i = _
      rw [t2, if_neg (fun hh => hx hh.1)]
    · show τ.2.1 x = _
      rw [t3]
    · funext y
      show (if x = 7 ∧ y = 3 then _ else τ.2.2.1 x y) = _
      rw [if_neg (fun hh => hx hh.1), t3]
    · show τ.2.2.2 = _
      rw [t3]
  obtain ⟨k1, k2, k3⟩ := begin5 (b := bPart b t) rfl rfl hst
  exact ⟨_, rfl, k1, k2, hex.tr k3⟩
theorem part_no {b : Bd} (g : good b) {x : Int32} (hx : x < 0 ∨ nI (bT b) ≤ x) : Cs (f_X0_part 7 x) b (-1) b := by
  refine Cs.no (fun σ hb => ?_)
  unfold f_X0_part f_X0_part_12
  rcases out_not hx with h | h
  · rw [if_pos h]
  · by_cases h2 : x < 0
    · rw [if_pos h2]
    · rw [if_neg h2, hb.2.2.2.1, if_neg h]
