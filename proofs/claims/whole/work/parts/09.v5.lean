/-! part and mends -/
def bPart (b : Bd) (t : Nat) : Bd := (bS b, bN b, bF b, bT b - 1, fun i => if i < t then bP b i else bP b (i + 1), fun i => if i < t then bO b i else bO b (i + 1), 0, 0, bA b, bB b, bC b)
theorem bPart_good {b : Bd} (g : good b) {t : Nat} (ht : t < bT b) : good (bPart b t) := by
  obtain ⟨gS, gN, gF, gT, gP, gA, gK, gR, gr⟩ := g
  have hPP : ∀ i, bP (bPart b t) i = if i < t then bP b i else bP b (i + 1) := fun _ => rfl
  have hOO : ∀ i, bO (bPart b t) i = if i < t then bO b i else bO b (i + 1) := fun _ => rfl
  refine ⟨gS, gN, gF, ?_, fun i hi => ?_, fun i j hi hj hh => ?_, Nat.zero_le _, Nat.zero_le _, fun i hi => absurd hi (Nat.not_lt_zero _)⟩
  · show bT b - 1 ≤ 3
    omega
  · have hi : i < bT b - 1 := hi
    rw [hPP, hOO]
    show _ ∧ _ ∧ _ ∧ bN b _ ≠ 0
    by_cases he : i < t
    · rw [if_pos he, if_pos he]
      exact gP i (by omega)
    · rw [if_neg he, if_neg he]
      exact gP (i + 1) (by omega)
  · have hi : i < bT b - 1 := hi
    have hj : j < bT b - 1 := hj
    rw [hPP, hPP] at hh
    by_cases hei : i < t
    · by_cases hej : j < t
      · rw [if_pos hei, if_pos hej] at hh
        exact gA i j (by omega) (by omega) hh
      · rw [if_pos hei, if_neg hej] at hh
        have := gA i (j + 1) (by omega) (by omega) hh
        omega
    · by_cases hej : j < t
      · rw [if_neg hei, if_pos hej] at hh
        have := gA (i + 1) j (by omega) (by omega) hh
        omega
      · rw [if_neg hei, if_neg hej] at hh
        have := gA (i + 1) (j + 1) (by omega) (by omega) hh
        omega
theorem part_loop {T : Nat} (hT : T ≤ 3) {x1 : Int32} : ∀ (n j m : Nat) (σ : wx_St), j + n + 1 = T → n < m → σ.2.2.1 7 3 = nI T →
    ∃ τ, f_X0_part_16 7 m x1 (nI j) σ = some (nI (T - 1), brn 7 (wx_sS τ 7 3 (nI (T - 1)))) ∧ (∀ x y i, τ.1 x y i = if x = 7 ∧ (y = 4 ∨ y = 5) ∧ j ≤ i ∧ i < T - 1 then σ.1 x y (i + 1) else σ.1 x y i) ∧ τ.2 = σ.2 := by
  intro n
  induction n with
  | zero =>
    intro j m σ hj hm h3
    obtain ⟨m, rfl⟩ : ∃ k, m = k + 1 := ⟨m - 1, by omega⟩
    have e1 : nI T - 1 = nI (T - 1) := nI_sub (m := T) (k := 1) (by omega)
    rw [f_X0_part_16, h3, e1, if_pos (nI_le (by omega) (by omega))]
    rw [px_l, px_b beginRun_eq]
    refine ⟨σ, rfl, fun x y i => ?_, rfl⟩
    rw [if_neg (by omega)]
  | succ n ih =>
    intro j m σ hj hm h3
    obtain ⟨m, rfl⟩ : ∃ k, m = k + 1 := ⟨m - 1, by omega⟩
    have e1 : nI T - 1 = nI (T - 1) := nI_sub (m := T) (k := 1) (by omega)
    rw [f_X0_part_16, h3, e1, if_neg (nI_ge (by omega) (by omega)), nI_1, px_rI (by omega) (by decide), px_w (by omega) (by decide), nI_clamp (by omega), px_rI (by omega) (by decide), px_w (by omega) (by decide)]
    obtain ⟨τ, t1, t2, t3⟩ := ih (j + 1) m (wx_sI (wx_sI σ 7 4 j (σ.1 7 4 (j + 1))) 7 5 j ((wx_sI σ 7 4 j (σ.1 7 4 (j + 1))).1 7 5 (j + 1))) (by omega) (by omega) h3
    refine ⟨τ, t1, fun x y i => ?_, t3⟩
    have hI : ∀ x y i, (wx_sI (wx_sI σ 7 4 j (σ.1 7 4 (j + 1))) 7 5 j ((wx_sI σ 7 4 j (σ.1 7 4 (j + 1))).1 7 5 (j + 1))).1 x y i = if x = 7 ∧ y = 5 ∧ i = j then σ.1 7 5 (j + 1) else if x = 7 ∧ y = 4 ∧ i = j then σ.1 7 4 (j + 1) else σ.1 x y i := by
      intro x y i
      show (if x = 7 ∧ y = 5 ∧ i = j then (if (7 : Nat) = 7 ∧ (5 : Nat) = 4 ∧ j + 1 = j then σ.1 7 4 (j + 1) else σ.1 7 5 (j + 1)) else if x = 7 ∧ y = 4 ∧ i = j then σ.1 7 4 (j + 1) else σ.1 x y i) = _
      rw [if_neg (fun hh : (7 : Nat) = 7 ∧ (5 : Nat) = 4 ∧ j + 1 = j => absurd hh.2.1 (by decide))]
    rw [t2, hI, hI]
    by_cases hx : x = 7 ∧ (y = 4 ∨ y = 5)
    · obtain ⟨rfl, hy⟩ := hx
      by_cases hc : j + 1 ≤ i ∧ i < T - 1
      · rw [if_pos ⟨rfl, hy, hc.1, hc.2⟩, if_neg (by omega), if_neg (by omega), if_pos ⟨rfl, hy, by omega, hc.2⟩]
      · rw [if_neg (fun hh => hc hh.2.2)]
        by_cases hij : i = j
        · subst hij
          rcases hy with rfl | rfl
          · rw [if_neg (by omega), if_pos ⟨rfl, rfl, rfl⟩, if_pos ⟨rfl, Or.inl rfl, by omega, by omega⟩]
          · rw [if_pos ⟨rfl, rfl, rfl⟩, if_pos ⟨rfl, Or.inr rfl, by omega, by omega⟩]
        · rw [if_neg (fun hh => hij hh.2.2), if_neg (fun hh => hij hh.2.2), if_neg (fun hh => by omega)]
    · rw [if_neg (fun hh => hx ⟨hh.1, hh.2.1⟩), if_neg (fun hh => hx ⟨hh.1, Or.inr hh.2.1⟩), if_neg (fun hh => hx ⟨hh.1, Or.inl hh.2.1⟩), if_neg (fun hh => hx ⟨hh.1, hh.2.1⟩)]
theorem mends_64 {x1 : Int32} : ∀ (n k m : Nat) (σ : wx_St), k + n = 85 → n < m →
    ∃ τ, f_X6_mends_64 m x1 (nI k) σ = wx_b (f_X6_beginsRun τ) (fun v84 σ84 => wx_rI σ84 16 0 109 5 (fun v92 => some (v92, σ84))) ∧ (∀ x y i, τ.1 x y i = if x = 16 ∧ y = 0 ∧ k ≤ i ∧ i < 85 then 0 else σ.1 x y i) ∧ τ.2 = σ.2 := by
  intro n
  induction n with
  | zero =>
    intro k m σ hk hm
    obtain ⟨m, rfl⟩ : ∃ k, m = k + 1 := ⟨m - 1, by omega⟩
    have hk : k = 85 := by omega
    subst hk
    rw [f_X6_mends_64, if_pos (by decide)]
    refine ⟨σ, rfl, fun x y i => ?_, rfl⟩
    rw [if_neg (by omega)]
  | succ n ih =>
    intro k m σ hk hm
    obtain ⟨m, rfl⟩ : ∃ k, m = k + 1 := ⟨m - 1, by omega⟩
    rw [f_X6_mends_64, if_neg (show ¬ (85 : Int32) ≤ nI k from nI_ge (a := k) (b := 85) (by omega) (by decide)), px_w (by omega) (by decide), nI_clamp (by omega), nI_1]
    obtain ⟨τ, t1, t2, t3⟩ := ih (k + 1) m (wx_sI σ 16 0 k 0) (by omega) (by omega)
    refine ⟨τ, t1, fun x y i => ?_, t3⟩
    rw [t2]
    show (if x = 16 ∧ y = 0 ∧ k + 1 ≤ i ∧ i < 85 then (0 : Int32) else if x = 16 ∧ y = 0 ∧ i = k then 0 else σ.1 x y i) = _
    by_cases hc : x = 16 ∧ y = 0 ∧ k ≤ i ∧ i < 85
    · rw [if_pos hc]
      by_cases hik : i = k
      · rw [if_neg (by omega), if_pos ⟨hc.1, hc.2.1, hik⟩]
      · rw [if_pos ⟨hc.1, hc.2.1, by omega, hc.2.2.2⟩]
    · rw [if_neg hc, if_neg (fun hh => hc ⟨hh.1, hh.2.1, by omega, hh.2.2.2⟩), if_neg (fun hh => hc ⟨hh.1, hh.2.1, by omega, by omega⟩)]
theorem mends_17 {x1 : Int32} {E : Nat} (hE : E ≤ 2) : ∀ (n k m : Nat) (σ : wx_St), k + n = 79 + 2 * E → n < m → σ.1 16 0 5 = nI E → 79 ≤ k →
    ∃ τ, f_X6_mends_17 m x1 (nI k) σ = f_X6_mends_64 2000 x1 (nI (79 + 2 * E)) τ ∧ (∀ x y i, τ.1 x y i = if x = 16 ∧ y = 0 ∧ k ≤ i ∧ i < 79 + 2 * E then σ.1 16 0 (i + 2) else σ.1 x y i) ∧ τ.2 = σ.2 := by
  have e79 : (79 : Int32) + 2 * nI E = nI (79 + 2 * E) := by
    have : ∀ i, i < 3 → (79 : Int32) + 2 * nI i = nI (79 + 2 * i) := by decide
    exact this E (by omega)
  have r5 : ∀ (τ : wx_St) (F : Int32 → Option (Int32 × wx_St)), wx_rI τ 16 0 109 5 F = F (τ.1 16 0 5) := fun τ F => px_rI (j := 5) (by decide) (by decide)
  intro n
  induction n with
  | zero =>
    intro k m σ hk hm h5 h79
    obtain ⟨m, rfl⟩ : ∃ k, m = k + 1 := ⟨m - 1, by omega⟩
    have hk : k = 79 + 2 * E := by omega
    subst hk
    rw [f_X6_mends_17, r5, h5, e79, if_pos (nI_le (Nat.le_refl _) (by omega)), r5, h5, e79]
    refine ⟨σ, rfl, fun x y i => ?_, rfl⟩
    rw [if_neg (by omega)]
  | succ n ih =>
    intro k m σ hk hm h5 h79
    obtain ⟨m, rfl⟩ : ∃ k, m = k + 1 := ⟨m - 1, by omega⟩
    have e2 : nI k + 2 = nI (k + 2) := nI_add k 2
    rw [f_X6_mends_17, r5, h5, e79, if_neg (nI_ge (by omega) (by omega)), e2, px_rI (by omega) (by decide), px_w (by omega) (by decide), nI_clamp (by omega), nI_1]
    have hI : ∀ x y i, (wx_sI σ 16 0 k (σ.1 16 0 (k + 2))).1 x y i = if x = 16 ∧ y = 0 ∧ i = k then σ.1 16 0 (k + 2) else σ.1 x y i := fun _ _ _ => rfl
    obtain ⟨τ, t1, t2, t3⟩ := ih (k + 1) m (wx_sI σ 16 0 k (σ.1 16 0 (k + 2))) (by omega) (by omega) (by rw [hI, if_neg (by omega)]; exact h5) (by omega)
    refine ⟨τ, t1, fun x y i => ?_, t3⟩
    rw [t2, hI, hI]
    by_cases hx : x = 16 ∧ y = 0
    · obtain ⟨rfl, rfl⟩ := hx
      by_cases hc : k + 1 ≤ i ∧ i < 79 + 2 * E
      · rw [if_pos ⟨rfl, rfl, hc.1, hc.2⟩, if_neg (by omega), if_pos ⟨rfl, rfl, by omega, hc.2⟩]
      · rw [if_neg (fun hh => hc hh.2.2)]
        by_cases hik : i = k
        · subst hik
          rw [if_pos ⟨rfl, rfl, rfl⟩, if_pos ⟨rfl, rfl, by omega, by omega⟩]
        · rw [if_neg (fun hh => hik hh.2.2), if_neg (fun hh => by omega)]
    · rw [if_neg (fun hh => hx ⟨hh.1, hh.2.1⟩), if_neg (fun hh => hx ⟨hh.1, hh.2.1⟩), if_neg (fun hh => hx ⟨hh.1, hh.2.1⟩)]
theorem isTouch6 {b : Bd} {σ : wx_St} (h : rfI 0 0 b σ) (g : good b) (x : Int32) : ((∃ t, t < bT b ∧ x = nI t) ∧ f_X6_isTouch x σ = some 1) ∨ ((x < 0 ∨ nI (bT b) ≤ x) ∧ f_X6_isTouch x σ = some 0) := by
  have hT := g.2.2.2.1
  have h5 : σ.1 16 0 5 = nI (bT b) := by have := h.2.2.2.1; rw [Nat.zero_add] at this; exact this
  have hz1 : wx_z (α := Int32) 1 (some 1) = some 1 := px_z (c := true)
  have hz0 : wx_z (α := Int32) 0 (some 0) = some 0 := px_z (c := false)
  unfold f_X6_isTouch
  rw [show wx_rI σ 16 0 109 5 = wx_rI σ 16 0 109 (nI 5) from rfl, px_rI (by decide) (by decide), h5]
  rcases in_cases x (n := bT b) (by omega) with ⟨t, ht, rfl⟩ | hx
  · left
    refine ⟨⟨t, ht, rfl⟩, ?_⟩
    have e1 : nI (bT b) - 1 = nI (bT b - 1) := nI_sub (m := bT b) (k := 1) (by omega)
    rw [e1, px_o (within6_i (by omega) (by omega))]
    exact hz1
  · right
    refine ⟨hx, ?_⟩
    rw [px_o (within6_f (x := x) (lo := 0) (hi := nI (bT b) - 1) (fun hh => ?_))]
    · exact hz0
    · obtain ⟨h1, h2⟩ := hh
      have e0 : (0 : Int32).toInt = 0 := rfl
      by_cases hT0 : bT b = 0
      · rw [hT0] at h2 hx
        rw [Int32.le_iff_toInt_le, e0] at h1
        rw [Int32.le_iff_toInt_le, show (nI 0 - 1 : Int32).toInt = -1 from rfl] at h2
        omega
      · have e1 : nI (bT b) - 1 = nI (bT b - 1) := nI_sub (m := bT b) (k := 1) (by omega)
        rw [e1, Int32.le_iff_toInt_le, nI_toInt (by omega)] at h2
        rw [Int32.le_iff_toInt_le, e0] at h1
        rcases hx with hx | hx
        · rw [Int32.lt_iff_toInt_lt, e0] at hx
          omega
        · rw [Int32.le_iff_toInt_le, nI_toInt (by omega)] at hx
          omega
theorem part_cs {b : Bd} (g : good b) {t : Nat} (ht : t < bT b) : Cs (f_X0_part 7 (nI t)) b (nI (bT b - 1)) (bPart b t) := by
  have hT := g.2.2.2.1
  intro σ hb hw
  obtain ⟨b1, b2, b3, b4, b5, -⟩ := hb
  obtain ⟨τ, t1, t2, t3⟩ := part_loop hT (x1 := nI t) (bT b - t - 1) t 2000 σ (by omega) (by omega) b4
  unfold f_X0_part
  rw [if_neg (nI_pos (by omega)), b4, if_pos (nI_lt ht (by omega)), t1]
  have hst : st5 7 (bPart b t) (wx_sS τ 7 3 (nI (bT b - 1))) := by
    refine ⟨fun i hi => ?_, fun p hp => ?_, fun n hn => ?_, rfl, fun i hi => ?_⟩
    · show τ.1 7 0 i = _
      rw [t2, if_neg (by omega)]; exact b1 i hi
    · show τ.1 7 1 p = _
      rw [t2, if_neg (by omega)]; exact b2 p hp
    · show τ.1 7 2 n = _
      rw [t2, if_neg (by omega)]; exact b3 n hn
    · have hi : i < bT b - 1 := hi
      show τ.1 7 4 i = nI (if i < t then bP b i else bP b (i + 1)) ∧ τ.1 7 5 i = nI (if i < t then bO b i else bO b (i + 1))
      rw [t2, t2]
      by_cases he : i < t
      · rw [if_neg (by omega), if_pos he, if_neg (by omega), if_pos he]
        exact b5 i (by omega)
      · rw [if_pos ⟨rfl, Or.inl rfl, by omega, hi⟩, if_neg he, if_pos ⟨rfl, Or.inr rfl, by omega, hi⟩, if_neg he]
        exact b5 (i + 1) (by omega)
  have hex : eqx 7 σ (wx_sS τ 7 3 (nI (bT b - 1))) := by
    refine ⟨fun x hx => ⟨?_, ?_, ?_⟩, ?_⟩
    · funext y i
      show τ.1 x y i = _
      rw [t2, if_neg (fun hh => hx hh.1)]
    · show τ.2.1 x = _
      rw [t3]
    · funext y
      show (if x = 7 ∧ y = 3 then _ else τ.2.2.1 x y) = _
      rw [if_neg (fun hh => hx hh.1), t3]
    · show τ.2.2.2 = _
      rw [t3]
  obtain ⟨k1, k2, k3⟩ := begin5 (b := bPart b t) rfl rfl hst
  exact ⟨_, rfl, k1, k2, hex.tr k3⟩
theorem part_no {b : Bd} (g : good b) {x : Int32} (hx : x < 0 ∨ nI (bT b) ≤ x) : Cs (f_X0_part 7 x) b (-1) b := by
  refine Cs.no (fun σ hb => ?_)
  unfold f_X0_part f_X0_part_12
  rcases out_not hx with h | h
  · rw [if_pos h]
  · by_cases h2 : x < 0
    · rw [if_pos h2]
    · rw [if_neg h2, hb.2.2.2.1, if_neg h]
theorem mends_rs {b : Bd} (g : good b) {t : Nat} (ht : t < bT b) : Rs (f_X6_mends (nI t)) b (nI (bT b - 1)) (bPart b t) := by
  have hT := g.2.2.2.1
  intro σ hb hw
  obtain ⟨b1, b2, b3, b4, b5, b6, b7, b8⟩ := hb
  simp only [Nat.zero_add] at b1 b2 b3 b4 b5 b6 b7 b8
  have r5 : ∀ (τ : wx_St) (F : Int32 → Option (Int32 × wx_St)), wx_rI τ 16 0 109 5 F = F (τ.1 16 0 5) := fun τ F => px_rI (j := 5) (by decide) (by decide)
  have w5 : ∀ (τ : wx_St) (F : wx_St → Option (Int32 × wx_St)), wx_w τ 109 5 F = F τ := fun τ F => px_w (j := 5) (by decide) (by decide)
  have e1 : nI (bT b) - 1 = nI (bT b - 1) := nI_sub (m := bT b) (k := 1) (by omega)
  have e79 : (79 : Int32) + 2 * nI t = nI (79 + 2 * t) := by
    have : ∀ i, i < 3 → (79 : Int32) + 2 * nI i = nI (79 + 2 * i) := by decide
    exact this t (by omega)
  have hI : ∀ x y i, (wx_sI σ 16 0 5 (nI (bT b - 1))).1 x y i = if x = 16 ∧ y = 0 ∧ i = 5 then nI (bT b - 1) else σ.1 x y i := fun _ _ _ => rfl
  obtain ⟨τ, t1, t2, t3⟩ := mends_17 (x1 := nI t) (E := bT b - 1) (by omega) (2 * (bT b - 1 - t)) (79 + 2 * t) 2000 (wx_sI σ 16 0 5 (nI (bT b - 1))) (by omega) (by omega) (by rw [hI, if_pos ⟨rfl, rfl, rfl⟩]) (by omega)
  obtain ⟨ρ, s1, s2, s3⟩ := mends_64 (x1 := nI t) (6 - 2 * (bT b - 1)) (79 + 2 * (bT b - 1)) 2000 τ (by omega) (by omega)
  unfold f_X6_mends
  rw [r5, b4, e1, w5, show Int32.toNatClampNeg 5 = 5 from rfl, e79, t1, s1, px_b beginsRun_eq, r5]
  have hρ : ∀ x y i, ρ.1 x y i = if x = 16 ∧ y = 0 ∧ 79 + 2 * (bT b - 1) ≤ i ∧ i < 85 then 0 else if x = 16 ∧ y = 0 ∧ 79 + 2 * t ≤ i ∧ i < 79 + 2 * (bT b - 1) then σ.1 16 0 (i + 2) else if x = 16 ∧ y = 0 ∧ i = 5 then nI (bT b - 1) else σ.1 x y i := by
    intro x y i
    rw [s2, t2, hI, hI]
    by_cases hA : x = 16 ∧ y = 0 ∧ 79 + 2 * (bT b - 1) ≤ i ∧ i < 85
    · rw [if_pos hA, if_pos hA]
    · rw [if_neg hA, if_neg hA]
      by_cases hc : x = 16 ∧ y = 0 ∧ 79 + 2 * t ≤ i ∧ i < 79 + 2 * (bT b - 1)
      · rw [if_pos hc, if_pos hc, if_neg (by omega)]
      · rw [if_neg hc, if_neg hc]
  have hst : st6 (bPart b t) ρ := by
    refine ⟨fun i hi => ?_, fun p hp => ?_, fun n hn => ?_, ?_, fun i hi => ?_⟩
    · rw [hρ, if_neg (by omega), if_neg (by omega), if_neg (by omega)]; exact b1 i hi
    · rw [hρ, if_neg (by omega), if_neg (by omega), if_neg (by omega)]; exact b2 p hp
    · rw [hρ, if_neg (by omega), if_neg (by omega), if_neg (by omega)]; exact b3 n hn
    · rw [hρ, if_neg (by omega), if_neg (by omega), if_pos ⟨rfl, rfl, rfl⟩]; rfl
    · have hi : i < bT b - 1 := hi
      show ρ.1 16 0 (79 + 2 * i) = nI (if i < t then bP b i else bP b (i + 1)) ∧ ρ.1 16 0 (80 + 2 * i) = nI (if i < t then bO b i else bO b (i + 1))
      rw [hρ, hρ]
      by_cases he : i < t
      · rw [if_neg (by omega), if_neg (by omega), if_neg (by omega), if_pos he, if_neg (by omega), if_neg (by omega), if_neg (by omega), if_pos he]
        exact b5 i (by omega)
      · rw [if_neg (by omega), if_pos ⟨rfl, rfl, by omega, by omega⟩, if_neg he, if_neg (by omega), if_pos ⟨rfl, rfl, by omega, by omega⟩, if_neg he]
        have := b5 (i + 1) (by omega)
        rw [show 79 + 2 * (i + 1) = 79 + 2 * i + 2 by omega, show 80 + 2 * (i + 1) = 80 + 2 * i + 2 by omega] at this
        exact this
  have hex : eq6 σ ρ := by
    refine ⟨⟨fun x hx => ⟨?_, ?_, ?_⟩, ?_⟩, fun k hk => ?_, fun k _ _ _ => ?_, ?_⟩
    · funext y i
      rw [hρ, if_neg (fun hh => hx hh.1), if_neg (fun hh => hx hh.1), if_neg (fun hh => hx hh.1)]
    · rw [s3, t3]; rfl
    · rw [s3, t3]; rfl
    · rw [s3, t3]; rfl
    · funext i
      rw [hρ, if_neg (fun hh => hk hh.2.1), if_neg (fun hh => hk hh.2.1), if_neg (fun hh => hk hh.2.1)]
    · rw [s3, t3]; rfl
    · rw [s3, t3]; rfl
  obtain ⟨k1, k2, k3⟩ := begin6 (b := bPart b t) (by show bT b - 1 ≤ 3; omega) rfl rfl hst
  have e5 : (brn6 ρ).1 16 0 5 = nI (bT b - 1) := by
    have := k1.2.2.2.1
    rw [Nat.zero_add] at this
    exact this
  rw [e5]
  exact ⟨_, rfl, k1, k2, hex.tr k3⟩
theorem mend_two {b : Bd} (g : good b) (x1 : Int32) : Two (f_X0_part 7 x1) (f_X6_mend x1) b := by
  have hT := g.2.2.2.1
  rcases in_cases x1 (n := bT b) (by omega) with ⟨t, ht, rfl⟩ | hx
  · right
    refine ⟨nI (bT b - 1), bPart b t, fun τ => wx_b (f_X6_mends (nI t) τ) (fun v σ => some (v, σ)), nI_pos' (by omega), bPart_good g ht, part_cs g ht, fun σ hσ => ?_, fun σ h1 h2 => ?_⟩
    · unfold f_X6_mend
      rcases isTouch6 hσ g (nI t) with ⟨-, h⟩ | ⟨h, -⟩
      · rw [px_o h, if_neg (by decide)]
      · rcases h with h | h
        · exact absurd h (nI_pos (by omega))
        · exact absurd h (nI_ge ht (by omega))
    · obtain ⟨τ, t1, t2⟩ := mends_rs g ht σ h1 h2
      exact ⟨τ, by simp only []; rw [px_b t1], t2⟩
  · left
    refine ⟨-1, by decide, part_no g hx, fun σ hσ => ?_⟩
    unfold f_X6_mend
    rcases isTouch6 hσ g x1 with ⟨⟨t, ht, rfl⟩, -⟩ | ⟨-, h⟩
    · rcases hx with h | h
      · exact absurd h (nI_pos (by omega))
      · exact absurd h (nI_ge ht (by omega))
    · rw [px_o h, if_pos rfl]
