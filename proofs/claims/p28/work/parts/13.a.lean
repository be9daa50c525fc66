/-! THE LAW'S ROWS hold the board; its static methods -/
def LR (b : Bd) (σ : wx_St) : Prop :=
  ((∀ i, i < 4 → σ.1 16 0 i = nI (bS b i)) ∧ σ.1 16 0 4 = nI (bK b) ∧ σ.1 16 0 5 = nI (bT b) ∧ σ.1 16 0 6 = nI (bR b)) ∧
  (∀ i, i < bT b → σ.1 16 1 (2 * i) = nI (bP b i) ∧ σ.1 16 1 (2 * i + 1) = nI (bO b i)) ∧
  (∀ i, i < bR b → σ.1 16 2 (3 * i) = nI (bA b i) ∧ σ.1 16 2 (3 * i + 1) = nI (bB b i) ∧ σ.1 16 2 (3 * i + 2) = nI (bC b i)) ∧
  (∀ p, p < 64 → σ.1 16 3 p = nI (bN b p)) ∧ (∀ n, n < 8 → σ.1 16 4 n = nI (bF b n))
theorem LR.of {b : Bd} {σ τ : wx_St} (h : LR b σ) (e : τ.1 16 = σ.1 16) : LR b τ := by
  unfold LR
  rw [e]
  exact h
theorem nI_mul (a b : Nat) : nI a * nI b = nI (a * b) := (Int32.ofNat_mul a b).symm
theorem nI_2 (t : Nat) : (2 : Int32) * nI t = nI (2 * t) := nI_mul 2 t
theorem nI_3 (t : Nat) : (3 : Int32) * nI t = nI (3 * t) := nI_mul 3 t
theorem q_S {b : Bd} {σ : wx_St} (h : LR b σ) {α : Type} {i : Nat} (hi : i < 4) (F : Int32 → Option α) : wx_rI σ 16 0 7 (nI i) F = F (nI (bS b i)) := by rw [px_rI (by omega) (by decide), h.1.1 i hi]
theorem q_K {b : Bd} {σ : wx_St} (h : LR b σ) {α : Type} (F : Int32 → Option α) : wx_rI σ 16 0 7 4 F = F (nI (bK b)) := by rw [show (4 : Int32) = nI 4 from rfl, px_rI (by decide) (by decide), h.1.2.1]
theorem q_T {b : Bd} {σ : wx_St} (h : LR b σ) {α : Type} (F : Int32 → Option α) : wx_rI σ 16 0 7 5 F = F (nI (bT b)) := by rw [show (5 : Int32) = nI 5 from rfl, px_rI (by decide) (by decide), h.1.2.2.1]
theorem q_R {b : Bd} {σ : wx_St} (h : LR b σ) {α : Type} (F : Int32 → Option α) : wx_rI σ 16 0 7 6 F = F (nI (bR b)) := by rw [show (6 : Int32) = nI 6 from rfl, px_rI (by decide) (by decide), h.1.2.2.2]
theorem q_b {b : Bd} {σ : wx_St} (h : LR b σ) {α : Type} {p : Nat} (hp : p < 64) (F : Int32 → Option α) : wx_rI σ 16 3 64 (nI p) F = F (nI (bN b p)) := by rw [px_rI hp (by decide), h.2.2.2.1 p hp]
theorem q_fed {b : Bd} {σ : wx_St} (h : LR b σ) {α : Type} {n : Nat} (hn : n < 8) (F : Int32 → Option α) : wx_rI σ 16 4 8 (nI n) F = F (nI (bF b n)) := by rw [px_rI hn (by decide), h.2.2.2.2 n hn]
theorem q_P {b : Bd} {σ : wx_St} (h : LR b σ) (g : good b) {α : Type} {t : Nat} (ht : t < bT b) (F : Int32 → Option α) : wx_rI σ 16 1 6 (2 * nI t) F = F (nI (bP b t)) := by
  have gT := g.2.2.2.1
  rw [nI_2, px_rI (by omega) (by decide), (h.2.1 t ht).1]
theorem q_O {b : Bd} {σ : wx_St} (h : LR b σ) (g : good b) {α : Type} {t : Nat} (ht : t < bT b) (F : Int32 → Option α) : wx_rI σ 16 1 6 (2 * nI t + 1) F = F (nI (bO b t)) := by
  have gT := g.2.2.2.1
  rw [nI_2, nI_1, px_rI (by omega) (by decide), (h.2.1 t ht).2]
/-! the nets beside a place -/
theorem net_in {b : Bd} {σ : wx_St} (h : LR b σ) {P : Nat} (hP : P < 64) {r c : Int32} (h1 : ¬ r < 0) (h2 : ¬ c < 0) (h3 : ¬ 7 < r) (h4 : c ≤ 7) (e : 8 * r + c = nI P) : f_L_net r c σ = some (nI (bN b P)) := by
  unfold f_L_net f_L_net_32
  rw [if_neg h1, if_neg h2, if_neg h3, if_pos h4, e, q_b h hP]
theorem net_out {σ : wx_St} {r c : Int32} (h : r < 0 ∨ c < 0 ∨ 7 < r ∨ ¬ c ≤ 7) : f_L_net r c σ = some 0 := by
  have e : f_L_net_20 r c σ = some 0 := rfl
  unfold f_L_net
  by_cases h1 : r < 0
  · rw [if_pos h1, e]
  · rw [if_neg h1]
    by_cases h2 : c < 0
    · rw [if_pos h2, e]
    · rw [if_neg h2]
      by_cases h3 : 7 < r
      · rw [if_pos h3, e]
      · rw [if_neg h3, if_neg (by
          rcases h with h | h | h | h
          · exact absurd h h1
          · exact absurd h h2
          · exact absurd h h3
          · exact h), e]
def bsd (b : Bd) (P s : Nat) : Nat := match sp_nl P s with
  | [] => 0
  | n :: _ => bN b n
theorem bs_c : ∀ P, P < 64 → (¬ (nI P - nI P / 8 * 8) < 0 ∧ (nI P - nI P / 8 * 8) ≤ 7 ∧ ¬ nI P / 8 < 0 ∧ ¬ 7 < nI P / 8) := by decide +kernel
theorem bs_0 : ∀ P, P < 64 → (8 ≤ P → ¬ (nI P / 8) - 1 < 0 ∧ ¬ 7 < (nI P / 8) - 1 ∧ 8 * ((nI P / 8) - 1) + (nI P - nI P / 8 * 8) = nI (P - 8)) ∧ (¬ 8 ≤ P → (nI P / 8) - 1 < 0) := by decide +kernel
theorem bs_1 : ∀ P, P < 64 → (P < 56 → ¬ (nI P / 8) + 1 < 0 ∧ ¬ 7 < (nI P / 8) + 1 ∧ 8 * ((nI P / 8) + 1) + (nI P - nI P / 8 * 8) = nI (P + 8)) ∧ (¬ P < 56 → 7 < (nI P / 8) + 1) := by decide +kernel
theorem bs_2 : ∀ P, P < 64 → (0 < P % 8 → ¬ (nI P - nI P / 8 * 8) - 1 < 0 ∧ (nI P - nI P / 8 * 8) - 1 ≤ 7 ∧ 8 * (nI P / 8) + ((nI P - nI P / 8 * 8) - 1) = nI (P - 1)) ∧ (¬ 0 < P % 8 → (nI P - nI P / 8 * 8) - 1 < 0) := by decide +kernel
theorem bs_3 : ∀ P, P < 64 → (P % 8 < 7 → ¬ (nI P - nI P / 8 * 8) + 1 < 0 ∧ (nI P - nI P / 8 * 8) + 1 ≤ 7 ∧ 8 * (nI P / 8) + ((nI P - nI P / 8 * 8) + 1) = nI (P + 1)) ∧ (¬ P % 8 < 7 → ¬ (nI P - nI P / 8 * 8) + 1 ≤ 7) := by decide +kernel
theorem beside_eq {b : Bd} {σ : wx_St} (h : LR b σ) {P s : Nat} (hP : P < 64) (hs : s < 4) : f_L_beside (nI P) (nI s) σ = some (nI (bsd b P s)) := by
  obtain ⟨c1, c2, c3, c4⟩ := bs_c P hP
  have e79 : ∀ y, f_L_beside_79 (nI P) (nI s) y σ = some y := fun _ => rfl
  unfold bsd sp_nl
  rcases (show s = 0 ∨ s = 1 ∨ s = 2 ∨ s = 3 by omega) with rfl | rfl | rfl | rfl
  · unfold f_L_beside
    rw [if_pos (show nI 0 = 0 from rfl), if_pos rfl]
    by_cases hh : 8 ≤ P
    · obtain ⟨d1, d2, d3⟩ := (bs_0 P hP).1 hh
      rw [px_o (net_in h (P := P - 8) (by omega) d1 c1 d2 c2 d3), e79, if_pos hh]
    · rw [px_o (net_out (Or.inl ((bs_0 P hP).2 hh))), e79, if_neg hh]
      rfl
  · unfold f_L_beside
    rw [if_neg (show ¬ nI 1 = 0 by decide), if_pos (show nI 1 = 1 from rfl), if_neg (show ¬ (1 : Nat) = 0 by decide), if_pos rfl]
    by_cases hh : P < 56
    · obtain ⟨d1, d2, d3⟩ := (bs_1 P hP).1 hh
      rw [px_o (net_in h (P := P + 8) (by omega) d1 c1 d2 c2 d3), e79, if_pos hh]
    · rw [px_o (net_out (Or.inr (Or.inr (Or.inl ((bs_1 P hP).2 hh))))), e79, if_neg hh]
      rfl
  · unfold f_L_beside
    rw [if_neg (show ¬ nI 2 = 0 by decide), if_neg (show ¬ nI 2 = 1 by decide), if_pos (show nI 2 = 2 from rfl), if_neg (show ¬ (2 : Nat) = 0 by decide), if_neg (show ¬ (2 : Nat) = 1 by decide), if_pos rfl]
    by_cases hh : 0 < P % 8
    · obtain ⟨d1, d2, d3⟩ := (bs_2 P hP).1 hh
      rw [px_o (net_in h (P := P - 1) (by omega) c3 d1 c4 d2 d3), e79, if_pos hh]
    · rw [px_o (net_out (Or.inr (Or.inl ((bs_2 P hP).2 hh)))), e79, if_neg hh]
      rfl
  · unfold f_L_beside
    rw [if_neg (show ¬ nI 3 = 0 by decide), if_neg (show ¬ nI 3 = 1 by decide), if_neg (show ¬ nI 3 = 2 by decide), if_neg (show ¬ (3 : Nat) = 0 by decide), if_neg (show ¬ (3 : Nat) = 1 by decide), if_neg (show ¬ (3 : Nat) = 2 by decide)]
    by_cases hh : P % 8 < 7
    · obtain ⟨d1, d2, d3⟩ := (bs_3 P hP).1 hh
      rw [px_o (net_in h (P := P + 1) (by omega) c3 d1 c4 d2 d3), e79, if_pos hh]
    · rw [px_o (net_out (Or.inr (Or.inr (Or.inr ((bs_3 P hP).2 hh))))), e79, if_neg hh]
      rfl
theorem bsd_lt {b : Bd} (g : good b) {P s : Nat} (hP : P < 64) (hs : s < 4) : bsd b P s < 8 := by
  unfold bsd
  rcases (sp_nl_v P hP s hs).2 with e | ⟨n, hn, e⟩
  · rw [e]; exact (by decide : (0 : Nat) < 8)
  · rw [e]; exact g.2.1 n hn
theorem lfed_eq {b : Bd} {σ : wx_St} (h : LR b σ) (g : good b) {n x : Nat} (hn : n < 8) (hx : x < 8) : f_L_fed (nI n) (nI x) σ = some (b01 ((bF b n).testBit x)) := by
  unfold f_L_fed f_L_fed_16
  rw [q_fed h hn, fed_bit6 _ (g.2.2.1.2 n hn).1 x hx]
  cases (bF b n).testBit x <;> rfl
theorem lsus_side {b : Bd} {σ : wx_St} (h : LR b σ) (g : good b) {P s m : Nat} (hP : P < 64) (hs : s < 4) : f_L_suspect_2 (m + 1) (nI P) (nI s) σ = if susL b P s = true then some 1 else f_L_suspect_2 m (nI P) (nI (s + 1)) σ := by
  have gN := g.2.1 P hP
  have hbl := bsd_lt g hP hs
  have e48 : f_L_suspect_48 (f_L_suspect_2 m) (nI P) (nI s) (nI (bsd b P s)) σ = f_L_suspect_2 m (nI P) (nI (s + 1)) σ := by
    unfold f_L_suspect_48
    rw [nI_1]
  rw [f_L_suspect_2, if_neg (p4_i s hs), px_o (beside_eq h hP hs), q_b h hP, q_b h hP, q_b h hP, e48]
  have hsu : susL b P s = (decide (0 < bN b P) && decide (0 < bsd b P s) && !decide (bsd b P s = bN b P) && (bF b (bN b P)).testBit (bsd b P s)) := by
    unfold susL
    obtain ⟨gF0, gF⟩ := g.2.2.1
    rcases (sp_nl_v P hP s hs).2 with e | ⟨n, hn, e⟩
    · have hb0 : bsd b P s = 0 := by unfold bsd; rw [e]
      rw [e, hb0]
      simp
    · have hb0 : bsd b P s = bN b n := by unfold bsd; rw [e]
      rw [e, hb0]
      simp only [List.any_cons, List.any_nil, Bool.or_false]
      by_cases h1 : bN b P = 0
      · rw [h1, gF0]
        simp
      · by_cases h2 : bN b n = 0
        · rw [h2, (gF _ gN).2.1]
          simp
        · by_cases h3 : bN b n = bN b P
          · rw [h3, (gF _ gN).2.2]
            simp
          · rw [decide_eq_true (show 0 < bN b P by omega), decide_eq_true (show 0 < bN b n by omega), decide_eq_false h3]
            simp
  rw [hsu]
  by_cases h1 : bN b P = 0
  · rw [if_pos ((nI_le0 _ gN).mpr h1), h1]
    simp
  · rw [if_neg (fun hh => h1 ((nI_le0 _ gN).mp hh)), decide_eq_true (show 0 < bN b P by omega)]
    by_cases h2 : bsd b P s = 0
    · rw [if_pos ((nI_le0 _ hbl).mpr h2), h2]
      simp
    · rw [if_neg (fun hh => h2 ((nI_le0 _ hbl).mp hh)), decide_eq_true (show 0 < bsd b P s by omega)]
      by_cases h3 : bsd b P s = bN b P
      · rw [if_pos (by rw [h3]), decide_eq_true h3]
        simp
      · rw [if_neg (fun hh => h3 ((nI_eq (by omega) (by omega)).mp hh)), decide_eq_false h3, px_o (lfed_eq h g gN hbl)]
        cases (bF b (bN b P)).testBit (bsd b P s)
        · rw [if_pos (show b01 false = 0 from rfl)]
          simp
        · rw [if_neg (show ¬ b01 true = 0 by decide)]
          simp
theorem lsus_eq {b : Bd} {σ : wx_St} (h : LR b σ) (g : good b) {P : Nat} (hP : P < 64) : f_L_suspect (nI P) σ = some (b01 (sus b P)) := by
  have e : f_L_suspect (nI P) σ = f_L_suspect_2 (1996 + 4) (nI P) (nI 0) σ := rfl
  rw [e, lsus_side h g hP (by decide), lsus_side h g hP (by decide), lsus_side h g hP (by decide), lsus_side h g hP (by decide)]
  unfold sus
  have e4 : f_L_suspect_2 1996 (nI P) (nI (3 + 1)) σ = some 0 := by
    rw [f_L_suspect_2, if_pos (by decide)]
  rw [e4]
  cases susL b P 0 <;> cases susL b P 1 <;> cases susL b P 2 <;> cases susL b P 3 <;> rfl
theorem ltouch_loop {b : Bd} {σ : wx_St} (h : LR b σ) (g : good b) {p : Nat} (hp : p < 64) : ∀ (n j m : Nat), j + n = bT b → n < m → (∀ i, i < j → bP b i ≠ p) → ∃ r, f_L_touch_2 m (nI p) (nI j) σ = some r ∧ TA b p r := by
  have gT := g.2.2.2.1
  intro n
  induction n with
  | zero =>
    intro j m hj hm hno
    obtain ⟨m, rfl⟩ : ∃ k, m = k + 1 := ⟨m - 1, by omega⟩
    have hj : j = bT b := by omega
    subst hj
    rw [f_L_touch_2, q_T h, if_pos (nI_le (Nat.le_refl _) (by omega))]
    exact ⟨_, rfl, Or.inr ⟨hno, rfl⟩⟩
  | succ n ih =>
    intro j m hj hm hno
    obtain ⟨m, rfl⟩ : ∃ k, m = k + 1 := ⟨m - 1, by omega⟩
    have hjT : j < bT b := by omega
    have gP := (g.2.2.2.2.1 j hjT).1
    rw [f_L_touch_2, q_T h, if_neg (nI_ge hjT (by omega)), q_P h g hjT]
    by_cases he : bP b j = p
    · rw [if_pos (by rw [he])]
      exact ⟨_, rfl, Or.inl ⟨j, hjT, he, rfl⟩⟩
    · rw [if_neg (fun hh => he ((nI_eq (by omega) (by omega)).mp hh)), nI_1]
      refine ih (j + 1) m (by omega) (by omega) (fun i hi => ?_)
      by_cases hij : i = j
      · subst hij; exact he
      · exact hno i (by omega)
theorem ltouch_eq {b : Bd} {σ : wx_St} (h : LR b σ) (g : good b) {p : Nat} (hp : p < 64) : ∃ r, f_L_touch (nI p) σ = some r ∧ TA b p r := by
  have gT := g.2.2.2.1
  exact ltouch_loop h g hp (bT b) 0 2000 (by omega) (by omega) (fun i hi => absurd hi (Nat.not_lt_zero _))
theorem llive_loop {b : Bd} {σ : wx_St} (h : LR b σ) (g : good b) : ∀ (n j m : Nat), j + n = bT b → n < m → f_L_live_6 m (nI (cnt (live b) j)) (nI j) σ = some (nI (cnt (live b) (bT b))) := by
  have gT := g.2.2.2.1
  intro n
  induction n with
  | zero =>
    intro j m hj hm
    obtain ⟨m, rfl⟩ : ∃ k, m = k + 1 := ⟨m - 1, by omega⟩
    have hj : j = bT b := by omega
    subst hj
    rw [f_L_live_6, q_T h, if_pos (nI_le (Nat.le_refl _) (by omega))]
  | succ n ih =>
    intro j m hj hm
    obtain ⟨m, rfl⟩ : ∃ k, m = k + 1 := ⟨m - 1, by omega⟩
    have hjT : j < bT b := by omega
    obtain ⟨gP, gO1, gO, -⟩ := g.2.2.2.2.1 j hjT
    have hn := ih (j + 1) m (by omega) (by omega)
    have hS : cnt (live b) (j + 1) = cnt (live b) j + (if live b j = true then 1 else 0) := rfl
    have el : live b j = (bF b (bN b (bP b j))).testBit (bO b j) := rfl
    rw [f_L_live_6, q_T h, if_neg (nI_ge hjT (by omega)), q_P h g hjT, q_b h gP, q_O h g hjT, px_o (lfed_eq h g (g.2.1 _ gP) gO), ← el]
    unfold f_L_live_44
    rw [nI_1]
    rw [hS] at hn
    cases hl : live b j with
    | false =>
      rw [hl, if_neg (by decide)] at hn
      rw [if_pos (show b01 false = 0 from rfl), show (0 : Int32) = nI 0 from rfl, nI_add]
      exact hn
    | true =>
      rw [hl, if_pos rfl] at hn
      rw [if_neg (show ¬ b01 true = 0 by decide), nI_1]
      exact hn
theorem llive_eq {b : Bd} {σ : wx_St} (h : LR b σ) (g : good b) : f_L_live σ = some (nI (cnt (live b) (bT b))) := by
  have gT := g.2.2.2.1
  exact llive_loop h g (bT b) 0 2000 (by omega) (by omega)
theorem near_eq : ∀ P, P < 64 → ∀ Q, Q < 64 → f_L_near (nI P) (nI Q) = some (b01 (nbr P Q)) := by decide +kernel
