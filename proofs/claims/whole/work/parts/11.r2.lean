/-! the reference's pairs -/
def innD (b : Bd) (p : Nat) : Nat → (Nat → Bool) → (Nat → Bool)
  | 0, D => D
  | n + 1, D => innD b p n (if pr b p (63 - n) = true then (fun x => D x || decide (x = p) || decide (x = 63 - n)) else D)
def outD (b : Bd) : Nat → (Nat → Bool) → (Nat → Bool)
  | 0, D => D
  | n + 1, D => outD b n (innD b (63 - n) n D)
theorem innD_iff (b : Bd) (p x : Nat) : ∀ (n : Nat) (D : Nat → Bool), n ≤ 64 → (innD b p n D x = true ↔ D x = true ∨ ∃ q, 64 - n ≤ q ∧ q < 64 ∧ pr b p q = true ∧ (x = p ∨ x = q))
  | 0, D, _ => ⟨fun h => Or.inl h, fun h => by
      rcases h with h | ⟨q, q1, q2, -⟩
      · exact h
      · omega⟩
  | n + 1, D, hn => by
    show innD b p n _ x = true ↔ _
    rw [innD_iff b p x n _ (by omega)]
    cases hp : pr b p (63 - n) with
    | false =>
      rw [if_neg (by decide)]
      constructor
      · rintro (h | ⟨q, q1, q2, q3, q4⟩)
        · exact Or.inl h
        · exact Or.inr ⟨q, by omega, q2, q3, q4⟩
      · rintro (h | ⟨q, q1, q2, q3, q4⟩)
        · exact Or.inl h
        · refine Or.inr ⟨q, ?_, q2, q3, q4⟩
          have : q ≠ 63 - n := fun he => by rw [he, hp] at q3; cases q3
          omega
    | true =>
      rw [if_pos rfl]
      simp only [Bool.or_eq_true, decide_eq_true_eq]
      constructor
      · rintro (((h | h) | h) | ⟨q, q1, q2, q3, q4⟩)
        · exact Or.inl h
        · exact Or.inr ⟨63 - n, by omega, by omega, hp, Or.inl h⟩
        · exact Or.inr ⟨63 - n, by omega, by omega, hp, Or.inr h⟩
        · exact Or.inr ⟨q, by omega, q2, q3, q4⟩
      · rintro (h | ⟨q, q1, q2, q3, q4⟩)
        · exact Or.inl (Or.inl (Or.inl h))
        · by_cases he : q = 63 - n
          · rcases q4 with q4 | q4
            · exact Or.inl (Or.inl (Or.inr q4))
            · exact Or.inl (Or.inr (q4.trans he))
          · exact Or.inr ⟨q, by omega, q2, q3, q4⟩
theorem outD_iff (b : Bd) (x : Nat) : ∀ (n : Nat) (D : Nat → Bool), n ≤ 64 → (outD b n D x = true ↔ D x = true ∨ ∃ p q, 64 - n ≤ p ∧ p < q ∧ q < 64 ∧ pr b p q = true ∧ (x = p ∨ x = q))
  | 0, D, _ => ⟨fun h => Or.inl h, fun h => by
      rcases h with h | ⟨p, q, q1, q2, q3, -⟩
      · exact h
      · omega⟩
  | n + 1, D, hn => by
    show outD b n _ x = true ↔ _
    rw [outD_iff b x n _ (by omega), innD_iff b (63 - n) x n D (by omega)]
    constructor
    · rintro ((h | ⟨q, q1, q2, q3, q4⟩) | ⟨p, q, q1, q2, q3, q4⟩)
      · exact Or.inl h
      · exact Or.inr ⟨63 - n, q, by omega, by omega, q2, q3, q4⟩
      · exact Or.inr ⟨p, q, by omega, q2, q3, q4⟩
    · rintro (h | ⟨p, q, q1, q2, q3, q4⟩)
      · exact Or.inl (Or.inl h)
      · by_cases he : p = 63 - n
        · subst he
          exact Or.inl (Or.inr ⟨q, by omega, q3, q4⟩)
        · exact Or.inr ⟨p, q, by omega, q2, q3, q4⟩
theorem outD_cb2 (b : Bd) {x : Nat} (hx : x < 64) : outD b 64 (fun _ => false) x = cb2 b x := by
  rw [Bool.eq_iff_iff, outD_iff b x 64 _ (Nat.le_refl _)]
  unfold cb2 c2 pr
  simp only [Bool.and_eq_true, List.any_eq_true, List.mem_range, decide_eq_true_eq]
  constructor
  · rintro (h | ⟨p, q, q1, q2, q3, ⟨⟨h1, h2⟩, h3⟩, h4⟩)
    · cases h
    · rcases h4 with h4 | h4
      · subst h4
        refine ⟨h1, q, q3, by omega, h2, ?_⟩
        rw [Nat.min_eq_left (by omega), Nat.max_eq_right (by omega)]
        exact h3
      · subst h4
        refine ⟨h2, p, by omega, by omega, h1, ?_⟩
        rw [Nat.min_eq_right (by omega), Nat.max_eq_left (by omega)]
        exact h3
  · rintro ⟨h1, o, o1, o2, o3, o4⟩
    right
    rcases Nat.lt_or_gt_of_ne o2 with hlt | hgt
    · rw [Nat.min_eq_right (by omega), Nat.max_eq_left (by omega)] at o4
      exact ⟨o, x, by omega, hlt, hx, ⟨⟨o3, h1⟩, o4⟩, Or.inr rfl⟩
    · rw [Nat.min_eq_left (by omega), Nat.max_eq_right (by omega)] at o4
      exact ⟨x, o, by omega, hgt, o1, ⟨⟨h1, o3⟩, o4⟩, Or.inl rfl⟩
/-- suspects, singles and made are found; pairs so far, paired so far -/
def fp (b : Bd) (acc : Nat) (D : Nat → Bool) (σ : wx_St) : Prop := ((∀ p, p < 64 → σ.1 16 13 p = b01 (sus b p) ∧ σ.1 16 14 p = b01 (cb b p)) ∧ (∀ p, p < 64 → sus b p = true → ∀ r, r < bR b → σ.2.1 16 12 (8 * p + r) = lw b p r)) ∧ σ.2.2.1 16 16 = nI acc ∧ ∀ x, x < 64 → σ.1 16 15 x = b01 (D x)
def fpE (σ τ : wx_St) : Prop := (∀ x k i, ¬ (x = 16 ∧ (k = 13 ∨ k = 14 ∨ k = 15)) → τ.1 x k i = σ.1 x k i) ∧ (∀ x k i, ¬ (x = 16 ∧ (k = 10 ∨ k = 11 ∨ k = 12)) → τ.2.1 x k i = σ.2.1 x k i) ∧ (∀ x y, ¬ (x = 16 ∧ y = 16) → τ.2.2.1 x y = σ.2.2.1 x y) ∧ τ.2.2.2 = σ.2.2.2
theorem fpE.rf (σ : wx_St) : fpE σ σ := ⟨fun _ _ _ _ => rfl, fun _ _ _ _ => rfl, fun _ _ _ => rfl, rfl⟩
theorem fpE.tr {σ τ ρ : wx_St} (h : fpE σ τ) (h' : fpE τ ρ) : fpE σ ρ := ⟨fun x k i hn => (h'.1 x k i hn).trans (h.1 x k i hn), fun x k i hn => (h'.2.1 x k i hn).trans (h.2.1 x k i hn), fun x y hn => (h'.2.2.1 x y hn).trans (h.2.2.1 x y hn), h'.2.2.2.trans h.2.2.2⟩
theorem fsE.fpE {σ τ : wx_St} (h : fsE σ τ) : fpE σ τ := ⟨h.1, h.2.1, fun x y _ => by rw [h.2.2], by rw [h.2.2]⟩
theorem fpE.rfI {k off : Nat} {b : Bd} {σ τ : wx_St} (e : fpE σ τ) (hk : k < 13) (h : rfI k off b σ) : rfI k off b τ := h.agr (by
  funext i
  exact e.1 16 k i (by omega))
theorem b01_1 (c : Bool) : b01 c = 1 ↔ c = true := by
  cases c
  · exact ⟨fun h => absurd h (by decide), fun h => by cases h⟩
  · exact ⟨fun _ => rfl, fun _ => rfl⟩
theorem fp_21 {b : Bd} (g : good b) {K : Int32 → wx_St → Option (Unit × wx_St)} {p : Nat} (hp : p < 64) : ∀ (n q m acc : Nat) (D : Nat → Bool) (σ : wx_St), q + n = 64 → n < m → rfI 0 0 b σ → fp b acc D σ → ∃ τ, f_X6_findPairs_21 K m (nI p) (nI q) σ = K (nI (p + 1)) τ ∧ fp b (inn b p n acc) (innD b p n D) τ ∧ fpE σ τ := by
  intro n
  induction n with
  | zero =>
    intro q m acc D σ hq hm h hf
    obtain ⟨m, rfl⟩ : ∃ k, m = k + 1 := ⟨m - 1, by omega⟩
    have hq : q = 64 := by omega
    subst hq
    rw [f_X6_findPairs_21, if_pos (by decide), nI_1]
    exact ⟨σ, rfl, hf, fpE.rf σ⟩
  | succ n ih =>
    intro q m acc D σ hq hm h hf
    obtain ⟨m, rfl⟩ : ∃ k, m = k + 1 := ⟨m - 1, by omega⟩
    have hq64 : q < 64 := by omega
    have e63 : 63 - n = q := by omega
    obtain ⟨⟨f1, f2⟩, f3, f4⟩ := id hf
    have hin : inn b p (n + 1) acc = inn b p n (if pr b p q = true then acc + 1 else acc) := by
      show inn b p n (if pr b p (63 - n) = true then acc + 1 else acc) = _
      rw [e63]
    have hinD : innD b p (n + 1) D = innD b p n (if pr b p q = true then (fun x => D x || decide (x = p) || decide (x = q)) else D) := by
      show innD b p n (if pr b p (63 - n) = true then (fun x => D x || decide (x = p) || decide (x = 63 - n)) else D) = _
      rw [e63]
    have no : pr b p q = false → ∃ ρ, f_X6_findPairs_21 K m (nI p) (nI (q + 1)) σ = K (nI (p + 1)) ρ ∧ fp b (inn b p (n + 1) acc) (innD b p (n + 1) D) ρ ∧ fpE σ ρ := by
      intro hpr
      rw [hin, hinD, hpr, if_neg (by decide), if_neg (by decide)]
      exact ih (q + 1) m acc D σ (by omega) (by omega) h hf
    rw [f_X6_findPairs_21, if_neg (p64_c q hq64).2.2.2.2, px_rI hp (by decide), (f1 p hp).1]
    unfold f_X6_findPairs_80
    rw [nI_1]
    cases h1 : sus b p with
    | false =>
      rw [if_neg (by decide)]
      exact no (by unfold pr; rw [h1]; rfl)
    | true =>
      rw [if_pos (show b01 true = 1 from rfl), px_rI hq64 (by decide), (f1 q hq64).1]
      cases h2 : sus b q with
      | false =>
        rw [if_neg (by decide)]
        exact no (by unfold pr; rw [h1, h2]; rfl)
      | true =>
        have hpr : pr b p q = fit2 b p q := by unfold pr; rw [h1, h2]; rfl
        rw [if_pos (show b01 true = 1 from rfl), px_o (both6 h g hp hq64 (f2 p hp h1) (f2 q hq64 h2))]
        cases h3 : fit2 b p q with
        | false =>
          rw [if_pos (show b01 false = 0 from rfl)]
          exact no (hpr.trans h3)
        | true =>
          rw [if_neg (show ¬ b01 true = 0 by decide)]
          rw [px_l, px_w hp (by decide), nI_clamp (by omega), px_w hq64 (by decide), nI_clamp (by omega), f3, nI_1]
          rw [hin, hinD, hpr, h3, if_pos rfl, if_pos rfl]
          have hI : ∀ x k i, (wx_sI (wx_sI (wx_sS σ 16 16 (nI (acc + 1))) 16 15 p 1) 16 15 q 1).1 x k i = if x = 16 ∧ k = 15 ∧ i = q then 1 else if x = 16 ∧ k = 15 ∧ i = p then 1 else σ.1 x k i := fun _ _ _ => rfl
          have ex : fpE σ (wx_sI (wx_sI (wx_sS σ 16 16 (nI (acc + 1))) 16 15 p 1) 16 15 q 1) := ⟨fun x k i hn => by rw [hI, if_neg (fun hh => hn ⟨hh.1, Or.inr (Or.inr hh.2.1)⟩), if_neg (fun hh => hn ⟨hh.1, Or.inr (Or.inr hh.2.1)⟩)], fun _ _ _ _ => rfl, fun x y hn => by
            show (if x = 16 ∧ y = 16 then _ else σ.2.2.1 x y) = _
            rw [if_neg hn], rfl⟩
          obtain ⟨ρ, r1, r2, r3⟩ := ih (q + 1) m (acc + 1) (fun x => D x || decide (x = p) || decide (x = q)) _ (by omega) (by omega) (ex.rfI (by decide) h) ⟨⟨fun y hy => by
            rw [hI, hI, if_neg (by omega), if_neg (by omega), if_neg (by omega), if_neg (by omega)]
            exact f1 y hy, fun y hy hs r hr => f2 y hy hs r hr⟩, rfl, fun x hx => by
            rw [hI, f4 x hx]
            show _ = b01 (D x || decide (x = p) || decide (x = q))
            by_cases hxq : x = q
            · rw [if_pos ⟨rfl, rfl, hxq⟩, decide_eq_true hxq, Bool.or_true]
              rfl
            · rw [if_neg (fun hh => hxq hh.2.2), decide_eq_false hxq, Bool.or_false]
              by_cases hxp : x = p
              · rw [if_pos ⟨rfl, rfl, hxp⟩, decide_eq_true hxp, Bool.or_true]
                rfl
              · rw [if_neg (fun hh => hxp hh.2.2), decide_eq_false hxp, Bool.or_false]⟩
          exact ⟨ρ, r1, r2, ex.tr r3⟩
theorem fp_11 {b : Bd} (g : good b) : ∀ (n p m acc : Nat) (D : Nat → Bool) (σ : wx_St), p + n = 64 → n < m → rfI 0 0 b σ → fp b acc D σ → ∃ τ, f_X6_findPairs_11 m (nI p) σ = some ((), τ) ∧ fp b (outr b n acc) (outD b n D) τ ∧ fpE σ τ := by
  intro n
  induction n with
  | zero =>
    intro p m acc D σ hp hm h hf
    obtain ⟨m, rfl⟩ : ∃ k, m = k + 1 := ⟨m - 1, by omega⟩
    have hp : p = 64 := by omega
    subst hp
    rw [f_X6_findPairs_11, if_pos (by decide)]
    exact ⟨σ, rfl, hf, fpE.rf σ⟩
  | succ n ih =>
    intro p m acc D σ hp hm h hf
    obtain ⟨m, rfl⟩ : ∃ k, m = k + 1 := ⟨m - 1, by omega⟩
    have hp64 : p < 64 := by omega
    have e63 : 63 - n = p := by omega
    obtain ⟨τ, t1, t2, t3⟩ := fp_21 g (K := f_X6_findPairs_11 m) hp64 n (p + 1) 2000 acc D σ (by omega) (by omega) h hf
    rw [f_X6_findPairs_11, if_neg (p64_c p hp64).2.2.2.2, nI_1, t1]
    obtain ⟨ρ, r1, r2, r3⟩ := ih (p + 1) m (inn b p n acc) (innD b p n D) τ (by omega) (by omega) (t3.rfI (by decide) h) t2
    refine ⟨ρ, r1, ?_, t3.tr r3⟩
    show fp b (outr b n (inn b (63 - n) n acc)) (outD b n (innD b (63 - n) n D)) ρ
    rw [e63]
    exact r2
theorem fp6 {b : Bd} {σ : wx_St} (g : good b) (h : rfI 0 0 b σ) : ∃ τ, f_X6_findPairs σ = some ((), τ) ∧ fp b (outr b 64 0) (outD b 64 (fun _ => false)) τ ∧ fpE σ τ := by
  obtain ⟨τ, t1, t2, t3⟩ := fs6 g h
  unfold f_X6_findPairs
  rw [px_b t1, px_l]
  have ex : fpE τ (wx_sS τ 16 16 0) := ⟨fun _ _ _ _ => rfl, fun _ _ _ _ => rfl, fun x y hn => by
    show (if x = 16 ∧ y = 16 then _ else τ.2.2.1 x y) = _
    rw [if_neg hn], rfl⟩
  obtain ⟨ρ, r1, r2, r3⟩ := fp_11 g 64 0 2000 0 (fun _ => false) (wx_sS τ 16 16 0) (by omega) (by omega) (ex.rfI (by decide) (t3.rfI (by decide) h)) ⟨⟨fun p hp => ⟨(t2.1 p hp).1, (t2.1 p hp).2.1⟩, t2.2⟩, rfl, fun x hx => (t2.1 x hx).2.2⟩
  exact ⟨ρ, r1, r2, (t3.fpE.tr ex).tr r3⟩
/-- how many singles -/
def cnt (h : Nat → Bool) : Nat → Nat
  | 0 => 0
  | n + 1 => cnt h n + (if h n = true then 1 else 0)
theorem cnt_le (h : Nat → Bool) : ∀ n, cnt h n ≤ n
  | 0 => Nat.le_refl 0
  | n + 1 => by
    have := cnt_le h n
    show cnt h n + (if h n = true then 1 else 0) ≤ n + 1
    split <;> omega
theorem b01_nI (c : Bool) (a : Nat) : nI a + b01 c = nI (a + (if c = true then 1 else 0)) := by
  cases c
  · show nI a + nI 0 = _
    rw [nI_add]
    rfl
  · show nI a + nI 1 = _
    rw [nI_add]
    rfl
theorem singles_8 {b : Bd} {σ : wx_St} (h : ∀ p, p < 64 → σ.1 16 14 p = b01 (cb b p)) : ∀ (n p m : Nat), p + n = 64 → n < m → f_X6_singlesMany_8 m (nI (cnt (cb b) p)) (nI p) σ = some (nI (cnt (cb b) 64), σ) := by
  intro n
  induction n with
  | zero =>
    intro p m hp hm
    obtain ⟨m, rfl⟩ : ∃ k, m = k + 1 := ⟨m - 1, by omega⟩
    have hp : p = 64 := by omega
    subst hp
    rw [f_X6_singlesMany_8, if_pos (by decide)]
  | succ n ih =>
    intro p m hp hm
    obtain ⟨m, rfl⟩ : ∃ k, m = k + 1 := ⟨m - 1, by omega⟩
    have hp64 : p < 64 := by omega
    rw [f_X6_singlesMany_8, if_neg (p64_c p hp64).2.2.2.2, px_rI hp64 (by decide), h p hp64, b01_nI, nI_1]
    exact ih (p + 1) m (by omega) (by omega)
theorem singles6 {b : Bd} {σ : wx_St} (g : good b) (h : rfI 0 0 b σ) : ∃ τ, f_X6_singlesMany σ = some (nI (cnt (cb b) 64), τ) ∧ fs b 64 τ ∧ fsE σ τ := by
  obtain ⟨τ, t1, t2, t3⟩ := fs6 g h
  unfold f_X6_singlesMany
  rw [px_b t1]
  exact ⟨τ, singles_8 (fun p hp => (t2.1 p hp).2.1) 64 0 2000 (by omega) (by omega), t2, t3⟩
