/-! THE REFERENCE'S SUSPICION: findMade, fits, findSuspects -/
theorem mul8 : ∀ P, P < 64 → (8 : Int32) * nI P = nI (8 * P) := by decide +kernel
theorem rdp6 {b : Bd} {σ : wx_St} (h : rfI 0 0 b σ) (g : good b) {i : Nat} (hi : i < bR b) : f_X6_readingPart (nI i) 0 σ = some (nI (bA b i)) ∧ f_X6_readingPart (nI i) 1 σ = some (nI (bB b i)) ∧ f_X6_readingPart (nI i) 2 σ = some (nI (bC b i)) := by
  have gR := g.2.2.2.2.2.2.2.1
  have e : ∀ i, i < 8 → (85 : Int32) + 3 * nI i + 0 = nI (85 + 3 * i) ∧ (85 : Int32) + 3 * nI i + 1 = nI (86 + 3 * i) ∧ (85 : Int32) + 3 * nI i + 2 = nI (87 + 3 * i) := by decide
  obtain ⟨e0, e1, e2⟩ := e i (by omega)
  obtain ⟨h1, h2, h3⟩ := h.2.2.2.2.2.2.2 i hi
  rw [Nat.zero_add] at h1 h2 h3
  unfold f_X6_readingPart
  rw [e0, e1, e2, px_rI (by omega) (by decide), px_rI (by omega) (by decide), px_rI (by omega) (by decide), h1, h2, h3]
  exact ⟨rfl, rfl, rfl⟩
theorem rf_st {b : Bd} {σ : wx_St} (h : rfI 0 0 b σ) : (∀ i, i < 4 → σ.1 16 0 i = nI (bS b i)) ∧ σ.1 16 0 4 = nI (bK b) ∧ σ.1 16 0 5 = nI (bT b) ∧ σ.1 16 0 6 = nI (bR b) := by
  obtain ⟨h1, -, -, h4, -, h6, h7, -⟩ := h
  simp only [Nat.zero_add] at h1 h4 h6 h7
  exact ⟨h1, h6, h4, h7⟩
theorem r16 {α : Type} (τ : wx_St) (j : Nat) (hj : j < 109) (F : Int32 → Option α) : wx_rI τ 16 0 109 (nI j) F = F (τ.1 16 0 j) := px_rI hj (by decide)
/-- one step of thought with a lone touch -/
theorem lone_step {b : Bd} (g : good b) {P : Nat} (hP : P < 64) {k : Nat} (hk : k ≤ 300) {σ : wx_St} (h : rfI 0 0 b σ) (hf : ∀ p, p < 64 → σ.2.1 16 10 p = rl b P k p) :
    ∃ τ, f_X6_steps (nI P) σ = some ((), τ) ∧ τ.1 = σ.1 ∧ τ.2.2 = σ.2.2 ∧ (∀ p, p < 64 → τ.2.1 16 10 p = rl b P (k + 1) p) ∧ ∀ o' k' i, ¬ (o' = 16 ∧ (k' = 10 ∨ k' = 11)) → τ.2.1 o' k' i = σ.2.1 o' k' i := by
  obtain ⟨s1, -⟩ := rf_st h
  have hs1 : (100 : Int32) - σ.1 16 0 1 = nI (100 - bS b 1) := by
    rw [s1 1 (by decide)]
    exact nI_sub (m := 100) (by have := g.1.2.1; omega)
  exact steps_n g (x1 := nI P) (h := lone P) g.set (k := k) hk (s1 0 (by decide)) hs1 (s1 2 (by decide)) hf (fun τ _ p hp => isWarmed_alone hp hP)
theorem made_14 {b : Bd} (g : good b) {P s : Nat} (hP : P < 64) (hs : s ≤ 100) {K6 : Int32 → Int32 → wx_St → Option (Unit × wx_St)} : ∀ (n r m : Nat) (σ : wx_St), r + n = bR b → n < m → rfI 0 0 b σ → (∀ p, p < 64 → σ.2.1 16 10 p = rl b P (min s (bK b)) p) → (∀ r', r' < bR b → (bC b r' < s ∨ (bC b r' = s ∧ r' < r)) → σ.2.1 16 12 (8 * P + r') = lw b P r') →
    ∃ τ, f_X6_findMade_14 K6 m (nI P) (nI s) (nI r) σ = (if bK b ≤ s then K6 (nI P) (nI (s + 1)) τ else wx_b (f_X6_steps (nI P) τ) (fun _ ρ => K6 (nI P) (nI (s + 1)) ρ)) ∧ τ.1 = σ.1 ∧ τ.2.2 = σ.2.2 ∧ (∀ x k i, ¬ (x = 16 ∧ k = 12 ∧ 8 * P ≤ i ∧ i < 8 * P + 8) → τ.2.1 x k i = σ.2.1 x k i) ∧ (∀ r', r' < bR b → bC b r' < s + 1 → τ.2.1 16 12 (8 * P + r') = lw b P r') := by
  have gR := g.2.2.2.2.2.2.2.1
  have gK := g.2.2.2.2.2.2.1
  intro n
  induction n with
  | zero =>
    intro r m σ hr hm h hf hmade
    obtain ⟨m, rfl⟩ : ∃ k, m = k + 1 := ⟨m - 1, by omega⟩
    have hr : r = bR b := by omega
    subst hr
    obtain ⟨s1, s2, s3, s4⟩ := rf_st h
    rw [f_X6_findMade_14, show (6 : Int32) = nI 6 from rfl, r16 σ 6 (by decide), s4, if_pos (nI_le (Nat.le_refl _) (by omega)), show (4 : Int32) = nI 4 from rfl, r16 σ 4 (by decide), s2]
    unfold f_X6_findMade_78
    rw [nI_1]
    refine ⟨σ, ?_, rfl, rfl, fun x k i _ => rfl, fun r' h1 h2 => hmade r' h1 (by omega)⟩
    by_cases hc : bK b ≤ s
    · rw [if_pos (nI_le hc (by omega)), if_pos hc]
    · rw [if_neg (nI_ge (by omega) (by omega)), if_neg hc]
  | succ n ih =>
    intro r m σ hr hm h hf hmade
    obtain ⟨m, rfl⟩ : ∃ k, m = k + 1 := ⟨m - 1, by omega⟩
    have hrR : r < bR b := by omega
    obtain ⟨q1, q2, q3⟩ := g.2.2.2.2.2.2.2.2 r hrR
    obtain ⟨s1, s2, s3, s4⟩ := rf_st h
    obtain ⟨d0, d1, d2⟩ := rdp6 h g hrR
    rw [f_X6_findMade_14, show (6 : Int32) = nI 6 from rfl, r16 σ 6 (by decide), s4, if_neg (nI_ge hrR (by omega)), px_o d2, px_o d0]
    unfold f_X6_findMade_57
    rw [nI_1]
    by_cases hc : bC b r = s
    · rw [if_pos (by rw [hc]), px_rF q1 (by decide), mul8 P hP, nI_add, px_w (by omega) (by decide), nI_clamp (by omega), hf _ q1]
      have hv : rl b P (min s (bK b)) (bA b r) = lw b P r := by
        unfold lw
        rw [hc, Nat.min_eq_left (by omega)]
      rw [hv]
      have hF : ∀ x k i, (wx_sF σ 16 12 (8 * P + r) (lw b P r)).2.1 x k i = if x = 16 ∧ k = 12 ∧ i = 8 * P + r then lw b P r else σ.2.1 x k i := fun _ _ _ => rfl
      obtain ⟨τ, t1, t2, t3, t4, t5⟩ := ih (r + 1) m (wx_sF σ 16 12 (8 * P + r) (lw b P r)) (by omega) (by omega) (h.of rfl) (fun p hp => by rw [hF, if_neg (by omega)]; exact hf p hp) (fun r' h1 h2 => by
        rw [hF]
        by_cases he : r' = r
        · rw [if_pos ⟨rfl, rfl, by omega⟩, he]
        · rw [if_neg (by omega)]
          exact hmade r' h1 (by omega))
      refine ⟨τ, t1, t2, t3, fun x k i hne => ?_, t5⟩
      rw [t4 x k i hne, hF, if_neg (fun hh => hne ⟨hh.1, hh.2.1, by omega, by omega⟩)]
    · rw [if_neg (fun hh => hc ((nI_eq (by omega) (by omega)).mp hh))]
      exact ih (r + 1) m σ (by omega) (by omega) h hf (fun r' h1 h2 => hmade r' h1 (by
        by_cases he : r' = r
        · subst he; omega
        · omega))
theorem made_6 {b : Bd} (g : good b) {P : Nat} (hP : P < 64) : ∀ (n s m : Nat) (σ : wx_St), s + n = 101 → n < m → rfI 0 0 b σ → (∀ p, p < 64 → σ.2.1 16 10 p = rl b P (min s (bK b)) p) → (∀ r', r' < bR b → bC b r' < s → σ.2.1 16 12 (8 * P + r') = lw b P r') →
    ∃ τ, f_X6_findMade_6 m (nI P) (nI s) σ = some ((), τ) ∧ τ.1 = σ.1 ∧ τ.2.2 = σ.2.2 ∧ (∀ x k i, ¬ (x = 16 ∧ (k = 10 ∨ k = 11 ∨ (k = 12 ∧ 8 * P ≤ i ∧ i < 8 * P + 8))) → τ.2.1 x k i = σ.2.1 x k i) ∧ (∀ r', r' < bR b → τ.2.1 16 12 (8 * P + r') = lw b P r') := by
  have gR := g.2.2.2.2.2.2.2.1
  have gK := g.2.2.2.2.2.2.1
  intro n
  induction n with
  | zero =>
    intro s m σ hs hm h hf hmade
    obtain ⟨m, rfl⟩ : ∃ k, m = k + 1 := ⟨m - 1, by omega⟩
    have hs : s = 101 := by omega
    subst hs
    rw [f_X6_findMade_6, if_pos (by decide)]
    refine ⟨σ, rfl, rfl, rfl, fun x k i _ => rfl, fun r' h1 => hmade r' h1 ?_⟩
    have := (g.2.2.2.2.2.2.2.2 r' h1).2.2
    omega
  | succ n ih =>
    intro s m σ hs hm h hf hmade
    obtain ⟨m, rfl⟩ : ∃ k, m = k + 1 := ⟨m - 1, by omega⟩
    have hs100 : s ≤ 100 := by omega
    rw [f_X6_findMade_6, if_neg (show ¬ (100 : Int32) < nI s from nI_nlt (a := 100) (b := s) hs100 (by decide))]
    obtain ⟨τ, t1, t2, t3, t4, t5⟩ := made_14 g hP hs100 (K6 := f_X6_findMade_6 m) (bR b) 0 2000 σ (by omega) (by omega) h hf (fun r' h1 h2 => hmade r' h1 (by omega))
    have t1' : f_X6_findMade_14 (f_X6_findMade_6 m) 2000 (nI P) (nI s) 0 σ = _ := t1
    rw [t1']
    have hfτ : ∀ p, p < 64 → τ.2.1 16 10 p = rl b P (min s (bK b)) p := fun p hp => by rw [t4 16 10 p (by omega)]; exact hf p hp
    by_cases hc : bK b ≤ s
    · rw [if_pos hc]
      obtain ⟨ρ, r1, r2, r3, r4, r5⟩ := ih (s + 1) m τ (by omega) (by omega) (h.of t2) (fun p hp => by rw [hfτ p hp, Nat.min_eq_right hc, Nat.min_eq_right (by omega)]) t5
      refine ⟨ρ, r1, r2.trans t2, r3.trans t3, fun x k i hne => ?_, r5⟩
      rw [r4 x k i hne, t4 x k i (fun hh => hne ⟨hh.1, Or.inr (Or.inr hh.2)⟩)]
    · rw [if_neg hc]
      obtain ⟨ν, n1, n2, n3, n4, n5⟩ := lone_step g hP (k := s) (by omega) (h.of t2) (fun p hp => by rw [hfτ p hp, Nat.min_eq_left (by omega)])
      rw [px_b n1]
      obtain ⟨ρ, r1, r2, r3, r4, r5⟩ := ih (s + 1) m ν (by omega) (by omega) (h.of (n2.trans t2)) (fun p hp => by rw [n4 p hp, Nat.min_eq_left (by omega)]) (fun r' h1 h2 => by rw [n5 16 12 _ (by omega)]; exact t5 r' h1 h2)
      refine ⟨ρ, r1, r2.trans (n2.trans t2), r3.trans (n3.trans t3), fun x k i hne => ?_, r5⟩
      rw [r4 x k i hne, n5 x k i (fun hh => hne ⟨hh.1, by omega⟩), t4 x k i (fun hh => hne ⟨hh.1, Or.inr (Or.inr hh.2)⟩)]
theorem made6 {b : Bd} (g : good b) {P : Nat} (hP : P < 64) {σ : wx_St} (h : rfI 0 0 b σ) :
    ∃ τ, f_X6_findMade (nI P) σ = some ((), τ) ∧ τ.1 = σ.1 ∧ τ.2.2 = σ.2.2 ∧ (∀ x k i, ¬ (x = 16 ∧ (k = 10 ∨ k = 11 ∨ (k = 12 ∧ 8 * P ≤ i ∧ i < 8 * P + 8))) → τ.2.1 x k i = σ.2.1 x k i) ∧ (∀ r', r' < bR b → τ.2.1 16 12 (8 * P + r') = lw b P r') := by
  unfold f_X6_findMade
  rw [px_b cools_eq]
  obtain ⟨τ, t1, t2, t3, t4, t5⟩ := made_6 g hP 101 0 2000 (wx_uF σ 16 10 0 64 (fun _ => FP.fconst0)) (by omega) (by omega) (h.of rfl) (fun p hp => by
    show (if (16 : Nat) = 16 ∧ (10 : Nat) = 10 ∧ 0 ≤ p ∧ p < 0 + 64 then FP.fconst0 else σ.2.1 16 10 p) = _
    rw [if_pos ⟨rfl, rfl, by omega, by omega⟩, Nat.min_eq_left (Nat.zero_le _)]
    rfl) (fun r' _ h2 => absurd h2 (Nat.not_lt_zero _))
  refine ⟨τ, t1, t2, t3, fun x k i hne => ?_, t5⟩
  rw [t4 x k i hne]
  show (if x = 16 ∧ k = 10 ∧ _ then _ else σ.2.1 x k i) = _
  rw [if_neg (fun hh => hne ⟨hh.1, Or.inl hh.2.1⟩)]
theorem fits6 {b : Bd} {σ : wx_St} (h : rfI 0 0 b σ) (g : good b) {w : UInt32} {i : Nat} (hi : i < bR b) (hw : okW w) : f_X6_fits w (nI i) σ = some (b01 (fit1 b i w)) := by
  obtain ⟨w1, j, w2, w3⟩ := hw
  obtain ⟨r1, r2, r3⟩ := g.2.2.2.2.2.2.2.2 i hi
  obtain ⟨s1, -⟩ := rf_st h
  have h3 := g.1.2.2.2.2
  unfold f_X6_fits
  rw [px_o (readOf6 w1), px_o (rdp6 h g hi).2.1, show (3 : Int32) = nI 3 from rfl, r16 σ 3 (by decide), r16 σ 3 (by decide), s1 3 (by decide), within6, px_o rfl, px_z, w3]
  have e := abs_within (a := nI j) (b := nI (bB b i)) (d := nI (bS b 3)) (by rw [nI_toInt w2]; omega) (by rw [nI_toInt r2]; omega) (by rw [nI_toInt (by omega)]; omega)
  rw [nI_toInt w2, nI_toInt r2, nI_toInt (by omega)] at e
  unfold fit1
  rw [w3, nI_toInt w2, decide_eq_decide.mpr e]
  rfl
theorem alone_4 {b : Bd} {σ : wx_St} (h : rfI 0 0 b σ) (g : good b) {P : Nat} (hP : P < 64) (hm : ∀ r, r < bR b → σ.2.1 16 12 (8 * P + r) = lw b P r) : ∀ (n i m : Nat), i + n = bR b → n < m → f_X6_fitsAlone_4 m (nI P) (b01 ((List.range i).all (fun k => fit1 b k (lw b P k)))) (nI i) σ = some (b01 (fitN b (lw b P))) := by
  have gR := g.2.2.2.2.2.2.2.1
  obtain ⟨s1, s2, s3, s4⟩ := rf_st h
  intro n
  induction n with
  | zero =>
    intro i m hi hmm
    obtain ⟨m, rfl⟩ : ∃ k, m = k + 1 := ⟨m - 1, by omega⟩
    have hi : i = bR b := by omega
    subst hi
    rw [f_X6_fitsAlone_4, show (6 : Int32) = nI 6 from rfl, r16 σ 6 (by decide), s4, if_pos (nI_le (Nat.le_refl _) (by omega))]
    exact px_z
  | succ n ih =>
    intro i m hi hmm
    obtain ⟨m, rfl⟩ : ∃ k, m = k + 1 := ⟨m - 1, by omega⟩
    have hiR : i < bR b := by omega
    have hS : (List.range (i + 1)).all (fun k => fit1 b k (lw b P k)) = ((List.range i).all (fun k => fit1 b k (lw b P k)) && fit1 b i (lw b P i)) := by
      rw [List.range_succ, List.all_append]
      simp
    have hnext := ih (i + 1) m (by omega) (by omega)
    rw [hS] at hnext
    rw [f_X6_fitsAlone_4, show (6 : Int32) = nI 6 from rfl, r16 σ 6 (by decide), s4, if_neg (nI_ge hiR (by omega)), mul8 P hP, nI_add, px_rF (by omega) (by decide), hm i hiR, px_o (fits6 h g hiR (lw_ok g hiR))]
    unfold f_X6_fitsAlone_42 f_X6_fitsAlone_43
    rw [nI_1]
    cases hc : (List.range i).all (fun k => fit1 b k (lw b P k)) with
    | false =>
      rw [hc] at hnext
      rw [if_pos (show b01 false = 0 from rfl)]
      exact hnext
    | true =>
      rw [hc, Bool.true_and] at hnext
      rw [if_neg (show ¬ b01 true = 0 by decide)]
      cases hf : fit1 b i (lw b P i) with
      | false =>
        rw [hf] at hnext
        rw [if_pos (show b01 false = 0 from rfl)]
        exact hnext
      | true =>
        rw [hf] at hnext
        rw [if_neg (show ¬ b01 true = 0 by decide)]
        exact hnext
theorem alone6 {b : Bd} {σ : wx_St} (h : rfI 0 0 b σ) (g : good b) {P : Nat} (hP : P < 64) (hm : ∀ r, r < bR b → σ.2.1 16 12 (8 * P + r) = lw b P r) : f_X6_fitsAlone (nI P) σ = some (b01 (fitN b (lw b P))) := by
  have gR := g.2.2.2.2.2.2.2.1
  exact alone_4 h g hP hm (bR b) 0 2000 (by omega) (by omega)
theorem both_5 {b : Bd} {σ : wx_St} (h : rfI 0 0 b σ) (g : good b) {P Q : Nat} (hP : P < 64) (hQ : Q < 64) (hm : ∀ r, r < bR b → σ.2.1 16 12 (8 * P + r) = lw b P r) (hm2 : ∀ r, r < bR b → σ.2.1 16 12 (8 * Q + r) = lw b Q r) : ∀ (n i m : Nat), i + n = bR b → n < m → f_X6_fitsBoth_5 m (nI P) (nI Q) (b01 ((List.range i).all (fun k => fit1 b k (lw2 b P Q k)))) (nI i) σ = some (b01 (fit2 b P Q)) := by
  have gR := g.2.2.2.2.2.2.2.1
  obtain ⟨s1, s2, s3, s4⟩ := rf_st h
  intro n
  induction n with
  | zero =>
    intro i m hi hmm
    obtain ⟨m, rfl⟩ : ∃ k, m = k + 1 := ⟨m - 1, by omega⟩
    have hi : i = bR b := by omega
    subst hi
    rw [f_X6_fitsBoth_5, show (6 : Int32) = nI 6 from rfl, r16 σ 6 (by decide), s4, if_pos (nI_le (Nat.le_refl _) (by omega))]
    exact px_z
  | succ n ih =>
    intro i m hi hmm
    obtain ⟨m, rfl⟩ : ∃ k, m = k + 1 := ⟨m - 1, by omega⟩
    have hiR : i < bR b := by omega
    have hS : (List.range (i + 1)).all (fun k => fit1 b k (lw2 b P Q k)) = ((List.range i).all (fun k => fit1 b k (lw2 b P Q k)) && fit1 b i (lw2 b P Q i)) := by
      rw [List.range_succ, List.all_append]
      simp
    have hnext := ih (i + 1) m (by omega) (by omega)
    rw [hS] at hnext
    have hw2 := lw2_ok g (P := P) (Q := Q) hiR
    have e2 : FP.fadd (lw b P i) (lw b Q i) = lw2 b P Q i := rfl
    rw [f_X6_fitsBoth_5, show (6 : Int32) = nI 6 from rfl, r16 σ 6 (by decide), s4, if_neg (nI_ge hiR (by omega)), mul8 P hP, mul8 Q hQ, nI_add, nI_add, px_rF (by omega) (by decide), hm i hiR, px_rF (by omega) (by decide), hm2 i hiR, e2, px_f hw2.1, px_o (fits6 h g hiR hw2.2)]
    unfold f_X6_fitsBoth_59 f_X6_fitsBoth_60
    rw [nI_1]
    cases hc : (List.range i).all (fun k => fit1 b k (lw2 b P Q k)) with
    | false =>
      rw [hc] at hnext
      rw [if_pos (show b01 false = 0 from rfl)]
      exact hnext
    | true =>
      rw [hc, Bool.true_and] at hnext
      rw [if_neg (show ¬ b01 true = 0 by decide)]
      cases hf : fit1 b i (lw2 b P Q i) with
      | false =>
        rw [hf] at hnext
        rw [if_pos (show b01 false = 0 from rfl)]
        exact hnext
      | true =>
        rw [hf] at hnext
        rw [if_neg (show ¬ b01 true = 0 by decide)]
        exact hnext
theorem both6 {b : Bd} {σ : wx_St} (h : rfI 0 0 b σ) (g : good b) {P Q : Nat} (hP : P < 64) (hQ : Q < 64) (hm : ∀ r, r < bR b → σ.2.1 16 12 (8 * P + r) = lw b P r) (hm2 : ∀ r, r < bR b → σ.2.1 16 12 (8 * Q + r) = lw b Q r) : f_X6_fitsBoth (nI P) (nI Q) σ = some (b01 (fit2 b P Q)) := by
  have gR := g.2.2.2.2.2.2.2.1
  exact both_5 h g hP hQ hm hm2 (bR b) 0 2000 (by omega) (by omega)
def fsE (σ τ : wx_St) : Prop := (∀ x k i, ¬ (x = 16 ∧ (k = 13 ∨ k = 14 ∨ k = 15)) → τ.1 x k i = σ.1 x k i) ∧ (∀ x k i, ¬ (x = 16 ∧ (k = 10 ∨ k = 11 ∨ k = 12)) → τ.2.1 x k i = σ.2.1 x k i) ∧ τ.2.2 = σ.2.2
theorem fsE.rf (σ : wx_St) : fsE σ σ := ⟨fun _ _ _ _ => rfl, fun _ _ _ _ => rfl, rfl⟩
theorem fsE.tr {σ τ ρ : wx_St} (h : fsE σ τ) (h' : fsE τ ρ) : fsE σ ρ := ⟨fun x k i hn => (h'.1 x k i hn).trans (h.1 x k i hn), fun x k i hn => (h'.2.1 x k i hn).trans (h.2.1 x k i hn), h'.2.2.trans h.2.2⟩
theorem fsE.rfI {k off : Nat} {b : Bd} {σ τ : wx_St} (e : fsE σ τ) (hk : k < 13) (h : rfI k off b σ) : rfI k off b τ := h.agr (by
  funext i
  exact e.1 16 k i (by omega))
def fs (b : Bd) (P : Nat) (σ : wx_St) : Prop := (∀ p, p < P → σ.1 16 13 p = b01 (sus b p) ∧ σ.1 16 14 p = b01 (cb b p) ∧ σ.1 16 15 p = 0) ∧ (∀ p, p < P → sus b p = true → ∀ r, r < bR b → σ.2.1 16 12 (8 * p + r) = lw b p r)
theorem fs_70 {b : Bd} {P : Nat} (hP : P < 64) {K : Int32 → wx_St → Option (Unit × wx_St)} {σ : wx_St} (h : fs b P σ) (h13 : σ.1 16 13 P = b01 (sus b P)) (hm : sus b P = true → ∀ r, r < bR b → σ.2.1 16 12 (8 * P + r) = lw b P r) : ∃ τ, f_X6_findSuspects_70 K (nI P) (nI P) (b01 (cb b P)) σ = K (nI (P + 1)) τ ∧ fs b (P + 1) τ ∧ fsE σ τ := by
  unfold f_X6_findSuspects_70
  rw [px_w hP (by decide), nI_clamp (by omega), px_w hP (by decide), nI_1]
  have hI : ∀ x k i, (wx_sI (wx_sI σ 16 14 P (b01 (cb b P))) 16 15 P 0).1 x k i = if x = 16 ∧ k = 15 ∧ i = P then 0 else if x = 16 ∧ k = 14 ∧ i = P then b01 (cb b P) else σ.1 x k i := fun _ _ _ => rfl
  refine ⟨_, rfl, ⟨fun p hp => ?_, fun p hp hs r hr => ?_⟩, fun x k i hn => ?_, fun x k i hn => rfl, rfl⟩
  · rw [hI, hI, hI]
    by_cases he : p = P
    · subst he
      rw [if_neg (by omega), if_neg (by omega), if_neg (by omega), if_pos ⟨rfl, rfl, rfl⟩, if_pos ⟨rfl, rfl, rfl⟩]
      exact ⟨h13, rfl, rfl⟩
    · rw [if_neg (by omega), if_neg (by omega), if_neg (by omega), if_neg (by omega), if_neg (by omega), if_neg (by omega)]
      exact h.1 p (by omega)
  · show σ.2.1 16 12 (8 * p + r) = _
    by_cases he : p = P
    · subst he
      exact hm hs r hr
    · exact h.2 p (by omega) hs r hr
  · rw [hI, if_neg (fun hh => hn ⟨hh.1, Or.inr (Or.inr hh.2.1)⟩), if_neg (fun hh => hn ⟨hh.1, Or.inr (Or.inl hh.2.1)⟩)]
theorem fs_loop {b : Bd} (g : good b) : ∀ (n P m : Nat) (σ : wx_St), P + n = 64 → n < m → rfI 0 0 b σ → fs b P σ → ∃ τ, f_X6_findSuspects_2 m (nI P) σ = some ((), τ) ∧ fs b 64 τ ∧ fsE σ τ := by
  have gR := g.2.2.2.2.2.2.2.1
  intro n
  induction n with
  | zero =>
    intro P m σ hP hm h hfs
    obtain ⟨m, rfl⟩ : ∃ k, m = k + 1 := ⟨m - 1, by omega⟩
    have hP : P = 64 := by omega
    subst hP
    rw [f_X6_findSuspects_2, if_pos (by decide)]
    exact ⟨σ, rfl, hfs, fsE.rf σ⟩
  | succ n ih =>
    intro P m σ hP hm h hfs
    obtain ⟨m, rfl⟩ : ∃ k, m = k + 1 := ⟨m - 1, by omega⟩
    have hP64 : P < 64 := by omega
    have go : ∀ τ, fs b (P + 1) τ → fsE σ τ → ∃ ρ, f_X6_findSuspects_2 m (nI (P + 1)) τ = some ((), ρ) ∧ fs b 64 ρ ∧ fsE σ ρ := by
      intro τ hτ ex
      obtain ⟨ρ, r1, r2, r3⟩ := ih (P + 1) m τ (by omega) (by omega) (ex.rfI (by decide) h) hτ
      exact ⟨ρ, r1, r2, ex.tr r3⟩
    have ex0 : ∀ c : Int32, fsE σ (wx_sI σ 16 13 P c) := fun c => ⟨fun x k i hn => by
      show (if x = 16 ∧ k = 13 ∧ i = P then c else σ.1 x k i) = _
      rw [if_neg (fun hh => hn ⟨hh.1, Or.inl hh.2.1⟩)], fun _ _ _ _ => rfl, rfl⟩
    have fs0 : ∀ c : Int32, fs b P (wx_sI σ 16 13 P c) := fun c => ⟨fun p hp => by
      show (if (16 : Nat) = 16 ∧ (13 : Nat) = 13 ∧ p = P then c else σ.1 16 13 p) = _ ∧ _
      rw [if_neg (by omega)]
      exact hfs.1 p hp, fun p hp hs r hr => hfs.2 p hp hs r hr⟩
    have e13 : ∀ c : Int32, (wx_sI σ 16 13 P c).1 16 13 P = c := fun c => if_pos ⟨rfl, rfl, rfl⟩
    rw [f_X6_findSuspects_2, if_neg (p64_c P hP64).2.2.2.2, px_o (isSuspect6 h g hP64)]
    unfold f_X6_findSuspects_26 f_X6_findSuspects_42 f_X6_findSuspects_69
    cases hs : sus b P with
    | false =>
      have hcb : cb b P = false := by unfold cb; rw [hs]; rfl
      rw [if_pos (show b01 false = 0 from rfl), px_w hP64 (by decide), nI_clamp (by omega), px_rI hP64 (by decide), e13, if_neg (by decide), px_rI hP64 (by decide), e13, if_neg (by decide)]
      obtain ⟨τ, t1, t2, t3⟩ := fs_70 (K := f_X6_findSuspects_2 m) hP64 (fs0 0) (by rw [e13, hs]; rfl) (fun hh => by rw [hs] at hh; cases hh)
      rw [hcb] at t1
      have t1' : f_X6_findSuspects_70 (f_X6_findSuspects_2 m) (nI P) (nI P) 0 (wx_sI σ 16 13 P 0) = _ := t1
      rw [t1']
      exact go τ t2 ((ex0 0).tr t3)
    | true =>
      rw [if_neg (show ¬ b01 true = 0 by decide), px_w hP64 (by decide), nI_clamp (by omega), px_rI hP64 (by decide), e13, if_pos rfl]
      obtain ⟨ν, n1, n2, n3, n4, n5⟩ := made6 g hP64 ((ex0 1).rfI (by decide) h)
      have ex1 : fsE (wx_sI σ 16 13 P 1) ν := ⟨fun x k i _ => by rw [n2], fun x k i hn => n4 x k i (by omega), n3⟩
      have fs1 : fs b P ν := ⟨fun p hp => by rw [n2]; exact (fs0 1).1 p hp, fun p hp hs r hr => by
        rw [n4 16 12 _ (by omega)]
        exact (fs0 1).2 p hp hs r hr⟩
      have e13' : ν.1 16 13 P = 1 := by rw [n2]; exact e13 1
      have hcb : cb b P = fitN b (lw b P) := by unfold cb; rw [hs]; rfl
      rw [px_b n1, px_rI hP64 (by decide), e13', if_pos rfl, px_o (alone6 (ex1.rfI (by decide) ((ex0 1).rfI (by decide) h)) g hP64 n5)]
      obtain ⟨τ, t1, t2, t3⟩ := fs_70 (K := f_X6_findSuspects_2 m) hP64 fs1 (by rw [e13', hs]; rfl) (fun _ => n5)
      rw [hcb] at t1
      have key : (if b01 (fitN b (lw b P)) = 0 then f_X6_findSuspects_70 (f_X6_findSuspects_2 m) (nI P) (nI P) 0 ν else f_X6_findSuspects_70 (f_X6_findSuspects_2 m) (nI P) (nI P) 1 ν) = f_X6_findSuspects_70 (f_X6_findSuspects_2 m) (nI P) (nI P) (b01 (fitN b (lw b P))) ν := by
        cases fitN b (lw b P)
        · exact if_pos rfl
        · exact if_neg (by decide)
      rw [key, t1]
      exact go τ t2 (((ex0 1).tr ex1).tr t3)
theorem fs6 {b : Bd} {σ : wx_St} (g : good b) (h : rfI 0 0 b σ) : ∃ τ, f_X6_findSuspects σ = some ((), τ) ∧ fs b 64 τ ∧ fsE σ τ :=
  fs_loop g 64 0 2000 σ (by omega) (by omega) h ⟨fun p hp => absurd hp (Nat.not_lt_zero _), fun p hp => absurd hp (Nat.not_lt_zero _)⟩
