/-! THE REFERENCE'S WARMS -/
theorem warms_loop {b : Bd} (g : good b) {many : Nat} (hm : many ≤ 50) (hK : bK b + many ≤ 100) : ∀ (n j m : Nat) (σ : wx_St), rfI 0 0 b σ → j + n = many → n < m → (∀ p, p < 64 → σ.2.1 16 10 p = runs (bS b 0) (100 - bS b 1) (bS b 2) (heat b) (bK b + j) p) →
    ∃ τ, f_X6_warms_15 m (nI many) (nI j) σ = some (nI (bK b + many), τ) ∧ (∀ x y i, τ.1 x y i = if x = 16 ∧ y = 0 ∧ i = 4 then nI (bK b + many) else σ.1 x y i) ∧ τ.2.2 = σ.2.2 ∧ (∀ p, p < 64 → τ.2.1 16 1 p = runs (bS b 0) (100 - bS b 1) (bS b 2) (heat b) (bK b + many) p) ∧ ∀ o' k' i, ¬ (o' = 16 ∧ (k' = 1 ∨ k' = 10 ∨ k' = 11)) → τ.2.1 o' k' i = σ.2.1 o' k' i := by
  intro n
  induction n with
  | zero =>
    intro j m σ h hj hmm hf
    obtain ⟨m, rfl⟩ : ∃ k, m = k + 1 := ⟨m - 1, by omega⟩
    have hj : j = many := by omega
    subst hj
    have m2 : f_X6_movesWarmth 16 10 64 16 1 64 0 0 σ = some ((), wx_uF σ 16 1 0 64 (fun i => σ.2.1 16 10 (0 + i))) := st6_moves (o0 := 16) (k0 := 10) (n0 := 64) (o2 := 16) (k2 := 1) (n2 := 64) (a := 0) (b := 0) (by decide) (by decide) (by decide) (by decide) (by decide)
    have hK4 : σ.1 16 0 4 = nI (bK b) := by have := h.2.2.2.2.2.1; rw [Nat.zero_add] at this; exact this
    rw [f_X6_warms_15, if_pos (nI_le (Nat.le_refl _) (by omega)), px_b m2]
    have r4 : ∀ (τ : wx_St) (F : Int32 → Option (Int32 × wx_St)), wx_rI τ 16 0 109 4 F = F (τ.1 16 0 4) := fun τ F => px_rI (j := 4) (by decide) (by decide)
    have w4 : ∀ (τ : wx_St) (F : wx_St → Option (Int32 × wx_St)), wx_w τ 109 4 F = F τ := fun τ F => px_w (j := 4) (by decide) (by decide)
    rw [r4, w4, r4]
    have e : (wx_uF σ 16 1 0 64 (fun i => σ.2.1 16 10 (0 + i))).1 16 0 4 + nI j = nI (bK b + j) := by
      show σ.1 16 0 4 + nI j = _
      rw [hK4, nI_add]
    rw [e]
    refine ⟨wx_sI (wx_uF σ 16 1 0 64 (fun i => σ.2.1 16 10 (0 + i))) 16 0 4 (nI (bK b + j)), rfl, fun x y i => rfl, rfl, fun p hp => ?_, fun o' k' i hne => ?_⟩
    · show (if (16 : Nat) = 16 ∧ (1 : Nat) = 1 ∧ 0 ≤ p ∧ p < 0 + 64 then σ.2.1 16 10 (0 + (p - 0)) else σ.2.1 16 1 p) = _
      rw [if_pos ⟨rfl, rfl, by omega, by omega⟩, show 0 + (p - 0) = p by omega]
      exact hf p hp
    · show (if o' = 16 ∧ k' = 1 ∧ 0 ≤ i ∧ i < 0 + 64 then σ.2.1 16 10 (0 + (i - 0)) else σ.2.1 o' k' i) = _
      rw [if_neg (fun hx => hne ⟨hx.1, Or.inl hx.2.1⟩)]
  | succ n ih =>
    intro j m σ h hj hmm hf
    obtain ⟨m, rfl⟩ : ∃ k, m = k + 1 := ⟨m - 1, by omega⟩
    have hs1 : (100 : Int32) - σ.1 16 0 1 = nI (100 - bS b 1) := by
      have := h.1 1 (by decide)
      rw [Nat.zero_add] at this
      rw [this]
      exact nI_sub (m := 100) (by have := g.1.2.1; omega)
    have hs0 := h.1 0 (by decide)
    have hs2 := h.1 2 (by decide)
    rw [Nat.zero_add] at hs0 hs2
    obtain ⟨τ, t1, t2, t3, t4, t5⟩ := steps_n g (x1 := -6) (h := heat b) g.set (k := bK b + j) (σ := σ) (by omega) hs0 hs1 hs2 hf (fun τ hτ p hp => isWarmed_board (h.of hτ) g hp)
    rw [f_X6_warms_15, if_neg (nI_ge (show j < many by omega) (by omega)), px_b t1, nI_1]
    obtain ⟨ρ, r1, r2, r3, r4, r5⟩ := ih (j + 1) m τ (h.of t2) (by omega) (by omega) (fun p hp => t4 p hp)
    refine ⟨ρ, r1, fun x y i => by rw [r2, t2], r3.trans t3, r4, fun o' k' i hne => ?_⟩
    rw [r5 o' k' i hne, t5 o' k' i (fun hx => hne ⟨hx.1, Or.inr hx.2⟩)]
