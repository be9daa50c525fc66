/-! a board taken over -/
set_option maxHeartbeats 4000000 in
theorem takeOver_eq {o c : Nat} {σ : wx_St} (ho : ¬ c = o) : ∃ τ, f_X0_takeOver o c σ = some ((), τ) ∧
    ((∀ i, i < 4 → τ.1 o 0 i = σ.1 c 0 i) ∧ (∀ i, i < 64 → τ.1 o 1 i = σ.1 c 1 i) ∧ (∀ i, i < 8 → τ.1 o 2 i = σ.1 c 2 i) ∧ (∀ i, i < 3 → τ.1 o 4 i = σ.1 c 4 i) ∧ (∀ i, i < 3 → τ.1 o 5 i = σ.1 c 5 i) ∧ (∀ i, i < 8 → τ.1 o 10 i = σ.1 c 10 i) ∧ (∀ i, i < 8 → τ.1 o 11 i = σ.1 c 11 i) ∧ (∀ i, i < 8 → τ.1 o 12 i = σ.1 c 12 i)) ∧
    (∀ x, ¬ x = o → τ.1 x = σ.1 x) ∧ (τ.2.2.1 o 3 = σ.2.2.1 c 3 ∧ τ.2.2.1 o 6 = σ.2.2.1 c 6 ∧ τ.2.2.1 o 9 = σ.2.2.1 c 9) ∧ (∀ x, ¬ x = o → τ.2.2.1 x = σ.2.2.1 x) ∧ (∀ i, i < 64 → τ.2.1 o 7 i = σ.2.1 c 7 i) ∧ (∀ x, ¬ x = o → τ.2.1 x = σ.2.1 x) ∧ τ.2.2.2 = σ.2.2.2 := by
  refine ⟨_, rfl, ⟨?_, ?_, ?_, ?_, ?_, ?_, ?_, ?_⟩, ?_, ⟨?_, ?_, ?_⟩, ?_, ?_, ?_, rfl⟩
  all_goals first
    | (intro i hi; simp [wx_cI, wx_cF, wx_sS, va_cpy, hi, ho]; done)
    | (intro x hx; funext y i; simp [wx_cI, wx_cF, wx_sS, hx]; done)
    | (intro x hx; funext y; simp [wx_cI, wx_cF, wx_sS, hx]; done)
    | (simp [wx_cI, wx_cF, wx_sS, ho]; done)
theorem bdI.take {o c : Nat} {b : Bd} {σ τ : wx_St} (g : good b) (h : bdI c b σ)
    (t1 : (∀ i, i < 4 → τ.1 o 0 i = σ.1 c 0 i) ∧ (∀ i, i < 64 → τ.1 o 1 i = σ.1 c 1 i) ∧ (∀ i, i < 8 → τ.1 o 2 i = σ.1 c 2 i) ∧ (∀ i, i < 3 → τ.1 o 4 i = σ.1 c 4 i) ∧ (∀ i, i < 3 → τ.1 o 5 i = σ.1 c 5 i) ∧ (∀ i, i < 8 → τ.1 o 10 i = σ.1 c 10 i) ∧ (∀ i, i < 8 → τ.1 o 11 i = σ.1 c 11 i) ∧ (∀ i, i < 8 → τ.1 o 12 i = σ.1 c 12 i))
    (t2 : τ.2.2.1 o 3 = σ.2.2.1 c 3 ∧ τ.2.2.1 o 6 = σ.2.2.1 c 6 ∧ τ.2.2.1 o 9 = σ.2.2.1 c 9) : bdI o b τ := by
  obtain ⟨a1, a2, a3, a4, a5, a6, a7, a8⟩ := t1
  obtain ⟨s1, s2, s3⟩ := t2
  obtain ⟨h1, h2, h3, h4, h5, h6, h7, h8⟩ := h
  have hT := g.2.2.2.1
  have hR := g.2.2.2.2.2.2.2.1
  refine ⟨fun i hi => (a1 i hi).trans (h1 i hi), fun i hi => (a2 i hi).trans (h2 i hi), fun i hi => (a3 i hi).trans (h3 i hi), s1.trans h4, fun i hi => ⟨(a4 i (by omega)).trans (h5 i hi).1, (a5 i (by omega)).trans (h5 i hi).2⟩, s2.trans h6, s3.trans h7, fun i hi => ⟨(a6 i (by omega)).trans (h8 i hi).1, (a7 i (by omega)).trans (h8 i hi).2.1, (a8 i (by omega)).trans (h8 i hi).2.2⟩⟩
theorem bdI.other {o x : Nat} {b : Bd} {σ τ : wx_St} (h : bdI x b σ) (h1 : τ.1 x = σ.1 x) (h2 : τ.2.2.1 x = σ.2.2.1 x) : bdI x b τ := by
  unfold bdI at h ⊢
  rw [h1, h2]
  exact h

