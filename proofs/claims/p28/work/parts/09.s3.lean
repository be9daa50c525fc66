/-! the touch at a place; what is heated -/
def TA (b : Bd) (p : Nat) (r : Int32) : Prop := (∃ i, i < bT b ∧ bP b i = p ∧ r = nI i) ∨ ((∀ i, i < bT b → bP b i ≠ p) ∧ r = -6)
theorem TA.uniq {b : Bd} {p : Nat} {r r' : Int32} (g : good b) (h : TA b p r) (h' : TA b p r') : r = r' := by
  rcases h with ⟨i, i1, i2, rfl⟩ | ⟨i1, rfl⟩ <;> rcases h' with ⟨j, j1, j2, rfl⟩ | ⟨j1, rfl⟩
  · rw [g.2.2.2.2.2.1 i j i1 j1 (i2.trans j2.symm)]
  · exact absurd i2 (j1 i i1)
  · exact absurd j2 (i1 j j1)
  · rfl
theorem touchAt5_loop {o : Nat} {b : Bd} {σ : wx_St} (h : bdI o b σ) (g : good b) {p : Nat} (hp : p < 64) : ∀ (n j m : Nat), j + n = bT b → n < m → (∀ i, i < j → bP b i ≠ p) → ∃ r, f_X0_touchAt_2 o m (nI p) (nI j) σ = some r ∧ TA b p r := by
  have hT := g.2.2.2.1
  intro n
  induction n with
  | zero =>
    intro j m hj hm hn
    obtain ⟨m, rfl⟩ : ∃ k, m = k + 1 := ⟨m - 1, by omega⟩
    have hj : j = bT b := by omega
    subst hj
    rw [f_X0_touchAt_2, h.2.2.2.1, if_pos (nI_le (Nat.le_refl _) (by omega))]
    exact ⟨-6, rfl, Or.inr ⟨hn, rfl⟩⟩
  | succ n ih =>
    intro j m hj hm hn
    obtain ⟨m, rfl⟩ : ∃ k, m = k + 1 := ⟨m - 1, by omega⟩
    have hjT : j < bT b := by omega
    have g1 := (g.2.2.2.2.1 j hjT).1
    rw [f_X0_touchAt_2, h.2.2.2.1, if_neg (nI_ge hjT (by omega)), px_rI (by omega) (by decide), (h.2.2.2.2.1 j hjT).1]
    by_cases he : bP b j = p
    · rw [if_pos (by rw [he])]
      exact ⟨_, rfl, Or.inl ⟨j, hjT, he, rfl⟩⟩
    · rw [if_neg (fun hx => he ((nI_eq (by omega) (by omega)).mp hx)), nI_1]
      exact ih (j + 1) m (by omega) (by omega) (fun i hi => by
        by_cases hij : i = j
        · rw [hij]; exact he
        · exact hn i (by omega))
theorem touchAt5 {o : Nat} {b : Bd} {σ : wx_St} (h : bdI o b σ) (g : good b) {p : Nat} (hp : p < 64) : ∃ r, f_X0_touchAt o (nI p) σ = some r ∧ TA b p r := by
  have hT := g.2.2.2.1
  exact touchAt5_loop h g hp (bT b) 0 2000 (by omega) (by omega) (fun i hi => absurd hi (by omega))
theorem heat_at {b : Bd} (g : good b) {i p : Nat} (hi : i < bT b) (hp : bP b i = p) : heat b p = live b i := by
  unfold heat
  cases hl : live b i with
  | true =>
    rw [List.any_eq_true]
    exact ⟨i, List.mem_range.mpr hi, by simp [hp, hl]⟩
  | false =>
    rw [List.any_eq_false]
    intro j hj
    have hj := List.mem_range.mp hj
    by_cases he : bP b j = p
    · have := g.2.2.2.2.2.1 j i hj hi (he.trans hp.symm)
      subst this
      simp [hl]
    · simp [he]
theorem heat_no {b : Bd} {p : Nat} (h : ∀ i, i < bT b → bP b i ≠ p) : heat b p = false := by
  unfold heat
  rw [List.any_eq_false]
  intro j hj
  simp [h j (List.mem_range.mp hj)]
