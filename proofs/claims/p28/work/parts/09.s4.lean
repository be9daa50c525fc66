/-! steps let pass, on both sides -/
theorem bdI.of {o : Nat} {b : Bd} {σ τ : wx_St} (h : bdI o b σ) (h1 : τ.1 = σ.1) (h2 : τ.2.2.1 = σ.2.2.1) : bdI o b τ := by
  unfold bdI at h ⊢
  rw [h1, h2]
  exact h
theorem rfI.of {k off : Nat} {b : Bd} {σ τ : wx_St} (h : rfI k off b σ) (h1 : τ.1 = σ.1) : rfI k off b τ := by
  unfold rfI at h ⊢
  rw [h1]
  exact h
theorem good.set {b : Bd} (g : good b) : SetOK (bS b 0) (100 - bS b 1) (bS b 2) := by
  obtain ⟨⟨g1, g2, g3, g4, -⟩, -⟩ := g
  exact ⟨g1, by omega, by omega, g3, g4⟩
theorem letPass_loop {o : Nat} {b : Bd} {M : Int64} (g : good b) (hM : ∀ p, p < 64 → mk M p = heat b p) {many : Nat} (hm : many ≤ 50) : ∀ (n j m : Nat) (σ : wx_St), bdI o b σ → j + n = many → n < m → (∀ p, p < 64 → σ.2.1 o 7 p = runs (bS b 0) (100 - bS b 1) (bS b 2) (heat b) (bK b + j) p) →
    ∃ τ, f_X0_letPass_36 o m (nI many) M (nI j) σ = some (nI (bK b + many), τ) ∧ τ.1 = σ.1 ∧ (∀ x y, τ.2.2.1 x y = if x = o ∧ y = 6 then nI (bK b + many) else σ.2.2.1 x y) ∧ τ.2.2.2 = σ.2.2.2 ∧ (∀ p, p < 64 → τ.2.1 o 7 p = runs (bS b 0) (100 - bS b 1) (bS b 2) (heat b) (bK b + many) p) ∧ ∀ o' k' i, ¬ (o' = o ∧ (k' = 7 ∨ k' = 8)) → τ.2.1 o' k' i = σ.2.1 o' k' i := by
  intro n
  induction n with
  | zero =>
    intro j m σ h hj hmm hf
    obtain ⟨m, rfl⟩ : ∃ k, m = k + 1 := ⟨m - 1, by omega⟩
    have hj : j = many := by omega
    subst hj
    rw [f_X0_letPass_36, if_pos (nI_le (Nat.le_refl _) (by omega)), h.2.2.2.2.2.1, nI_add]
    refine ⟨wx_sS σ o 6 (nI (bK b + j)), ?_, rfl, fun x y => rfl, rfl, hf, fun _ _ _ _ => rfl⟩
    show some (_, _) = _
    congr 2
    show (if o = o ∧ 6 = 6 then nI (bK b + j) else σ.2.2.1 o 6) = _
    rw [if_pos ⟨rfl, rfl⟩]
  | succ n ih =>
    intro j m σ h hj hmm hf
    have gK := g.2.2.2.2.2.2.1
    obtain ⟨m, rfl⟩ : ∃ k, m = k + 1 := ⟨m - 1, by omega⟩
    rw [f_X0_letPass_36, if_neg (nI_ge (show j < many by omega) (by omega))]
    have h1 : (100 : Int32) - σ.1 o 0 1 = nI (100 - bS b 1) := by
      rw [h.1 1 (by decide)]
      exact nI_sub (m := 100) (by have := g.1.2.1; omega)
    obtain ⟨τ, t1, t2, t3, t4, t5⟩ := passOne_eq (o := o) (M := M) (σ := σ) (h := heat b) (k := bK b + j) g.set (by omega) (h.1 0 (by decide)) h1 (h.1 2 (by decide)) hf hM
    rw [px_b t1, nI_1]
    obtain ⟨ρ, r1, r2, r3, r4, r5, r6⟩ := ih (j + 1) m τ (h.of t2 (by rw [t3])) (by omega) (by omega) (fun p hp => t4 p hp)
    refine ⟨ρ, r1, r2.trans t2, fun x y => by rw [r3, t3], r4.trans (by rw [t3]), r5, fun o' k' i hne => by rw [r6 o' k' i hne, t5 o' k' i hne]⟩
