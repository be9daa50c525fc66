/-! THE REFERENCE'S STEP is sp_step -/
def sp_nl (P s : Nat) : List Nat := if s = 0 then (if 8 ≤ P then [P - 8] else []) else if s = 1 then (if P < 56 then [P + 8] else []) else if s = 2 then (if 0 < P % 8 then [P - 1] else []) else (if P % 8 < 7 then [P + 1] else [])
theorem sp_nl_v : ∀ P, P < 64 → ∀ s, s < 4 → True ∧ (sp_nl P s = [] ∨ ∃ n, n < 64 ∧ sp_nl P s = [n]) := by
  intro P hP s hs
  refine ⟨trivial, ?_⟩
  unfold sp_nl
  split
  · split
    · exact Or.inr ⟨P - 8, by omega, rfl⟩
    · exact Or.inl rfl
  · split
    · split
      · exact Or.inr ⟨P + 8, by omega, rfl⟩
      · exact Or.inl rfl
    · split
      · split
        · exact Or.inr ⟨P - 1, by omega, rfl⟩
        · exact Or.inl rfl
      · split
        · exact Or.inr ⟨P + 1, by omega, rfl⟩
        · exact Or.inl rfl
theorem wx_uF_congr {σ : wx_St} {o k b n : Nat} {g g' : Nat → UInt32} (h : ∀ i, i < n → g i = g' i) : wx_uF σ o k b n g = wx_uF σ o k b n g' := by
  unfold wx_uF
  have : (fun x y i => if x = o ∧ y = k ∧ b ≤ i ∧ i < b + n then g (i - b) else σ.2.1 x y i) = (fun x y i => if x = o ∧ y = k ∧ b ≤ i ∧ i < b + n then g' (i - b) else σ.2.1 x y i) := by
    funext x y i
    by_cases hc : x = o ∧ y = k ∧ b ≤ i ∧ i < b + n
    · rw [if_pos hc, if_pos hc, h (i - b) (by omega)]
    · rw [if_neg hc, if_neg hc]
  rw [this]
theorem p64_i : ∀ n, n < 64 → ¬ nI n = -6 := by decide +kernel
section stepref
variable {P : Nat} {K2 : Int32 → Int32 → wx_St → Option (Unit × wx_St)} {x1 : Int32} {t : UInt32} {σ : wx_St} {f0 : Nat → UInt32} {h : Nat → Bool} {sp le pw : UInt32}
end stepref

