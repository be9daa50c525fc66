/-! THE REFERENCE'S ROWS of ints moved -/
def wx_uI (σ : wx_St) (o k b P : Nat) (g : Nat → Int32) : wx_St := (fun x y i => if x = o ∧ y = k ∧ b ≤ i ∧ i < b + P then g (i - b) else σ.1 x y i, σ.2.1, σ.2.2.1, σ.2.2.2.1, σ.2.2.2.2)
theorem wx_uI_0 {σ : wx_St} {o k b : Nat} {g : Nat → Int32} : wx_uI σ o k b 0 g = σ := by
  unfold wx_uI
  have : (fun x y i => if x = o ∧ y = k ∧ b ≤ i ∧ i < b + 0 then g (i - b) else σ.1 x y i) = σ.1 := by
    funext x y i
    rw [if_neg (by omega)]
  rw [this]
theorem wx_uI_s {σ : wx_St} {o k b P : Nat} {g : Nat → Int32} : wx_sI (wx_uI σ o k b P g) o k (b + P) (g P) = wx_uI σ o k b (P + 1) g := by
  unfold wx_sI wx_uI
  have : (fun x y i => if x = o ∧ y = k ∧ i = b + P then g P else if x = o ∧ y = k ∧ b ≤ i ∧ i < b + P then g (i - b) else σ.1 x y i) = (fun x y i => if x = o ∧ y = k ∧ b ≤ i ∧ i < b + (P + 1) then g (i - b) else σ.1 x y i) := by
    funext x y i
    by_cases h : x = o ∧ y = k ∧ i = b + P
    · obtain ⟨rfl, rfl, rfl⟩ := h
      rw [if_pos ⟨rfl, rfl, rfl⟩, if_pos ⟨rfl, rfl, by omega, by omega⟩]
      congr 1
      omega
    · rw [if_neg h]
      by_cases h2 : x = o ∧ y = k ∧ b ≤ i ∧ i < b + P
      · rw [if_pos h2, if_pos ⟨h2.1, h2.2.1, h2.2.2.1, by omega⟩]
      · rw [if_neg h2, if_neg (fun h3 => by
          by_cases h4 : i = b + P
          · exact h ⟨h3.1, h3.2.1, h4⟩
          · exact h2 ⟨h3.1, h3.2.1, h3.2.2.1, by omega⟩)]
  show (_, σ.2.1, σ.2.2.1, σ.2.2.2.1, σ.2.2.2.2) = _
  rw [← this]
theorem p109_c : ∀ P, P < 109 → ¬ 109 ≤ nI P := by decide +kernel
/-- what is moved is there -/
theorem rfI.moved {σ τ : wx_St} {k0 k2 a c : Nat} {b : Bd} (g : good b) (h : rfI k0 a b σ) (ht : ∀ i, i < 109 → τ.1 16 k2 (c + i) = σ.1 16 k0 (a + i)) : rfI k2 c b τ := by
  have hT := g.2.2.2.1
  have hR := g.2.2.2.2.2.2.2.1
  obtain ⟨h1, h2, h3, h4, h5, h6, h7, h8⟩ := h
  refine ⟨fun i hi => (ht i (by omega)).trans (h1 i hi), fun p hp => (ht _ (by omega)).trans (h2 p hp), fun n hn => (ht _ (by omega)).trans (h3 n hn), (ht 5 (by omega)).trans h4, fun i hi => ⟨(ht _ (by omega)).trans (h5 i hi).1, (ht _ (by omega)).trans (h5 i hi).2⟩, (ht 4 (by omega)).trans h6, (ht 6 (by omega)).trans h7, fun i hi => ⟨(ht _ (by omega)).trans (h8 i hi).1, (ht _ (by omega)).trans (h8 i hi).2.1, (ht _ (by omega)).trans (h8 i hi).2.2⟩⟩

