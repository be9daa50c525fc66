/-! numbers from outside; what a run's beginning leaves -/
theorem in_cases (x : Int32) {n : Nat} (hn : n < 2 ^ 31) : (∃ k, k < n ∧ x = nI k) ∨ (x < 0 ∨ nI n ≤ x) := by
  by_cases h : x < 0
  · exact Or.inr (Or.inl h)
  · obtain ⟨j, hj, rfl⟩ := nI_of h
    by_cases hjn : j < n
    · exact Or.inl ⟨j, hjn, rfl⟩
    · exact Or.inr (Or.inr (nI_le (by omega) hj))
theorem out_not {y : Int32} {n : Nat} (h : y < 0 ∨ nI n ≤ y) : y < 0 ∨ (¬ y < nI n) := by
  rcases h with h | h
  · exact Or.inl h
  · right
    intro hx
    rw [Int32.lt_iff_toInt_lt] at hx
    rw [Int32.le_iff_toInt_le] at h
    omega
theorem placeOf_y0 : ∀ R, R < 8 → ∀ C, C < 8 → f_X5_placeOf (nI R) (nI C) = some (nI (8 * R + C)) := by decide +kernel
theorem placeOf_yes (R : Nat) (hR : R < 8) (C : Nat) (hC : C < 8) : f_X5_placeOf (nI R) (nI C) = some (nI (8 * R + C)) ∧ True ∧ True := ⟨placeOf_y0 R hR C hC, trivial, trivial⟩
theorem net_y0 : ∀ N, N < 8 → f_X5_isNet (nI N) = some (b01 (decide (1 ≤ N))) := by decide +kernel
theorem net_yes (N : Nat) (hN : N < 8) : f_X5_isNet (nI N) = some (b01 (decide (1 ≤ N))) ∧ True ∧ True := ⟨net_y0 N hN, trivial, trivial⟩
def wm5 (o : Nat) (b : Bd) (σ : wx_St) : Prop := ∀ p, p < 64 → σ.2.1 o 7 p = bWarm b p
def wm6 (k off : Nat) (b : Bd) (σ : wx_St) : Prop := ∀ p, p < 64 → σ.2.1 16 k (off + p) = bWarm b p
def eqx (o : Nat) (σ τ : wx_St) : Prop := (∀ x, x ≠ o → τ.1 x = σ.1 x ∧ τ.2.1 x = σ.2.1 x ∧ τ.2.2.1 x = σ.2.2.1 x) ∧ τ.2.2.2 = σ.2.2.2
theorem eqx.rf (o : Nat) (σ : wx_St) : eqx o σ σ := ⟨fun _ _ => ⟨rfl, rfl, rfl⟩, rfl⟩
theorem eqx.tr {o : Nat} {σ τ ρ : wx_St} (h : eqx o σ τ) (h' : eqx o τ ρ) : eqx o σ ρ :=
  ⟨fun x hx => ⟨(h'.1 x hx).1.trans (h.1 x hx).1, (h'.1 x hx).2.1.trans (h.1 x hx).2.1, (h'.1 x hx).2.2.trans (h.1 x hx).2.2⟩, h'.2.trans h.2⟩
def eq6 (σ τ : wx_St) : Prop := eqx 16 σ τ ∧ (∀ k, k ≠ 0 → τ.1 16 k = σ.1 16 k) ∧ (∀ k, k ≠ 1 → k ≠ 10 → k ≠ 11 → τ.2.1 16 k = σ.2.1 16 k) ∧ τ.2.2.1 16 = σ.2.2.1 16
theorem eq6.rf (σ : wx_St) : eq6 σ σ := ⟨eqx.rf 16 σ, fun _ _ => rfl, fun _ _ _ _ => rfl, rfl⟩
theorem eq6.tr {σ τ ρ : wx_St} (h : eq6 σ τ) (h' : eq6 τ ρ) : eq6 σ ρ :=
  ⟨h.1.tr h'.1, fun k hk => (h'.2.1 k hk).trans (h.2.1 k hk), fun k h1 h2 h3 => (h'.2.2.1 k h1 h2 h3).trans (h.2.2.1 k h1 h2 h3), h'.2.2.2.trans h.2.2.2⟩
def Cs (g : wx_St → Option (Int32 × wx_St)) (b : Bd) (r : Int32) (b' : Bd) : Prop := ∀ σ, bdI 7 b σ → wm5 7 b σ → ∃ τ, g σ = some (r, τ) ∧ bdI 7 b' τ ∧ wm5 7 b' τ ∧ eqx 7 σ τ
def Rs (g : wx_St → Option (Int32 × wx_St)) (b : Bd) (r : Int32) (b' : Bd) : Prop := ∀ σ, rfI 0 0 b σ → wm6 1 0 b σ → ∃ τ, g σ = some (r, τ) ∧ rfI 0 0 b' τ ∧ wm6 1 0 b' τ ∧ eq6 σ τ
/-- the part of a board that a run's beginning leaves -/
def st5 (o : Nat) (b : Bd) (σ : wx_St) : Prop := (∀ i, i < 4 → σ.1 o 0 i = nI (bS b i)) ∧ (∀ p, p < 64 → σ.1 o 1 p = nI (bN b p)) ∧ (∀ n, n < 8 → σ.1 o 2 n = nI (bF b n)) ∧ σ.2.2.1 o 3 = nI (bT b) ∧ (∀ i, i < bT b → σ.1 o 4 i = nI (bP b i) ∧ σ.1 o 5 i = nI (bO b i))
def st6 (b : Bd) (σ : wx_St) : Prop := (∀ i, i < 4 → σ.1 16 0 i = nI (bS b i)) ∧ (∀ p, p < 64 → σ.1 16 0 (7 + p) = nI (bN b p)) ∧ (∀ n, n < 8 → σ.1 16 0 (71 + n) = nI (bF b n)) ∧ σ.1 16 0 5 = nI (bT b) ∧ (∀ i, i < bT b → σ.1 16 0 (79 + 2 * i) = nI (bP b i) ∧ σ.1 16 0 (80 + 2 * i) = nI (bO b i))
theorem bWarm_0 {b : Bd} (h : bK b = 0) (p : Nat) : bWarm b p = 0 := by
  unfold bWarm
  rw [h]
  rfl
theorem begin5 {o : Nat} {b : Bd} {σ : wx_St} (hK : bK b = 0) (hR : bR b = 0) (h : st5 o b σ) : bdI o b (brn o σ) ∧ wm5 o b (brn o σ) ∧ eqx o σ (brn o σ) := by
  obtain ⟨h1, h2, h3, h4, h5⟩ := h
  refine ⟨⟨h1, h2, h3, ?_, h5, ?_, ?_, ?_⟩, fun p hp => ?_, fun x hx => ⟨rfl, ?_, ?_⟩, rfl⟩
  · show (if o = o ∧ (3 : Nat) = 9 then (0 : Int32) else if o = o ∧ (3 : Nat) = 6 then 0 else σ.2.2.1 o 3) = _
    rw [if_neg (by omega), if_neg (by omega), h4]
  · show (if o = o ∧ (6 : Nat) = 9 then (0 : Int32) else if o = o ∧ (6 : Nat) = 6 then 0 else σ.2.2.1 o 6) = _
    rw [if_neg (by omega), if_pos ⟨rfl, rfl⟩, hK]
    rfl
  · show (if o = o ∧ (9 : Nat) = 9 then (0 : Int32) else if o = o ∧ (9 : Nat) = 6 then 0 else σ.2.2.1 o 9) = _
    rw [if_pos ⟨rfl, rfl⟩, hR]
    rfl
  · intro i hi
    omega
  · show (if o = o ∧ (7 : Nat) = 7 ∧ 0 ≤ p ∧ p < 0 + 64 then FP.fconst0 else σ.2.1 o 7 p) = _
    rw [if_pos ⟨rfl, rfl, by omega, by omega⟩, bWarm_0 hK]
    rfl
  · funext k i
    show (if x = o ∧ k = 7 ∧ 0 ≤ i ∧ i < 0 + 64 then FP.fconst0 else σ.2.1 x k i) = _
    rw [if_neg (fun hh => hx hh.1)]
  · funext k
    show (if x = o ∧ k = 9 then (0 : Int32) else if x = o ∧ k = 6 then 0 else σ.2.2.1 x k) = _
    rw [if_neg (fun hh => hx hh.1), if_neg (fun hh => hx hh.1)]
theorem brn6_I (σ : wx_St) (x y i : Nat) : (brn6 σ).1 x y i = if x = 16 ∧ y = 0 ∧ (i = 4 ∨ i = 6 ∨ (85 ≤ i ∧ i < 109)) then 0 else σ.1 x y i := by
  show (if x = 16 ∧ y = 0 ∧ 85 ≤ i ∧ i < 85 + 24 then (0 : Int32) else if x = 16 ∧ y = 0 ∧ i = 6 then 0 else if x = 16 ∧ y = 0 ∧ i = 4 then 0 else σ.1 x y i) = _
  by_cases h : x = 16 ∧ y = 0
  · obtain ⟨rfl, rfl⟩ := h
    by_cases h1 : 85 ≤ i ∧ i < 109
    · rw [if_pos ⟨rfl, rfl, h1.1, h1.2⟩, if_pos ⟨rfl, rfl, Or.inr (Or.inr h1)⟩]
    · rw [if_neg (fun hh => h1 ⟨hh.2.2.1, hh.2.2.2⟩)]
      by_cases h2 : i = 6
      · rw [if_pos ⟨rfl, rfl, h2⟩, if_pos ⟨rfl, rfl, Or.inr (Or.inl h2)⟩]
      · rw [if_neg (fun hh => h2 hh.2.2)]
        by_cases h3 : i = 4
        · rw [if_pos ⟨rfl, rfl, h3⟩, if_pos ⟨rfl, rfl, Or.inl h3⟩]
        · rw [if_neg (fun hh => h3 hh.2.2), if_neg (fun hh => by omega)]
  · rw [if_neg (fun hh => h ⟨hh.1, hh.2.1⟩), if_neg (fun hh => h ⟨hh.1, hh.2.1⟩), if_neg (fun hh => h ⟨hh.1, hh.2.1⟩), if_neg (fun hh => h ⟨hh.1, hh.2.1⟩)]
theorem begin6 {b : Bd} {σ : wx_St} (g : bT b ≤ 3) (hK : bK b = 0) (hR : bR b = 0) (h : st6 b σ) : rfI 0 0 b (brn6 σ) ∧ wm6 1 0 b (brn6 σ) ∧ eq6 σ (brn6 σ) := by
  obtain ⟨h1, h2, h3, h4, h5⟩ := h
  have hF : ∀ x y i, (brn6 σ).2.1 x y i = if x = 16 ∧ y = 1 ∧ 0 ≤ i ∧ i < 0 + 64 then FP.fconst0 else if x = 16 ∧ y = 10 ∧ 0 ≤ i ∧ i < 0 + 64 then FP.fconst0 else σ.2.1 x y i := fun x y i => rfl
  refine ⟨⟨fun i hi => ?_, fun p hp => ?_, fun n hn => ?_, ?_, fun i hi => ⟨?_, ?_⟩, ?_, ?_, fun i hi => by omega⟩, fun p hp => ?_, ⟨fun x hx => ⟨?_, ?_, ?_⟩, rfl⟩, fun k hk => ?_, fun k k1 k2 k3 => ?_, ?_⟩
  · rw [brn6_I, if_neg (by omega), Nat.zero_add]
    exact h1 i hi
  · rw [brn6_I, if_neg (by omega), Nat.zero_add]
    exact h2 p hp
  · rw [brn6_I, if_neg (by omega), Nat.zero_add]
    exact h3 n hn
  · rw [brn6_I, if_neg (by omega), Nat.zero_add]
    exact h4
  · rw [brn6_I, if_neg (by omega), Nat.zero_add]
    exact (h5 i hi).1
  · rw [brn6_I, if_neg (by omega), Nat.zero_add]
    exact (h5 i hi).2
  · rw [brn6_I, if_pos ⟨rfl, rfl, by omega⟩, hK]
    rfl
  · rw [brn6_I, if_pos ⟨rfl, rfl, by omega⟩, hR]
    rfl
  · rw [hF, if_pos ⟨rfl, rfl, by omega, by omega⟩, bWarm_0 hK]
    rfl
  · funext y i
    rw [brn6_I, if_neg (fun hh => hx hh.1)]
  · funext y i
    rw [hF, if_neg (fun hh => hx hh.1), if_neg (fun hh => hx hh.1)]
  · rfl
  · funext i
    rw [brn6_I, if_neg (fun hh => hk hh.2.1)]
  · funext i
    rw [hF, if_neg (fun hh => k1 hh.2.1), if_neg (fun hh => k2 hh.2.1)]
  · rfl
theorem px_l {α β : Type} (a : β) (f : β → Option α) : wx_l a f = f a := rfl
theorem px_rA {α : Type} {σ : wx_St} {j : Nat} {F : Bool → Option α} (h : j < 64) : wx_rA σ (nI j) F = F (σ.2.2.2.2 j) := by
  unfold wx_rA
  rw [if_pos (wx_in_nI h (by decide)), nI_clamp (by omega)]

