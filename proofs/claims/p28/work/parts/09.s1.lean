/-! THE BOARD as whole numbers: settings, nets, fed, touches (how many, places, other nets), steps, readings (how many, places, reads, steps) -/
abbrev Bd : Type := (Nat → Nat) × (Nat → Nat) × (Nat → Nat) × Nat × (Nat → Nat) × (Nat → Nat) × Nat × Nat × (Nat → Nat) × (Nat → Nat) × (Nat → Nat)
def bS (b : Bd) : Nat → Nat := b.1
def bN (b : Bd) : Nat → Nat := b.2.1
def bF (b : Bd) : Nat → Nat := b.2.2.1
def bT (b : Bd) : Nat := b.2.2.2.1
def bP (b : Bd) : Nat → Nat := b.2.2.2.2.1
def bO (b : Bd) : Nat → Nat := b.2.2.2.2.2.1
def bK (b : Bd) : Nat := b.2.2.2.2.2.2.1
def bR (b : Bd) : Nat := b.2.2.2.2.2.2.2.1
def bA (b : Bd) : Nat → Nat := b.2.2.2.2.2.2.2.2.1
def bB (b : Bd) : Nat → Nat := b.2.2.2.2.2.2.2.2.2.1
def bC (b : Bd) : Nat → Nat := b.2.2.2.2.2.2.2.2.2.2
def live (b : Bd) (i : Nat) : Bool := (bF b (bN b (bP b i))).testBit (bO b i)
def heat (b : Bd) (p : Nat) : Bool := (List.range (bT b)).any (fun i => decide (bP b i = p) && live b i)
def bWarm (b : Bd) : Nat → UInt32 := runs (bS b 0) (100 - bS b 1) (bS b 2) (heat b) (bK b)
/-- the class's object o holds b -/
def bdI (o : Nat) (b : Bd) (σ : wx_St) : Prop :=
  (∀ i, i < 4 → σ.1 o 0 i = nI (bS b i)) ∧ (∀ p, p < 64 → σ.1 o 1 p = nI (bN b p)) ∧ (∀ n, n < 8 → σ.1 o 2 n = nI (bF b n)) ∧ σ.2.2.1 o 3 = nI (bT b) ∧ (∀ i, i < bT b → σ.1 o 4 i = nI (bP b i) ∧ σ.1 o 5 i = nI (bO b i)) ∧ σ.2.2.1 o 6 = nI (bK b) ∧ σ.2.2.1 o 9 = nI (bR b) ∧ ∀ i, i < bR b → σ.1 o 10 i = nI (bA b i) ∧ σ.1 o 11 i = nI (bB b i) ∧ σ.1 o 12 i = nI (bC b i)
/-- the reference's row k holds b from off on -/
def rfI (k off : Nat) (b : Bd) (σ : wx_St) : Prop :=
  (∀ i, i < 4 → σ.1 16 k (off + i) = nI (bS b i)) ∧ (∀ p, p < 64 → σ.1 16 k (off + (7 + p)) = nI (bN b p)) ∧ (∀ n, n < 8 → σ.1 16 k (off + (71 + n)) = nI (bF b n)) ∧ σ.1 16 k (off + 5) = nI (bT b) ∧ (∀ i, i < bT b → σ.1 16 k (off + (79 + 2 * i)) = nI (bP b i) ∧ σ.1 16 k (off + (80 + 2 * i)) = nI (bO b i)) ∧ σ.1 16 k (off + 4) = nI (bK b) ∧ σ.1 16 k (off + 6) = nI (bR b) ∧ ∀ i, i < bR b → σ.1 16 k (off + (85 + 3 * i)) = nI (bA b i) ∧ σ.1 16 k (off + (86 + 3 * i)) = nI (bB b i) ∧ σ.1 16 k (off + (87 + 3 * i)) = nI (bC b i)
def good (b : Bd) : Prop :=
  (bS b 0 ≤ 24 ∧ bS b 1 ≤ 50 ∧ 1 ≤ bS b 2 ∧ bS b 2 ≤ 99 ∧ bS b 3 ≤ 99) ∧ (∀ p, p < 64 → bN b p < 8) ∧ (bF b 0 = 0 ∧ ∀ n, n < 8 → bF b n < 256 ∧ (bF b n).testBit 0 = false ∧ (bF b n).testBit n = false) ∧ bT b ≤ 3 ∧ (∀ i, i < bT b → bP b i < 64 ∧ 1 ≤ bO b i ∧ bO b i < 8 ∧ bN b (bP b i) ≠ 0) ∧ (∀ i j, i < bT b → j < bT b → bP b i = bP b j → i = j) ∧ bK b ≤ 100 ∧ bR b ≤ 8 ∧ ∀ i, i < bR b → bA b i < 64 ∧ bB b i < 2 ^ 31 ∧ bC b i ≤ bK b
theorem fed_bit5 : ∀ v, v < 256 → ∀ x, x < 8 → ((((nI v).toUInt32 >>> ((nI x).toUInt32 &&& Int32.toUInt32 31)).toInt32) &&& 1) = if v.testBit x = true then 1 else 0 := by decide +kernel
theorem fed_bit6 : ∀ v, v < 256 → ∀ x, x < 8 → ((nI v >>> (nI x &&& 31)) &&& 1) = if v.testBit x = true then 1 else 0 := by decide +kernel
def b01 (c : Bool) : Int32 := if c = true then 1 else 0
theorem px_z {α : Type} {c : Bool} {F : Option α} : wx_z (b01 c) F = F := by
  unfold wx_z
  cases c
  · exact if_pos (Or.inl rfl)
  · exact if_pos (Or.inr rfl)
theorem isFed5 {o : Nat} {b : Bd} {σ : wx_St} (h : bdI o b σ) (g : good b) {n x : Nat} (hn : n < 8) (hx : x < 8) : f_X0_isFed o (nI n) (nI x) σ = some (b01 ((bF b n).testBit x)) := by
  unfold f_X0_isFed
  rw [px_rI hn (by decide), h.2.2.1 n hn, fed_bit5 _ (g.2.2.1.2 n hn).1 x hx]
  cases hb : (bF b n).testBit x <;> rfl
theorem isLive5 {o : Nat} {b : Bd} {σ : wx_St} (h : bdI o b σ) (g : good b) {i : Nat} (hi : i < bT b) : f_X0_isLive o (nI i) σ = some (b01 (live b i)) := by
  have hT := g.2.2.2.1
  obtain ⟨g1, g2, g3, g4⟩ := g.2.2.2.2.1 i hi
  unfold f_X0_isLive
  rw [px_rI (by omega) (by decide), (h.2.2.2.2.1 i hi).1, px_rI g1 (by decide), h.2.1 _ g1, px_rI (by omega) (by decide), (h.2.2.2.2.1 i hi).2, px_o (isFed5 h g (g.2.1 _ g1) g3)]
  rw [px_z]
  rfl
/-- the mask of the heated places -/
theorem heated5_loop {o : Nat} {b : Bd} {σ : wx_St} (h : bdI o b σ) (g : good b) : ∀ (n j m : Nat) (M : Int64), j + n = bT b → n < m → (∀ p, p < 64 → mk M p = (List.range j).any (fun i => decide (bP b i = p) && live b i)) → ∃ M', f_X0_heated_4 o m M (nI j) σ = some M' ∧ ∀ p, p < 64 → mk M' p = heat b p := by
  have hT := g.2.2.2.1
  intro n
  induction n with
  | zero =>
    intro j m M hj hm hM
    obtain ⟨m, rfl⟩ : ∃ k, m = k + 1 := ⟨m - 1, by omega⟩
    have hj : j = bT b := by omega
    subst hj
    refine ⟨M, ?_, hM⟩
    rw [f_X0_heated_4, h.2.2.2.1, if_pos (nI_le (Nat.le_refl _) (by omega))]
  | succ n ih =>
    intro j m M hj hm hM
    obtain ⟨m, rfl⟩ : ∃ k, m = k + 1 := ⟨m - 1, by omega⟩
    have hjT : j < bT b := by omega
    rw [f_X0_heated_4, h.2.2.2.1, if_neg (nI_ge hjT (by omega)), px_o (isLive5 h g hjT)]
    obtain ⟨g1, g2, g3, g4⟩ := g.2.2.2.2.1 j hjT
    cases hl : live b j with
    | false =>
      rw [if_pos (show b01 false = 0 from rfl)]
      unfold f_X0_heated_31
      rw [nI_1]
      refine ih (j + 1) m M (by omega) (by omega) (fun p hp => ?_)
      rw [hM p hp, List.range_succ, List.any_append]
      simp [hl]
    | true =>
      rw [if_neg (show ¬ b01 true = 0 by decide), px_rI (by omega) (by decide), (h.2.2.2.2.1 j hjT).1]
      unfold f_X0_heated_31
      rw [nI_1]
      refine ih (j + 1) m _ (by omega) (by omega) (fun p hp => ?_)
      rw [mk_or M g1 hp, hM p hp, List.range_succ, List.any_append]
      congr 1
      simp [hl, eq_comm]
theorem heated5 {o : Nat} {b : Bd} {σ : wx_St} (h : bdI o b σ) (g : good b) : ∃ M, f_X0_heated o σ = some M ∧ ∀ p, p < 64 → mk M p = heat b p := by
  have hT := g.2.2.2.1
  exact heated5_loop h g (bT b) 0 2000 0 (by omega) (by omega) (fun p _ => by rw [mk_0]; rfl)

