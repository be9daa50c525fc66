/-! TEXTS in the reference -/
def hdE (len : Nat) (c : Nat → Int32) (i : Nat) : Bool × Nat :=
  if cd len c i = 116 then efE len c [0] (i + 1)
  else if cd len c i = 102 then efE len c [0, 0] (i + 1)
  else if cd len c i = 115 then efE len c [1, 0, 2, 0] (i + 1)
  else if cd len c i = 109 then efE len c [0] (i + 1)
  else if cd len c i = 119 then numE len c (i + 1)
  else if cd len c i = 112 then efE len c [1, 0] (i + 1)
  else (false, i)
/-- the pad, in the reference -/
def pd6 (len : Nat) (c : Nat → Int32) (ν : wx_St) : Prop := ν.2.2.1 16 9 = nI len ∧ ∀ j, j < len → ν.1 16 8 j = c j
/-- only the reader's numbers change -/
def txE (σ τ : wx_St) : Prop := τ.1 = σ.1 ∧ τ.2.1 = σ.2.1 ∧ (∀ x y, ¬ (x = 16 ∧ 20 ≤ y) → τ.2.2.1 x y = σ.2.2.1 x y) ∧ τ.2.2.2 = σ.2.2.2
theorem txE.rf (σ : wx_St) : txE σ σ := ⟨rfl, rfl, fun _ _ _ => rfl, rfl⟩
theorem txE.tr {σ τ ρ : wx_St} (h : txE σ τ) (h' : txE τ ρ) : txE σ ρ := ⟨h'.1.trans h.1, h'.2.1.trans h.2.1, fun x y hn => (h'.2.2.1 x y hn).trans (h.2.2.1 x y hn), h'.2.2.2.trans h.2.2.2⟩
theorem txE.s (σ : wx_St) {y : Nat} (hy : 20 ≤ y) (v : Int32) : txE σ (wx_sS σ 16 y v) := ⟨rfl, rfl, fun x z hn => by
  show (if x = 16 ∧ z = y then v else σ.2.2.1 x z) = _
  rw [if_neg (fun hh => hn ⟨hh.1, by omega⟩)], rfl⟩
theorem txE.pd {len : Nat} {c : Nat → Int32} {σ τ : wx_St} (e : txE σ τ) (h : pd6 len c σ) : pd6 len c τ := by
  unfold pd6
  rw [e.1, e.2.2.1 16 9 (by omega)]
  exact h
theorem txE.eqr {σ τ : wx_St} (e : txE σ τ) : eqr σ τ := ⟨⟨fun x hx => ⟨by rw [e.1], by rw [e.2.1], by funext y; exact e.2.2.1 x y (fun hh => hx hh.1)⟩, e.2.2.2⟩, fun k _ => by rw [e.1], fun k _ => by rw [e.2.1], fun y hy => e.2.2.1 16 y (by omega)⟩
section txt6
variable {len : Nat} {c : Nat → Int32} {ν : wx_St}
theorem char6 (h : pd6 len c ν) (hl : len ≤ 80) {i : Nat} (hi : i < 2 ^ 20) : f_X6_character (nI i) ν = some (if i < len then c i else -1) := by
  unfold f_X6_character f_X6_character_18
  rw [h.1]
  by_cases hlt : i < len
  · rw [if_neg (nI_ge hlt (by omega)), if_pos hlt, px_rI (by omega) (by decide), h.2 i hlt]
  · rw [if_pos (nI_le (by omega) (by omega)), if_neg hlt]
theorem isDig6 (h : pd6 len c ν) (hl : len ≤ 80) {i : Nat} (hi : i < 2 ^ 20) (ha : ν.2.2.1 16 20 = nI i) : f_X6_isDigit ν = some (b01 (isD len c i)) := by
  unfold f_X6_isDigit isD
  rw [ha, px_o (char6 h hl hi), within6, px_o rfl, px_z]
  by_cases hlt : i < len
  · rw [if_pos hlt, decide_eq_true hlt, Bool.true_and]
  · rw [if_neg hlt, decide_eq_false hlt]
    rfl
theorem isCol6 (h : pd6 len c ν) (hl : len ≤ 80) {i : Nat} (hi : i < 2 ^ 20) (ha : ν.2.2.1 16 20 = nI i) : f_X6_isColumn ν = some (b01 (isC len c i)) := by
  unfold f_X6_isColumn isC
  rw [ha, px_o (char6 h hl hi), within6, px_o rfl, px_z]
  by_cases hlt : i < len
  · rw [if_pos hlt, decide_eq_true hlt, Bool.true_and]
  · rw [if_neg hlt, decide_eq_false hlt]
    rfl
/-- behind a digit -/
def dg (c : Nat → Int32) (ν : wx_St) (i : Nat) : wx_St := wx_sS (wx_sS ν 16 24 (c i - 48)) 16 20 (nI (i + 1))
theorem dg_tx (c : Nat → Int32) (ν : wx_St) (i : Nat) : txE ν (dg c ν i) := (txE.s ν (by decide) _).tr (txE.s _ (by decide) _)
theorem dg_v (c : Nat → Int32) (ν : wx_St) (i : Nat) : (dg c ν i).2.2.1 16 20 = nI (i + 1) ∧ (dg c ν i).2.2.1 16 24 = c i - 48 ∧ (dg c ν i).2.2.1 16 21 = ν.2.2.1 16 21 ∧ (dg c ν i).2.2.1 16 22 = ν.2.2.1 16 22 ∧ (dg c ν i).2.2.1 16 23 = ν.2.2.1 16 23 := ⟨rfl, rfl, rfl, rfl, rfl⟩
theorem digit6 (h : pd6 len c ν) (hl : len ≤ 80) {i : Nat} (hi : i < 2 ^ 20) (ha : ν.2.2.1 16 20 = nI i) : f_X6_readsDigit ν = if isD len c i = true then some (1, dg c ν i) else some (0, ν) := by
  unfold f_X6_readsDigit
  rw [px_o (isDig6 h hl hi ha)]
  cases hd : isD len c i with
  | false => rw [if_pos (show b01 false = 0 from rfl), if_neg (by decide)]
  | true =>
    rw [if_neg (show ¬ b01 true = 0 by decide), if_pos rfl, ha, px_o (char6 h hl hi), if_pos (isD_lt hd), px_l, px_l]
    have e : (wx_sS ν 16 24 (c i - 48)).2.2.1 16 20 + 1 = nI (i + 1) := by
      show ν.2.2.1 16 20 + 1 = _
      rw [ha, nI_1]
    rw [e]
    rfl
/-- behind a place -/
def pl (c : Nat → Int32) (ν : wx_St) (i : Nat) : wx_St := wx_sS (dg c (wx_sS (wx_sS ν 16 23 (c i - 97)) 16 20 (nI (i + 1))) (i + 1)) 16 22 (c (i + 1) - 48)
theorem pl_tx (c : Nat → Int32) (ν : wx_St) (i : Nat) : txE ν (pl c ν i) := (((txE.s ν (by decide) _).tr (txE.s _ (by decide) _)).tr (dg_tx _ _ _)).tr (txE.s _ (by decide) _)
theorem pl_v (c : Nat → Int32) (ν : wx_St) (i : Nat) : (pl c ν i).2.2.1 16 20 = nI (i + 2) ∧ (pl c ν i).2.2.1 16 24 = c (i + 1) - 48 ∧ (pl c ν i).2.2.1 16 21 = ν.2.2.1 16 21 ∧ (pl c ν i).2.2.1 16 22 = c (i + 1) - 48 ∧ (pl c ν i).2.2.1 16 23 = c i - 97 := ⟨rfl, rfl, rfl, rfl, rfl⟩
theorem place6 (h : pd6 len c ν) (hl : len ≤ 80) {i : Nat} (hi : i < 2 ^ 20 - 2) (ha : ν.2.2.1 16 20 = nI i) : ((efE len c [1, 0] i).1 = true ∧ isC len c i = true ∧ isD len c (i + 1) = true ∧ f_X6_readsPlace ν = some (1, pl c ν i)) ∨ ((efE len c [1, 0] i).1 = false ∧ ∃ τ, f_X6_readsPlace ν = some (0, τ) ∧ txE ν τ ∧ τ.2.2.1 16 20 = nI (efE len c [1, 0] i).2 ∧ τ.2.2.1 16 21 = ν.2.2.1 16 21) := by
  have eE : efE len c [1, 0] i = if isC len c i = true then (if isD len c (i + 1) = true then (true, i + 1 + 1) else (false, i + 1)) else (false, i) := rfl
  unfold f_X6_readsPlace
  rw [px_o (isCol6 h hl (by omega) ha), eE]
  cases hc : isC len c i with
  | false =>
    rw [if_neg (by decide)]
    refine Or.inr ⟨rfl, ν, ?_, txE.rf ν, ha, rfl⟩
    rw [if_pos (show b01 false = 0 from rfl)]
  | true =>
    have hlt := isC_lt hc
    rw [if_pos rfl, if_neg (show ¬ b01 true = 0 by decide), ha, px_o (char6 h hl (by omega)), if_pos hlt, px_l, px_l]
    have e : (wx_sS ν 16 23 (c i - 97)).2.2.1 16 20 + 1 = nI (i + 1) := by
      show ν.2.2.1 16 20 + 1 = _
      rw [ha, nI_1]
    have tx : txE ν (wx_sS (wx_sS ν 16 23 (c i - 97)) 16 20 (nI (i + 1))) := (txE.s ν (by decide) _).tr (txE.s _ (by decide) _)
    rw [e, digit6 (tx.pd h) hl (i := i + 1) (by omega) rfl]
    cases hd : isD len c (i + 1) with
    | false =>
      rw [if_neg (by decide), if_neg (by decide), px_bs, px_l]
      exact Or.inr ⟨rfl, _, px_z (c := false), tx.tr (txE.s _ (by decide) _), rfl, rfl⟩
    | true =>
      rw [if_pos rfl, if_pos rfl, px_bs, px_l]
      exact Or.inl ⟨rfl, rfl, rfl, px_z (c := true)⟩
/-- what has been read of an order -/
def vals (len : Nat) (c : Nat → Int32) (i : Nat) (τ : wx_St) : Prop :=
  (cd len c i = 102 → τ.2.2.1 16 22 = c (i + 1) - 48 ∧ τ.2.2.1 16 24 = c (i + 2) - 48) ∧
  (cd len c i = 116 ∨ cd len c i = 109 → τ.2.2.1 16 24 = c (i + 1) - 48) ∧
  (cd len c i = 115 → τ.2.2.1 16 22 = c (i + 2) - 48 ∧ τ.2.2.1 16 23 = c (i + 1) - 97 ∧ τ.2.2.1 16 24 = c (i + 4) - 48) ∧
  (cd len c i = 112 → τ.2.2.1 16 22 = c (i + 2) - 48 ∧ τ.2.2.1 16 23 = c (i + 1) - 97 ∧ τ.2.2.1 16 24 = c (i + 2) - 48) ∧
  (cd len c i = 119 → τ.2.2.1 16 24 = if (numE len c (i + 1)).2 = i + 3 then 10 * (c (i + 1) - 48) + c (i + 2) - 48 else c (i + 1) - 48)
theorem next6 (h : pd6 len c ν) (hl : len ≤ 80) {i : Nat} (hi : i < 2 ^ 20) (ha : ν.2.2.1 16 20 = nI i) {k : Int32} (hk : k ≠ -1) : f_X6_isNext k ν = some (b01 (isK len c k i), wx_sS ν 16 20 (nI (if isK len c k i = true then i + 1 else i))) := by
  unfold f_X6_isNext
  rw [ha, px_o (char6 h hl hi)]
  have key : ((if i < len then c i else -1) = k) ↔ isK len c k i = true := by
    unfold isK
    by_cases hlt : i < len
    · rw [if_pos hlt, decide_eq_true hlt, Bool.true_and, decide_eq_true_eq]
    · rw [if_neg hlt, decide_eq_false hlt, Bool.false_and]
      exact ⟨fun e => absurd e.symm hk, fun e => by cases e⟩
  unfold f_X6_isNext_17 f_X6_isNext_32
  cases hK : isK len c k i with
  | true =>
    rw [if_pos (key.mpr hK), if_neg (show ¬ (1 : Int32) = 0 by decide), px_l, ha, nI_1, if_pos rfl]
    exact px_z (c := true)
  | false =>
    rw [if_neg (fun e => by rw [key.mp e] at hK; cases hK), if_pos rfl, px_l, ha, if_neg (by decide)]
    have : nI i + 0 = nI i := nI_add i 0
    rw [this]
    exact px_z (c := false)
theorem numb6 (h : pd6 len c ν) (hl : len ≤ 80) {i : Nat} (hi : i < 2 ^ 20 - 2) (ha : ν.2.2.1 16 20 = nI i) : ∃ τ, f_X6_readsNumber ν = some (b01 (numE len c i).1, τ) ∧ txE ν τ ∧ τ.2.2.1 16 20 = nI (numE len c i).2 ∧ τ.2.2.1 16 21 = ν.2.2.1 16 21 ∧ ((numE len c i).1 = true → τ.2.2.1 16 24 = if (numE len c i).2 = i + 2 then 10 * (c i - 48) + c (i + 1) - 48 else c i - 48) := by
  unfold f_X6_readsNumber f_X6_readsNumber_56 numE
  rw [digit6 h hl (by omega) ha]
  cases hd : isD len c i with
  | false =>
    rw [if_neg (by decide), px_bs, if_pos rfl, if_neg (by decide)]
    exact ⟨ν, rfl, txE.rf ν, ha, rfl, fun hh => by cases hh⟩
  | true =>
    obtain ⟨v1, v2, v3, v4, v5⟩ := dg_v c ν i
    have hd' := hd
    unfold isD at hd'
    simp only [Bool.and_eq_true, decide_eq_true_eq] at hd'
    obtain ⟨hlt, h48, h57⟩ := hd'
    rw [if_pos rfl, px_bs, if_neg (show ¬ (1 : Int32) = 0 by decide), v2, if_pos rfl]
    rw [Int32.le_iff_toInt_le] at h48 h57
    have e48 : (48 : Int32).toInt = 48 := rfl
    have e57 : (57 : Int32).toInt = 57 := rfl
    have e0 : (0 : Int32).toInt = 0 := rfl
    have es : (c i - 48).toInt = (c i).toInt - 48 := by
      rw [Int32.toInt_sub, e48]
      exact Int.bmod_eq_of_le (by omega) (by omega)
    by_cases h0 : c i = 48
    · rw [if_pos (show c i - 48 ≤ 0 by rw [Int32.le_iff_toInt_le, es, e0, h0, e48]; omega), if_pos h0]
      refine ⟨_, rfl, dg_tx c ν i, v1, v3, fun _ => ?_⟩
      rw [v2]
      show _ = if i + 1 = i + 2 then _ else _
      rw [if_neg (by omega)]
    · have hne : (c i).toInt ≠ 48 := fun e => h0 (Int32.toInt_inj.mp (e.trans e48.symm))
      rw [if_neg (show ¬ c i - 48 ≤ 0 by rw [Int32.le_iff_toInt_le, es, e0]; omega), if_neg h0, px_o (isDig6 ((dg_tx c ν i).pd h) hl (i := i + 1) (by omega) v1)]
      cases hd2 : isD len c (i + 1) with
      | false =>
        rw [if_pos (show b01 false = 0 from rfl), if_neg (show ¬ false = true by decide)]
        refine ⟨_, rfl, dg_tx c ν i, v1, v3, fun _ => ?_⟩
        rw [v2]
        show _ = if i + 1 = i + 2 then _ else _
        rw [if_neg (by omega)]
      | true =>
        rw [if_neg (show ¬ b01 true = 0 by decide), if_pos (show true = true from rfl), v1, px_o (char6 ((dg_tx c ν i).pd h) hl (by omega)), if_pos (isD_lt hd2), px_l, px_l]
        refine ⟨_, rfl, ((dg_tx c ν i).tr (txE.s _ (by decide) _)).tr (txE.s _ (by decide) _), ?_, rfl, fun _ => ?_⟩
        · show nI (i + 1) + 1 = nI (i + 2)
          rw [nI_1]
        · show 10 * (c i - 48) + c (i + 1) - 48 = if i + 2 = i + 2 then _ else _
          rw [if_pos rfl]
theorem c6_of {k : Int32} {i : Nat} (h0 : k ≠ 0) (h1 : k ≠ -1) : ((if i < len then c i else -1) = k ↔ cd len c i = k) := by
  unfold cd
  by_cases hlt : i < len
  · rw [if_pos hlt, if_pos hlt]
  · rw [if_neg hlt, if_neg hlt]
    exact ⟨fun e => absurd e.symm h1, fun e => absurd e.symm h0⟩
theorem order6 (h : pd6 len c ν) (hl : len ≤ 80) {i : Nat} (hi : i ≤ len) (ha : ν.2.2.1 16 20 = nI i) : ∃ τ, f_X6_readsOrder ν = some (b01 (hdE len c i).1, τ) ∧ txE ν τ ∧ τ.2.2.1 16 20 = nI (hdE len c i).2 ∧ (τ.2.2.1 16 21 = if i < len then c i else -1) ∧ ((hdE len c i).1 = true → vals len c i τ) := by
  have c6 : ∀ k : Int32, k ≠ 0 → k ≠ -1 → ((if i < len then c i else -1) = k ↔ cd len c i = k) := fun k h0 h1 => c6_of h0 h1
  unfold f_X6_readsOrder
  rw [ha, px_o (char6 h hl (by omega)), px_l, px_l]
  generalize hL : (if i < len then c i else -1) = L at c6
  have e1 : (wx_sS ν 16 21 L).2.2.1 16 20 + 1 = nI (i + 1) := by
    show ν.2.2.1 16 20 + 1 = _
    rw [ha, nI_1]
  rw [e1]
  have tx0 : txE ν (wx_sS (wx_sS ν 16 21 L) 16 20 (nI (i + 1))) := (txE.s ν (by decide) _).tr (txE.s _ (by decide) _)
  have a0 : (wx_sS (wx_sS ν 16 21 L) 16 20 (nI (i + 1))).2.2.1 16 20 = nI (i + 1) := rfl
  have l0 : (wx_sS (wx_sS ν 16 21 L) 16 20 (nI (i + 1))).2.2.1 16 21 = L := rfl
  generalize wx_sS (wx_sS ν 16 21 L) 16 20 (nI (i + 1)) = μ at tx0 a0 l0 ⊢
  have h0 := tx0.pd h
  rw [l0]
  unfold f_X6_readsOrder_145 f_X6_readsOrder_146 f_X6_readsOrder_174 f_X6_readsOrder_175 hdE
  have z0 : ∀ τ : wx_St, wx_z (α := Int32 × wx_St) 0 (some (0, τ)) = some (b01 false, τ) := fun τ => px_z (c := false)
  have z1 : ∀ τ : wx_St, wx_z (α := Int32 × wx_St) 1 (some (1, τ)) = some (b01 true, τ) := fun τ => px_z (c := true)
  have neq : ∀ k k' : Int32, k ≠ k' → cd len c i = k → ¬ cd len c i = k' := fun k k' hk e e' => hk (e.symm.trans e')
  have vno : ∀ k : Int32, cd len c i = k → ∀ τ, (k = 102 → τ.2.2.1 16 22 = c (i + 1) - 48 ∧ τ.2.2.1 16 24 = c (i + 2) - 48) → (k = 116 ∨ k = 109 → τ.2.2.1 16 24 = c (i + 1) - 48) → (k = 115 → τ.2.2.1 16 22 = c (i + 2) - 48 ∧ τ.2.2.1 16 23 = c (i + 1) - 97 ∧ τ.2.2.1 16 24 = c (i + 4) - 48) → (k = 112 → τ.2.2.1 16 22 = c (i + 2) - 48 ∧ τ.2.2.1 16 23 = c (i + 1) - 97 ∧ τ.2.2.1 16 24 = c (i + 2) - 48) → (k = 119 → τ.2.2.1 16 24 = if (numE len c (i + 1)).2 = i + 3 then 10 * (c (i + 1) - 48) + c (i + 2) - 48 else c (i + 1) - 48) → vals len c i τ := fun k hk τ v1 v2 v3 v4 v5 => by
    subst hk
    exact ⟨v1, v2, v3, v4, v5⟩
  by_cases h116 : cd len c i = 116
  · have hL2 : L = 116 := (c6 116 (by decide) (by decide)).mpr h116
    rw [if_pos h116, hL2, if_neg (show ¬ (116 : Int32) = 102 by decide), if_neg (show ¬ (116 : Int32) = 103 by decide), if_neg (show ¬ (116 : Int32) = 104 by decide), if_neg (show ¬ (116 : Int32) = 105 by decide), if_neg (show ¬ (116 : Int32) = 106 by decide), if_neg (show ¬ (116 : Int32) = 107 by decide), if_neg (show ¬ (116 : Int32) = 108 by decide), if_neg (show ¬ (116 : Int32) = 109 by decide), if_neg (show ¬ (116 : Int32) = 110 by decide), if_neg (show ¬ (116 : Int32) = 111 by decide), if_neg (show ¬ (116 : Int32) = 112 by decide), if_neg (show ¬ (116 : Int32) = 113 by decide), if_neg (show ¬ (116 : Int32) = 114 by decide), if_neg (show ¬ (116 : Int32) = 115 by decide), if_pos (show (116 : Int32) = 116 from rfl), digit6 h0 hl (by omega) a0]
    have eE : efE len c [0] (i + 1) = if isD len c (i + 1) = true then (true, i + 1 + 1) else (false, i + 1) := rfl
    rw [eE]
    cases hd : isD len c (i + 1) with
    | false =>
      rw [if_neg (by decide), if_neg (by decide), px_bs, z0]
      exact ⟨μ, rfl, tx0, a0, l0.trans hL2, fun hh => by cases hh⟩
    | true =>
      obtain ⟨v1, v2, v3, v4, v5⟩ := dg_v c μ (i + 1)
      rw [if_pos rfl, if_pos rfl, px_bs, z1]
      exact ⟨_, rfl, tx0.tr (dg_tx c μ (i + 1)), v1, (v3.trans l0).trans hL2, fun _ => vno _ h116 _ (fun e => absurd e (by decide)) (fun _ => v2) (fun e => absurd e (by decide)) (fun e => absurd e (by decide)) (fun e => absurd e (by decide))⟩
  · rw [if_neg h116]
    by_cases h102 : cd len c i = 102
    · have hL2 : L = 102 := (c6 102 (by decide) (by decide)).mpr h102
      rw [if_pos h102, hL2, if_pos (show (102 : Int32) = 102 from rfl), digit6 h0 hl (by omega) a0]
      have eE : efE len c [0, 0] (i + 1) = if isD len c (i + 1) = true then (if isD len c (i + 1 + 1) = true then (true, i + 1 + 1 + 1) else (false, i + 1 + 1)) else (false, i + 1) := rfl
      rw [eE]
      cases hd : isD len c (i + 1) with
      | false =>
        rw [if_neg (by decide), if_neg (by decide), px_bs, px_l, if_pos (show (0 : Int32) = 0 from rfl), z0]
        exact ⟨_, rfl, tx0.tr (txE.s _ (by decide) _), a0, l0.trans hL2, fun hh => by cases hh⟩
      | true =>
        obtain ⟨v1, v2, v3, v4, v5⟩ := dg_v c μ (i + 1)
        have txd := tx0.tr (dg_tx c μ (i + 1))
        rw [if_pos rfl, if_pos rfl, px_bs, px_l, if_neg (show ¬ (1 : Int32) = 0 by decide), v2]
        have txw : txE ν (wx_sS (dg c μ (i + 1)) 16 22 (c (i + 1) - 48)) := txd.tr (txE.s _ (by decide) _)
        rw [digit6 (txw.pd h) hl (i := i + 1 + 1) (by omega) rfl]
        cases hd2 : isD len c (i + 1 + 1) with
        | false =>
          rw [if_neg (by decide), if_neg (by decide), px_bs, if_pos (show (0 : Int32) = 0 from rfl), z0]
          exact ⟨_, rfl, txw, rfl, (v3.trans l0).trans hL2, fun hh => by cases hh⟩
        | true =>
          rw [if_pos rfl, if_pos rfl, px_bs, if_neg (show ¬ (1 : Int32) = 0 by decide), z1]
          exact ⟨_, rfl, txw.tr (dg_tx c _ _), rfl, (v3.trans l0).trans hL2, fun _ => vno _ h102 _ (fun _ => ⟨rfl, rfl⟩) (fun e => absurd e (by decide)) (fun e => absurd e (by decide)) (fun e => absurd e (by decide)) (fun e => absurd e (by decide))⟩
    · rw [if_neg h102, if_neg (fun e => h102 ((c6 102 (by decide) (by decide)).mp e))]
      by_cases h115 : cd len c i = 115
      · have hL2 : L = 115 := (c6 115 (by decide) (by decide)).mpr h115
        rw [if_pos h115, hL2, if_neg (show ¬ (115 : Int32) = 103 by decide), if_neg (show ¬ (115 : Int32) = 104 by decide), if_neg (show ¬ (115 : Int32) = 105 by decide), if_neg (show ¬ (115 : Int32) = 106 by decide), if_neg (show ¬ (115 : Int32) = 107 by decide), if_neg (show ¬ (115 : Int32) = 108 by decide), if_neg (show ¬ (115 : Int32) = 109 by decide), if_neg (show ¬ (115 : Int32) = 110 by decide), if_neg (show ¬ (115 : Int32) = 111 by decide), if_neg (show ¬ (115 : Int32) = 112 by decide), if_neg (show ¬ (115 : Int32) = 113 by decide), if_neg (show ¬ (115 : Int32) = 114 by decide), if_pos (show (115 : Int32) = 115 from rfl)]
        have eE : efE len c [1, 0, 2, 0] (i + 1) = if (efE len c [1, 0] (i + 1)).1 = true then (if isK len c 61 (i + 3) = true then (if isD len c (i + 4) = true then (true, i + 5) else (false, i + 4)) else (false, i + 3)) else efE len c [1, 0] (i + 1) := by
          show (if isC len c (i + 1) = true then (if isD len c (i + 2) = true then (if isK len c 61 (i + 3) = true then (if isD len c (i + 4) = true then (true, i + 5) else (false, i + 4)) else (false, i + 3)) else (false, i + 2)) else (false, i + 1)) = if (if isC len c (i + 1) = true then (if isD len c (i + 2) = true then (true, i + 3) else (false, i + 2)) else (false, i + 1)).1 = true then _ else (if isC len c (i + 1) = true then (if isD len c (i + 2) = true then (true, i + 3) else (false, i + 2)) else (false, i + 1))
          cases isC len c (i + 1) <;> cases isD len c (i + 2) <;> rfl
        rw [eE]
        rcases place6 h0 hl (i := i + 1) (by omega) a0 with ⟨q1, q2, q3, q4⟩ | ⟨q1, τ, q2, q3, q4, q5⟩
        · obtain ⟨v1, v2, v3, v4, v5⟩ := pl_v c μ (i + 1)
          have txp := tx0.tr (pl_tx c μ (i + 1))
          rw [q1, q4, px_bs, if_pos rfl, if_neg (show ¬ (1 : Int32) = 0 by decide), next6 (txp.pd h) hl (i := i + 1 + 2) (by omega) v1 (by decide), px_bs]
          cases hk : isK len c 61 (i + 3) with
          | false =>
            rw [if_pos (show b01 false = 0 from rfl), if_neg (by decide), z0]
            exact ⟨_, rfl, txp.tr (txE.s _ (by decide) _), rfl, (v3.trans l0).trans hL2, fun hh => by cases hh⟩
          | true =>
            have txn : txE ν (wx_sS (pl c μ (i + 1)) 16 20 (nI (i + 4))) := txp.tr (txE.s _ (by decide) _)
            rw [if_neg (show ¬ b01 true = 0 by decide), if_pos (show true = true from rfl), if_pos (show true = true from rfl)]
            show ∃ τ, wx_b (f_X6_readsDigit (wx_sS (pl c μ (i + 1)) 16 20 (nI (i + 4)))) _ = _ ∧ _
            rw [digit6 (txn.pd h) hl (i := i + 4) (by omega) rfl]
            cases hd : isD len c (i + 4) with
            | false =>
              rw [if_neg (by decide), if_neg (by decide), px_bs, if_pos (show (0 : Int32) = 0 from rfl), z0]
              exact ⟨_, rfl, txn, rfl, (v3.trans l0).trans hL2, fun hh => by cases hh⟩
            | true =>
              rw [if_pos rfl, if_pos rfl, px_bs, if_neg (show ¬ (1 : Int32) = 0 by decide), z1]
              exact ⟨_, rfl, txn.tr (dg_tx c _ _), rfl, (v3.trans l0).trans hL2, fun _ => vno _ h115 _ (fun e => absurd e (by decide)) (fun e => absurd e (by decide)) (fun _ => ⟨v4, v5, rfl⟩) (fun e => absurd e (by decide)) (fun e => absurd e (by decide))⟩
        · rw [q1, if_neg (show ¬ false = true by decide), q2, px_bs, if_pos (show (0 : Int32) = 0 from rfl), z0]
          exact ⟨τ, by rw [q1], tx0.tr q3, q4, (q5.trans l0).trans hL2, fun hh => by rw [q1] at hh; cases hh⟩
      · rw [if_neg h115]
        by_cases h109 : cd len c i = 109
        · have hL2 : L = 109 := (c6 109 (by decide) (by decide)).mpr h109
          rw [if_pos h109, hL2, if_neg (show ¬ (109 : Int32) = 103 by decide), if_neg (show ¬ (109 : Int32) = 104 by decide), if_neg (show ¬ (109 : Int32) = 105 by decide), if_neg (show ¬ (109 : Int32) = 106 by decide), if_neg (show ¬ (109 : Int32) = 107 by decide), if_neg (show ¬ (109 : Int32) = 108 by decide), if_pos (show (109 : Int32) = 109 from rfl), digit6 h0 hl (by omega) a0]
          have eE : efE len c [0] (i + 1) = if isD len c (i + 1) = true then (true, i + 1 + 1) else (false, i + 1) := rfl
          rw [eE]
          cases hd : isD len c (i + 1) with
          | false =>
            rw [if_neg (by decide), if_neg (by decide), px_bs, z0]
            exact ⟨μ, rfl, tx0, a0, l0.trans hL2, fun hh => by cases hh⟩
          | true =>
            obtain ⟨v1, v2, v3, v4, v5⟩ := dg_v c μ (i + 1)
            rw [if_pos rfl, if_pos rfl, px_bs, z1]
            exact ⟨_, rfl, tx0.tr (dg_tx c μ (i + 1)), v1, (v3.trans l0).trans hL2, fun _ => vno _ h109 _ (fun e => absurd e (by decide)) (fun _ => v2) (fun e => absurd e (by decide)) (fun e => absurd e (by decide)) (fun e => absurd e (by decide))⟩
        · rw [if_neg h109]
          by_cases h119 : cd len c i = 119
          · have hL2 : L = 119 := (c6 119 (by decide) (by decide)).mpr h119
            rw [if_pos h119, hL2, if_neg (show ¬ (119 : Int32) = 103 by decide), if_neg (show ¬ (119 : Int32) = 104 by decide), if_neg (show ¬ (119 : Int32) = 105 by decide), if_neg (show ¬ (119 : Int32) = 106 by decide), if_neg (show ¬ (119 : Int32) = 107 by decide), if_neg (show ¬ (119 : Int32) = 108 by decide), if_neg (show ¬ (119 : Int32) = 109 by decide), if_neg (show ¬ (119 : Int32) = 110 by decide), if_neg (show ¬ (119 : Int32) = 111 by decide), if_neg (show ¬ (119 : Int32) = 112 by decide), if_neg (show ¬ (119 : Int32) = 113 by decide), if_neg (show ¬ (119 : Int32) = 114 by decide), if_neg (show ¬ (119 : Int32) = 115 by decide), if_neg (show ¬ (119 : Int32) = 116 by decide), if_neg (show ¬ (119 : Int32) = 117 by decide), if_neg (show ¬ (119 : Int32) = 118 by decide), if_pos (show (119 : Int32) = 119 from rfl)]
            obtain ⟨τ, t1, t2, t3, t4, t5⟩ := numb6 h0 hl (i := i + 1) (by omega) a0
            rw [px_b t1, px_z]
            exact ⟨τ, rfl, tx0.tr t2, t3, (t4.trans l0).trans hL2, fun hh => vno _ h119 _ (fun e => absurd e (by decide)) (fun e => absurd e (by decide)) (fun e => absurd e (by decide)) (fun e => absurd e (by decide)) (fun _ => t5 hh)⟩
          · rw [if_neg h119]
            by_cases h112 : cd len c i = 112
            · have hL2 : L = 112 := (c6 112 (by decide) (by decide)).mpr h112
              rw [if_pos h112, hL2, if_neg (show ¬ (112 : Int32) = 103 by decide), if_neg (show ¬ (112 : Int32) = 104 by decide), if_neg (show ¬ (112 : Int32) = 105 by decide), if_neg (show ¬ (112 : Int32) = 106 by decide), if_neg (show ¬ (112 : Int32) = 107 by decide), if_neg (show ¬ (112 : Int32) = 108 by decide), if_neg (show ¬ (112 : Int32) = 109 by decide), if_neg (show ¬ (112 : Int32) = 110 by decide), if_neg (show ¬ (112 : Int32) = 111 by decide), if_pos (show (112 : Int32) = 112 from rfl)]
              rcases place6 h0 hl (i := i + 1) (by omega) a0 with ⟨q1, q2, q3, q4⟩ | ⟨q1, τ, q2, q3, q4, q5⟩
              · obtain ⟨v1, v2, v3, v4, v5⟩ := pl_v c μ (i + 1)
                have e2 : (efE len c [1, 0] (i + 1)).2 = i + 1 + 2 := (efE_ok _ _ q1).1
                rw [q1, q4, px_bs, z1, e2]
                exact ⟨_, rfl, tx0.tr (pl_tx c μ (i + 1)), v1, (v3.trans l0).trans hL2, fun _ => vno _ h112 _ (fun e => absurd e (by decide)) (fun e => absurd e (by decide)) (fun e => absurd e (by decide)) (fun _ => ⟨v4, v5, v2⟩) (fun e => absurd e (by decide))⟩
              · rw [q1, q2, px_bs, z0]
                exact ⟨τ, rfl, tx0.tr q3, q4, (q5.trans l0).trans hL2, fun hh => by cases hh⟩
            · have e2 : μ.2.2.1 16 20 - 1 = nI i := by
                rw [a0]
                exact nI_pred i
              have n109 : ¬ L = 109 := fun e => h109 ((c6 109 (by decide) (by decide)).mp e)
              have n112 : ¬ L = 112 := fun e => h112 ((c6 112 (by decide) (by decide)).mp e)
              have n115 : ¬ L = 115 := fun e => h115 ((c6 115 (by decide) (by decide)).mp e)
              have n116 : ¬ L = 116 := fun e => h116 ((c6 116 (by decide) (by decide)).mp e)
              have n119 : ¬ L = 119 := fun e => h119 ((c6 119 (by decide) (by decide)).mp e)
              rw [if_neg h112, if_neg n109, if_neg n112, if_neg n115, if_neg n116, if_neg n119, e2]
              simp only [ite_self]
              rw [px_l]
              exact ⟨_, rfl, tx0.tr (txE.s _ (by decide) _), rfl, l0, fun hh => by cases hh⟩
end txt6
