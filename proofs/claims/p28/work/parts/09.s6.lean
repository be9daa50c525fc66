/-! the past's order -/
theorem px_rR {α : Type} {σ : wx_St} {j : Nat} {F : Nat → Option α} (hj : j < 7) (h : σ.2.2.2.1 j < 7) : wx_rR σ 14 7 (nI j) F = F (σ.2.2.2.1 j) := by
  unfold wx_rR
  have e : wx_ro σ 14 (nI j).toNatClampNeg = σ.2.2.2.1 j := by
    rw [nI_clamp (by omega)]
    rfl
  rw [if_pos (wx_in_nI hj (by decide)), e, if_pos (by omega)]
def wx_rho (σ : wx_St) (r : Nat → Nat) : wx_St := (σ.1, σ.2.1, σ.2.2.1, r, σ.2.2.2.2)
theorem prepare_eq {σ : wx_St} {n : Nat} (h0 : σ.2.2.1 14 1 = nI n) (hn : n < 7) (h : σ.2.2.2.1 n < 7) : f_X3_prepare 7 σ = f_X0_takeOver (σ.2.2.2.1 n) 7 σ := by
  unfold f_X3_prepare
  rw [h0, px_rR hn h]
  cases ht : f_X0_takeOver (σ.2.2.2.1 n) 7 σ with
  | none => rfl
  | some r => rfl
theorem kept_neg {σ : wx_St} {x : Int32} (h : ¬ 0 ≤ x) : f_X3_kept x σ = some (x, σ) := by
  unfold f_X3_kept
  rw [if_neg h]
theorem kept_lt {σ : wx_St} {x : Int32} {n : Nat} (h : 0 ≤ x) (h0 : σ.2.2.1 14 1 = nI n) (hn : n < 6) : f_X3_kept x σ = some (x, wx_sS σ 14 1 (nI (n + 1))) := by
  unfold f_X3_kept
  rw [if_pos h, h0, if_neg (show ¬ (6 : Int32) ≤ nI n from nI_ge (a := n) (b := 6) hn (by decide)), nI_1]
  rfl
theorem kept_loop {x : Int32} {z : Nat} {σ : wx_St} {r0 : Nat → Nat} (hr : ∀ j, j < 7 → r0 j < 7) : ∀ (n j m : Nat), j + n = 6 → n < m →
    f_X3_kept_36 m x z (nI j) (wx_rho σ (fun i => if i < j then r0 (i + 1) else r0 i)) = some (x, wx_rho σ (fun i => if i = 6 then z else if i < 6 then r0 (i + 1) else r0 i)) := by
  intro n
  induction n with
  | zero =>
    intro j m hj hm
    obtain ⟨m, rfl⟩ : ∃ k, m = k + 1 := ⟨m - 1, by omega⟩
    have hj : j = 6 := by omega
    subst hj
    rw [f_X3_kept_36, if_pos (by decide), show wx_w _ 7 6 = wx_w _ 7 (nI 6) from rfl, px_w (by decide) (by decide)]
    rfl
  | succ n ih =>
    intro j m hj hm
    obtain ⟨m, rfl⟩ : ∃ k, m = k + 1 := ⟨m - 1, by omega⟩
    rw [f_X3_kept_36, if_neg (show ¬ (6 : Int32) ≤ nI j from nI_ge (a := j) (b := 6) (by omega) (by decide)), nI_1]
    have e : (wx_rho σ (fun i => if i < j then r0 (i + 1) else r0 i)).2.2.2.1 (j + 1) = r0 (j + 1) := by
      show (if j + 1 < j then _ else r0 (j + 1)) = _
      rw [if_neg (by omega)]
    rw [px_rR (by omega) (by rw [e]; exact hr _ (by omega)), e, px_w (by omega) (by decide), nI_clamp (by omega)]
    have e2 : wx_sR (wx_rho σ (fun i => if i < j then r0 (i + 1) else r0 i)) j (r0 (j + 1)) = wx_rho σ (fun i => if i < j + 1 then r0 (i + 1) else r0 i) := by
      unfold wx_sR wx_rho
      have : (fun i => if i = j then r0 (j + 1) else if i < j then r0 (i + 1) else r0 i) = (fun i => if i < j + 1 then r0 (i + 1) else r0 i) := by
        funext i
        by_cases h1 : i = j
        · subst h1
          rw [if_pos rfl, if_pos (by omega)]
        · rw [if_neg h1]
          by_cases h2 : i < j
          · rw [if_pos h2, if_pos (by omega)]
          · rw [if_neg h2, if_neg (by omega)]
      show (σ.1, σ.2.1, σ.2.2.1, _, σ.2.2.2.2) = _
      rw [← this]
    rw [e2]
    exact ih (j + 1) m (by omega) (by omega)
theorem kept_6 {σ : wx_St} {x : Int32} (h : 0 ≤ x) (h0 : σ.2.2.1 14 1 = nI 6) (hr : ∀ j, j < 7 → σ.2.2.2.1 j < 7) : f_X3_kept x σ = some (x, wx_rho σ (fun i => if i = 6 then σ.2.2.2.1 0 else if i < 6 then σ.2.2.2.1 (i + 1) else σ.2.2.2.1 i)) := by
  unfold f_X3_kept
  rw [if_pos h, h0, if_pos (by decide), show wx_rR σ 14 7 0 = wx_rR σ 14 7 (nI 0) from rfl, px_rR (by decide) (hr 0 (by decide))]
  have := kept_loop (x := x) (z := σ.2.2.2.1 0) (σ := σ) (r0 := σ.2.2.2.1) hr 6 0 2000 (by decide) (by decide)
  have e : wx_rho σ (fun i => if i < 0 then σ.2.2.2.1 (i + 1) else σ.2.2.2.1 i) = σ := by
    unfold wx_rho
    have : (fun i => if i < 0 then σ.2.2.2.1 (i + 1) else σ.2.2.2.1 i) = σ.2.2.2.1 := by
      funext i
      rw [if_neg (by omega)]
    rw [this]
  rw [e] at this
  exact this

