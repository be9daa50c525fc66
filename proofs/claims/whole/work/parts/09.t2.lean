/-! THE REFERENCE'S RECORD -/
def rcd (σ : wx_St) (n : Nat) : wx_St := wx_sS (wx_uF (wx_uI σ 16 2 (109 * n) 109 (fun i => σ.1 16 0 (0 + i))) 16 3 (64 * n) 64 (fun i => σ.2.1 16 1 (0 + i))) 16 4 (nI (n + 1))
theorem rc_79 {σ : wx_St} {n : Nat} (h0 : σ.2.2.1 16 4 = nI n) (hn : n < 6) : f_X6_record_79 σ = some ((), rcd σ n) := by
  unfold f_X6_record_79
  have e1 : nI n * 109 = nI (109 * n) := by
    have : ∀ n, n < 6 → nI n * 109 = nI (109 * n) := by decide
    exact this n hn
  have e2 : nI n * 64 = nI (64 * n) := by
    have : ∀ n, n < 6 → nI n * 64 = nI (64 * n) := by decide
    exact this n hn
  have m1 := mv6 (σ := σ) (o0 := 16) (k0 := 0) (n0 := 109) (o2 := 16) (k2 := 2) (n2 := 654) (a := 0) (b := 109 * n) (by decide) (by decide) (by omega) (by decide) (by decide)
  have m2 := st6_moves (σ := wx_uI σ 16 2 (109 * n) 109 (fun i => σ.1 16 0 (0 + i))) (o0 := 16) (k0 := 1) (n0 := 64) (o2 := 16) (k2 := 3) (n2 := 384) (a := 0) (b := 64 * n) (by decide) (by decide) (by omega) (by decide) (by decide)
  rw [h0, e1, show (0 : Int32) = nI 0 from rfl, px_b m1]
  show wx_b (f_X6_movesWarmth 16 1 64 16 3 384 (nI 0) (σ.2.2.1 16 4 * 64) (wx_uI σ 16 2 (109 * n) 109 (fun i => σ.1 16 0 (0 + i)))) _ = _
  rw [h0, e2, px_b m2]
  show some ((), wx_sS _ 16 4 (σ.2.2.1 16 4 + 1)) = _
  rw [h0, nI_1]
  rfl
theorem record_lt {σ : wx_St} {n : Nat} (h0 : σ.2.2.1 16 4 = nI n) (hn : n < 6) : f_X6_record σ = some ((), rcd σ n) := by
  unfold f_X6_record
  have : ∀ n, n < 6 → ¬ nI n = 6 := by decide
  rw [h0, if_neg (this n hn)]
  exact rc_79 h0 hn
def shI (σ : wx_St) : wx_St := wx_uI σ 16 2 0 545 (fun i => σ.1 16 2 (i + 109))
def shF (σ : wx_St) : wx_St := wx_uF σ 16 3 0 320 (fun i => σ.2.1 16 3 (i + 64))
theorem p545_c : ∀ P, P < 545 → ¬ 545 ≤ nI P := by decide +kernel
theorem p320_c : ∀ P, P < 320 → ¬ 320 ≤ nI P := by decide +kernel
theorem rc_41 {σ : wx_St} : ∀ (m P : Nat), P ≤ 320 → 321 ≤ m + P →
    f_X6_record_41 m (nI P) (wx_uF σ 16 3 0 P (fun i => σ.2.1 16 3 (i + 64))) = f_X6_record_79 (wx_sS (shF σ) 16 4 (σ.2.2.1 16 4 - 1)) := by
  intro m
  induction m with
  | zero => intro P h1 h2; omega
  | succ m ih =>
    intro P h1 h2
    unfold f_X6_record_41
    by_cases hP : P < 320
    · have e0 : nI P + 64 = nI (P + 64) := nI_add P 64
      rw [if_neg (p320_c P hP), e0, px_rF (by omega) (by decide), px_w (by omega) (by decide), nI_clamp (by omega)]
      have e : (wx_uF σ 16 3 0 P (fun i => σ.2.1 16 3 (i + 64))).2.1 16 3 (P + 64) = (fun i => σ.2.1 16 3 (i + 64)) P := by
        show (if (16 : Nat) = 16 ∧ (3 : Nat) = 3 ∧ 0 ≤ P + 64 ∧ P + 64 < 0 + P then _ else σ.2.1 16 3 (P + 64)) = σ.2.1 16 3 (P + 64)
        rw [if_neg (by omega)]
      have e2 := wx_uF_s (σ := σ) (o := 16) (k := 3) (b := 0) (P := P) (g := fun i => σ.2.1 16 3 (i + 64))
      rw [Nat.zero_add] at e2
      rw [e, e2, nI_1]
      exact ih (P + 1) (by omega) (by omega)
    · have : P = 320 := by omega
      subst this
      rw [if_pos (by decide)]
      rfl
theorem rc_11 {σ : wx_St} : ∀ (m P : Nat), P ≤ 545 → 546 ≤ m + P →
    f_X6_record_11 m (nI P) (wx_uI σ 16 2 0 P (fun i => σ.1 16 2 (i + 109))) = f_X6_record_41 2000 0 (shI σ) := by
  intro m
  induction m with
  | zero => intro P h1 h2; omega
  | succ m ih =>
    intro P h1 h2
    rw [f_X6_record_11]
    by_cases hP : P < 545
    · have e0 : nI P + 109 = nI (P + 109) := nI_add P 109
      rw [if_neg (p545_c P hP), e0, px_rI (by omega) (by decide), px_w (by omega) (by decide), nI_clamp (by omega)]
      have e : (wx_uI σ 16 2 0 P (fun i => σ.1 16 2 (i + 109))).1 16 2 (P + 109) = (fun i => σ.1 16 2 (i + 109)) P := by
        show (if (16 : Nat) = 16 ∧ (2 : Nat) = 2 ∧ 0 ≤ P + 109 ∧ P + 109 < 0 + P then _ else σ.1 16 2 (P + 109)) = σ.1 16 2 (P + 109)
        rw [if_neg (by omega)]
      have e2 := wx_uI_s (σ := σ) (o := 16) (k := 2) (b := 0) (P := P) (g := fun i => σ.1 16 2 (i + 109))
      rw [Nat.zero_add] at e2
      rw [e, e2, nI_1]
      exact ih (P + 1) (by omega) (by omega)
    · have : P = 545 := by omega
      subst this
      rw [if_pos (by decide)]
      rfl
theorem record_6 {σ : wx_St} (h0 : σ.2.2.1 16 4 = nI 6) : f_X6_record σ = some ((), rcd (wx_sS (shF (shI σ)) 16 4 (nI 5)) 5) := by
  unfold f_X6_record
  rw [h0, if_pos (show nI 6 = 6 from rfl)]
  have a1 := rc_11 (σ := σ) 2000 0 (by decide) (by decide)
  rw [wx_uI_0] at a1
  have a2 := rc_41 (σ := shI σ) 2000 0 (by decide) (by decide)
  rw [wx_uF_0] at a2
  have e : (shI σ).2.2.1 16 4 - 1 = nI 5 := by
    show σ.2.2.1 16 4 - 1 = nI 5
    rw [h0]
    decide
  rw [e] at a2
  refine (a1.trans a2).trans (rc_79 ?_ (by decide))
  rfl
