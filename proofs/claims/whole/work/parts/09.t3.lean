/-! A RUN BEGINS, on both sides -/
def brn (o : Nat) (σ : wx_St) : wx_St := wx_uF (wx_sS (wx_sS σ o 6 0) o 9 0) o 7 0 64 (fun _ => FP.fconst0)
theorem beginRun_loop {o : Nat} {σ : wx_St} : ∀ (m P : Nat), P ≤ 64 → 65 ≤ m + P → f_X0_beginRun_12 o m (nI P) (wx_uF σ o 7 0 P (fun _ => FP.fconst0)) = some ((), wx_uF σ o 7 0 64 (fun _ => FP.fconst0)) := by
  intro m
  induction m with
  | zero => intro P h1 h2; omega
  | succ m ih =>
    intro P h1 h2
    unfold f_X0_beginRun_12
    by_cases hP : P < 64
    · have e2 := wx_uF_s (σ := σ) (o := o) (k := 7) (b := 0) (P := P) (g := fun _ => FP.fconst0)
      rw [Nat.zero_add] at e2
      rw [if_neg (p64_c P hP).2.2.2.2, px_w hP (by decide), nI_clamp (by omega), e2, nI_1]
      exact ih (P + 1) (by omega) (by omega)
    · have : P = 64 := by omega
      subst this
      rw [if_pos (by decide)]
theorem beginRun_eq {o : Nat} {σ : wx_St} : f_X0_beginRun o σ = some ((), brn o σ) := by
  unfold f_X0_beginRun brn wx_l
  have := beginRun_loop (o := o) (σ := wx_sS (wx_sS σ o 6 0) o 9 0) 2000 0 (by decide) (by decide)
  rw [wx_uF_0] at this
  exact this
theorem cools_loop {σ : wx_St} : ∀ (m P : Nat), P ≤ 64 → 65 ≤ m + P → f_X6_coolsThought_2 m (nI P) (wx_uF σ 16 10 0 P (fun _ => FP.fconst0)) = some ((), wx_uF σ 16 10 0 64 (fun _ => FP.fconst0)) := by
  intro m
  induction m with
  | zero => intro P h1 h2; omega
  | succ m ih =>
    intro P h1 h2
    unfold f_X6_coolsThought_2
    by_cases hP : P < 64
    · have e2 := wx_uF_s (σ := σ) (o := 16) (k := 10) (b := 0) (P := P) (g := fun _ => FP.fconst0)
      rw [Nat.zero_add] at e2
      rw [if_neg (p64_c P hP).2.2.2.2, px_w hP (by decide), nI_clamp (by omega), e2, nI_1]
      exact ih (P + 1) (by omega) (by omega)
    · have : P = 64 := by omega
      subst this
      rw [if_pos (by decide)]
theorem cools_eq {σ : wx_St} : f_X6_coolsThought σ = some ((), wx_uF σ 16 10 0 64 (fun _ => FP.fconst0)) := by
  unfold f_X6_coolsThought
  have := cools_loop (σ := σ) 2000 0 (by decide) (by decide)
  rw [wx_uF_0] at this
  exact this
def brn6 (σ : wx_St) : wx_St := wx_uF (wx_uF (wx_uI (wx_sI (wx_sI σ 16 0 4 0) 16 0 6 0) 16 0 85 24 (fun _ => 0)) 16 10 0 64 (fun _ => FP.fconst0)) 16 1 0 64 (fun _ => FP.fconst0)
theorem begins_loop {σ : wx_St} : ∀ (m P : Nat), P ≤ 24 → 25 ≤ m + P → f_X6_beginsRun_18 m (nI (85 + P)) (wx_uI σ 16 0 85 P (fun _ => 0)) = some ((), wx_uF (wx_uF (wx_uI σ 16 0 85 24 (fun _ => 0)) 16 10 0 64 (fun _ => FP.fconst0)) 16 1 0 64 (fun _ => FP.fconst0)) := by
  intro m
  induction m with
  | zero => intro P h1 h2; omega
  | succ m ih =>
    intro P h1 h2
    rw [f_X6_beginsRun_18]
    by_cases hP : P < 24
    · have e2 := wx_uI_s (σ := σ) (o := 16) (k := 0) (b := 85) (P := P) (g := fun _ => 0)
      rw [if_neg (p109_c (85 + P) (by omega)), px_w (by omega) (by decide), nI_clamp (by omega), e2, nI_1, Nat.add_assoc]
      exact ih (P + 1) (by omega) (by omega)
    · have : P = 24 := by omega
      subst this
      rw [if_pos (by decide), px_b cools_eq]
      have m2 : f_X6_movesWarmth 16 10 64 16 1 64 0 0 (wx_uF (wx_uI σ 16 0 85 24 (fun _ => 0)) 16 10 0 64 (fun _ => FP.fconst0)) = some ((), wx_uF (wx_uF (wx_uI σ 16 0 85 24 (fun _ => 0)) 16 10 0 64 (fun _ => FP.fconst0)) 16 1 0 64 (fun i => (wx_uF (wx_uI σ 16 0 85 24 (fun _ => 0)) 16 10 0 64 (fun _ => FP.fconst0)).2.1 16 10 (0 + i))) := st6_moves (o0 := 16) (k0 := 10) (n0 := 64) (o2 := 16) (k2 := 1) (n2 := 64) (a := 0) (b := 0) (by decide) (by decide) (by decide) (by decide) (by decide)
      rw [px_b m2]
      have e3 : ∀ τ : wx_St, (∀ i, i < 64 → τ.2.1 16 10 (0 + i) = FP.fconst0) → wx_uF τ 16 1 0 64 (fun i => τ.2.1 16 10 (0 + i)) = wx_uF τ 16 1 0 64 (fun _ => FP.fconst0) := fun τ h => wx_uF_congr h
      rw [e3 _ (fun i hi => if_pos ⟨rfl, rfl, by omega, by omega⟩)]
theorem beginsRun_eq {σ : wx_St} : f_X6_beginsRun σ = some ((), brn6 σ) := by
  unfold f_X6_beginsRun
  rw [show wx_w (wx_sI σ 16 0 (Int32.toNatClampNeg 4) 0) 109 4 = wx_w (wx_sI σ 16 0 4 0) 109 (nI 4) from rfl, px_w (by decide) (by decide)]
  show wx_w (wx_sI (wx_sI σ 16 0 4 0) 16 0 6 0) 109 (nI 6) _ = _
  rw [px_w (by decide) (by decide)]
  have := begins_loop (σ := wx_sI (wx_sI σ 16 0 4 0) 16 0 6 0) 2000 0 (by decide) (by decide)
  rw [wx_uI_0] at this
  exact this
