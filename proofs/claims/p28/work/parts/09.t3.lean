/-! A RUN BEGINS, on both sides -/
def brn (o : Nat) (σ : wx_St) : wx_St := wx_uF (wx_sS (wx_sS σ o 6 0) o 9 0) o 7 0 64 (fun _ => FP.fconst0)
theorem beginRun_loop {o : Nat} {σ : wx_St} : ∀ (m P : Nat), P ≤ 64 → 65 ≤ m + P → f_X0_beginRun_12 o m (nI P) (wx_uF σ o 7 0 P (fun _ => FP.fconst0)) = some ((), wx_uF σ o 7 0 64 (fun _ => FP.fconst0)) := by
  intro m
  induction m with
  | zero => intro P h1 h2; omega
  | succ m ih =>
    intro P h1 h2
    unfold f_X0_beginRun_12
    by_cases hP : P < 64
    · have e2 := wx_uF_s (σ := σ) (o := o) (k := 7) (b := 0) (P := P) (g := fun _ => FP.fconst0)
      rw [Nat.zero_add] at e2
      rw [if_neg (p64_c P hP).2.2.2.2, px_w hP (by decide), nI_clamp (by omega), e2, nI_1]
      exact ih (P + 1) (by omega) (by omega)
    · have : P = 64 := by omega
      subst this
      rw [if_pos (by decide)]
theorem beginRun_eq {o : Nat} {σ : wx_St} : f_X0_beginRun o σ = some ((), brn o σ) := by
  unfold f_X0_beginRun brn wx_l
  have := beginRun_loop (o := o) (σ := wx_sS (wx_sS σ o 6 0) o 9 0) 2000 0 (by decide) (by decide)
  rw [wx_uF_0] at this
  exact this
def brn6 (σ : wx_St) : wx_St := wx_uF (wx_uF (wx_uI (wx_sI (wx_sI σ 16 0 4 0) 16 0 6 0) 16 0 85 24 (fun _ => 0)) 16 10 0 64 (fun _ => FP.fconst0)) 16 1 0 64 (fun _ => FP.fconst0)
