theorem lC_le : ∀ n x, lC n x ≤ 8 * M8 1 n
  | 0, x => by
    rw [lC_0]
    exact Nat.zero_le _
  | n + 1, x => by
    rw [lC_s]
    have h1 := lC_le n (x / 256)
    have h2 := (bc_d3 (x % 256) (Nat.mod_lt _ (by decide))).2.2.2
    show c8 (x % 256) + 256 * lC n (x / 256) ≤ 8 * (1 + 256 * M8 1 n)
    omega
theorem lB_le : ∀ n x, lB n x ≤ 68 * M8 1 n
  | 0, x => by
    unfold lB M8
    rw [Nat.and_zero, Nat.and_zero]
    exact Nat.zero_le _
  | n + 1, x => by
    rw [lB_s]
    have h1 := lB_le n (x / 256)
    have h2 := (bc_d3 (x % 256) (Nat.mod_lt _ (by decide))).2.1
    show b8 (x % 256) + 256 * lB n (x / 256) ≤ 68 * (1 + 256 * M8 1 n)
    omega
