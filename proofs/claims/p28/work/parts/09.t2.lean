/-! THE REFERENCE'S RECORD -/
def rcd (σ : wx_St) (n : Nat) : wx_St := wx_sS (wx_uF (wx_uI σ 16 2 (109 * n) 109 (fun i => σ.1 16 0 (0 + i))) 16 3 (64 * n) 64 (fun i => σ.2.1 16 1 (0 + i))) 16 4 (nI (n + 1))
def shI (σ : wx_St) : wx_St := wx_uI σ 16 2 0 545 (fun i => σ.1 16 2 (i + 109))
def shF (σ : wx_St) : wx_St := wx_uF σ 16 3 0 320 (fun i => σ.2.1 16 3 (i + 64))
theorem p545_c : ∀ P, P < 545 → ¬ 545 ≤ nI P := by decide +kernel
theorem p320_c : ∀ P, P < 320 → ¬ 320 ≤ nI P := by decide +kernel
