/-! suspects and touches -/
theorem nb5 : ∀ P, P < 64 → ∀ s, s < 4 → f_X5_neighbourOf (nI P) (nI s) = some (match sp_nl P s with | [] => -6 | n :: _ => nI n) := by decide +kernel
theorem p64_n : ∀ n, n < 64 → ¬ nI n < 0 := by decide +kernel
theorem p4_i : ∀ s, s < 4 → ¬ (4 : Int32) ≤ nI s := by decide
def susL (b : Bd) (P s : Nat) : Bool := (sp_nl P s).any (fun n => (bF b (bN b P)).testBit (bN b n))
def sus (b : Bd) (P : Nat) : Bool := susL b P 0 || susL b P 1 || susL b P 2 || susL b P 3
theorem sus5_side {o : Nat} {b : Bd} {σ : wx_St} (h : bdI o b σ) (g : good b) {P s m : Nat} (hP : P < 64) (hs : s < 4) : f_X0_isSuspect_2 o (m + 1) (nI P) (nI s) σ = if susL b P s = true then some 1 else f_X0_isSuspect_2 o m (nI P) (nI (s + 1)) σ := by
  rw [f_X0_isSuspect_2, if_neg (p4_i s hs), px_o (nb5 P hP s hs)]
  unfold susL
  rcases (sp_nl_v P hP s hs).2 with e | ⟨n, hn, e⟩
  · rw [e, if_pos (by decide)]
    unfold f_X0_isSuspect_38
    rw [nI_1]
    simp
  · rw [e]
    show (if nI n < 0 then _ else _) = _
    rw [if_neg (p64_n n hn), px_rI hP (by decide), h.2.1 P hP]
    show wx_rI σ o 1 64 (nI n) _ = _
    rw [px_rI hn (by decide), h.2.1 n hn, px_o (isFed5 h g (g.2.1 P hP) (g.2.1 n hn))]
    simp only [List.any_cons, List.any_nil, Bool.or_false]
    cases (bF b (bN b P)).testBit (bN b n)
    · rw [if_pos (show b01 false = 0 from rfl)]
      unfold f_X0_isSuspect_38
      rw [nI_1]
      rfl
    · rw [if_neg (show ¬ b01 true = 0 by decide)]
      rfl
theorem isSuspect5 {o : Nat} {b : Bd} {σ : wx_St} (h : bdI o b σ) (g : good b) {P : Nat} (hP : P < 64) : f_X0_isSuspect o (nI P) σ = some (b01 (sus b P)) := by
  unfold f_X0_isSuspect
  rw [show (0 : Int32) = nI 0 from rfl, sus5_side h g hP (s := 0) (by decide), sus5_side h g hP (s := 1) (by decide), sus5_side h g hP (s := 2) (by decide), sus5_side h g hP (s := 3) (by decide), f_X0_isSuspect_2, if_pos (show (4 : Int32) ≤ nI (3 + 1) by decide)]
  unfold sus
  cases susL b P 0 <;> cases susL b P 1 <;> cases susL b P 2 <;> cases susL b P 3 <;> rfl
theorem nI_le0 : ∀ v, v < 8 → (nI v ≤ 0 ↔ v = 0) := by decide
