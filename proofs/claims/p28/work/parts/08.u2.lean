/-! FLOATS BY VALUE: in units of 2^-1074; what an operation's result lies off the exact one -/
def ErD (D : Nat) (z N : Int) : Prop := 2 ^ 53 * ((D : Int) * z - N) ≤ (N.natAbs : Int) + 2 ^ 52 * (D : Int) ∧ 2 ^ 53 * (N - (D : Int) * z) ≤ (N.natAbs : Int) + 2 ^ 52 * (D : Int)
def dl (a : UInt64) (s : Bool) (z : Int) : Prop := ∃ (c : Nat) (q : Int), FP.Core.val64 a = .fin s c q ∧ FP.Core.signed s (FP.Core.inUnits c q (-1074)) = z
theorem dl_er {s : Bool} {n j B X : Nat} (h1 : 2 * X ≤ (2 * n + 1) * (B * 2 ^ j)) (h2 : 2 * n * (B * 2 ^ j) ≤ 2 * X + B * 2 ^ j) (hb : B * 2 ^ j ≤ B ∨ 2 ^ 52 * (B * 2 ^ j) ≤ X) : ErD B (FP.Core.signed s (n * 2 ^ j)) (FP.Core.signed s X) := by
  have e : B * (n * 2 ^ j) = n * (B * 2 ^ j) := Nat.mul_left_comm _ _ _
  have e2 : (2 * n + 1) * (B * 2 ^ j) = 2 * (n * (B * 2 ^ j)) + B * 2 ^ j := by rw [Nat.add_mul, Nat.one_mul, Nat.mul_assoc]
  have e3 : 2 * n * (B * 2 ^ j) = 2 * (n * (B * 2 ^ j)) := by rw [Nat.mul_assoc]
  rw [e2] at h1
  rw [e3] at h2
  have hc : (B : Int) * ((n * 2 ^ j : Nat) : Int) = ((n * (B * 2 ^ j) : Nat) : Int) := by rw [← e]; exact (Int.natCast_mul _ _).symm
  have hP : ((n * 2 ^ j : Nat) : Int) = ((n * 2 ^ j : Nat) : Int) := rfl
  generalize n * (B * 2 ^ j) = Y at *
  generalize B * 2 ^ j = P at *
  generalize n * 2 ^ j = W at *
  cases s
  · show 2 ^ 53 * ((B : Int) * (W : Int) - (X : Int)) ≤ (((X : Int)).natAbs : Int) + 2 ^ 52 * (B : Int) ∧ 2 ^ 53 * ((X : Int) - (B : Int) * (W : Int)) ≤ (((X : Int)).natAbs : Int) + 2 ^ 52 * (B : Int)
    rw [hc]
    omega
  · show 2 ^ 53 * ((B : Int) * (-(W : Int)) - -(X : Int)) ≤ ((-(X : Int)).natAbs : Int) + 2 ^ 52 * (B : Int) ∧ 2 ^ 53 * (-(X : Int) - (B : Int) * (-(W : Int))) ≤ ((-(X : Int)).natAbs : Int) + 2 ^ 52 * (B : Int)
    rw [Int.mul_neg, hc]
    omega
theorem dl_rr (s : Bool) (X B : Nat) (hB : 0 < B) (hX : X < B * 2 ^ 1200) : ∃ (c : Nat) (q : Int), FP.Core.roundRatio FP.Core.b64 s X B (-1074) = .fin s c q ∧ ErD B (FP.Core.signed s (FP.Core.inUnits c q (-1074))) (FP.Core.signed s X) := by
  have hqm : FP.Core.b64.qmin = -1074 := by decide
  have hqM : FP.Core.b64.qmax = 971 := by decide
  by_cases h0 : X = 0
  · subst h0
    refine ⟨0, -1074, ?_, ?_⟩
    · unfold FP.Core.roundRatio
      rw [if_pos rfl, hqm]
    · have : FP.Core.inUnits 0 (-1074) (-1074) = 0 := by decide
      rw [this, FP.Core.signed_zero]
      unfold ErD
      simp
      omega
  · have hX0 : 0 < X := Nat.pos_of_ne_zero h0
    have hq1 := FP.Core.quantum_ge FP.Core.b64 X B (-1074)
    have hq2 := FP.Core.quantum_not_below (f := FP.Core.b64) hX0 hB (-1074)
    have hq3 := FP.Core.quantum_below (f := FP.Core.b64) hX0 hB (-1074)
    unfold FP.Core.roundRatio
    rw [if_neg h0]
    generalize FP.Core.quantum FP.Core.b64 X B (-1074) = q at *
    rw [hqm] at hq1 hq2
    have hp : FP.Core.b64.p = 53 := rfl
    rw [hp] at hq2 hq3
    obtain ⟨j, hj⟩ : ∃ j : Nat, q = -1074 + (j : Int) := ⟨(q + 1074).toNat, by omega⟩
    subst hj
    have hb : B * 2 ^ j ≤ B ∨ 2 ^ 52 * (B * 2 ^ j) ≤ X := by
      rcases hq2 with h | h
      · left
        have : j = 0 := by omega
        subst this
        simp
      · right
        unfold FP.Core.Below at h
        rw [show (-(-1074 + (j : Int) - -1074 + (((53 : Nat) : Int) - 1))).toNat = 0 by omega, show (-1074 + (j : Int) - -1074 + (((53 : Nat) : Int) - 1)).toNat = j + 52 by omega] at h
        rw [Nat.pow_add] at h
        have e : 2 ^ 52 * (B * 2 ^ j) = B * (2 ^ j * 2 ^ 52) := by rw [Nat.mul_comm, Nat.mul_assoc]
        rw [e]
        omega
    have hn : X ≤ 2 ^ 53 * (B * 2 ^ j) := by
      unfold FP.Core.Below at hq3
      rw [show (-(-1074 + (j : Int) - -1074 + ((53 : Nat) : Int))).toNat = 0 by omega, show (-1074 + (j : Int) - -1074 + ((53 : Nat) : Int)).toNat = j + 53 by omega] at hq3
      rw [Nat.pow_add] at hq3
      have e : 2 ^ 53 * (B * 2 ^ j) = B * (2 ^ j * 2 ^ 53) := by rw [Nat.mul_comm, Nat.mul_assoc]
      rw [e]
      omega
    have hjl : j < 1200 := by
      rcases hb with h | h
      · have : 2 ^ j ≤ 1 := Nat.le_of_mul_le_mul_left (by rw [Nat.mul_one]; exact h) hB
        have h2 : j = 0 := by
          rcases Nat.eq_zero_or_pos j with h3 | h3
          · exact h3
          · have := Nat.pow_le_pow_right (n := 2) (by decide) h3
            omega
        omega
      · have h1 : B * 2 ^ j < B * 2 ^ 1200 := by
          have : B * 2 ^ j ≤ 2 ^ 52 * (B * 2 ^ j) := Nat.le_mul_of_pos_left _ (by decide)
          omega
        exact (Nat.pow_lt_pow_iff_right (by decide)).mp (Nat.lt_of_mul_lt_mul_left h1)
    have hpos : 0 < B * 2 ^ j := Nat.mul_pos hB (Nat.two_pow_pos _)
    obtain ⟨s1, s2, -⟩ := FP.Core.nearest_spec X (B * 2 ^ j) hpos
    have hle := FP.Core.nearest_le (M := 2 ^ 53) hpos hn
    unfold FP.Core.roundAt
    have e1 : FP.Core.unitsNum X (-1074) (-1074 + (j : Int)) = X := by
      unfold FP.Core.unitsNum
      rw [show ((-1074 : Int) - (-1074 + (j : Int))).toNat = 0 by omega, Nat.pow_zero, Nat.mul_one]
    have e2 : FP.Core.unitsDen B (-1074) (-1074 + (j : Int)) = B * 2 ^ j := by
      unfold FP.Core.unitsDen
      rw [show ((-1074 + (j : Int)) - (-1074 : Int)).toNat = j by omega]
    rw [e1, e2]
    generalize FP.Core.nearest X (B * 2 ^ j) = n at *
    have her : ErD B (FP.Core.signed s (n * 2 ^ j)) (FP.Core.signed s X) := dl_er s1 s2 hb
    unfold FP.Core.settle
    rw [hp]
    by_cases hc : n < 2 ^ 53
    · rw [if_pos hc]
      unfold FP.Core.bound
      rw [if_pos (by rw [hqM]; omega)]
      refine ⟨n, _, rfl, ?_⟩
      have e3 : FP.Core.inUnits n (-1074 + (j : Int)) (-1074) = n * 2 ^ j := by
        unfold FP.Core.inUnits
        rw [show (-1074 + (j : Int) - -1074).toNat = j by omega]
      rw [e3]
      exact her
    · rw [if_neg hc]
      have hn24 : n = 2 ^ 53 := by omega
      unfold FP.Core.bound
      rw [if_pos (by rw [hqM]; omega)]
      refine ⟨_, _, rfl, ?_⟩
      have e3 : FP.Core.inUnits FP.Core.b64.tails (-1074 + (j : Int) + 1) (-1074) = n * 2 ^ j := by
        unfold FP.Core.inUnits
        rw [show (-1074 + (j : Int) + 1 - -1074).toNat = j + 1 by omega, hn24, show FP.Core.b64.tails = 2 ^ 52 from rfl, Nat.pow_succ 2 j]
        omega
      rw [e3]
      exact her
theorem dl_q {a : UInt64} {s : Bool} {c : Nat} {q : Int} (h : FP.Core.val64 a = .fin s c q) : -1074 ≤ q := by
  have hf := FP.Core.val64_fits a
  rw [h] at hf
  exact hf.2.1
theorem dl_add {a b : UInt64} {s t : Bool} {x y : Int} (ha : dl a s x) (hb : dl b t y) (h : (x + y).natAbs < 2 ^ 1200) : ∃ z, dl (FP.dadd a b) (FP.Core.sumSign s t (x + y)) z ∧ ErD 1 z (x + y) := by
  obtain ⟨c, q, h1, h2⟩ := ha
  obtain ⟨d, r, h3, h4⟩ := hb
  have hq := dl_q h1
  have hr := dl_q h3
  have hu : FP.Core.sumUnits s c q t d r (min q r) * ((2 ^ (min q r - -1074).toNat : Nat) : Int) = x + y := by
    unfold FP.Core.sumUnits
    rw [Int.add_mul, ← FP.Core.signed_mul, ← FP.Core.signed_mul, ← FP.Core.inUnits_move c (by omega) (by omega), ← FP.Core.inUnits_move d (by omega) (by omega), h2, h4]
  have hv := FP.Core.val64_dadd a b
  rw [h1, h3] at hv
  generalize hU : FP.Core.sumUnits s c q t d r (min q r) = u at hu
  have hes : FP.Core.exactSum (.fin s c q) (.fin t d r) = .fin (FP.Core.sumSign s t u) u.natAbs (min q r) := by
    rw [← hU]
    rfl
  rw [hes, ← FP.Core.round_inUnits (f := FP.Core.b64) _ _ (show (-1074 : Int) ≤ min q r by omega)] at hv
  have hK : 0 < ((2 ^ (min q r - -1074).toNat : Nat) : Int) := by
    have := Nat.two_pow_pos (min q r - -1074).toNat
    omega
  have hX : FP.Core.inUnits u.natAbs (min q r) (-1074) = (x + y).natAbs := by
    rw [← hu, Int.natAbs_mul, Int.natAbs_natCast]
    rfl
  have hS : FP.Core.sumSign s t u = FP.Core.sumSign s t (x + y) := by
    rw [← hu]
    unfold FP.Core.sumSign
    generalize ((2 ^ (min q r - -1074).toNat : Nat) : Int) = K at hK
    by_cases hz : u = 0
    · subst hz
      simp
    · have hz2 : u * K ≠ 0 := Int.mul_ne_zero hz (by omega)
      rw [if_neg hz, if_neg hz2]
      congr 1
      apply propext
      constructor
      · intro hlt
        exact Int.mul_neg_of_neg_of_pos hlt hK
      · intro hlt
        exact Int.not_le.mp fun hge => absurd hlt (Int.not_lt.mpr (Int.mul_nonneg hge (Int.le_of_lt hK)))
  rw [hX, hS] at hv
  obtain ⟨c', q', g1, g2⟩ := dl_rr (FP.Core.sumSign s t (x + y)) (x + y).natAbs 1 (by decide) (by omega)
  rw [FP.Core.signed_sumSign] at g2
  exact ⟨_, ⟨c', q', hv.trans g1, rfl⟩, g2⟩
theorem dl_64 : FP.Core.val64 4634204016564240384 = .fin false 4503599627370496 (-46) := by decide +kernel
theorem dl_div {a : UInt64} {s : Bool} {x : Int} (ha : dl a s x) (h : x.natAbs < 2 ^ 1200) : ∃ z, dl (FP.ddiv a 4634204016564240384) s z ∧ ErD 64 z x := by
  obtain ⟨c, q, h1, h2⟩ := ha
  have hq := dl_q h1
  have hv := FP.Core.val64_ddiv a 4634204016564240384
  rw [h1, dl_64] at hv
  have hs : (s != false) = s := by cases s <;> rfl
  have hes : FP.Core.quotient FP.Core.b64 (.fin s c q) (.fin false 4503599627370496 (-46)) = FP.Core.roundRatio FP.Core.b64 s c 4503599627370496 (q - -46) := by
    have e : FP.Core.quotient FP.Core.b64 (.fin s c q) (.fin false 4503599627370496 (-46)) = FP.Core.roundRatio FP.Core.b64 (s != false) c 4503599627370496 (q - -46) := rfl
    rw [e, hs]
  rw [hes] at hv
  have hcg : FP.Core.roundRatio FP.Core.b64 s c 4503599627370496 (q - -46) = FP.Core.roundRatio FP.Core.b64 s (FP.Core.inUnits c q (-1074)) 64 (-1074) := by
    refine FP.Core.roundRatio_congr (by decide) (by decide) ?_
    unfold FP.Core.inUnits
    obtain ⟨i, hi⟩ : ∃ i : Nat, q = -1074 + (i : Int) := ⟨(q + 1074).toNat, by omega⟩
    subst hi
    rw [show (-1074 + (i : Int) - -1074).toNat = i by omega, show (-1074 + (i : Int) - -46 - -1074).toNat = i + 46 by omega, show (-1074 - (-1074 + (i : Int) - -46)).toNat = 0 by omega, Nat.pow_zero, Nat.mul_one, Nat.pow_add]
    have e : 4503599627370496 = 64 * 2 ^ 46 := by decide
    rw [e]
    ac_rfl
  have hX : FP.Core.inUnits c q (-1074) = x.natAbs := by rw [← h2, FP.Core.natAbs_signed]
  obtain ⟨c', q', g1, g2⟩ := dl_rr s (FP.Core.inUnits c q (-1074)) 64 (by decide) (by rw [hX]; omega)
  rw [h2] at g2
  exact ⟨_, ⟨c', q', hv.trans (hcg.trans g1), rfl⟩, g2⟩

