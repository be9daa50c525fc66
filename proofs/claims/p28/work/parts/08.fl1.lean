/-! FLOATS BY VALUE: in units of 2^-149; what an operation's result lies off the exact one -/
def Er (D : Nat) (z N : Int) : Prop := 2 ^ 24 * ((D : Int) * z - N) ≤ (N.natAbs : Int) + 2 ^ 23 * (D : Int) ∧ 2 ^ 24 * (N - (D : Int) * z) ≤ (N.natAbs : Int) + 2 ^ 23 * (D : Int)
def fl (a : UInt32) (s : Bool) (z : Int) : Prop := ∃ (c : Nat) (q : Int), FP.Core.val32 a = .fin s c q ∧ FP.Core.signed s (FP.Core.inUnits c q (-149)) = z
theorem fl_er {s : Bool} {n j B X : Nat} (h1 : 2 * X ≤ (2 * n + 1) * (B * 2 ^ j)) (h2 : 2 * n * (B * 2 ^ j) ≤ 2 * X + B * 2 ^ j) (hb : B * 2 ^ j ≤ B ∨ 2 ^ 23 * (B * 2 ^ j) ≤ X) : Er B (FP.Core.signed s (n * 2 ^ j)) (FP.Core.signed s X) := by
  have e : B * (n * 2 ^ j) = n * (B * 2 ^ j) := Nat.mul_left_comm _ _ _
  have e2 : (2 * n + 1) * (B * 2 ^ j) = 2 * (n * (B * 2 ^ j)) + B * 2 ^ j := by rw [Nat.add_mul, Nat.one_mul, Nat.mul_assoc]
  have e3 : 2 * n * (B * 2 ^ j) = 2 * (n * (B * 2 ^ j)) := by rw [Nat.mul_assoc]
  rw [e2] at h1
  rw [e3] at h2
  have hc : (B : Int) * ((n * 2 ^ j : Nat) : Int) = ((n * (B * 2 ^ j) : Nat) : Int) := by rw [← e]; exact (Int.natCast_mul _ _).symm
  have hP : ((n * 2 ^ j : Nat) : Int) = ((n * 2 ^ j : Nat) : Int) := rfl
  generalize n * (B * 2 ^ j) = Y at *
  generalize B * 2 ^ j = P at *
  generalize n * 2 ^ j = W at *
  cases s
  · show 2 ^ 24 * ((B : Int) * (W : Int) - (X : Int)) ≤ (((X : Int)).natAbs : Int) + 2 ^ 23 * (B : Int) ∧ 2 ^ 24 * ((X : Int) - (B : Int) * (W : Int)) ≤ (((X : Int)).natAbs : Int) + 2 ^ 23 * (B : Int)
    rw [hc]
    omega
  · show 2 ^ 24 * ((B : Int) * (-(W : Int)) - -(X : Int)) ≤ ((-(X : Int)).natAbs : Int) + 2 ^ 23 * (B : Int) ∧ 2 ^ 24 * (-(X : Int) - (B : Int) * (-(W : Int))) ≤ ((-(X : Int)).natAbs : Int) + 2 ^ 23 * (B : Int)
    rw [Int.mul_neg, hc]
    omega
theorem fl_rr (s : Bool) (X B : Nat) (hB : 0 < B) (hX : X < B * 2 ^ 200) : ∃ (c : Nat) (q : Int), FP.Core.roundRatio FP.Core.b32 s X B (-149) = .fin s c q ∧ Er B (FP.Core.signed s (FP.Core.inUnits c q (-149))) (FP.Core.signed s X) := by
  have hqm : FP.Core.b32.qmin = -149 := by decide
  have hqM : FP.Core.b32.qmax = 104 := by decide
  by_cases h0 : X = 0
  · subst h0
    refine ⟨0, -149, ?_, ?_⟩
    · unfold FP.Core.roundRatio
      rw [if_pos rfl, hqm]
    · have : FP.Core.inUnits 0 (-149) (-149) = 0 := by decide
      rw [this, FP.Core.signed_zero]
      unfold Er
      simp
      omega
  · have hX0 : 0 < X := Nat.pos_of_ne_zero h0
    have hq1 := FP.Core.quantum_ge FP.Core.b32 X B (-149)
    have hq2 := FP.Core.quantum_not_below (f := FP.Core.b32) hX0 hB (-149)
    have hq3 := FP.Core.quantum_below (f := FP.Core.b32) hX0 hB (-149)
    unfold FP.Core.roundRatio
    rw [if_neg h0]
    generalize FP.Core.quantum FP.Core.b32 X B (-149) = q at *
    rw [hqm] at hq1 hq2
    have hp : FP.Core.b32.p = 24 := rfl
    rw [hp] at hq2 hq3
    obtain ⟨j, hj⟩ : ∃ j : Nat, q = -149 + (j : Int) := ⟨(q + 149).toNat, by omega⟩
    subst hj
    have hb : B * 2 ^ j ≤ B ∨ 2 ^ 23 * (B * 2 ^ j) ≤ X := by
      rcases hq2 with h | h
      · left
        have : j = 0 := by omega
        subst this
        simp
      · right
        unfold FP.Core.Below at h
        rw [show (-(-149 + (j : Int) - -149 + (((24 : Nat) : Int) - 1))).toNat = 0 by omega, show (-149 + (j : Int) - -149 + (((24 : Nat) : Int) - 1)).toNat = j + 23 by omega] at h
        rw [Nat.pow_add] at h
        have e : 2 ^ 23 * (B * 2 ^ j) = B * (2 ^ j * 2 ^ 23) := by rw [Nat.mul_comm, Nat.mul_assoc]
        rw [e]
        omega
    have hn : X ≤ 2 ^ 24 * (B * 2 ^ j) := by
      unfold FP.Core.Below at hq3
      rw [show (-(-149 + (j : Int) - -149 + ((24 : Nat) : Int))).toNat = 0 by omega, show (-149 + (j : Int) - -149 + ((24 : Nat) : Int)).toNat = j + 24 by omega] at hq3
      rw [Nat.pow_add] at hq3
      have e : 2 ^ 24 * (B * 2 ^ j) = B * (2 ^ j * 2 ^ 24) := by rw [Nat.mul_comm, Nat.mul_assoc]
      rw [e]
      omega
    have hjl : j < 200 := by
      rcases hb with h | h
      · have : 2 ^ j ≤ 1 := Nat.le_of_mul_le_mul_left (by rw [Nat.mul_one]; exact h) hB
        have h2 : j = 0 := by
          rcases Nat.eq_zero_or_pos j with h3 | h3
          · exact h3
          · have := Nat.pow_le_pow_right (n := 2) (by decide) h3
            omega
        omega
      · have h1 : B * 2 ^ j < B * 2 ^ 200 := by
          have : B * 2 ^ j ≤ 2 ^ 23 * (B * 2 ^ j) := Nat.le_mul_of_pos_left _ (by decide)
          omega
        exact (Nat.pow_lt_pow_iff_right (by decide)).mp (Nat.lt_of_mul_lt_mul_left h1)
    have hpos : 0 < B * 2 ^ j := Nat.mul_pos hB (Nat.two_pow_pos _)
    obtain ⟨s1, s2, -⟩ := FP.Core.nearest_spec X (B * 2 ^ j) hpos
    have hle := FP.Core.nearest_le (M := 2 ^ 24) hpos hn
    unfold FP.Core.roundAt
    have e1 : FP.Core.unitsNum X (-149) (-149 + (j : Int)) = X := by
      unfold FP.Core.unitsNum
      rw [show ((-149 : Int) - (-149 + (j : Int))).toNat = 0 by omega, Nat.pow_zero, Nat.mul_one]
    have e2 : FP.Core.unitsDen B (-149) (-149 + (j : Int)) = B * 2 ^ j := by
      unfold FP.Core.unitsDen
      rw [show ((-149 + (j : Int)) - (-149 : Int)).toNat = j by omega]
    rw [e1, e2]
    generalize FP.Core.nearest X (B * 2 ^ j) = n at *
    have her : Er B (FP.Core.signed s (n * 2 ^ j)) (FP.Core.signed s X) := fl_er s1 s2 hb
    unfold FP.Core.settle
    rw [hp]
    by_cases hc : n < 2 ^ 24
    · rw [if_pos hc]
      unfold FP.Core.bound
      rw [if_pos (by rw [hqM]; omega)]
      refine ⟨n, _, rfl, ?_⟩
      have e3 : FP.Core.inUnits n (-149 + (j : Int)) (-149) = n * 2 ^ j := by
        unfold FP.Core.inUnits
        rw [show (-149 + (j : Int) - -149).toNat = j by omega]
      rw [e3]
      exact her
    · rw [if_neg hc]
      have hn24 : n = 2 ^ 24 := by omega
      unfold FP.Core.bound
      rw [if_pos (by rw [hqM]; omega)]
      refine ⟨_, _, rfl, ?_⟩
      have e3 : FP.Core.inUnits FP.Core.b32.tails (-149 + (j : Int) + 1) (-149) = n * 2 ^ j := by
        unfold FP.Core.inUnits
        rw [show (-149 + (j : Int) + 1 - -149).toNat = j + 1 by omega, hn24, show FP.Core.b32.tails = 2 ^ 23 from rfl, Nat.pow_succ 2 j]
        omega
      rw [e3]
      exact her
theorem fl_q {a : UInt32} {s : Bool} {c : Nat} {q : Int} (h : FP.Core.val32 a = .fin s c q) : -149 ≤ q := by
  have hf := FP.Core.val32_fits a
  rw [h] at hf
  exact hf.2.1
theorem fl_add {a b : UInt32} {s t : Bool} {x y : Int} (ha : fl a s x) (hb : fl b t y) (h : (x + y).natAbs < 2 ^ 200) : ∃ z, fl (FP.fadd a b) (FP.Core.sumSign s t (x + y)) z ∧ Er 1 z (x + y) := by
  obtain ⟨c, q, h1, h2⟩ := ha
  obtain ⟨d, r, h3, h4⟩ := hb
  have hq := fl_q h1
  have hr := fl_q h3
  have hu : FP.Core.sumUnits s c q t d r (min q r) * ((2 ^ (min q r - -149).toNat : Nat) : Int) = x + y := by
    unfold FP.Core.sumUnits
    rw [Int.add_mul, ← FP.Core.signed_mul, ← FP.Core.signed_mul, ← FP.Core.inUnits_move c (by omega) (by omega), ← FP.Core.inUnits_move d (by omega) (by omega), h2, h4]
  have hv := FP.Core.val32_fadd a b
  rw [h1, h3] at hv
  generalize hU : FP.Core.sumUnits s c q t d r (min q r) = u at hu
  have hes : FP.Core.exactSum (.fin s c q) (.fin t d r) = .fin (FP.Core.sumSign s t u) u.natAbs (min q r) := by
    rw [← hU]
    rfl
  rw [hes, ← FP.Core.round_inUnits (f := FP.Core.b32) _ _ (show (-149 : Int) ≤ min q r by omega)] at hv
  have hK : 0 < ((2 ^ (min q r - -149).toNat : Nat) : Int) := by
    have := Nat.two_pow_pos (min q r - -149).toNat
    omega
  have hX : FP.Core.inUnits u.natAbs (min q r) (-149) = (x + y).natAbs := by
    rw [← hu, Int.natAbs_mul, Int.natAbs_natCast]
    rfl
  have hS : FP.Core.sumSign s t u = FP.Core.sumSign s t (x + y) := by
    rw [← hu]
    unfold FP.Core.sumSign
    generalize ((2 ^ (min q r - -149).toNat : Nat) : Int) = K at hK
    by_cases hz : u = 0
    · subst hz
      simp
    · have hz2 : u * K ≠ 0 := Int.mul_ne_zero hz (by omega)
      rw [if_neg hz, if_neg hz2]
      congr 1
      apply propext
      constructor
      · intro hlt
        exact Int.mul_neg_of_neg_of_pos hlt hK
      · intro hlt
        exact Int.not_le.mp fun hge => absurd hlt (Int.not_lt.mpr (Int.mul_nonneg hge (Int.le_of_lt hK)))
  rw [hX, hS] at hv
  obtain ⟨c', q', g1, g2⟩ := fl_rr (FP.Core.sumSign s t (x + y)) (x + y).natAbs 1 (by decide) (by omega)
  rw [FP.Core.signed_sumSign] at g2
  exact ⟨_, ⟨c', q', hv.trans g1, rfl⟩, g2⟩
theorem fl_neg {a : UInt32} {s : Bool} {x : Int} (ha : fl a s x) : fl (FP.Core.fneg a) (!s) (-x) := by
  obtain ⟨c, q, h1, h2⟩ := ha
  refine ⟨c, q, by rw [FP.Core.val32_fneg, h1]; rfl, ?_⟩
  rw [← h2]
  unfold FP.Core.signed
  cases s <;> simp
theorem fl_sub {a b : UInt32} {s t : Bool} {x y : Int} (ha : fl a s x) (hb : fl b t y) (h : (x - y).natAbs < 2 ^ 200) : ∃ z, fl (FP.fsub a b) (FP.Core.sumSign s (!t) (x - y)) z ∧ Er 1 z (x - y) := by
  have e := FP.Core.fsub_eq a b
  have g := fl_add ha (fl_neg hb) (by rw [← Int.sub_eq_add_neg]; exact h)
  rw [← Int.sub_eq_add_neg] at g
  show ∃ z, fl (FP.Core.fsub a b) _ z ∧ _
  rw [e]
  exact g
/-- a whole number's float -/
def flW (a : UInt32) (S : Nat) : Prop := ∃ (d : Nat) (r : Int), FP.Core.val32 a = .fin false d r ∧ d * 2 ^ r.toNat = S * 2 ^ (-r).toNat
theorem fl_mul {a b : UInt32} {s : Bool} {x : Int} {S : Nat} (ha : fl a s x) (hb : flW b S) (h : (x * S).natAbs < 2 ^ 200) : ∃ z, fl (FP.fmul a b) s z ∧ Er 1 z (x * S) := by
  obtain ⟨c, q, h1, h2⟩ := ha
  obtain ⟨d, r, h3, h4⟩ := hb
  have hq := fl_q h1
  have hv := FP.Core.val32_fmul a b
  rw [h1, h3] at hv
  have hs : (s != false) = s := by cases s <;> rfl
  have hes : FP.Core.exactProduct (.fin s c q) (.fin false d r) = .fin s (c * d) (q + r) := by
    show FP.Core.Datum.fin (s != false) (c * d) (q + r) = _
    rw [hs]
  rw [hes] at hv
  have hcg : FP.Core.roundRatio FP.Core.b32 s (c * d) 1 (q + r) = FP.Core.roundRatio FP.Core.b32 s (FP.Core.inUnits c q (-149) * S) 1 (-149) := by
    refine FP.Core.roundRatio_congr (by decide) (by decide) ?_
    unfold FP.Core.inUnits
    obtain ⟨i, hi⟩ : ∃ i : Nat, q = -149 + (i : Int) := ⟨(q + 149).toNat, by omega⟩
    subst hi
    rw [show (-149 + (i : Int) - -149).toNat = i by omega]
    rcases Int.lt_or_le r 0 with hr | hr
    · obtain ⟨k, hk⟩ : ∃ k : Nat, r = -(k : Int) := ⟨(-r).toNat, by omega⟩
      subst hk
      rw [show (-(k : Int)).toNat = 0 by omega, show (- -(k : Int)).toNat = k by omega, Nat.pow_zero, Nat.mul_one] at h4
      rw [h4]
      have e : 2 ^ k * 2 ^ (-149 + (i : Int) + -(k : Int) - -149).toNat = 2 ^ i * 2 ^ (-149 - (-149 + (i : Int) + -(k : Int))).toNat := by
        rw [← Nat.pow_add, ← Nat.pow_add]
        congr 1
        omega
      calc c * (S * 2 ^ k) * 1 * 2 ^ (-149 + (i : Int) + -(k : Int) - -149).toNat = c * S * (2 ^ k * 2 ^ (-149 + (i : Int) + -(k : Int) - -149).toNat) := by rw [Nat.mul_one]; ac_rfl
        _ = c * S * (2 ^ i * 2 ^ (-149 - (-149 + (i : Int) + -(k : Int))).toNat) := by rw [e]
        _ = c * 2 ^ i * S * 1 * 2 ^ (-149 - (-149 + (i : Int) + -(k : Int))).toNat := by rw [Nat.mul_one]; ac_rfl
    · obtain ⟨k, hk⟩ : ∃ k : Nat, r = (k : Int) := ⟨r.toNat, by omega⟩
      subst hk
      rw [show ((k : Int)).toNat = k by omega, show (-(k : Int)).toNat = 0 by omega, Nat.pow_zero, Nat.mul_one] at h4
      rw [show (-149 + (i : Int) + (k : Int) - -149).toNat = i + k by omega, show (-149 - (-149 + (i : Int) + (k : Int))).toNat = 0 by omega, Nat.pow_zero, ← h4, Nat.pow_add]
      simp only [Nat.mul_one]
      ac_rfl
  have hX : FP.Core.inUnits c q (-149) * S = (x * S).natAbs := by
    rw [← h2, Int.natAbs_mul, FP.Core.natAbs_signed, Int.natAbs_natCast]
  obtain ⟨c', q', g1, g2⟩ := fl_rr s (FP.Core.inUnits c q (-149) * S) 1 (by decide) (by rw [hX]; omega)
  rw [FP.Core.signed_mul, h2] at g2
  exact ⟨_, ⟨c', q', hv.trans (hcg.trans g1), rfl⟩, g2⟩
theorem fl_100 : FP.Core.val32 1120403456 = .fin false 13107200 (-17) := by decide +kernel
theorem fl_div {a : UInt32} {s : Bool} {x : Int} (ha : fl a s x) (h : x.natAbs < 2 ^ 200) : ∃ z, fl (FP.fdiv a 1120403456) s z ∧ Er 100 z x := by
  obtain ⟨c, q, h1, h2⟩ := ha
  have hq := fl_q h1
  have hv := FP.Core.val32_fdiv a 1120403456
  rw [h1, fl_100] at hv
  have hs : (s != false) = s := by cases s <;> rfl
  have hes : FP.Core.quotient FP.Core.b32 (.fin s c q) (.fin false 13107200 (-17)) = FP.Core.roundRatio FP.Core.b32 s c 13107200 (q - -17) := by
    have e : FP.Core.quotient FP.Core.b32 (.fin s c q) (.fin false 13107200 (-17)) = FP.Core.roundRatio FP.Core.b32 (s != false) c 13107200 (q - -17) := rfl
    rw [e, hs]
  rw [hes] at hv
  have hcg : FP.Core.roundRatio FP.Core.b32 s c 13107200 (q - -17) = FP.Core.roundRatio FP.Core.b32 s (FP.Core.inUnits c q (-149)) 100 (-149) := by
    refine FP.Core.roundRatio_congr (by decide) (by decide) ?_
    unfold FP.Core.inUnits
    obtain ⟨i, hi⟩ : ∃ i : Nat, q = -149 + (i : Int) := ⟨(q + 149).toNat, by omega⟩
    subst hi
    rw [show (-149 + (i : Int) - -149).toNat = i by omega, show (-149 + (i : Int) - -17 - -149).toNat = i + 17 by omega, show (-149 - (-149 + (i : Int) - -17)).toNat = 0 by omega, Nat.pow_zero, Nat.mul_one, Nat.pow_add]
    have e : 13107200 = 100 * 2 ^ 17 := by decide
    rw [e]
    ac_rfl
  have hX : FP.Core.inUnits c q (-149) = x.natAbs := by rw [← h2, FP.Core.natAbs_signed]
  obtain ⟨c', q', g1, g2⟩ := fl_rr s (FP.Core.inUnits c q (-149)) 100 (by decide) (by rw [hX]; omega)
  rw [h2] at g2
  exact ⟨_, ⟨c', q', hv.trans (hcg.trans g1), rfl⟩, g2⟩
theorem fl_i2f {v : Int32} {n : Nat} (hv : v.toInt = (n : Int)) (hn : n ≤ 2 ^ 24) : flW (FP.i2f v) n := by
  have h1 := FP.Core.val32_i2f v
  rw [hv] at h1
  have hw := FP.Core.whole_round (f := FP.Core.b32) FP.Core.good_b32 FP.Core.wide_b32 (i := (n : Int)) (by rw [Int.natAbs_natCast]; exact hn) (FP.Core.whole_ofInt (n : Int))
  have hof : FP.Core.ofInt (n : Int) = .fin false n 0 := by
    unfold FP.Core.ofInt
    rw [Int.natAbs_natCast]
    congr 1
  rw [hof] at h1 hw
  have hsg : FP.Core.sgn (FP.Core.round FP.Core.b32 (.fin false n 0)) = false := FP.Core.sgn_roundRatio _ _ _ _ _
  cases hd : FP.Core.round FP.Core.b32 (.fin false n 0) with
  | nan => rw [hd] at hw; exact hw.elim
  | inf s => rw [hd] at hw; exact hw.elim
  | fin s d r =>
    rw [hd] at hw hsg h1
    have hs : s = false := hsg
    subst hs
    refine ⟨d, r, h1, ?_⟩
    have := FP.Core.whole_natAbs hw
    rw [Int.natAbs_natCast] at this
    exact this

