/-! THE MEAN -/
theorem ErD.zero {D : Nat} {z : Int} (hD : 0 < D) (h : ErD D z 0) : z = 0 := by
  obtain ⟨h1, h2⟩ := h
  have hD' : (1 : Int) ≤ (D : Int) := by omega
  have e1 : (D : Int) * z < (D : Int) := by simp at h1; omega
  have e2 : -(D : Int) < (D : Int) * z := by simp at h2; omega
  rcases Int.lt_trichotomy z 0 with h | h | h
  · have : (D : Int) * z ≤ (D : Int) * (-1) := Int.mul_le_mul_of_nonneg_left (by omega) (by omega)
    omega
  · exact h
  · have : (D : Int) * 1 ≤ (D : Int) * z := Int.mul_le_mul_of_nonneg_left (by omega) (by omega)
    omega
set_option maxRecDepth 100000 in
theorem dl_f2d {a : UInt32} {z : Int} (h : fl a false z) (h0 : 0 ≤ z) (h1 : z ≤ 2 ^ 170) : ∃ v, dl (FP.f2d a) false v ∧ ErD 1 v (z * ((2 ^ 925 : Nat) : Int)) := by
  obtain ⟨c, q, g1, g2⟩ := h
  have hq := fl_q g1
  have hv := FP.Core.val64_f2d a
  rw [g1, ← FP.Core.round_inUnits (f := FP.Core.b64) _ _ (show (-1074 : Int) ≤ q by omega)] at hv
  have hm : FP.Core.inUnits c q (-1074) = FP.Core.inUnits c q (-149) * 2 ^ 925 := FP.Core.inUnits_move c (by decide) hq
  have g2' : ((FP.Core.inUnits c q (-149) : Nat) : Int) = z := g2
  have hb : FP.Core.inUnits c q (-1074) < 1 * 2 ^ 1200 := by
    rw [hm, Nat.one_mul]
    have h3 : FP.Core.inUnits c q (-149) < 2 ^ 171 := by omega
    have h4 : FP.Core.inUnits c q (-149) * 2 ^ 925 < 2 ^ 171 * 2 ^ 925 := Nat.mul_lt_mul_of_pos_right h3 (Nat.two_pow_pos _)
    have h5 : (2 : Nat) ^ 171 * 2 ^ 925 = 2 ^ 1096 := (Nat.pow_add 2 171 925).symm
    have h6 : (2 : Nat) ^ 1096 ≤ 2 ^ 1200 := Nat.pow_le_pow_right (by decide) (by decide)
    rw [h5] at h4
    exact Nat.lt_of_lt_of_le h4 h6
  obtain ⟨c', q', k1, k2⟩ := dl_rr false (FP.Core.inUnits c q (-1074)) 1 (by decide) hb
  have e : FP.Core.signed false (FP.Core.inUnits c q (-1074)) = z * ((2 ^ 925 : Nat) : Int) := by
    rw [hm]
    show ((FP.Core.inUnits c q (-149) * 2 ^ 925 : Nat) : Int) = _
    rw [Int.natCast_mul, g2']
  rw [e] at k2
  have hn : FP.Core.fIsNaN a = false := (FP.Core.notNaN_iff32 a).mpr (by rw [g1]; exact fun h => by cases h)
  have ef : FP.f2d a = FP.Core.f2d a := by
    unfold FP.f2d
    rw [hn]
    rfl
  rw [ef]
  exact ⟨_, ⟨c', q', hv.trans k1, rfl⟩, k2⟩
def ms (f : Nat → UInt32) : Nat → Nat → UInt64 → UInt64
  | _, 0, acc => acc
  | j, n + 1, acc => ms f (j + 1) n (FP.dadd acc (FP.f2d (f j)))
def msI (j : Nat) (v : Int) : Prop := 0 ≤ v ∧ v ≤ (j : Int) * 2 ^ 1092 ∧ (v = 0 ∨ 2 ^ 960 - (j : Int) * 2 ^ 910 ≤ v)
theorem dl_sg {R : Int} (h : 0 ≤ R) : FP.Core.sumSign false false R = false := by
  unfold FP.Core.sumSign
  split
  · rfl
  · simp; omega
set_option maxRecDepth 100000 in
set_option maxHeartbeats 4000000 in
theorem ms_step {a : UInt32} {z : Int} {acc : UInt64} {v : Int} {j : Nat} (h : fl a false z) (h0 : 0 ≤ z) (h1 : z ≤ 301 * 2 ^ 156) (hl : z = 0 ∨ 2 ^ 36 ≤ z) (ha : dl acc false v) (hI : msI j v) (hj : j < 64) :
    wx_nd (FP.f2d a) = true ∧ wx_nd (FP.dadd acc (FP.f2d a)) = true ∧ ∃ v', dl (FP.dadd acc (FP.f2d a)) false v' ∧ msI (j + 1) v' := by
  obtain ⟨i1, i2, i3⟩ := hI
  obtain ⟨w, w1, w2⟩ := dl_f2d h h0 (by omega)
  have p925 : ((2 ^ 925 : Nat) : Int) = 2 ^ 925 := by rw [Int.natCast_pow]; rfl
  rw [p925] at w2
  have w2' := w2
  unfold ErD at w2
  have hw : 0 ≤ w ∧ w ≤ 2 ^ 1091 ∧ (w = 0 ∨ 2 ^ 960 ≤ w) := by
    refine ⟨by omega, by omega, ?_⟩
    rcases hl with hl | hl
    · left
      rw [hl, Int.zero_mul] at w2'
      exact ErD.zero (by decide) w2'
    · right
      omega
  obtain ⟨u, u1, u2⟩ := dl_add ha w1 (by omega)
  rw [dl_sg (by omega)] at u1
  have u2' := u2
  unfold ErD at u2
  refine ⟨dl_nn w1, dl_nn u1, u, u1, by omega, by omega, ?_⟩
  by_cases hz : v = 0 ∧ w = 0
  · left
    rw [hz.1, hz.2] at u2'
    exact ErD.zero (by decide) u2'
  · right
    omega
