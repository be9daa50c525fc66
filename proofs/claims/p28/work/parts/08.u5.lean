/-! MASKS OF PLACES -/
def mk (x : Int64) (P : Nat) : Bool := x.toBitVec.getLsbD P
theorem mk_sh : ∀ P, P < 64 → (nI P).toInt64.toUInt64 &&& Int64.toUInt64 63 = UInt64.ofNat P := by decide +kernel
theorem mk_sl : ∀ P, P < 64 → (nI P).toInt64 &&& 63 = Int64.ofNat P := by decide +kernel
theorem lg_cmp0 (a : Int64) : lg_cmp a 0 = 0 ↔ a = 0 := by
  unfold lg_cmp
  constructor
  · intro h
    by_cases h1 : a > 0
    · rw [if_pos h1] at h; exact absurd h (by decide)
    · rw [if_neg h1] at h
      by_cases h2 : a = 0
      · exact h2
      · rw [if_neg h2] at h; exact absurd h (by decide)
  · intro h
    subst h
    decide
theorem mk_bv (x : Int64) {P : Nat} (hP : P < 64) : ((((x.toUInt64 >>> ((nI P).toInt64.toUInt64 &&& Int64.toUInt64 63)).toInt64) &&& (1 : Int64)) : Int64).toBitVec = (x.toBitVec >>> P) &&& 1#64 := by
  rw [mk_sh P hP, Int64.toBitVec_and]
  congr 1
  show (x.toUInt64 >>> UInt64.ofNat P).toBitVec = x.toBitVec >>> P
  rw [UInt64.toBitVec_shiftRight]
  have e : ((UInt64.ofNat P).toBitVec % 64).toNat = P := by
    have : ∀ P, P < 64 → ((UInt64.ofNat P).toBitVec % 64).toNat = P := by decide +kernel
    exact this P hP
  show x.toBitVec >>> ((UInt64.ofNat P).toBitVec % 64) = _
  rw [BitVec.ushiftRight_eq', e]
theorem mk_zero (x : Int64) {P : Nat} (hP : P < 64) : (((x.toUInt64 >>> ((nI P).toInt64.toUInt64 &&& Int64.toUInt64 63)).toInt64) &&& (1 : Int64)) = 0 ↔ mk x P = false := by
  rw [← Int64.toBitVec_inj, mk_bv x hP]
  show (x.toBitVec >>> P) &&& 1#64 = 0#64 ↔ x.toBitVec.getLsbD P = false
  constructor
  · intro h
    have h2 := congrArg (fun b : BitVec 64 => b.getLsbD 0) h
    simpa using h2
  · intro h
    apply BitVec.eq_of_getLsbD_eq
    intro i hi
    by_cases h0 : i = 0
    · subst h0
      simp [h]
    · simp [h0]
theorem isIn_eq (x : Int64) {P : Nat} (hP : P < 64) : f_X5_isIn x (nI P) = some (if mk x P = true then 1 else 0) := by
  unfold f_X5_isIn
  by_cases h : mk x P = true
  · rw [if_pos h, if_neg (fun hx => by
      have := (mk_zero x hP).mp ((lg_cmp0 _).mp hx)
      rw [h] at this
      cases this)]
    rfl
  · rw [if_neg h, if_pos ((lg_cmp0 _).mpr ((mk_zero x hP).mpr (by simpa using h)))]
    rfl
theorem mk_or (x : Int64) {i j : Nat} (hi : i < 64) (hj : j < 64) : mk (x ||| ((1 : Int64) <<< ((nI i).toInt64 &&& 63))) j = (mk x j || decide (j = i)) := by
  unfold mk
  rw [Int64.toBitVec_or, BitVec.getLsbD_or]
  congr 1
  have : ∀ i, i < 64 → ∀ j, j < 64 → ((1 : Int64) <<< ((nI i).toInt64 &&& 63)).toBitVec.getLsbD j = decide (j = i) := by decide +kernel
  exact this i hi j hj
theorem mk_0 (j : Nat) : mk 0 j = false := by
  unfold mk
  simp

