/-! WHAT IS READ -/
theorem f2i_nonneg {a : UInt32} {z : Int} (h : fl a false z) : 0 ≤ (FP.f2i a).toInt := by
  obtain ⟨c, q, h1, -⟩ := h
  have e : FP.Core.f2i a = FP.Core.toI (FP.Core.val32 a) := rfl
  show 0 ≤ (FP.Core.f2i a).toInt
  rw [e, h1]
  show 0 ≤ (Int32.ofInt (max (-2 ^ 31) (min (2 ^ 31 - 1) ((c * 2 ^ q.toNat / 2 ^ (-q).toNat : Nat) : Int)))).toInt
  generalize c * 2 ^ q.toNat / 2 ^ (-q).toNat = n
  rw [Int32.toInt_ofInt, show Int32.size = 4294967296 from rfl, Int.bmod_eq_of_le]
  · omega
  · omega
  · omega
theorem flW_10 : flW 1092616192 10 := ⟨10485760, -20, by decide +kernel, by decide⟩
theorem readOf_nn {a : UInt32} {z : Int} (h : fl a false z) (h0 : 0 ≤ z) (h1 : z ≤ 2 ^ 180) : wx_nn (FP.fmul a 1092616192) = true ∧ 0 ≤ (FP.f2i (FP.fmul a 1092616192)).toInt := by
  have p200 : (2 : Nat) ^ 200 = 1606938044258990275541962092341162602522202993782792835301376 := by decide
  obtain ⟨y, hy, -⟩ := fl_mul h flW_10 (by rw [p200]; omega)
  exact ⟨fl_nn hy, f2i_nonneg hy⟩
/-- what is read of a warmth -/
def rdf (a : UInt32) : Int32 := FP.f2i (FP.fmul a 1092616192)
theorem readOf5 {a : UInt32} (h : wx_nn (FP.fmul a 1092616192) = true) : f_X5_readOf a = some (rdf a) := by
  unfold f_X5_readOf
  rw [px_f h]
  rfl
/-- far from MIN_VALUE, abs and the two bounds say the same -/
theorem abs_within {a b d : Int32} (ha : 0 ≤ a.toInt) (hb : 0 ≤ b.toInt) (hd : 0 ≤ d.toInt) : (-d ≤ a - b ∧ a - b ≤ d) ↔ (a.toInt - b.toInt).natAbs ≤ d.toInt.toNat := by
  have h1 := Int32.toInt_lt a
  have h2 := Int32.toInt_lt b
  have h3 := Int32.toInt_lt d
  have e1 : (a - b).toInt = a.toInt - b.toInt := by
    rw [Int32.toInt_sub]
    exact Int.bmod_eq_of_le (by omega) (by omega)
  have e2 : (-d).toInt = -d.toInt := by
    rw [Int32.toInt_neg]
    exact Int.bmod_eq_of_le (by omega) (by omega)
  rw [Int32.le_iff_toInt_le, Int32.le_iff_toInt_le, e1, e2]
  omega

