theorem bc_fin {a n : Nat} (h : a % 128 = n) (hn : n ≤ 64) : a % 2 ^ 32 % 2 ^ 7 = n % 2 ^ 32 := by omega
theorem bitCount_eq2 (x : Int64) : f_J13_bitCount_95d88 x = some (nI (cnt (mk x) 64)) := by
  rw [bc_form]
  have hx := iN_lt x
  have c85 : iN (6148914691236517205 : Int64) = M8 85 8 := by decide +kernel
  have c51 : iN (3689348814741910323 : Int64) = M8 51 8 := by decide +kernel
  have c15 : iN (1085102592571150095 : Int64) = M8 15 8 := by decide +kernel
  have m1 : M8 1 8 = 72340172838076673 := by decide +kernel
  have hA : iN (bY1 x) = lA 8 (iN x) := by
    unfold bY1 lA
    have hle : (iN x / 2 &&& M8 85 8) ≤ iN x / 2 := Nat.and_le_left
    rw [iN_sub (by rw [iN_and, iN_sh1 x, c85]; omega), iN_and, iN_sh1 x, c85]
    rfl
  have hA' : lA 8 (iN x) ≤ iN x := Nat.sub_le _ _
  have hB : iN (bY2 (bY1 x)) = lB 8 (iN x) := by
    have hb := lB_le 8 (iN x)
    rw [m1] at hb
    unfold lB at hb
    have e1 : iN (bY1 x &&& (3689348814741910323 : Int64)) = lA 8 (iN x) &&& M8 51 8 := by rw [iN_and, hA, c51]
    have e2 : iN ((((bY1 x).toUInt64 >>> ((2 : Int32).toInt64.toUInt64 &&& Int64.toUInt64 63)).toInt64) &&& (3689348814741910323 : Int64)) = lA 8 (iN x) / 4 &&& M8 51 8 := by rw [iN_and, iN_sh2, hA, c51]
    unfold bY2 lB
    rw [iN_add (by rw [e1, e2]; omega), e1, e2]
  have hC : iN (bY3 (bY2 (bY1 x))) = lC 8 (iN x) := by
    have hb := lB_le 8 (iN x)
    rw [m1] at hb
    unfold bY3 lC
    have e2 : iN (((bY2 (bY1 x)).toUInt64 >>> ((4 : Int32).toInt64.toUInt64 &&& Int64.toUInt64 63)).toInt64) = lB 8 (iN x) / 16 := by rw [iN_sh4, hB]
    rw [iN_and, iN_add (by rw [hB, e2]; omega), hB, e2, c15]
  have hc8 := lC_le 8 (iN x)
  rw [m1] at hc8
  have z1 : iN (bZ 8 (bY3 (bY2 (bY1 x)))) = lC 8 (iN x) + lC 8 (iN x) / 256 := by
    unfold bZ
    have e2 : iN (((bY3 (bY2 (bY1 x))).toUInt64 >>> ((8 : Int32).toInt64.toUInt64 &&& Int64.toUInt64 63)).toInt64) = lC 8 (iN x) / 256 := by rw [iN_sh8, hC]
    rw [iN_add (by rw [hC, e2]; omega), hC, e2]
  have z2 : iN (bZ 16 (bZ 8 (bY3 (bY2 (bY1 x))))) = iN (bZ 8 (bY3 (bY2 (bY1 x)))) + iN (bZ 8 (bY3 (bY2 (bY1 x)))) / 65536 := by
    generalize bZ 8 (bY3 (bY2 (bY1 x))) = w at z1 ⊢
    unfold bZ
    have e2 : iN ((w.toUInt64 >>> ((16 : Int32).toInt64.toUInt64 &&& Int64.toUInt64 63)).toInt64) = iN w / 65536 := iN_sh16 w
    rw [iN_add (by rw [e2, z1]; omega), e2]
  have z3 : iN (bZ 32 (bZ 16 (bZ 8 (bY3 (bY2 (bY1 x)))))) = iN (bZ 16 (bZ 8 (bY3 (bY2 (bY1 x))))) + iN (bZ 16 (bZ 8 (bY3 (bY2 (bY1 x))))) / 4294967296 := by
    rw [z1] at z2
    generalize bZ 16 (bZ 8 (bY3 (bY2 (bY1 x)))) = w at z2 ⊢
    unfold bZ
    have e2 : iN ((w.toUInt64 >>> ((32 : Int32).toInt64.toUInt64 &&& Int64.toUInt64 63)).toInt64) = iN w / 4294967296 := iN_sh32 w
    rw [iN_add (by rw [e2, z2]; omega), e2]
  have hlc : lC 8 (iN x) = c8 (iN x % 256) + 256 * (c8 (iN x / 256 % 256) + 256 * (c8 (iN x / 256 / 256 % 256) + 256 * (c8 (iN x / 256 / 256 / 256 % 256) + 256 * (c8 (iN x / 256 / 256 / 256 / 256 % 256) + 256 * (c8 (iN x / 256 / 256 / 256 / 256 / 256 % 256) + 256 * (c8 (iN x / 256 / 256 / 256 / 256 / 256 / 256 % 256) + 256 * (c8 (iN x / 256 / 256 / 256 / 256 / 256 / 256 / 256 % 256) + 256 * 0))))))) := by
    rw [lC_s, lC_s, lC_s, lC_s, lC_s, lC_s, lC_s, lC_s, lC_0]
  have hcn : cnt (mk x) 64 = c8 (iN x % 256) + (c8 (iN x / 256 % 256) + (c8 (iN x / 256 / 256 % 256) + (c8 (iN x / 256 / 256 / 256 % 256) + (c8 (iN x / 256 / 256 / 256 / 256 % 256) + (c8 (iN x / 256 / 256 / 256 / 256 / 256 % 256) + (c8 (iN x / 256 / 256 / 256 / 256 / 256 / 256 % 256) + (c8 (iN x / 256 / 256 / 256 / 256 / 256 / 256 / 256 % 256) + 0))))))) := by
    have e : cnt (mk x) 64 = cnt (iN x).testBit (8 * (7 + 1)) := rfl
    rw [e, cnt_s, cnt_s 6, cnt_s 5, cnt_s 4, cnt_s 3, cnt_s 2, cnt_s 1, cnt_s 0]
    rfl
  have hle : ∀ v, c8 (v % 256) ≤ 8 := fun v => (bc_d3 (v % 256) (Nat.mod_lt _ (by decide))).2.2.2
  have hs := bc_sum (hle _) (hle _) (hle _) (hle _) (hle _) (hle _) (hle _) (hle _) hlc z1 z2 z3
  have hcn2 : iN (bZ 32 (bZ 16 (bZ 8 (bY3 (bY2 (bY1 x)))))) % 128 = cnt (mk x) 64 := by
    rw [hs, hcn]
    simp only [Nat.add_assoc, Nat.add_zero]
  have hc64 := cnt_le (mk x) 64
  generalize bZ 32 (bZ 16 (bZ 8 (bY3 (bY2 (bY1 x))))) = w at hcn2 ⊢
  congr 1
  rw [← Int32.toBitVec_inj]
  apply BitVec.eq_of_toNat_eq
  rw [Int32.toBitVec_and, BitVec.toNat_and, Int64.toBitVec_toInt32, BitVec.signExtend_eq_setWidth_of_le _ (by decide), BitVec.toNat_setWidth]
  have e127 : ((127 : Int32).toBitVec.toNat) = 2 ^ 7 - 1 := rfl
  rw [e127, Nat.and_two_pow_sub_one_eq_mod]
  have eN : (nI (cnt (mk x) 64)).toBitVec.toNat = cnt (mk x) 64 % 2 ^ 32 := rfl
  rw [eN]
  exact bc_fin hcn2 hc64
