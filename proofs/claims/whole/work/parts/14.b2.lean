def iN (x : Int64) : Nat := x.toBitVec.toNat
theorem iN_lt (x : Int64) : iN x < 18446744073709551616 := x.toBitVec.isLt
theorem iN_and (a b : Int64) : iN (a &&& b) = iN a &&& iN b := by
  unfold iN
  rw [Int64.toBitVec_and, BitVec.toNat_and]
theorem iN_add {a b : Int64} (h : iN a + iN b < 18446744073709551616) : iN (a + b) = iN a + iN b := by
  unfold iN at h ⊢
  rw [Int64.toBitVec_add, BitVec.toNat_add]
  exact Nat.mod_eq_of_lt h
theorem iN_sub {a b : Int64} (h : iN b ≤ iN a) : iN (a - b) = iN a - iN b := by
  have h1 := iN_lt a
  unfold iN at h h1 ⊢
  rw [Int64.toBitVec_sub, BitVec.toNat_sub]
  omega
theorem iN_sh (x : Int64) {k : Nat} (hk : k < 64) : iN ((x.toUInt64 >>> ((nI k).toInt64.toUInt64 &&& Int64.toUInt64 63)).toInt64) = iN x / 2 ^ k := by
  rw [mk_sh k hk]
  have e : ((UInt64.ofNat k).toBitVec % 64).toNat = k := by
    have : ∀ P, P < 64 → ((UInt64.ofNat P).toBitVec % 64).toNat = P := by decide +kernel
    exact this k hk
  have e2 : (x.toUInt64 >>> UInt64.ofNat k).toBitVec = x.toBitVec >>> k := by
    rw [UInt64.toBitVec_shiftRight]
    show x.toBitVec >>> ((UInt64.ofNat k).toBitVec % 64) = _
    rw [BitVec.ushiftRight_eq', e]
  unfold iN
  show (x.toUInt64 >>> UInt64.ofNat k).toBitVec.toNat = _
  rw [e2, BitVec.toNat_ushiftRight, Nat.shiftRight_eq_div_pow]
def bY1 (x : Int64) : Int64 := x - (((x.toUInt64 >>> ((1 : Int32).toInt64.toUInt64 &&& Int64.toUInt64 63)).toInt64) &&& (6148914691236517205 : Int64))
def bY2 (y : Int64) : Int64 := (y &&& (3689348814741910323 : Int64)) + (((y.toUInt64 >>> ((2 : Int32).toInt64.toUInt64 &&& Int64.toUInt64 63)).toInt64) &&& (3689348814741910323 : Int64))
def bY3 (y : Int64) : Int64 := (y + ((y.toUInt64 >>> ((4 : Int32).toInt64.toUInt64 &&& Int64.toUInt64 63)).toInt64)) &&& (1085102592571150095 : Int64)
def bZ (k : Int32) (y : Int64) : Int64 := y + ((y.toUInt64 >>> (k.toInt64.toUInt64 &&& Int64.toUInt64 63)).toInt64)
theorem bc_form (x : Int64) : f_J13_bitCount_95d88 x = some ((bZ 32 (bZ 16 (bZ 8 (bY3 (bY2 (bY1 x)))))).toInt32 &&& 127) := by
  unfold f_J13_bitCount_95d88 bZ bY3 bY2 bY1
  rfl
theorem iN_sh1 (x : Int64) : iN ((x.toUInt64 >>> ((1 : Int32).toInt64.toUInt64 &&& Int64.toUInt64 63)).toInt64) = iN x / 2 := iN_sh x (k := 1) (by decide)
theorem iN_sh2 (x : Int64) : iN ((x.toUInt64 >>> ((2 : Int32).toInt64.toUInt64 &&& Int64.toUInt64 63)).toInt64) = iN x / 4 := iN_sh x (k := 2) (by decide)
theorem iN_sh4 (x : Int64) : iN ((x.toUInt64 >>> ((4 : Int32).toInt64.toUInt64 &&& Int64.toUInt64 63)).toInt64) = iN x / 16 := iN_sh x (k := 4) (by decide)
theorem iN_sh8 (x : Int64) : iN ((x.toUInt64 >>> ((8 : Int32).toInt64.toUInt64 &&& Int64.toUInt64 63)).toInt64) = iN x / 256 := iN_sh x (k := 8) (by decide)
theorem iN_sh16 (x : Int64) : iN ((x.toUInt64 >>> ((16 : Int32).toInt64.toUInt64 &&& Int64.toUInt64 63)).toInt64) = iN x / 65536 := iN_sh x (k := 16) (by decide)
theorem iN_sh32 (x : Int64) : iN ((x.toUInt64 >>> ((32 : Int32).toInt64.toUInt64 &&& Int64.toUInt64 63)).toInt64) = iN x / 4294967296 := iN_sh x (k := 32) (by decide)
