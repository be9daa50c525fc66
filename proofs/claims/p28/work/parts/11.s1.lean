/-- how many singles -/
def cnt (h : Nat → Bool) : Nat → Nat
  | 0 => 0
  | n + 1 => cnt h n + (if h n = true then 1 else 0)
theorem cnt_le (h : Nat → Bool) : ∀ n, cnt h n ≤ n
  | 0 => Nat.le_refl 0
  | n + 1 => by
    have := cnt_le h n
    show cnt h n + (if h n = true then 1 else 0) ≤ n + 1
    split <;> omega
theorem cnt_0 {h : Nat → Bool} : ∀ n, (∀ q, q < n → h q = false) → cnt h n = 0
  | 0, _ => rfl
  | n + 1, hh => by
    show cnt h n + (if h n = true then 1 else 0) = 0
    rw [hh n (by omega), cnt_0 n (fun q hq => hh q (by omega))]
    rfl
theorem cnt_congr {h h' : Nat → Bool} : ∀ n, (∀ q, q < n → h q = h' q) → cnt h n = cnt h' n
  | 0, _ => rfl
  | n + 1, hh => by
    show cnt h n + (if h n = true then 1 else 0) = cnt h' n + (if h' n = true then 1 else 0)
    rw [hh n (by omega), cnt_congr n (fun q hq => hh q (by omega))]
/-! bitCount counts -/
theorem cnt_add (h : Nat → Bool) (a : Nat) : ∀ n, cnt h (a + n) = cnt h a + cnt (fun j => h (a + j)) n
  | 0 => rfl
  | n + 1 => by
    show cnt h (a + n) + (if h (a + n) = true then 1 else 0) = cnt h a + (cnt (fun j => h (a + j)) n + (if h (a + n) = true then 1 else 0))
    rw [cnt_add h a n, Nat.add_assoc]
def M8 (c : Nat) : Nat → Nat
  | 0 => 0
  | n + 1 => c + 256 * M8 c n
theorem land_lane {c m x : Nat} (hc : c < 256) : x &&& (c + 256 * m) = (x % 256 &&& c) + 256 * (x / 256 &&& m) := by
  have h1 : (x &&& (c + 256 * m)) % 2 ^ 8 = (x % 2 ^ 8) &&& ((c + 256 * m) % 2 ^ 8) := Nat.and_mod_two_pow
  have h2 : (x &&& (c + 256 * m)) / 2 ^ 8 = (x / 2 ^ 8) &&& ((c + 256 * m) / 2 ^ 8) := Nat.and_div_two_pow
  rw [show (c + 256 * m) % 2 ^ 8 = c by omega] at h1
  rw [show (c + 256 * m) / 2 ^ 8 = m by omega] at h2
  have h3 : (2 : Nat) ^ 8 = 256 := rfl
  rw [h3] at h1 h2
  rw [← h1, ← h2]
  omega
def a8 (v : Nat) : Nat := v - (v / 2 &&& 85)
def b8 (v : Nat) : Nat := (a8 v &&& 51) + (a8 v / 4 &&& 51)
def c8 (v : Nat) : Nat := (b8 v + b8 v / 16) &&& 15
def lA (n x : Nat) : Nat := x - (x / 2 &&& M8 85 n)
def lB (n x : Nat) : Nat := (lA n x &&& M8 51 n) + (lA n x / 4 &&& M8 51 n)
def lC (n x : Nat) : Nat := (lB n x + lB n x / 16) &&& M8 15 n
theorem bc_d1 : ∀ v, v < 256 → ∀ t, t < 2 → (v / 2 + 128 * t) &&& 85 = v / 2 &&& 85 ∧ (v / 2 &&& 85) ≤ v := by decide +kernel
theorem bc_d2 : ∀ a, a < 256 → ∀ t, t < 4 → (a / 4 + 64 * t) &&& 51 = a / 4 &&& 51 := by decide +kernel
theorem bc_d3 : ∀ v, v < 256 → a8 v < 256 ∧ b8 v ≤ 68 ∧ b8 v % 16 ≤ 4 ∧ c8 v ≤ 8 := by decide +kernel
theorem bc_d4 : ∀ b, b < 69 → ∀ t, t < 5 → (b + b / 16 + 16 * t) &&& 15 = (b + b / 16) &&& 15 := by decide +kernel
theorem lA_s (n x : Nat) : lA (n + 1) x = a8 (x % 256) + 256 * lA n (x / 256) := by
  have hv : x % 256 < 256 := Nat.mod_lt _ (by decide)
  obtain ⟨d1, d2⟩ := bc_d1 (x % 256) hv (x / 256 % 2) (Nat.mod_lt _ (by decide))
  have hle : (x / 256 / 2 &&& M8 85 n) ≤ x / 256 / 2 := Nat.and_le_left
  unfold lA a8
  show x - (x / 2 &&& (85 + 256 * M8 85 n)) = _
  rw [land_lane (by decide), show x / 2 % 256 = x % 256 / 2 + 128 * (x / 256 % 2) by omega, d1, show x / 2 / 256 = x / 256 / 2 by omega]
  omega
theorem lB_s (n x : Nat) : lB (n + 1) x = b8 (x % 256) + 256 * lB n (x / 256) := by
  have hv : x % 256 < 256 := Nat.mod_lt _ (by decide)
  have ha := (bc_d3 (x % 256) hv).1
  unfold lB b8
  rw [lA_s]
  generalize lA n (x / 256) = A
  generalize a8 (x % 256) = a at ha ⊢
  show ((a + 256 * A) &&& (51 + 256 * M8 51 n)) + ((a + 256 * A) / 4 &&& (51 + 256 * M8 51 n)) = _
  rw [land_lane (by decide), land_lane (by decide), show (a + 256 * A) % 256 = a by omega, show (a + 256 * A) / 256 = A by omega, show (a + 256 * A) / 4 % 256 = a / 4 + 64 * (A % 4) by omega, show (a + 256 * A) / 4 / 256 = A / 4 by omega, bc_d2 a ha (A % 4) (Nat.mod_lt _ (by decide))]
  omega
theorem lB_m (n x : Nat) : lB n x % 16 ≤ 4 := by
  cases n with
  | zero =>
    unfold lB M8
    rw [Nat.and_zero, Nat.and_zero]
    decide
  | succ n =>
    rw [lB_s]
    have := (bc_d3 (x % 256) (Nat.mod_lt _ (by decide))).2.2.1
    omega
theorem lC_s (n x : Nat) : lC (n + 1) x = c8 (x % 256) + 256 * lC n (x / 256) := by
  have hv : x % 256 < 256 := Nat.mod_lt _ (by decide)
  have hb := (bc_d3 (x % 256) hv).2.1
  have hm := lB_m n (x / 256)
  unfold lC c8
  rw [lB_s]
  generalize lB n (x / 256) = B at hm ⊢
  generalize b8 (x % 256) = b at hb ⊢
  show ((b + 256 * B) + (b + 256 * B) / 16 &&& (15 + 256 * M8 15 n)) = _
  rw [land_lane (by decide), show ((b + 256 * B) + (b + 256 * B) / 16) % 256 = b + b / 16 + 16 * (B % 16) by omega, show ((b + 256 * B) + (b + 256 * B) / 16) / 256 = B + B / 16 by omega, bc_d4 b (by omega) (B % 16) (by omega)]
theorem lC_0 (x : Nat) : lC 0 x = 0 := by
  unfold lC M8
  rw [Nat.and_zero]
theorem cnt_b8 : ∀ v, v < 256 → cnt v.testBit 8 = c8 v := by decide +kernel
theorem cnt_s (n X : Nat) : cnt X.testBit (8 * (n + 1)) = c8 (X % 256) + cnt (X / 256).testBit (8 * n) := by
  rw [show 8 * (n + 1) = 8 + 8 * n by omega, cnt_add, ← cnt_b8 _ (Nat.mod_lt _ (by decide))]
  congr 1
  · refine cnt_congr 8 (fun q hq => ?_)
    have := Nat.testBit_mod_two_pow X 8 q
    rw [show (2 : Nat) ^ 8 = 256 from rfl, decide_eq_true hq, Bool.true_and] at this
    exact this.symm
  · refine cnt_congr _ (fun q hq => ?_)
    have := Nat.testBit_div_two_pow (n := 8) X q
    rw [show (2 : Nat) ^ 8 = 256 from rfl, Nat.add_comm] at this
    exact this.symm
def iN (x : Int64) : Nat := x.toBitVec.toNat
theorem iN_lt (x : Int64) : iN x < 18446744073709551616 := x.toBitVec.isLt
theorem iN_and (a b : Int64) : iN (a &&& b) = iN a &&& iN b := by
  unfold iN
  rw [Int64.toBitVec_and, BitVec.toNat_and]
theorem iN_add {a b : Int64} (h : iN a + iN b < 18446744073709551616) : iN (a + b) = iN a + iN b := by
  unfold iN at h ⊢
  rw [Int64.toBitVec_add, BitVec.toNat_add]
  exact Nat.mod_eq_of_lt h
theorem iN_sub {a b : Int64} (h : iN b ≤ iN a) : iN (a - b) = iN a - iN b := by
  have h1 := iN_lt a
  unfold iN at h h1 ⊢
  rw [Int64.toBitVec_sub, BitVec.toNat_sub]
  omega
theorem iN_sh (x : Int64) {k : Nat} (hk : k < 64) : iN ((x.toUInt64 >>> ((nI k).toInt64.toUInt64 &&& Int64.toUInt64 63)).toInt64) = iN x / 2 ^ k := by
  rw [mk_sh k hk]
  have e : ((UInt64.ofNat k).toBitVec % 64).toNat = k := by
    have : ∀ P, P < 64 → ((UInt64.ofNat P).toBitVec % 64).toNat = P := by decide +kernel
    exact this k hk
  have e2 : (x.toUInt64 >>> UInt64.ofNat k).toBitVec = x.toBitVec >>> k := by
    rw [UInt64.toBitVec_shiftRight]
    show x.toBitVec >>> ((UInt64.ofNat k).toBitVec % 64) = _
    rw [BitVec.ushiftRight_eq', e]
  unfold iN
  show (x.toUInt64 >>> UInt64.ofNat k).toBitVec.toNat = _
  rw [e2, BitVec.toNat_ushiftRight, Nat.shiftRight_eq_div_pow]
def bY1 (x : Int64) : Int64 := x - (((x.toUInt64 >>> ((1 : Int32).toInt64.toUInt64 &&& Int64.toUInt64 63)).toInt64) &&& (6148914691236517205 : Int64))
def bY2 (y : Int64) : Int64 := (y &&& (3689348814741910323 : Int64)) + (((y.toUInt64 >>> ((2 : Int32).toInt64.toUInt64 &&& Int64.toUInt64 63)).toInt64) &&& (3689348814741910323 : Int64))
def bY3 (y : Int64) : Int64 := (y + ((y.toUInt64 >>> ((4 : Int32).toInt64.toUInt64 &&& Int64.toUInt64 63)).toInt64)) &&& (1085102592571150095 : Int64)
def bZ (k : Int32) (y : Int64) : Int64 := y + ((y.toUInt64 >>> (k.toInt64.toUInt64 &&& Int64.toUInt64 63)).toInt64)
theorem bc_form (x : Int64) : f_J13_bitCount_95d88 x = some ((bZ 32 (bZ 16 (bZ 8 (bY3 (bY2 (bY1 x)))))).toInt32 &&& 127) := by
  unfold f_J13_bitCount_95d88 bZ bY3 bY2 bY1
  rfl
theorem iN_sh1 (x : Int64) : iN ((x.toUInt64 >>> ((1 : Int32).toInt64.toUInt64 &&& Int64.toUInt64 63)).toInt64) = iN x / 2 := iN_sh x (k := 1) (by decide)
theorem iN_sh2 (x : Int64) : iN ((x.toUInt64 >>> ((2 : Int32).toInt64.toUInt64 &&& Int64.toUInt64 63)).toInt64) = iN x / 4 := iN_sh x (k := 2) (by decide)
theorem iN_sh4 (x : Int64) : iN ((x.toUInt64 >>> ((4 : Int32).toInt64.toUInt64 &&& Int64.toUInt64 63)).toInt64) = iN x / 16 := iN_sh x (k := 4) (by decide)
theorem iN_sh8 (x : Int64) : iN ((x.toUInt64 >>> ((8 : Int32).toInt64.toUInt64 &&& Int64.toUInt64 63)).toInt64) = iN x / 256 := iN_sh x (k := 8) (by decide)
theorem iN_sh16 (x : Int64) : iN ((x.toUInt64 >>> ((16 : Int32).toInt64.toUInt64 &&& Int64.toUInt64 63)).toInt64) = iN x / 65536 := iN_sh x (k := 16) (by decide)
theorem iN_sh32 (x : Int64) : iN ((x.toUInt64 >>> ((32 : Int32).toInt64.toUInt64 &&& Int64.toUInt64 63)).toInt64) = iN x / 4294967296 := iN_sh x (k := 32) (by decide)
theorem bc_R1 {p q A B Y : Nat} (hA : A = p + 256 * B) (hB : B = q + 256 * Y) : A + B = (p + q) + 256 * (B + Y) := by omega
theorem bc_R2 {a b A B A' B' : Nat} (hA : A = a + 256 * A') (hB : B = b + 256 * B') : A + B = (a + b) + 256 * (A' + B') := by omega
theorem bc_v1 {y p Y : Nat} (h : y = p + 256 * Y) (hp : p < 256) : y / 256 = Y := by omega
theorem bc_v2 {z a b Z Z' : Nat} (h : z = a + 256 * Z') (h' : Z' = b + 256 * Z) (ha : a < 256) (hb : b < 256) : z / 65536 = Z := by
  rw [show (65536 : Nat) = 256 * 256 from rfl, ← Nat.div_div_eq_div_mul, bc_v1 h ha, bc_v1 h' hb]
theorem bc_v4 {z a b Z Z' : Nat} (h : z / 65536 = Z') (h1 : Z' / 65536 = Z) : z / 4294967296 = Z := by
  rw [show (4294967296 : Nat) = 65536 * 65536 from rfl, ← Nat.div_div_eq_div_mul, h, h1]
theorem bc_md {z s W : Nat} (h : z = s + 256 * W) (hs : s < 128) : z % 128 = s := by omega
theorem bc_s1 {a : Nat} (h : a ≤ 8) : a < 256 := by omega
theorem bc_s2 {a b : Nat} (h : a ≤ 8) (h' : b ≤ 8) : a + b < 256 := by omega
theorem bc_s4 {a b c d : Nat} (h : a ≤ 8) (h' : b ≤ 8) (h'' : c ≤ 8) (h''' : d ≤ 8) : (a + b) + (c + d) < 256 := by omega
theorem bc_s8 {p0 p1 p2 p3 p4 p5 p6 p7 : Nat} (h0 : p0 ≤ 8) (h1 : p1 ≤ 8) (h2 : p2 ≤ 8) (h3 : p3 ≤ 8) (h4 : p4 ≤ 8) (h5 : p5 ≤ 8) (h6 : p6 ≤ 8) (h7 : p7 ≤ 8) : p0 + p1 + (p2 + p3) + (p4 + p5 + (p6 + p7)) < 128 := by omega
theorem bc_as (p0 p1 p2 p3 p4 p5 p6 p7 : Nat) : p0 + p1 + (p2 + p3) + (p4 + p5 + (p6 + p7)) = p0 + p1 + p2 + p3 + (p4 + p5 + p6 + p7) := by omega
theorem bc_sum {p0 p1 p2 p3 p4 p5 p6 p7 y z1 z2 z3 : Nat} (h0 : p0 ≤ 8) (h1 : p1 ≤ 8) (h2 : p2 ≤ 8) (h3 : p3 ≤ 8) (h4 : p4 ≤ 8) (h5 : p5 ≤ 8) (h6 : p6 ≤ 8) (h7 : p7 ≤ 8)
    (hy : y = p0 + 256 * (p1 + 256 * (p2 + 256 * (p3 + 256 * (p4 + 256 * (p5 + 256 * (p6 + 256 * (p7 + 256 * 0)))))))) (hz1 : z1 = y + y / 256) (hz2 : z2 = z1 + z1 / 65536) (hz3 : z3 = z2 + z2 / 4294967296) : z3 % 128 = p0 + p1 + p2 + p3 + (p4 + p5 + p6 + p7) := by
  obtain ⟨Y7, e7⟩ : ∃ Y, Y = p7 + 256 * 0 := ⟨_, rfl⟩
  rw [← e7] at hy
  obtain ⟨Y6, e6⟩ : ∃ Y, Y = p6 + 256 * Y7 := ⟨_, rfl⟩
  rw [← e6] at hy
  obtain ⟨Y5, e5⟩ : ∃ Y, Y = p5 + 256 * Y6 := ⟨_, rfl⟩
  rw [← e5] at hy
  obtain ⟨Y4, e4⟩ : ∃ Y, Y = p4 + 256 * Y5 := ⟨_, rfl⟩
  rw [← e4] at hy
  obtain ⟨Y3, e3⟩ : ∃ Y, Y = p3 + 256 * Y4 := ⟨_, rfl⟩
  rw [← e3] at hy
  obtain ⟨Y2, e2⟩ : ∃ Y, Y = p2 + 256 * Y3 := ⟨_, rfl⟩
  rw [← e2] at hy
  obtain ⟨Y1, e1⟩ : ∃ Y, Y = p1 + 256 * Y2 := ⟨_, rfl⟩
  rw [← e1] at hy
  have Z0 := bc_R1 hy e1
  have Z1 := bc_R1 e1 e2
  have Z2 := bc_R1 e2 e3
  have Z3 := bc_R1 e3 e4
  have Z4 := bc_R1 e4 e5
  have Z5 := bc_R1 e5 e6
  have Z6 := bc_R1 e6 e7
  have Z7 : Y7 + 0 = (p7 + 0) + 256 * (0 + 0) := by rw [e7]
  rw [bc_v1 hy (bc_s1 h0)] at hz1
  rw [← hz1] at Z0
  rw [bc_v2 Z0 Z1 (bc_s2 h0 h1) (bc_s2 h1 h2)] at hz2
  have W0 := bc_R2 Z0 Z2
  have W1 := bc_R2 Z1 Z3
  have W2 := bc_R2 Z2 Z4
  have W3 := bc_R2 Z3 Z5
  have W4 := bc_R2 Z4 Z6
  rw [← hz2] at W0
  have d1 := bc_v2 W0 W1 (bc_s4 h0 h1 h2 h3) (bc_s4 h1 h2 h3 h4)
  have d2 := bc_v2 W2 W3 (bc_s4 h2 h3 h4 h5) (bc_s4 h3 h4 h5 h6)
  rw [bc_v4 (a := 0) (b := 0) d1 d2] at hz3
  have X0 := bc_R2 W0 W4
  rw [← hz3] at X0
  rw [bc_md X0 (bc_s8 h0 h1 h2 h3 h4 h5 h6 h7), bc_as]
theorem lC_le : ∀ n x, lC n x ≤ 8 * M8 1 n
  | 0, x => by
    rw [lC_0]
    exact Nat.zero_le _
  | n + 1, x => by
    rw [lC_s]
    have h1 := lC_le n (x / 256)
    have h2 := (bc_d3 (x % 256) (Nat.mod_lt _ (by decide))).2.2.2
    show c8 (x % 256) + 256 * lC n (x / 256) ≤ 8 * (1 + 256 * M8 1 n)
    omega
theorem lB_le : ∀ n x, lB n x ≤ 68 * M8 1 n
  | 0, x => by
    unfold lB M8
    rw [Nat.and_zero, Nat.and_zero]
    exact Nat.zero_le _
  | n + 1, x => by
    rw [lB_s]
    have h1 := lB_le n (x / 256)
    have h2 := (bc_d3 (x % 256) (Nat.mod_lt _ (by decide))).2.1
    show b8 (x % 256) + 256 * lB n (x / 256) ≤ 68 * (1 + 256 * M8 1 n)
    omega
theorem bc_fin {a n : Nat} (h : a % 128 = n) (hn : n ≤ 64) : a % 2 ^ 32 % 2 ^ 7 = n % 2 ^ 32 := by omega
theorem bitCount_eq (x : Int64) : f_J13_bitCount_95d88 x = some (nI (cnt (mk x) 64)) := by
  rw [bc_form]
  have hx := iN_lt x
  have c85 : iN (6148914691236517205 : Int64) = M8 85 8 := by decide +kernel
  have c51 : iN (3689348814741910323 : Int64) = M8 51 8 := by decide +kernel
  have c15 : iN (1085102592571150095 : Int64) = M8 15 8 := by decide +kernel
  have m1 : M8 1 8 = 72340172838076673 := by decide +kernel
  have hA : iN (bY1 x) = lA 8 (iN x) := by
    unfold bY1 lA
    have hle : (iN x / 2 &&& M8 85 8) ≤ iN x / 2 := Nat.and_le_left
    rw [iN_sub (by rw [iN_and, iN_sh1 x, c85]; omega), iN_and, iN_sh1 x, c85]
  have hA' : lA 8 (iN x) ≤ iN x := Nat.sub_le _ _
  have hB : iN (bY2 (bY1 x)) = lB 8 (iN x) := by
    have hb := lB_le 8 (iN x)
    rw [m1] at hb
    unfold lB at hb
    have e1 : iN (bY1 x &&& (3689348814741910323 : Int64)) = lA 8 (iN x) &&& M8 51 8 := by rw [iN_and, hA, c51]
    have e2 : iN ((((bY1 x).toUInt64 >>> ((2 : Int32).toInt64.toUInt64 &&& Int64.toUInt64 63)).toInt64) &&& (3689348814741910323 : Int64)) = lA 8 (iN x) / 4 &&& M8 51 8 := by rw [iN_and, iN_sh2, hA, c51]
    unfold bY2 lB
    rw [iN_add (by rw [e1, e2]; omega), e1, e2]
  have hC : iN (bY3 (bY2 (bY1 x))) = lC 8 (iN x) := by
    have hb := lB_le 8 (iN x)
    rw [m1] at hb
    unfold bY3 lC
    have e2 : iN (((bY2 (bY1 x)).toUInt64 >>> ((4 : Int32).toInt64.toUInt64 &&& Int64.toUInt64 63)).toInt64) = lB 8 (iN x) / 16 := by rw [iN_sh4, hB]
    rw [iN_and, iN_add (by rw [hB, e2]; omega), hB, e2, c15]
  have hc8 := lC_le 8 (iN x)
  rw [m1] at hc8
  have z1 : iN (bZ 8 (bY3 (bY2 (bY1 x)))) = lC 8 (iN x) + lC 8 (iN x) / 256 := by
    unfold bZ
    have e2 : iN (((bY3 (bY2 (bY1 x))).toUInt64 >>> ((8 : Int32).toInt64.toUInt64 &&& Int64.toUInt64 63)).toInt64) = lC 8 (iN x) / 256 := by rw [iN_sh8, hC]
    rw [iN_add (by rw [hC, e2]; omega), hC, e2]
  have z2 : iN (bZ 16 (bZ 8 (bY3 (bY2 (bY1 x))))) = iN (bZ 8 (bY3 (bY2 (bY1 x)))) + iN (bZ 8 (bY3 (bY2 (bY1 x)))) / 65536 := by
    generalize bZ 8 (bY3 (bY2 (bY1 x))) = w at z1 ⊢
    unfold bZ
    have e2 : iN ((w.toUInt64 >>> ((16 : Int32).toInt64.toUInt64 &&& Int64.toUInt64 63)).toInt64) = iN w / 65536 := iN_sh16 w
    rw [iN_add (by rw [e2, z1]; omega), e2]
  have z3 : iN (bZ 32 (bZ 16 (bZ 8 (bY3 (bY2 (bY1 x)))))) = iN (bZ 16 (bZ 8 (bY3 (bY2 (bY1 x))))) + iN (bZ 16 (bZ 8 (bY3 (bY2 (bY1 x))))) / 4294967296 := by
    rw [z1] at z2
    generalize bZ 16 (bZ 8 (bY3 (bY2 (bY1 x)))) = w at z2 ⊢
    unfold bZ
    have e2 : iN ((w.toUInt64 >>> ((32 : Int32).toInt64.toUInt64 &&& Int64.toUInt64 63)).toInt64) = iN w / 4294967296 := iN_sh32 w
    rw [iN_add (by rw [e2, z2]; omega), e2]
  have hlc : lC 8 (iN x) = c8 (iN x % 256) + 256 * (c8 (iN x / 256 % 256) + 256 * (c8 (iN x / 256 / 256 % 256) + 256 * (c8 (iN x / 256 / 256 / 256 % 256) + 256 * (c8 (iN x / 256 / 256 / 256 / 256 % 256) + 256 * (c8 (iN x / 256 / 256 / 256 / 256 / 256 % 256) + 256 * (c8 (iN x / 256 / 256 / 256 / 256 / 256 / 256 % 256) + 256 * (c8 (iN x / 256 / 256 / 256 / 256 / 256 / 256 / 256 % 256) + 256 * 0))))))) := by
    rw [lC_s, lC_s, lC_s, lC_s, lC_s, lC_s, lC_s, lC_s, lC_0]
  have hcn : cnt (mk x) 64 = c8 (iN x % 256) + (c8 (iN x / 256 % 256) + (c8 (iN x / 256 / 256 % 256) + (c8 (iN x / 256 / 256 / 256 % 256) + (c8 (iN x / 256 / 256 / 256 / 256 % 256) + (c8 (iN x / 256 / 256 / 256 / 256 / 256 % 256) + (c8 (iN x / 256 / 256 / 256 / 256 / 256 / 256 % 256) + (c8 (iN x / 256 / 256 / 256 / 256 / 256 / 256 / 256 % 256) + 0))))))) := by
    have e : cnt (mk x) 64 = cnt (iN x).testBit (8 * (7 + 1)) := rfl
    rw [e, cnt_s, cnt_s 6, cnt_s 5, cnt_s 4, cnt_s 3, cnt_s 2, cnt_s 1, cnt_s 0]
    rfl
  have hle : ∀ v, c8 (v % 256) ≤ 8 := fun v => (bc_d3 (v % 256) (Nat.mod_lt _ (by decide))).2.2.2
  have hs := bc_sum (hle _) (hle _) (hle _) (hle _) (hle _) (hle _) (hle _) (hle _) hlc z1 z2 z3
  have hcn2 : iN (bZ 32 (bZ 16 (bZ 8 (bY3 (bY2 (bY1 x)))))) % 128 = cnt (mk x) 64 := by
    rw [hs, hcn]
    simp only [Nat.add_assoc, Nat.add_zero]
  have hc64 := cnt_le (mk x) 64
  generalize bZ 32 (bZ 16 (bZ 8 (bY3 (bY2 (bY1 x))))) = w at hcn2 ⊢
  congr 1
  rw [← Int32.toBitVec_inj]
  apply BitVec.eq_of_toNat_eq
  rw [Int32.toBitVec_and, BitVec.toNat_and, Int64.toBitVec_toInt32, BitVec.signExtend_eq_setWidth_of_le _ (by decide), BitVec.toNat_setWidth]
  have e127 : ((127 : Int32).toBitVec.toNat) = 2 ^ 7 - 1 := rfl
  rw [e127, Nat.and_two_pow_sub_one_eq_mod]
  have eN : (nI (cnt (mk x) 64)).toBitVec.toNat = cnt (mk x) 64 % 2 ^ 32 := rfl
  rw [eN]
  exact bc_fin hcn2 hc64

