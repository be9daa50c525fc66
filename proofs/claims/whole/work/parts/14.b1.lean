/-! bitCount counts -/
def M8 (c : Nat) : Nat → Nat
  | 0 => 0
  | n + 1 => c + 256 * M8 c n
theorem land_lane {c m x : Nat} (hc : c < 256) : x &&& (c + 256 * m) = (x % 256 &&& c) + 256 * (x / 256 &&& m) := by
  have h1 : (x &&& (c + 256 * m)) % 2 ^ 8 = (x % 2 ^ 8) &&& ((c + 256 * m) % 2 ^ 8) := Nat.and_mod_two_pow
  have h2 : (x &&& (c + 256 * m)) / 2 ^ 8 = (x / 2 ^ 8) &&& ((c + 256 * m) / 2 ^ 8) := Nat.and_div_two_pow
  rw [show (c + 256 * m) % 2 ^ 8 = c by omega] at h1
  rw [show (c + 256 * m) / 2 ^ 8 = m by omega] at h2
  have h3 : (2 : Nat) ^ 8 = 256 := rfl
  rw [h3] at h1 h2
  rw [← h1, ← h2]
  omega
def a8 (v : Nat) : Nat := v - (v / 2 &&& 85)
def b8 (v : Nat) : Nat := (a8 v &&& 51) + (a8 v / 4 &&& 51)
def c8 (v : Nat) : Nat := (b8 v + b8 v / 16) &&& 15
def lA (n x : Nat) : Nat := x - (x / 2 &&& M8 85 n)
def lB (n x : Nat) : Nat := (lA n x &&& M8 51 n) + (lA n x / 4 &&& M8 51 n)
def lC (n x : Nat) : Nat := (lB n x + lB n x / 16) &&& M8 15 n
theorem bc_d1 : ∀ v, v < 256 → ∀ t, t < 2 → (v / 2 + 128 * t) &&& 85 = v / 2 &&& 85 ∧ (v / 2 &&& 85) ≤ v := by decide +kernel
theorem bc_d2 : ∀ a, a < 256 → ∀ t, t < 4 → (a / 4 + 64 * t) &&& 51 = a / 4 &&& 51 := by decide +kernel
theorem bc_d3 : ∀ v, v < 256 → a8 v < 256 ∧ b8 v ≤ 68 ∧ b8 v % 16 ≤ 4 ∧ c8 v ≤ 8 := by decide +kernel
theorem bc_d4 : ∀ b, b < 69 → ∀ t, t < 5 → (b + b / 16 + 16 * t) &&& 15 = (b + b / 16) &&& 15 := by decide +kernel
theorem lA_s (n x : Nat) : lA (n + 1) x = a8 (x % 256) + 256 * lA n (x / 256) := by
  have hv : x % 256 < 256 := Nat.mod_lt _ (by decide)
  obtain ⟨d1, d2⟩ := bc_d1 (x % 256) hv (x / 256 % 2) (Nat.mod_lt _ (by decide))
  have hle : (x / 256 / 2 &&& M8 85 n) ≤ x / 256 / 2 := Nat.and_le_left
  unfold lA a8
  show x - (x / 2 &&& (85 + 256 * M8 85 n)) = _
  rw [land_lane (by decide), show x / 2 % 256 = x % 256 / 2 + 128 * (x / 256 % 2) by omega, d1, show x / 2 / 256 = x / 256 / 2 by omega]
  omega
theorem lB_s (n x : Nat) : lB (n + 1) x = b8 (x % 256) + 256 * lB n (x / 256) := by
  have hv : x % 256 < 256 := Nat.mod_lt _ (by decide)
  have ha := (bc_d3 (x % 256) hv).1
  unfold lB b8
  rw [lA_s]
  generalize lA n (x / 256) = A
  generalize a8 (x % 256) = a at ha ⊢
  show ((a + 256 * A) &&& (51 + 256 * M8 51 n)) + ((a + 256 * A) / 4 &&& (51 + 256 * M8 51 n)) = _
  rw [land_lane (by decide), land_lane (by decide), show (a + 256 * A) % 256 = a by omega, show (a + 256 * A) / 256 = A by omega, show (a + 256 * A) / 4 % 256 = a / 4 + 64 * (A % 4) by omega, show (a + 256 * A) / 4 / 256 = A / 4 by omega, bc_d2 a ha (A % 4) (Nat.mod_lt _ (by decide))]
  omega
theorem lB_m (n x : Nat) : lB n x % 16 ≤ 4 := by
  cases n with
  | zero =>
    unfold lB M8
    rw [Nat.and_zero, Nat.and_zero]
    decide
  | succ n =>
    rw [lB_s]
    have := (bc_d3 (x % 256) (Nat.mod_lt _ (by decide))).2.2.1
    omega
theorem lC_s (n x : Nat) : lC (n + 1) x = c8 (x % 256) + 256 * lC n (x / 256) := by
  have hv : x % 256 < 256 := Nat.mod_lt _ (by decide)
  have hb := (bc_d3 (x % 256) hv).2.1
  have hm := lB_m n (x / 256)
  unfold lC c8
  rw [lB_s]
  generalize lB n (x / 256) = B at hm ⊢
  generalize b8 (x % 256) = b at hb ⊢
  show ((b + 256 * B) + (b + 256 * B) / 16 &&& (15 + 256 * M8 15 n)) = _
  rw [land_lane (by decide), show ((b + 256 * B) + (b + 256 * B) / 16) % 256 = b + b / 16 + 16 * (B % 16) by omega, show ((b + 256 * B) + (b + 256 * B) / 16) / 256 = B + B / 16 by omega, bc_d4 b (by omega) (B % 16) (by omega)]
theorem lC_0 (x : Nat) : lC 0 x = 0 := by
  unfold lC M8
  rw [Nat.and_zero]
theorem cnt_b8 : ∀ v, v < 256 → cnt v.testBit 8 = c8 v := by decide +kernel
theorem cnt_s (n X : Nat) : cnt X.testBit (8 * (n + 1)) = c8 (X % 256) + cnt (X / 256).testBit (8 * n) := by
  rw [show 8 * (n + 1) = 8 + 8 * n by omega, cnt_add, ← cnt_b8 _ (Nat.mod_lt _ (by decide))]
  congr 1
  · refine cnt_congr 8 (fun q hq => ?_)
    have := Nat.testBit_mod_two_pow X 8 q
    rw [show (2 : Nat) ^ 8 = 256 from rfl, decide_eq_true hq, Bool.true_and] at this
    exact this.symm
  · refine cnt_congr _ (fun q hq => ?_)
    have := Nat.testBit_div_two_pow (n := 8) X q
    rw [show (2 : Nat) ^ 8 = 256 from rfl, Nat.add_comm] at this
    exact this.symm
