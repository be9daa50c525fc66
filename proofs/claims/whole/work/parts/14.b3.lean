theorem bc_R1 {p q A B Y : Nat} (hA : A = p + 256 * B) (hB : B = q + 256 * Y) : A + B = (p + q) + 256 * (B + Y) := by omega
theorem bc_R2 {a b A B A' B' : Nat} (hA : A = a + 256 * A') (hB : B = b + 256 * B') : A + B = (a + b) + 256 * (A' + B') := by omega
theorem bc_v1 {y p Y : Nat} (h : y = p + 256 * Y) (hp : p < 256) : y / 256 = Y := by omega
theorem bc_v2 {z a b Z Z' : Nat} (h : z = a + 256 * Z') (h' : Z' = b + 256 * Z) (ha : a < 256) (hb : b < 256) : z / 65536 = Z := by
  rw [show (65536 : Nat) = 256 * 256 from rfl, ← Nat.div_div_eq_div_mul, bc_v1 h ha, bc_v1 h' hb]
theorem bc_v4 {z a b Z Z' : Nat} (h : z / 65536 = Z') (h1 : Z' / 65536 = Z) : z / 4294967296 = Z := by
  rw [show (4294967296 : Nat) = 65536 * 65536 from rfl, ← Nat.div_div_eq_div_mul, h, h1]
theorem bc_md {z s W : Nat} (h : z = s + 256 * W) (hs : s < 128) : z % 128 = s := by omega
theorem bc_s1 {a : Nat} (h : a ≤ 8) : a < 256 := by omega
theorem bc_s2 {a b : Nat} (h : a ≤ 8) (h' : b ≤ 8) : a + b < 256 := by omega
theorem bc_s4 {a b c d : Nat} (h : a ≤ 8) (h' : b ≤ 8) (h'' : c ≤ 8) (h''' : d ≤ 8) : (a + b) + (c + d) < 256 := by omega
theorem bc_s8 {p0 p1 p2 p3 p4 p5 p6 p7 : Nat} (h0 : p0 ≤ 8) (h1 : p1 ≤ 8) (h2 : p2 ≤ 8) (h3 : p3 ≤ 8) (h4 : p4 ≤ 8) (h5 : p5 ≤ 8) (h6 : p6 ≤ 8) (h7 : p7 ≤ 8) : p0 + p1 + (p2 + p3) + (p4 + p5 + (p6 + p7)) < 128 := by omega
theorem bc_as (p0 p1 p2 p3 p4 p5 p6 p7 : Nat) : p0 + p1 + (p2 + p3) + (p4 + p5 + (p6 + p7)) = p0 + p1 + p2 + p3 + (p4 + p5 + p6 + p7) := by omega
theorem bc_sum {p0 p1 p2 p3 p4 p5 p6 p7 y z1 z2 z3 : Nat} (h0 : p0 ≤ 8) (h1 : p1 ≤ 8) (h2 : p2 ≤ 8) (h3 : p3 ≤ 8) (h4 : p4 ≤ 8) (h5 : p5 ≤ 8) (h6 : p6 ≤ 8) (h7 : p7 ≤ 8)
    (hy : y = p0 + 256 * (p1 + 256 * (p2 + 256 * (p3 + 256 * (p4 + 256 * (p5 + 256 * (p6 + 256 * (p7 + 256 * 0)))))))) (hz1 : z1 = y + y / 256) (hz2 : z2 = z1 + z1 / 65536) (hz3 : z3 = z2 + z2 / 4294967296) : z3 % 128 = p0 + p1 + p2 + p3 + (p4 + p5 + p6 + p7) := by
  obtain ⟨Y7, e7⟩ : ∃ Y, Y = p7 + 256 * 0 := ⟨_, rfl⟩
  rw [← e7] at hy
  obtain ⟨Y6, e6⟩ : ∃ Y, Y = p6 + 256 * Y7 := ⟨_, rfl⟩
  rw [← e6] at hy
  obtain ⟨Y5, e5⟩ : ∃ Y, Y = p5 + 256 * Y6 := ⟨_, rfl⟩
  rw [← e5] at hy
  obtain ⟨Y4, e4⟩ : ∃ Y, Y = p4 + 256 * Y5 := ⟨_, rfl⟩
  rw [← e4] at hy
  obtain ⟨Y3, e3⟩ : ∃ Y, Y = p3 + 256 * Y4 := ⟨_, rfl⟩
  rw [← e3] at hy
  obtain ⟨Y2, e2⟩ : ∃ Y, Y = p2 + 256 * Y3 := ⟨_, rfl⟩
  rw [← e2] at hy
  obtain ⟨Y1, e1⟩ : ∃ Y, Y = p1 + 256 * Y2 := ⟨_, rfl⟩
  rw [← e1] at hy
  have Z0 := bc_R1 hy e1
  have Z1 := bc_R1 e1 e2
  have Z2 := bc_R1 e2 e3
  have Z3 := bc_R1 e3 e4
  have Z4 := bc_R1 e4 e5
  have Z5 := bc_R1 e5 e6
  have Z6 := bc_R1 e6 e7
  have Z7 : Y7 + 0 = (p7 + 0) + 256 * (0 + 0) := by rw [e7]
  rw [bc_v1 hy (bc_s1 h0)] at hz1
  rw [← hz1] at Z0
  rw [bc_v2 Z0 Z1 (bc_s2 h0 h1) (bc_s2 h1 h2)] at hz2
  have W0 := bc_R2 Z0 Z2
  have W1 := bc_R2 Z1 Z3
  have W2 := bc_R2 Z2 Z4
  have W3 := bc_R2 Z3 Z5
  have W4 := bc_R2 Z4 Z6
  rw [← hz2] at W0
  have d1 := bc_v2 W0 W1 (bc_s4 h0 h1 h2 h3) (bc_s4 h1 h2 h3 h4)
  have d2 := bc_v2 W2 W3 (bc_s4 h2 h3 h4 h5) (bc_s4 h3 h4 h5 h6)
  rw [bc_v4 (a := 0) (b := 0) d1 d2] at hz3
  have X0 := bc_R2 W0 W4
  rw [← hz3] at X0
  rw [bc_md X0 (bc_s8 h0 h1 h2 h3 h4 h5 h6 h7), bc_as]
