/-! A STEP AT A PLACE, by value -/
theorem Er.zero {D : Nat} {z : Int} (hD : 0 < D) (h : Er D z 0) : z = 0 := by
  obtain ⟨h1, h2⟩ := h
  have hD' : (1 : Int) ≤ (D : Int) := by omega
  have e1 : (D : Int) * z < (D : Int) := by simp at h1; omega
  have e2 : -(D : Int) < (D : Int) * z := by simp at h2; omega
  rcases Int.lt_trichotomy z 0 with h | h | h
  · have : (D : Int) * z ≤ (D : Int) * (-1) := Int.mul_le_mul_of_nonneg_left (by omega) (by omega)
    omega
  · exact h
  · have : (D : Int) * 1 ≤ (D : Int) * z := Int.mul_le_mul_of_nonneg_left (by omega) (by omega)
    omega
theorem fl_nn {a : UInt32} {s : Bool} {x : Int} (h : fl a s x) : wx_nn a = true := by
  obtain ⟨c, q, h1, -⟩ := h
  have : FP.Core.val32 a ≠ .nan := by rw [h1]; exact fun h => by cases h
  have h2 := (FP.Core.ne_nan32 a).mp this
  unfold wx_nn
  rw [decide_eq_true_eq, UInt32.le_iff_toNat_le, UInt32.toNat_and]
  have e : (0x7fffffff : UInt32).toNat = 2 ^ 31 - 1 := rfl
  rw [e, Nat.and_two_pow_sub_one_eq_mod]
  exact h2
/-- what one neighbour gives: off the exact S (N - W) / 100 -/
theorem fl_part {n w sp : UInt32} {N W : Int} {S : Nat} (hn : fl n false N) (hw : fl w false W) (hN : 0 ≤ N) (hW : 0 ≤ W) (hN2 : N ≤ 2 ^ 180) (hW2 : W ≤ 2 ^ 180) (hsp : flW sp S) (hS : S ≤ 24) :
    ∃ s0 d s1 m q, fl (FP.fsub n w) s0 d ∧ fl (FP.fmul (FP.fsub n w) sp) s1 m ∧ fl (FP.fdiv (FP.fmul (FP.fsub n w) sp) 1120403456) s1 q ∧
      2 ^ 22 * (100 * q - (S : Int) * (N - W)) ≤ (S : Int) * (N + W) + 2 ^ 28 ∧ 2 ^ 22 * ((S : Int) * (N - W) - 100 * q) ≤ (S : Int) * (N + W) + 2 ^ 28 ∧ ((S : Int) * (N - W) = 0 → q = 0) := by
  have p180 : (2 : Int) ^ 180 = 1532495540865888858358347027150309183618739122183602176 := by decide
  have p200 : (2 : Nat) ^ 200 = 1606938044258990275541962092341162602522202993782792835301376 := by decide
  obtain ⟨d, hd, ed⟩ := fl_sub hn hw (by rw [p200]; rw [p180] at hN2 hW2; omega)
  have hS' : (0 : Int) ≤ (S : Int) ∧ (S : Int) ≤ 24 := by omega
  have ed' := ed
  unfold Er at ed
  have bd : -(2 ^ 181 : Int) ≤ d ∧ d ≤ 2 ^ 181 := by
    have p181 : (2 : Int) ^ 181 = 3064991081731777716716694054300618367237478244367204352 := by decide
    rw [p181]; rw [p180] at hN2 hW2
    omega
  have bdS : ((d * S).natAbs : Int) ≤ 24 * (d.natAbs : Int) := by
    rw [Int.natAbs_mul, Int.natAbs_natCast]
    have : d.natAbs * S ≤ d.natAbs * 24 := Nat.mul_le_mul_left _ hS
    omega
  obtain ⟨m, hm, em⟩ := fl_mul hd hsp (by
    have p181 : (2 : Int) ^ 181 = 3064991081731777716716694054300618367237478244367204352 := by decide
    rw [p200]; rw [p181] at bd; omega)
  have em' := em
  unfold Er at em
  obtain ⟨q, hq, eq⟩ := fl_div hm (by
    have p181 : (2 : Int) ^ 181 = 3064991081731777716716694054300618367237478244367204352 := by decide
    rw [p200]; rw [p181] at bd; omega)
  have eq' := eq
  unfold Er at eq
  -- S times the first error
  have f1 : 2 ^ 24 * (d * S - (S : Int) * (N - W)) ≤ (S : Int) * (N + W) + 2 ^ 23 * 24 := by
    have h := ed.1
    have hh : (2 ^ 24 * (d - (N - W))) * (S : Int) ≤ ((N + W) + 2 ^ 23) * (S : Int) := Int.mul_le_mul_of_nonneg_right (by omega) hS'.1
    have e1 : (2 ^ 24 * (d - (N - W))) * (S : Int) = 2 ^ 24 * (d * S - (S : Int) * (N - W)) := by
      rw [Int.mul_assoc, Int.sub_mul, Int.mul_comm (N - W)]
    have e2 : ((N + W) + 2 ^ 23) * (S : Int) = (S : Int) * (N + W) + 2 ^ 23 * S := by rw [Int.add_mul, Int.mul_comm (N + W)]
    omega
  have f2 : 2 ^ 24 * ((S : Int) * (N - W) - d * S) ≤ (S : Int) * (N + W) + 2 ^ 23 * 24 := by
    have h := ed.2
    have hh : (2 ^ 24 * ((N - W) - d)) * (S : Int) ≤ ((N + W) + 2 ^ 23) * (S : Int) := Int.mul_le_mul_of_nonneg_right (by omega) hS'.1
    have e1 : (2 ^ 24 * ((N - W) - d)) * (S : Int) = 2 ^ 24 * ((S : Int) * (N - W) - d * S) := by
      rw [Int.mul_assoc, Int.sub_mul, Int.mul_comm (N - W)]
    have e2 : ((N + W) + 2 ^ 23) * (S : Int) = (S : Int) * (N + W) + 2 ^ 23 * S := by rw [Int.add_mul, Int.mul_comm (N + W)]
    omega
  have f3 : ((S : Int) * (N - W)) ≤ (S : Int) * (N + W) := Int.mul_le_mul_of_nonneg_left (by omega) hS'.1
  have f4 : -((S : Int) * (N - W)) ≤ (S : Int) * (N + W) := by
    rw [← Int.mul_neg]
    exact Int.mul_le_mul_of_nonneg_left (by omega) hS'.1
  refine ⟨_, d, _, m, q, hd, hm, hq, ?_, ?_, ?_⟩
  · generalize (S : Int) * (N - W) = E at *
    generalize (S : Int) * (N + W) = A at *
    generalize d * (S : Int) = D at *
    omega
  · generalize (S : Int) * (N - W) = E at *
    generalize (S : Int) * (N + W) = A at *
    generalize d * (S : Int) = D at *
    omega
  · intro h0
    have hdS : d * (S : Int) = 0 := by
      rcases Int.mul_eq_zero.mp h0 with h | h
      · rw [h, Int.mul_zero]
      · rw [h] at ed'
        rw [Er.zero (by decide) ed', Int.zero_mul]
    rw [hdS] at em'
    have hm0 := Er.zero (by decide) em'
    rw [hm0] at eq'
    exact Er.zero (by decide) eq'

