/-! bitCount counts -/
theorem cnt_add (h : Nat → Bool) (a : Nat) : ∀ n, cnt h (a + n) = cnt h a + cnt (fun j => h (a + j)) n
  | 0 => rfl
  | n + 1 => by
    show cnt h (a + n) + (if h (a + n) = true then 1 else 0) = cnt h a + (cnt (fun j => h (a + j)) n + (if h (a + n) = true then 1 else 0))
    rw [cnt_add h a n, Nat.add_assoc]
theorem bitCount_eq (x : Int64) : f_J13_bitCount_95d88 x = some (nI (cnt (mk x) 64)) := sorry
