/-! the beginning of the loop -/
theorem v0_4 {i : Nat} (h : 4 ≤ i) : wx_v0.getD i 0 = 0 := by
  match i, h with
  | 0, h => omega
  | 1, h => omega
  | 2, h => omega
  | 3, h => omega
  | i + 4, _ => rfl
def b00 : Bd := (fun i => if i = 0 then 15 else if i = 1 then 5 else if i = 2 then 20 else 3, fun _ => 0, fun _ => 0, 0, fun _ => 0, fun _ => 0, 0, 0, fun _ => 0, fun _ => 0, fun _ => 0)
theorem b00_good : good b00 := ⟨⟨by decide, by decide, by decide, by decide, by decide⟩, fun _ _ => (by decide : 0 < 8), ⟨rfl, fun _ _ => ⟨(by decide : 0 < 256), Nat.zero_testBit _, Nat.zero_testBit _⟩⟩, Nat.zero_le _, fun i hi => absurd hi (Nat.not_lt_zero _), fun i j hi => absurd hi (Nat.not_lt_zero _), Nat.zero_le _, Nat.zero_le _, fun i hi => absurd hi (Nat.not_lt_zero _)⟩
theorem wx0_I (o k i : Nat) : wx_0.1 o k i = if k = 0 ∧ (o < 11 ∨ o = 16) then wx_v0.getD i 0 else 0 := rfl
theorem b00_S : ∀ i, i < 4 → wx_v0.getD i 0 = nI (bS b00 i) := by decide +kernel
theorem ic_0 : IC b00 wx_0 := by
  refine ⟨0, fun _ => b00, fun _ => false, fun _ => b00, 0, fun _ => 0, ⟨b00_good, by decide, fun j hj => absurd hj (Nat.not_lt_zero _), fun _ _ h => (by cases h), by decide, fun _ _ => rfl⟩, ⟨⟨fun i hi => ?_, fun p hp => ?_, fun n hn => ?_, rfl, fun i hi => absurd hi (Nat.not_lt_zero _), rfl, rfl, fun i hi => absurd hi (Nat.not_lt_zero _)⟩, fun p hp => ?_⟩, ⟨rfl, fun j hj => hj, fun i j _ _ e => e, fun j hj => absurd hj (Nat.not_lt_zero _)⟩, fun s hs => ⟨?_, fun h => (by cases h)⟩, ⟨rfl, fun j hj => absurd hj (Nat.not_lt_zero _)⟩, 0, 0, 0, fun _ => 0, ⟨by decide, by decide, by decide⟩, ?_, ?_, ?_, fun j hj => ⟨Nat.zero_le _, ?_, fun _ => rfl, fun h => (by cases h)⟩⟩
  · rw [wx0_I, if_pos (by decide)]
    exact b00_S i hi
  · rw [wx0_I, if_neg (by omega)]
    rfl
  · rw [wx0_I, if_neg (by omega)]
    rfl
  · rw [bWarm_0 rfl]
    rfl
  · rw [wx0_I, if_neg (by omega)]
    rfl
  · rw [wx0_I, if_neg (by omega)]
    rfl
  · rw [wx0_I, if_neg (by omega)]
    rfl
  · rw [wx0_I, if_neg (by omega)]
    rfl
  · rw [wx0_I, if_neg (by omega)]
    rfl
theorem li_0 : LI 0 (-1) b00 wx_0 := by
  refine ⟨ic_0, ⟨⟨fun i hi => ?_, ?_, ?_, ?_⟩, fun i hi => absurd hi (Nat.not_lt_zero _), fun i hi => absurd hi (Nat.not_lt_zero _), fun p hp => ?_, fun n hn => ?_⟩, fun i hi => ?_, CO.new rfl⟩
  · rw [wx0_I, if_pos (by decide)]
    exact b00_S i hi
  · rw [wx0_I, if_pos (by decide), v0_4 (by omega)]
    rfl
  · rw [wx0_I, if_pos (by decide), v0_4 (by omega)]
    rfl
  · rw [wx0_I, if_pos (by decide), v0_4 (by omega)]
    rfl
  · rw [wx0_I, if_neg (by omega)]
    rfl
  · rw [wx0_I, if_neg (by omega)]
    rfl
  · show false = decide (i < 0)
    rw [decide_eq_false (Nat.not_lt_zero i)]
theorem law_ok {ad : Nat → Nat → Nat} {L : Nat} (hL : L ≤ 260) (h : ad 18 1 = L) : ∃ τ, f_L_law_62 ad 2000 (-1 : Int64) 0 wx_0 = some ((1 : Int32), τ) :=
  turns_ok (ad := ad) (by omega) 34 0 2000 (by decide) (by decide) (-1) b00 wx_0 li_0
