/-! counts on both sides: live touches, tracks, suspects, the warmest; columns; sums of warmth -/
theorem mul8 : ∀ P, P < 64 → (8 : Int32) * nI P = nI (8 * P) := by decide +kernel
theorem cnt_ins {h : Nat → Bool} {x : Nat} (hx : h x = false) : ∀ N, x < N → cnt (fun p => h p || decide (p = x)) N = cnt h N + 1
  | 0, hN => absurd hN (Nat.not_lt_zero _)
  | N + 1, hN => by
    show cnt (fun p => h p || decide (p = x)) N + (if (h N || decide (N = x)) = true then 1 else 0) = cnt h N + (if h N = true then 1 else 0) + 1
    by_cases he : N = x
    · subst he
      rw [hx, decide_eq_true (show N = N from rfl), Bool.false_or, if_pos rfl, if_neg (by decide)]
      have : cnt (fun p => h p || decide (p = N)) N = cnt h N := cnt_congr N (fun q hq => by rw [decide_eq_false (by omega), Bool.or_false])
      rw [this]
    · rw [decide_eq_false he, Bool.or_false, cnt_ins hx N (by omega)]
      omega
theorem cnt_heatN {b : Bd} (g : good b) {N : Nat} (hN : N = 64) : ∀ n, n ≤ bT b → cnt (fun p => (List.range n).any (fun i => decide (bP b i = p) && live b i)) N = cnt (live b) n
  | 0, _ => cnt_0 N (fun q _ => rfl)
  | n + 1, hn => by
    have ih := cnt_heatN g hN n (by omega)
    have g1 := (g.2.2.2.2.1 n (by omega)).1
    show _ = cnt (live b) n + (if live b n = true then 1 else 0)
    cases hl : live b n with
    | false =>
      rw [if_neg (by decide), Nat.add_zero, ← ih]
      refine cnt_congr N (fun q _ => ?_)
      rw [List.range_succ, List.any_append]
      simp [hl]
    | true =>
      rw [if_pos rfl, ← ih, ← cnt_ins (x := bP b n) (h := fun p => (List.range n).any (fun i => decide (bP b i = p) && live b i)) ?_ N (by omega)]
      · refine cnt_congr N (fun q _ => ?_)
        rw [List.range_succ, List.any_append]
        congr 1
        simp [hl, eq_comm]
      · rw [List.any_eq_false]
        intro i hi
        have hi := List.mem_range.mp hi
        have : bP b i ≠ bP b n := fun he => by
          have := g.2.2.2.2.2.1 i n (by omega) (by omega) he
          omega
        simp [this]
theorem cnt_heat {b : Bd} (g : good b) (n : Nat) (h : n ≤ bT b) : cnt (fun p => (List.range n).any (fun i => decide (bP b i = p) && live b i)) 64 = cnt (live b) n := cnt_heatN g rfl n h
def wmt (f : Nat → UInt32) : Nat → Nat → Nat
  | 0, best => best
  | n + 1, best => wmt f n (if Op.cmpValue (FP.fcmp (f (63 - n)) (f best)) .l ≤ 0 then best else 63 - n)
theorem warmest5 {f : Nat → UInt32} {σ : wx_St} (hf : ∀ p, p < 64 → σ.2.1 7 7 p = f p) : ∀ (n i m best : Nat), i + n = 64 → n < m → best < 64 → f_X0_warmest_4 7 m (nI best) (nI i) σ = some (nI (wmt f n best)) := by
  intro n
  induction n with
  | zero =>
    intro i m best hi hm hb
    obtain ⟨m, rfl⟩ : ∃ k, m = k + 1 := ⟨m - 1, by omega⟩
    have hi : i = 64 := by omega
    subst hi
    rw [f_X0_warmest_4, if_pos (by decide)]
    rfl
  | succ n ih =>
    intro i m best hi hm hb
    obtain ⟨m, rfl⟩ : ∃ k, m = k + 1 := ⟨m - 1, by omega⟩
    have hi64 : i < 64 := by omega
    have e : 63 - n = i := by omega
    rw [f_X0_warmest_4, if_neg (p64_c i hi64).2.2.2.2, px_rF hi64 (by decide), px_rF hb (by decide), hf i hi64, hf best hb]
    unfold f_X0_warmest_28
    rw [nI_1]
    show _ = some (nI (wmt f n (if Op.cmpValue (FP.fcmp (f (63 - n)) (f best)) .l ≤ 0 then best else 63 - n)))
    rw [e]
    by_cases hc : Op.cmpValue (FP.fcmp (f i) (f best)) .l ≤ 0
    · rw [if_pos hc, if_pos hc]
      exact ih (i + 1) m best (by omega) (by omega) hb
    · rw [if_neg hc, if_neg hc]
      exact ih (i + 1) m i (by omega) (by omega) hi64
/-! columns of a row -/
def colF (h : Nat → Bool) (R : Nat) : Nat → Int32
  | 0 => 0
  | c + 1 => colF h R c ||| (b01 (h (8 * R + c)) <<< (nI c &&& 31))
theorem col_t : ∀ c : Bool, ∀ k, k < 8 → ∀ i, i < 32 → (b01 c <<< (nI k &&& 31)).toBitVec.getLsbD i = (c && decide (i = k)) := by decide +kernel
theorem colF_bit (h : Nat → Bool) (R : Nat) {i : Nat} (hi : i < 32) : ∀ n, n ≤ 8 → (colF h R n).toBitVec.getLsbD i = (decide (i < n) && h (8 * R + i))
  | 0, _ => by
    rw [decide_eq_false (Nat.not_lt_zero _)]
    show (0 : Int32).toBitVec.getLsbD i = false
    simp
  | n + 1, hn => by
    show (colF h R n ||| (b01 (h (8 * R + n)) <<< (nI n &&& 31))).toBitVec.getLsbD i = _
    rw [Int32.toBitVec_or, BitVec.getLsbD_or, colF_bit h R hi n (by omega), col_t _ n (by omega) i hi]
    by_cases he : i = n
    · subst he
      rw [decide_eq_true (show i = i from rfl), decide_eq_true (show i < i + 1 by omega), decide_eq_false (Nat.lt_irrefl i)]
      simp
    · rw [decide_eq_false he, Bool.and_false, Bool.or_false, show decide (i < n) = decide (i < n + 1) from decide_eq_decide.mpr (by omega)]
theorem col_255 : ∀ i, i < 64 → ((255 : Int64).toBitVec).getLsbD i = decide (i < 8) := by decide +kernel
theorem columnsOf5 {M : Int64} {h : Nat → Bool} (hM : ∀ p, p < 64 → mk M p = h p) {R : Nat} (hR : R < 8) : f_X5_columnsOf M (nI R) = some (colF h R 8) := by
  unfold f_X5_columnsOf
  congr 1
  rw [← Int32.toBitVec_inj]
  apply BitVec.eq_of_getLsbD_eq
  intro i hi
  have e : ((UInt64.ofNat (8 * R)).toBitVec % 64).toNat = 8 * R := by
    have : ∀ P, P < 64 → ((UInt64.ofNat P).toBitVec % 64).toNat = P := by decide +kernel
    exact this _ (by omega)
  have e2 : (M.toUInt64 >>> UInt64.ofNat (8 * R)).toBitVec = M.toBitVec >>> (8 * R) := by
    rw [UInt64.toBitVec_shiftRight]
    show M.toBitVec >>> ((UInt64.ofNat (8 * R)).toBitVec % 64) = _
    rw [BitVec.ushiftRight_eq', e]
  have e3 : ((M.toUInt64 >>> UInt64.ofNat (8 * R)).toInt64).toBitVec = M.toBitVec >>> (8 * R) := e2
  rw [mul8 R (by omega), mk_sh (8 * R) (by omega), Int64.toBitVec_toInt32, BitVec.signExtend_eq_setWidth_of_le _ (by decide), BitVec.getLsbD_setWidth, decide_eq_true hi, Bool.true_and, Int64.toBitVec_and, BitVec.getLsbD_and, e3, BitVec.getLsbD_ushiftRight, col_255 i (by omega), colF_bit h R hi 8 (Nat.le_refl _)]
  by_cases h8 : i < 8
  · rw [decide_eq_true h8, Bool.and_true, Bool.true_and]
    exact hM _ (by omega)
  · rw [decide_eq_false h8, Bool.and_false, Bool.false_and]
/-! sums of warmth -/
theorem fl_form' {a : UInt32} {z : Int} (h : fl a false z) (h0 : z = 0 ∨ 2 ^ 24 ≤ z) (h1 : z ≤ 2 ^ 172) : fn a 0 (-149) ∨ ∃ c q, fn a c q ∧ 2 ^ 23 ≤ c ∧ c < 2 ^ 24 ∧ -149 ≤ q ∧ q ≤ 0 := by
  obtain ⟨c, q, g1, g2⟩ := h
  have hf := FP.Core.val32_fits a
  rw [g1] at hf
  obtain ⟨f1, f2, -, f4⟩ := hf
  have f1 : c < 2 ^ 24 := f1
  have f2 : (-149 : Int) ≤ q := f2
  have f4 : q = -149 ∨ 2 ^ 23 ≤ c := f4
  have g2 : ((c * 2 ^ (q - -149).toNat : Nat) : Int) = z := g2
  rcases h0 with h0 | h0
  · left
    have hc : c * 2 ^ (q - -149).toNat = 0 := by omega
    have hc0 : c = 0 := by
      rcases Nat.mul_eq_zero.mp hc with h | h
      · exact h
      · exact absurd h (Nat.ne_of_gt (Nat.two_pow_pos _))
    subst hc0
    have : q = -149 := by rcases f4 with h | h; exact h; omega
    subst this
    exact g1
  · right
    have hge : 2 ^ 23 ≤ c := by
      rcases f4 with h | h
      · exfalso
        subst h
        rw [show (-149 - (-149 : Int)).toNat = 0 from rfl, Nat.pow_zero, Nat.mul_one] at g2
        omega
      · exact h
    refine ⟨c, q, g1, hge, f1, f2, ?_⟩
    by_cases hq : q ≤ 0
    · exact hq
    · exfalso
      have h2 : 2 ^ 150 ≤ 2 ^ (q - -149).toNat := Nat.pow_le_pow_right (by decide) (by omega)
      have h3 : 2 ^ 23 * 2 ^ 150 ≤ c * 2 ^ (q - -149).toNat := Nat.mul_le_mul hge h2
      have h4 : (2 : Nat) ^ 23 * 2 ^ 150 = 2 ^ 173 := by decide
      rw [h4] at h3
      have p1 : (2 : Int) ^ 172 < ((2 ^ 173 : Nat) : Int) := by decide
      omega
theorem bitsOfFloat_eq' {a : UInt32} {z : Int} (h : fl a false z) (h0 : z = 0 ∨ 2 ^ 24 ≤ z) (h1 : z ≤ 2 ^ 172) : f_X5_bitsOfFloat a = some a.toInt32 := by
  unfold f_X5_bitsOfFloat
  rcases fl_form' h h0 h1 with g | ⟨c, q, g, g1, g2, g3, g4⟩
  · have := bf_loop0 (x0 := a) 2000 0 a g (by decide) (by decide)
    have hx : a = 0 := by
      refine FP.Core.val32_inj (fn_ne g) ?_
      rw [g]
      decide +kernel
    rw [show a.toInt32 = 0 by rw [hx]; rfl]
    exact this
  · have := bf_loop (x0 := a) g1 g2 g3 g4 2000 0 a (by rw [show q + ((0 : Nat) : Int) = q by omega]; exact g) (by omega) (by omega)
    rw [bf_enc g g1 g3 g4]
    exact this
def ws (f : Nat → UInt32) (h : Nat → Bool) : Nat → UInt32
  | 0 => FP.fconst0
  | p + 1 => if h p = true then FP.fadd (ws f h p) (f p) else ws f h p
theorem fl_zero : fl FP.fconst0 false 0 := ⟨0, -149, by decide +kernel, rfl⟩
theorem ws_ok {f : Nat → UInt32} {h : Nat → Bool} {z : Nat → Int} (hz : ∀ p, p < 64 → fl (f p) false (z p) ∧ 0 ≤ z p ∧ z p ≤ 301 * 2 ^ 156 ∧ (z p = 0 ∨ 2 ^ 36 ≤ z p)) : ∀ p, p ≤ 64 → (∃ v, fl (ws f h p) false v ∧ 0 ≤ v ∧ v ≤ (p : Int) * (302 * 2 ^ 156) ∧ (v = 0 ∨ 2 ^ 36 - (p : Int) * 2 ^ 14 ≤ v)) ∧ ∀ q, q < p → wx_nn (FP.fadd (ws f h q) (f q)) = true
  | 0, _ => ⟨⟨0, fl_zero, by omega, by omega, Or.inl rfl⟩, fun q hq => absurd hq (Nat.not_lt_zero _)⟩
  | p + 1, hp => by
    obtain ⟨⟨v, v1, v2, v3, v4⟩, nn⟩ := ws_ok (h := h) hz p (by omega)
    obtain ⟨z1, z2, z3, z4⟩ := hz p (by omega)
    have p200 : (2 : Nat) ^ 200 = 1606938044258990275541962092341162602522202993782792835301376 := by decide
    obtain ⟨u, hu, he⟩ := fl_add v1 z1 (by rw [p200]; omega)
    rw [dl_sg (by omega)] at hu
    unfold Er at he
    have nn2 : ∀ q, q < p + 1 → wx_nn (FP.fadd (ws f h q) (f q)) = true := fun q hq => by
      by_cases hqp : q = p
      · subst hqp
        exact fl_nn hu
      · exact nn q (by omega)
    refine ⟨?_, nn2⟩
    show ∃ v, fl (if h p = true then FP.fadd (ws f h p) (f p) else ws f h p) false v ∧ _
    by_cases hh : h p = true
    · rw [if_pos hh]
      exact ⟨u, hu, by omega, by omega, by omega⟩
    · rw [if_neg hh]
      exact ⟨v, v1, v2, by omega, by omega⟩

