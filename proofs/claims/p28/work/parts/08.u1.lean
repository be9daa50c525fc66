/-! THE CLASS'S BITS OF A FLOAT are the machine's -/
def fn (x : UInt32) (c : Nat) (q : Int) : Prop := FP.Core.val32 x = .fin false c q
theorem fl_form {a : UInt32} {z : Int} (h : fl a false z) (h0 : z = 0 ∨ 2 ^ 36 ≤ z) (h1 : z ≤ 2 ^ 172) : fn a 0 (-149) ∨ ∃ c q, fn a c q ∧ 2 ^ 23 ≤ c ∧ c < 2 ^ 24 ∧ -149 ≤ q ∧ q ≤ 0 := by
  obtain ⟨c, q, g1, g2⟩ := h
  have hf := FP.Core.val32_fits a
  rw [g1] at hf
  obtain ⟨f1, f2, -, f4⟩ := hf
  have f1 : c < 2 ^ 24 := f1
  have f2 : (-149 : Int) ≤ q := f2
  have f4 : q = -149 ∨ 2 ^ 23 ≤ c := f4
  have g2 : ((c * 2 ^ (q - -149).toNat : Nat) : Int) = z := g2
  rcases h0 with h0 | h0
  · left
    have hc : c * 2 ^ (q - -149).toNat = 0 := by omega
    have hc0 : c = 0 := by
      rcases Nat.mul_eq_zero.mp hc with h | h
      · exact h
      · exact absurd h (Nat.ne_of_gt (Nat.two_pow_pos _))
    subst hc0
    have : q = -149 := by rcases f4 with h | h; exact h; omega
    subst this
    exact g1
  · right
    have hge : 2 ^ 23 ≤ c := by
      rcases f4 with h | h
      · exfalso
        subst h
        rw [show (-149 - (-149 : Int)).toNat = 0 from rfl, Nat.pow_zero, Nat.mul_one] at g2
        omega
      · exact h
    refine ⟨c, q, g1, hge, f1, f2, ?_⟩
    by_cases hq : q ≤ 0
    · exact hq
    · exfalso
      have h2 : 2 ^ 150 ≤ 2 ^ (q - -149).toNat := Nat.pow_le_pow_right (by decide) (by omega)
      have h3 : 2 ^ 23 * 2 ^ 150 ≤ c * 2 ^ (q - -149).toNat := Nat.mul_le_mul hge h2
      have h4 : (2 : Nat) ^ 23 * 2 ^ 150 = 2 ^ 173 := by decide
      rw [h4] at h3
      have p1 : (2 : Int) ^ 172 < ((2 ^ 173 : Nat) : Int) := by decide
      omega
theorem fn_ne {x : UInt32} {c : Nat} {q : Int} (h : fn x c q) : FP.Core.val32 x ≠ .nan := by
  unfold fn at h
  rw [h]
  intro q
  cases q
theorem bf_2 : FP.Core.val32 FP.fconst2 = .fin false (2 ^ 23) (-22) := by decide +kernel
theorem bf_dbl {x : UInt32} {c : Nat} {r : Int} (h : fn x c r) (hc : 2 ^ 23 ≤ c) (hc2 : c < 2 ^ 24) (hr : -149 ≤ r) (hr0 : r ≤ 0) : fn (FP.fmul x FP.fconst2) c (r + 1) := by
  have hv := FP.Core.val32_fmul x FP.fconst2
  unfold fn at h
  rw [h, bf_2] at hv
  have e : FP.Core.round FP.Core.b32 (FP.Core.exactProduct (.fin false c r) (.fin false (2 ^ 23) (-22))) = FP.Core.roundRatio FP.Core.b32 false (c * 2 ^ 23) 1 (r + -22) := rfl
  rw [e] at hv
  have e2 : FP.Core.roundRatio FP.Core.b32 false (c * 2 ^ 23) 1 (r + -22) = FP.Core.roundRatio FP.Core.b32 false c 1 (r + 1) := by
    refine FP.Core.roundRatio_congr (by decide) (by decide) ?_
    rw [show (r + -22 - (r + 1)).toNat = 0 by omega, show (r + 1 - (r + -22)).toNat = 23 by omega]
    omega
  have e3 : FP.Core.roundRatio FP.Core.b32 false c 1 (r + 1) = .fin false c (r + 1) := by
    have := FP.Core.round_of_fits (f := FP.Core.b32) FP.Core.good_b32 (d := .fin false c (r + 1)) ⟨hc2, by show (-149 : Int) ≤ r + 1; omega, by show r + 1 ≤ (104 : Int); omega, Or.inr hc⟩
    exact this
  exact hv.trans (e2.trans e3)
theorem bf_dbl0 {x : UInt32} (h : fn x 0 (-149)) : fn (FP.fmul x FP.fconst2) 0 (-149) := by
  have hv := FP.Core.val32_fmul x FP.fconst2
  unfold fn at h
  rw [h, bf_2] at hv
  exact hv.trans (by decide +kernel)
theorem bf_nn {x : UInt32} {c : Nat} {q : Int} (h : fn x c q) : wx_nn x = true := fl_nn (s := false) ⟨c, q, h, rfl⟩
theorem bf_C : FP.Core.val32 1258291200 = .fin false (2 ^ 23) 0 := by decide +kernel
theorem bf_lt {x : UInt32} {c : Nat} {r : Int} (h : fn x c r) (hl : c * 2 ^ (r - -149).toNat < 2 ^ 172) : ¬ (0 : Int32) ≤ Op.cmpValue (FP.fcmp x 1258291200) .g := by
  have : FP.Core.fcmp x 1258291200 = some .lt := by
    refine FP.Core.fcmp_lt.mpr ⟨fn_ne h, fn_ne bf_C, ?_⟩
    rw [h, bf_C]
    show ((c * 2 ^ (r - -149).toNat : Nat) : Int) < ((2 ^ 23 * 2 ^ (0 - (-149 : Int)).toNat : Nat) : Int)
    have e : 2 ^ 23 * 2 ^ (0 - (-149 : Int)).toNat = 2 ^ 172 := by decide
    rw [e]
    omega
  show ¬ (0 : Int32) ≤ Op.cmpValue (FP.Core.fcmp x 1258291200) .g
  rw [this]
  decide
theorem bf_ge {x : UInt32} {c : Nat} (h : fn x c 0) (hc : 2 ^ 23 ≤ c) : (0 : Int32) ≤ Op.cmpValue (FP.fcmp x 1258291200) .g := by
  have : ¬ FP.Core.fcmp x 1258291200 = some .lt := by
    intro hlt
    have := (FP.Core.fcmp_lt.mp hlt).2.2
    rw [h, bf_C] at this
    have this : ((c * 2 ^ (0 - (-149 : Int)).toNat : Nat) : Int) < ((2 ^ 23 * 2 ^ (0 - (-149 : Int)).toNat : Nat) : Int) := this
    have h2 : 2 ^ 23 * 2 ^ (0 - (-149 : Int)).toNat ≤ c * 2 ^ (0 - (-149 : Int)).toNat := Nat.mul_le_mul_right _ hc
    omega
  show (0 : Int32) ≤ Op.cmpValue (FP.Core.fcmp x 1258291200) .g
  rcases hx : FP.Core.fcmp x 1258291200 with _ | o
  · decide
  · cases o
    · exact absurd hx this
    · decide
    · decide
theorem bf_f2i {x : UInt32} {c : Nat} (h : fn x c 0) (hc : c < 2 ^ 24) : FP.f2i x = nI c := by
  have e : FP.Core.f2i x = FP.Core.toI (FP.Core.val32 x) := rfl
  show FP.Core.f2i x = nI c
  rw [e, h]
  have hw : FP.Core.Whole (c : Int) (.fin false c 0) := by
    show FP.Core.signed false (c * 2 ^ (0 : Int).toNat) = (c : Int) * ((2 ^ (-(0 : Int)).toNat : Nat) : Int)
    simp [FP.Core.signed]
  unfold FP.Core.toI
  rw [FP.Core.toInt_whole hw (by omega) (by omega)]
  rfl
theorem bf_sh : ∀ E, E < 151 → nI E <<< (23 &&& 31) = nI (E * 8388608) := by decide +kernel
theorem bf_e : ∀ E, E < 151 → (nI E ≤ 1 ↔ E ≤ 1) := by decide +kernel
theorem bf_m1 : ∀ E, E < 151 → 1 ≤ E → nI E + (-1) = nI (E - 1) := by decide +kernel
theorem bf_29 {x0 x : UInt32} {c E : Nat} (h : fn x c 0) (hc : 2 ^ 23 ≤ c) (hc2 : c < 2 ^ 24) (hE : E < 151) : f_X5_bitsOfFloat_29 x0 x (nI E) = some (nI (E * 8388608 + (c - 8388608))) := by
  unfold f_X5_bitsOfFloat_29
  have hi := bf_f2i h hc2
  rw [hi]
  have e8 : (8388608 : Int32) = nI 8388608 := rfl
  rw [if_pos (by rw [e8]; exact nI_le (by omega) (by omega))]
  unfold f_X5_bitsOfFloat_53
  rw [bf_sh E hE, e8, nI_sub (by omega), nI_add]
theorem bf_loop {x0 : UInt32} {c : Nat} {q : Int} (hc : 2 ^ 23 ≤ c) (hc2 : c < 2 ^ 24) (hq : -149 ≤ q) (hq0 : q ≤ 0) : ∀ (m j : Nat) (x : UInt32), fn x c (q + j) → (j : Int) ≤ -q → -q + 1 ≤ (m : Int) + j →
    f_X5_bitsOfFloat_6 m x0 x (nI (150 - j)) = some (nI ((q + 150).toNat * 8388608 + (c - 8388608))) := by
  intro m
  induction m with
  | zero => intro j x h h1 h2; omega
  | succ m ih =>
    intro j x h h1 h2
    unfold f_X5_bitsOfFloat_6
    by_cases hj : (j : Int) = -q
    · have h0 : fn x c 0 := by rw [show q + (j : Int) = 0 by omega] at h; exact h
      have hE : 150 - j = (q + 150).toNat := by omega
      rw [hE]
      by_cases he : nI (q + 150).toNat ≤ 1
      · rw [if_pos he]
        exact bf_29 h0 hc hc2 (by omega)
      · rw [if_neg he, if_pos (bf_ge h0 hc)]
        exact bf_29 h0 hc hc2 (by omega)
    · have hlt : ¬ nI (150 - j) ≤ 1 := fun hx => by have := (bf_e (150 - j) (by omega)).mp hx; omega
      have hb : c * 2 ^ (q + (j : Int) - -149).toNat < 2 ^ 172 := by
        have h3 : 2 ^ (q + (j : Int) - -149).toNat ≤ 2 ^ 148 := Nat.pow_le_pow_right (by decide) (by omega)
        have h4 : c * 2 ^ (q + (j : Int) - -149).toNat ≤ c * 2 ^ 148 := Nat.mul_le_mul_left _ h3
        have h5 : c * 2 ^ 148 < 2 ^ 24 * 2 ^ 148 := Nat.mul_lt_mul_of_pos_right hc2 (Nat.two_pow_pos _)
        have h6 : (2 : Nat) ^ 24 * 2 ^ 148 = 2 ^ 172 := by decide
        omega
      have hd := bf_dbl h hc hc2 (by omega) (by omega)
      rw [if_neg hlt, if_neg (bf_lt h hb), px_f (bf_nn hd), bf_m1 _ (by omega) (by omega), show 150 - j - 1 = 150 - (j + 1) by omega]
      refine ih (j + 1) _ ?_ (by omega) (by omega)
      rw [show q + ((j + 1 : Nat) : Int) = q + (j : Int) + 1 by omega]
      exact hd
theorem bf_loop0 {x0 : UInt32} : ∀ (m j : Nat) (x : UInt32), fn x 0 (-149) → j ≤ 149 → 150 ≤ m + j → f_X5_bitsOfFloat_6 m x0 x (nI (150 - j)) = some 0 := by
  intro m
  induction m with
  | zero => intro j x h h1 h2; omega
  | succ m ih =>
    intro j x h h1 h2
    unfold f_X5_bitsOfFloat_6
    by_cases hj : j = 149
    · subst hj
      rw [if_pos (by decide)]
      have hx : x = 0 := by
        refine FP.Core.val32_inj (fn_ne h) ?_
        rw [h]
        decide +kernel
      subst hx
      unfold f_X5_bitsOfFloat_29
      rw [if_neg (by decide +kernel)]
      show some (FP.f2i 0) = some 0
      decide +kernel
    · have hlt : ¬ nI (150 - j) ≤ 1 := fun hx => by have := (bf_e (150 - j) (by omega)).mp hx; omega
      have hd := bf_dbl0 h
      rw [if_neg hlt, if_neg (bf_lt h (by rw [Nat.zero_mul]; exact Nat.two_pow_pos _)), px_f (bf_nn hd), bf_m1 _ (by omega) (by omega), show 150 - j - 1 = 150 - (j + 1) by omega]
      exact ih (j + 1) _ hd (by omega) (by omega)
theorem bf_enc {x : UInt32} {c : Nat} {q : Int} (h : fn x c q) (hc : 2 ^ 23 ≤ c) (hq : -149 ≤ q) (hq0 : q ≤ 0) : x.toInt32 = nI ((q + 150).toNat * 8388608 + (c - 8388608)) := by
  have e := FP.Core.of32_val32 (a := x) (fn_ne h)
  rw [h] at e
  have e2 : FP.Core.encode FP.Core.b32 (.fin false c q) = (q + 150).toNat * 8388608 + (c - 8388608) := by
    have he : FP.Core.encode FP.Core.b32 (.fin false c q) = if c < FP.Core.b32.tails then FP.Core.assemble FP.Core.b32 false 0 c else FP.Core.assemble FP.Core.b32 false ((q - FP.Core.b32.qmin).toNat + 1) (c - FP.Core.b32.tails) := rfl
    rw [he]
    have ht : FP.Core.b32.tails = 8388608 := by decide
    have hm : FP.Core.b32.qmin = -149 := by decide
    rw [ht, hm]
    rw [if_neg (by omega)]
    unfold FP.Core.assemble
    rw [ht, show (q - -149).toNat + 1 = (q + 150).toNat by omega]
    simp
  rw [← e]
  unfold FP.Core.of32
  rw [e2]
  rfl
theorem bitsOfFloat_eq {a : UInt32} {z : Int} (h : fl a false z) (h0 : z = 0 ∨ 2 ^ 36 ≤ z) (h1 : z ≤ 2 ^ 172) : f_X5_bitsOfFloat a = some a.toInt32 := by
  unfold f_X5_bitsOfFloat
  rcases fl_form h h0 h1 with g | ⟨c, q, g, g1, g2, g3, g4⟩
  · have := bf_loop0 (x0 := a) 2000 0 a g (by decide) (by decide)
    have hx : a = 0 := by
      refine FP.Core.val32_inj (fn_ne g) ?_
      rw [g]
      decide +kernel
    rw [show a.toInt32 = 0 by rw [hx]; rfl]
    exact this
  · have := bf_loop (x0 := a) g1 g2 g3 g4 2000 0 a (by rw [show q + ((0 : Nat) : Int) = q by omega]; exact g) (by omega) (by omega)
    rw [bf_enc g g1 g3 g4]
    exact this
