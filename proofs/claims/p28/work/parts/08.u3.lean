/-! THE CLASS'S BITS OF A DOUBLE are the machine's -/
theorem px_d {α : Type} {x : UInt64} {F : UInt64 → Option α} (h : wx_nd x = true) : wx_d x F = F x := by
  unfold wx_d
  rw [if_pos h]
theorem dl_nn {a : UInt64} {s : Bool} {x : Int} (h : dl a s x) : wx_nd a = true := by
  obtain ⟨c, q, h1, -⟩ := h
  have : FP.Core.val64 a ≠ .nan := by rw [h1]; exact fun h => by cases h
  have h2 := (FP.Core.ne_nan a).mp this
  unfold wx_nd
  rw [decide_eq_true_eq, UInt64.le_iff_toNat_le, UInt64.toNat_and]
  have e : (0x7fffffffffffffff : UInt64).toNat = 2 ^ 63 - 1 := rfl
  rw [e, Nat.and_two_pow_sub_one_eq_mod]
  exact h2
def nL (n : Nat) : Int64 := Int64.ofNat n
theorem nL_add (a b : Nat) : nL a + nL b = nL (a + b) := (Int64.ofNat_add a b).symm
theorem nL_sub {m k : Nat} (h : k ≤ m) : nL m - nL k = nL (m - k) := by
  have e : nL m = nL (m - k) + nL k := by rw [nL_add, show m - k + k = m by omega]
  rw [e, Int64.add_sub_cancel]
theorem nL_toInt {c : Nat} (h : c < 2 ^ 63) : (nL c).toInt = (c : Int) := Int64.toInt_ofNat_of_lt h
theorem bd_ge8 {c : Nat} (h : 4503599627370496 ≤ c) (h2 : c < 2 ^ 53) : (0 : Int32) ≤ lg_cmp (nL c) (nL 4503599627370496) := by
  unfold lg_cmp
  by_cases h1 : nL c > nL 4503599627370496
  · rw [if_pos h1]; decide
  · rw [if_neg h1]
    by_cases h3 : nL c = nL 4503599627370496
    · rw [if_pos h3]; decide
    · exfalso
      have h4 : ¬ (nL 4503599627370496).toInt < (nL c).toInt := fun hx => h1 (Int64.lt_iff_toInt_lt.mpr hx)
      rw [nL_toInt (by omega), nL_toInt (by omega)] at h4
      exact h3 (by rw [show c = 4503599627370496 by omega])

def dn (x : UInt64) (c : Nat) (q : Int) : Prop := FP.Core.val64 x = .fin false c q
set_option maxRecDepth 100000 in
theorem dl_form {a : UInt64} {z : Int} (h : dl a false z) (h0 : z = 0 ∨ 2 ^ 53 ≤ z) (h1 : z ≤ 2 ^ 1126) : dn a 0 (-1074) ∨ ∃ c q, dn a c q ∧ 2 ^ 52 ≤ c ∧ c < 2 ^ 53 ∧ -1074 ≤ q ∧ q ≤ 0 := by
  obtain ⟨c, q, g1, g2⟩ := h
  have hf := FP.Core.val64_fits a
  rw [g1] at hf
  obtain ⟨f1, f2, -, f4⟩ := hf
  have f1 : c < 2 ^ 53 := f1
  have f2 : (-1074 : Int) ≤ q := f2
  have f4 : q = -1074 ∨ 2 ^ 52 ≤ c := f4
  have g2 : ((c * 2 ^ (q - -1074).toNat : Nat) : Int) = z := g2
  rcases h0 with h0 | h0
  · left
    have hc : c * 2 ^ (q - -1074).toNat = 0 := by omega
    have hc0 : c = 0 := by
      rcases Nat.mul_eq_zero.mp hc with h | h
      · exact h
      · exact absurd h (Nat.ne_of_gt (Nat.two_pow_pos _))
    subst hc0
    have : q = -1074 := by rcases f4 with h | h; exact h; omega
    subst this
    exact g1
  · right
    have hge : 2 ^ 52 ≤ c := by
      rcases f4 with h | h
      · exfalso
        subst h
        rw [show (-1074 - (-1074 : Int)).toNat = 0 from rfl, Nat.pow_zero, Nat.mul_one] at g2
        omega
      · exact h
    refine ⟨c, q, g1, hge, f1, f2, ?_⟩
    by_cases hq : q ≤ 0
    · exact hq
    · exfalso
      have h2 : 2 ^ 1075 ≤ 2 ^ (q - -1074).toNat := Nat.pow_le_pow_right (by decide) (by omega)
      have h3 : 2 ^ 52 * 2 ^ 1075 ≤ c * 2 ^ (q - -1074).toNat := Nat.mul_le_mul hge h2
      have h4 : (2 : Nat) ^ 52 * 2 ^ 1075 = 2 ^ 1127 := (Nat.pow_add 2 52 1075).symm
      rw [h4] at h3
      have p1 : (2 : Int) ^ 172 < ((2 ^ 1127 : Nat) : Int) := by decide
      omega
theorem dn_ne {x : UInt64} {c : Nat} {q : Int} (h : dn x c q) : FP.Core.val64 x ≠ .nan := by
  unfold dn at h
  rw [h]
  intro q
  cases q
theorem bd_2 : FP.Core.val64 4611686018427387904 = .fin false (2 ^ 52) (-51) := by decide +kernel
set_option maxRecDepth 100000 in
theorem bd_dbl {x : UInt64} {c : Nat} {r : Int} (h : dn x c r) (hc : 2 ^ 52 ≤ c) (hc2 : c < 2 ^ 53) (hr : -1074 ≤ r) (hr0 : r ≤ 0) : dn (FP.dmul x 4611686018427387904) c (r + 1) := by
  have hv := FP.Core.val64_dmul x 4611686018427387904
  unfold dn at h
  rw [h, bd_2] at hv
  have e : FP.Core.round FP.Core.b64 (FP.Core.exactProduct (.fin false c r) (.fin false (2 ^ 52) (-51))) = FP.Core.roundRatio FP.Core.b64 false (c * 2 ^ 52) 1 (r + -51) := rfl
  rw [e] at hv
  have e2 : FP.Core.roundRatio FP.Core.b64 false (c * 2 ^ 52) 1 (r + -51) = FP.Core.roundRatio FP.Core.b64 false c 1 (r + 1) := by
    refine FP.Core.roundRatio_congr (by decide) (by decide) ?_
    rw [show (r + -51 - (r + 1)).toNat = 0 by omega, show (r + 1 - (r + -51)).toNat = 52 by omega]
    omega
  have e3 : FP.Core.roundRatio FP.Core.b64 false c 1 (r + 1) = .fin false c (r + 1) := by
    have := FP.Core.round_of_fits (f := FP.Core.b64) FP.Core.good_b64 (d := .fin false c (r + 1)) ⟨hc2, by show (-1074 : Int) ≤ r + 1; omega, by show r + 1 ≤ (971 : Int); omega, Or.inr hc⟩
    exact this
  exact hv.trans (e2.trans e3)
theorem bd_dbl0 {x : UInt64} (h : dn x 0 (-1074)) : dn (FP.dmul x 4611686018427387904) 0 (-1074) := by
  have hv := FP.Core.val64_dmul x 4611686018427387904
  unfold dn at h
  rw [h, bd_2] at hv
  exact hv.trans (by decide +kernel)
theorem bd_nn {x : UInt64} {c : Nat} {q : Int} (h : dn x c q) : wx_nd x = true := dl_nn (s := false) ⟨c, q, h, rfl⟩
set_option maxRecDepth 100000 in
theorem bd_C : FP.Core.val64 4841369599423283200 = .fin false (2 ^ 52) 0 := by decide +kernel
set_option maxRecDepth 100000 in
theorem bd_lt {x : UInt64} {c : Nat} {r : Int} (h : dn x c r) (hl : c * 2 ^ (r - -1074).toNat < 2 ^ 1126) : ¬ (0 : Int32) ≤ Op.cmpValue (FP.dcmp x 4841369599423283200) .g := by
  have : FP.Core.dcmp x 4841369599423283200 = some .lt := by
    refine FP.Core.dcmp_lt.mpr ⟨dn_ne h, dn_ne bd_C, ?_⟩
    rw [h, bd_C]
    show ((c * 2 ^ (r - -1074).toNat : Nat) : Int) < ((2 ^ 52 * 2 ^ (0 - (-1074 : Int)).toNat : Nat) : Int)
    have e : 2 ^ 52 * 2 ^ (0 - (-1074 : Int)).toNat = 2 ^ 1126 := by decide +kernel
    rw [e]
    omega
  show ¬ (0 : Int32) ≤ Op.cmpValue (FP.Core.dcmp x 4841369599423283200) .g
  rw [this]
  decide
set_option maxRecDepth 100000 in
theorem bd_ge {x : UInt64} {c : Nat} (h : dn x c 0) (hc : 2 ^ 52 ≤ c) : (0 : Int32) ≤ Op.cmpValue (FP.dcmp x 4841369599423283200) .g := by
  have : ¬ FP.Core.dcmp x 4841369599423283200 = some .lt := by
    intro hlt
    have := (FP.Core.dcmp_lt.mp hlt).2.2
    rw [h, bd_C] at this
    have this : ((c * 2 ^ (0 - (-1074 : Int)).toNat : Nat) : Int) < ((2 ^ 52 * 2 ^ (0 - (-1074 : Int)).toNat : Nat) : Int) := this
    have h2 : 2 ^ 52 * 2 ^ (0 - (-1074 : Int)).toNat ≤ c * 2 ^ (0 - (-1074 : Int)).toNat := Nat.mul_le_mul_right _ hc
    omega
  show (0 : Int32) ≤ Op.cmpValue (FP.Core.dcmp x 4841369599423283200) .g
  rcases hx : FP.Core.dcmp x 4841369599423283200 with _ | o
  · decide
  · cases o
    · exact absurd hx this
    · decide
    · decide
theorem bd_d2l {x : UInt64} {c : Nat} (h : dn x c 0) (hc : c < 2 ^ 53) : FP.d2l x = nL c := by
  have e : FP.Core.d2l x = FP.Core.toL (FP.Core.val64 x) := rfl
  show FP.Core.d2l x = nL c
  rw [e, h]
  have hw : FP.Core.Whole (c : Int) (.fin false c 0) := by
    show FP.Core.signed false (c * 2 ^ (0 : Int).toNat) = (c : Int) * ((2 ^ (-(0 : Int)).toNat : Nat) : Int)
    simp [FP.Core.signed]
  unfold FP.Core.toL
  rw [FP.Core.toInt_whole hw (by omega) (by omega)]
  rfl
theorem bd_sh : ∀ E, E < 1076 → nL E <<< ((52 : Int32).toInt64 &&& 63) = nL (E * 4503599627370496) := by decide +kernel
theorem bd_e : ∀ E, E < 1076 → (lg_cmp (nL E) 1 ≤ 0 ↔ E ≤ 1) := by decide +kernel
theorem bd_m1 : ∀ E, E < 1076 → 1 ≤ E → nL E - 1 = nL (E - 1) := by decide +kernel
theorem bd_enc {x : UInt64} {c : Nat} {q : Int} (h : dn x c q) (hc : 2 ^ 52 ≤ c) (hq : -1074 ≤ q) (hq0 : q ≤ 0) : x.toInt64 = nL ((q + 1075).toNat * 4503599627370496 + (c - 4503599627370496)) := by
  have e := FP.Core.of64_val64 (a := x) (dn_ne h)
  rw [h] at e
  have e2 : FP.Core.encode FP.Core.b64 (.fin false c q) = (q + 1075).toNat * 4503599627370496 + (c - 4503599627370496) := by
    have he : FP.Core.encode FP.Core.b64 (.fin false c q) = if c < FP.Core.b64.tails then FP.Core.assemble FP.Core.b64 false 0 c else FP.Core.assemble FP.Core.b64 false ((q - FP.Core.b64.qmin).toNat + 1) (c - FP.Core.b64.tails) := rfl
    rw [he]
    have ht : FP.Core.b64.tails = 4503599627370496 := by decide
    have hm : FP.Core.b64.qmin = -1074 := by decide
    rw [ht, hm]
    rw [if_neg (by omega)]
    unfold FP.Core.assemble
    rw [ht, show (q - -1074).toNat + 1 = (q + 1075).toNat by omega]
    simp
  rw [← e]
  unfold FP.Core.of64
  rw [e2]
  rfl
