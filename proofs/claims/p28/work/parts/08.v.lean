/-! EXACT NUMBERS: whole numbers below 2^24 -/
theorem fl_add_rr {a b : UInt32} {s t : Bool} {x y : Int} (ha : fl a s x) (hb : fl b t y) : FP.Core.val32 (FP.fadd a b) = FP.Core.roundRatio FP.Core.b32 (FP.Core.sumSign s t (x + y)) (x + y).natAbs 1 (-149) := by
  obtain ⟨c, q, h1, h2⟩ := ha
  obtain ⟨d, r, h3, h4⟩ := hb
  have hq := fl_q h1
  have hr := fl_q h3
  have hu : FP.Core.sumUnits s c q t d r (min q r) * ((2 ^ (min q r - -149).toNat : Nat) : Int) = x + y := by
    unfold FP.Core.sumUnits
    rw [Int.add_mul, ← FP.Core.signed_mul, ← FP.Core.signed_mul, ← FP.Core.inUnits_move c (by omega) (by omega), ← FP.Core.inUnits_move d (by omega) (by omega), h2, h4]
  have hv := FP.Core.val32_fadd a b
  rw [h1, h3] at hv
  generalize hU : FP.Core.sumUnits s c q t d r (min q r) = u at hu
  have hes : FP.Core.exactSum (.fin s c q) (.fin t d r) = .fin (FP.Core.sumSign s t u) u.natAbs (min q r) := by
    rw [← hU]
    rfl
  rw [hes, ← FP.Core.round_inUnits (f := FP.Core.b32) _ _ (show (-149 : Int) ≤ min q r by omega)] at hv
  have hK : 0 < ((2 ^ (min q r - -149).toNat : Nat) : Int) := by
    have := Nat.two_pow_pos (min q r - -149).toNat
    omega
  have hX : FP.Core.inUnits u.natAbs (min q r) (-149) = (x + y).natAbs := by
    rw [← hu, Int.natAbs_mul, Int.natAbs_natCast]
    rfl
  have hS : FP.Core.sumSign s t u = FP.Core.sumSign s t (x + y) := by
    rw [← hu]
    unfold FP.Core.sumSign
    generalize ((2 ^ (min q r - -149).toNat : Nat) : Int) = K at hK
    by_cases hz : u = 0
    · subst hz
      simp
    · have hz2 : u * K ≠ 0 := Int.mul_ne_zero hz (by omega)
      rw [if_neg hz, if_neg hz2]
      congr 1
      apply propext
      constructor
      · intro hlt
        exact Int.mul_neg_of_neg_of_pos hlt hK
      · intro hlt
        exact Int.not_le.mp fun hge => absurd hlt (Int.not_lt.mpr (Int.mul_nonneg hge (Int.le_of_lt hK)))
  rw [hX, hS] at hv
  exact hv
theorem fl_mul_rr {a b : UInt32} {s : Bool} {x : Int} {S : Nat} (ha : fl a s x) (hb : flW b S) : FP.Core.val32 (FP.fmul a b) = FP.Core.roundRatio FP.Core.b32 s (x * S).natAbs 1 (-149) := by
  obtain ⟨c, q, h1, h2⟩ := ha
  obtain ⟨d, r, h3, h4⟩ := hb
  have hq := fl_q h1
  have hv := FP.Core.val32_fmul a b
  rw [h1, h3] at hv
  have hs : (s != false) = s := by cases s <;> rfl
  have hes : FP.Core.exactProduct (.fin s c q) (.fin false d r) = .fin s (c * d) (q + r) := by
    show FP.Core.Datum.fin (s != false) (c * d) (q + r) = _
    rw [hs]
  rw [hes] at hv
  have hcg : FP.Core.roundRatio FP.Core.b32 s (c * d) 1 (q + r) = FP.Core.roundRatio FP.Core.b32 s (FP.Core.inUnits c q (-149) * S) 1 (-149) := by
    refine FP.Core.roundRatio_congr (by decide) (by decide) ?_
    unfold FP.Core.inUnits
    obtain ⟨i, hi⟩ : ∃ i : Nat, q = -149 + (i : Int) := ⟨(q + 149).toNat, by omega⟩
    subst hi
    rw [show (-149 + (i : Int) - -149).toNat = i by omega]
    rcases Int.lt_or_le r 0 with hr | hr
    · obtain ⟨k, hk⟩ : ∃ k : Nat, r = -(k : Int) := ⟨(-r).toNat, by omega⟩
      subst hk
      rw [show (-(k : Int)).toNat = 0 by omega, show (- -(k : Int)).toNat = k by omega, Nat.pow_zero, Nat.mul_one] at h4
      rw [h4]
      have e : 2 ^ k * 2 ^ (-149 + (i : Int) + -(k : Int) - -149).toNat = 2 ^ i * 2 ^ (-149 - (-149 + (i : Int) + -(k : Int))).toNat := by
        rw [← Nat.pow_add, ← Nat.pow_add]
        congr 1
        omega
      calc c * (S * 2 ^ k) * 1 * 2 ^ (-149 + (i : Int) + -(k : Int) - -149).toNat = c * S * (2 ^ k * 2 ^ (-149 + (i : Int) + -(k : Int) - -149).toNat) := by rw [Nat.mul_one]; ac_rfl
        _ = c * S * (2 ^ i * 2 ^ (-149 - (-149 + (i : Int) + -(k : Int))).toNat) := by rw [e]
        _ = c * 2 ^ i * S * 1 * 2 ^ (-149 - (-149 + (i : Int) + -(k : Int))).toNat := by rw [Nat.mul_one]; ac_rfl
    · obtain ⟨k, hk⟩ : ∃ k : Nat, r = (k : Int) := ⟨r.toNat, by omega⟩
      subst hk
      rw [show ((k : Int)).toNat = k by omega, show (-(k : Int)).toNat = 0 by omega, Nat.pow_zero, Nat.mul_one] at h4
      rw [show (-149 + (i : Int) + (k : Int) - -149).toNat = i + k by omega, show (-149 - (-149 + (i : Int) + (k : Int))).toNat = 0 by omega, Nat.pow_zero, ← h4, Nat.pow_add]
      simp only [Nat.mul_one]
      ac_rfl
  have hX : FP.Core.inUnits c q (-149) * S = (x * S).natAbs := by
    rw [← h2, Int.natAbs_mul, FP.Core.natAbs_signed, Int.natAbs_natCast]
  rw [← hX]
  exact hv.trans hcg
theorem fl_div_rr {a : UInt32} {s : Bool} {x : Int} (ha : fl a s x) : FP.Core.val32 (FP.fdiv a 1120403456) = FP.Core.roundRatio FP.Core.b32 s x.natAbs 100 (-149) := by
  obtain ⟨c, q, h1, h2⟩ := ha
  have hq := fl_q h1
  have hv := FP.Core.val32_fdiv a 1120403456
  rw [h1, fl_100] at hv
  have hs : (s != false) = s := by cases s <;> rfl
  have hes : FP.Core.quotient FP.Core.b32 (.fin s c q) (.fin false 13107200 (-17)) = FP.Core.roundRatio FP.Core.b32 s c 13107200 (q - -17) := by
    have e : FP.Core.quotient FP.Core.b32 (.fin s c q) (.fin false 13107200 (-17)) = FP.Core.roundRatio FP.Core.b32 (s != false) c 13107200 (q - -17) := rfl
    rw [e, hs]
  rw [hes] at hv
  have hcg : FP.Core.roundRatio FP.Core.b32 s c 13107200 (q - -17) = FP.Core.roundRatio FP.Core.b32 s (FP.Core.inUnits c q (-149)) 100 (-149) := by
    refine FP.Core.roundRatio_congr (by decide) (by decide) ?_
    unfold FP.Core.inUnits
    obtain ⟨i, hi⟩ : ∃ i : Nat, q = -149 + (i : Int) := ⟨(q + 149).toNat, by omega⟩
    subst hi
    rw [show (-149 + (i : Int) - -149).toNat = i by omega, show (-149 + (i : Int) - -17 - -149).toNat = i + 17 by omega, show (-149 - (-149 + (i : Int) - -17)).toNat = 0 by omega, Nat.pow_zero, Nat.mul_one, Nat.pow_add]
    have e : 13107200 = 100 * 2 ^ 17 := by decide
    rw [e]
    ac_rfl
  have hX : FP.Core.inUnits c q (-149) = x.natAbs := by rw [← h2, FP.Core.natAbs_signed]
  rw [← hX]
  exact hv.trans hcg
theorem rrx (s : Bool) (M B : Nat) (hB : 0 < B) (hM : M < 2 ^ 24) : ∃ (c : Nat) (q : Int), FP.Core.roundRatio FP.Core.b32 s (M * 2 ^ 149 * B) B (-149) = .fin s c q ∧ FP.Core.inUnits c q (-149) = M * 2 ^ 149 := by
  have hcg : FP.Core.roundRatio FP.Core.b32 s (M * 2 ^ 149 * B) B (-149) = FP.Core.roundRatio FP.Core.b32 s M 1 0 := by
    refine FP.Core.roundRatio_congr hB (by decide) ?_
    rw [show ((-149 : Int) - 0).toNat = 0 by decide, show ((0 : Int) - -149).toNat = 149 by decide, Nat.pow_zero, Nat.mul_one, Nat.mul_one]
    rw [Nat.mul_right_comm]
  obtain ⟨c, q, h1, h2⟩ := FP.Core.round_exact FP.Core.good_b32 s (c := M) (q := 0) hM (by decide) (by decide)
  refine ⟨c, q, hcg.trans h1, ?_⟩
  have hm : FP.Core.b32.qmin = -149 := by decide
  rw [hm] at h2
  rw [h2]
  rfl
/-- a holds the whole number m -/
def fi (a : UInt32) (m : Nat) : Prop := fl a false ((m * 2 ^ 149 : Nat) : Int)
theorem fi.of {a : UInt32} {B m : Nat} (hB : 0 < B) (hm : m < 2 ^ 24) (h : FP.Core.val32 a = FP.Core.roundRatio FP.Core.b32 false (m * 2 ^ 149 * B) B (-149)) : fi a m := by
  obtain ⟨c, q, h1, h2⟩ := rrx false m B hB hm
  refine ⟨c, q, h.trans h1, ?_⟩
  rw [h2]
  rfl
theorem fi_add {a b : UInt32} {m n : Nat} (ha : fi a m) (hb : fi b n) (h : m + n < 2 ^ 24) : fi (FP.fadd a b) (m + n) := by
  have hv := fl_add_rr ha hb
  have e : ((m * 2 ^ 149 : Nat) : Int) + ((n * 2 ^ 149 : Nat) : Int) = (((m + n) * 2 ^ 149 : Nat) : Int) := by rw [Nat.add_mul]; rfl
  rw [e, fl_sg (Int.natCast_nonneg _), Int.natAbs_natCast] at hv
  exact fi.of (B := 1) (by decide) h (by rw [Nat.mul_one]; exact hv)
theorem fi_add0 {a b : UInt32} {t : Bool} {m : Nat} (ha : fi a m) (hb : fl b t 0) (h : m < 2 ^ 24) : fi (FP.fadd a b) m := by
  have hv := fl_add_rr ha hb
  rw [Int.add_zero, fl_sg (Int.natCast_nonneg _), Int.natAbs_natCast] at hv
  exact fi.of (B := 1) (by decide) h (by rw [Nat.mul_one]; exact hv)
theorem fi_mul {a b : UInt32} {m S : Nat} (ha : fi a m) (hb : flW b S) (h : m * S < 2 ^ 24) : fi (FP.fmul a b) (m * S) := by
  have hv := fl_mul_rr ha hb
  have e : ((m * 2 ^ 149 : Nat) : Int) * (S : Int) = (((m * S) * 2 ^ 149 : Nat) : Int) := by
    rw [← Int.natCast_mul, Nat.mul_right_comm]
  rw [e, Int.natAbs_natCast] at hv
  exact fi.of (B := 1) (by decide) h (by rw [Nat.mul_one]; exact hv)
theorem fi_div {a : UInt32} {m : Nat} (ha : fi a (m * 100)) (h : m < 2 ^ 24) : fi (FP.fdiv a 1120403456) m := by
  have hv := fl_div_rr ha
  rw [Int.natAbs_natCast, Nat.mul_right_comm] at hv
  exact fi.of (B := 100) (by decide) h hv
theorem fi_0 {a : UInt32} (h : fl a false 0) : fi a 0 := by
  unfold fi
  rw [Nat.zero_mul]
  exact h
theorem fi_f2i {a : UInt32} {m : Nat} (h : fi a m) (hm : m < 2 ^ 31) : FP.f2i a = nI m := by
  obtain ⟨c, q, h1, h2⟩ := h
  have hq := fl_q h1
  have h3 : c * 2 ^ (q - -149).toNat = m * 2 ^ 149 := by
    have : ((c * 2 ^ (q - -149).toNat : Nat) : Int) = ((m * 2 ^ 149 : Nat) : Int) := h2
    exact Int.ofNat.inj this
  have e : FP.Core.f2i a = FP.Core.toI (FP.Core.val32 a) := rfl
  show FP.Core.f2i a = nI m
  rw [e, h1]
  have hw : FP.Core.Whole (m : Int) (.fin false c q) := by
    show ((c * 2 ^ q.toNat : Nat) : Int) = (m : Int) * ((2 ^ (-q).toNat : Nat) : Int)
    rw [← Int.natCast_mul]
    congr 1
    rcases Int.lt_or_le q 0 with hn | hn
    · obtain ⟨k, hk⟩ : ∃ k : Nat, q = -(k : Int) := ⟨(-q).toNat, by omega⟩
      subst hk
      rw [show (-(k : Int)).toNat = 0 by omega, show (- -(k : Int)).toNat = k by omega, Nat.pow_zero, Nat.mul_one]
      rw [show (-(k : Int) - -149).toNat = 149 - k by omega, show 149 = k + (149 - k) by omega, Nat.pow_add, ← Nat.mul_assoc] at h3
      rw [show k + (149 - k) - k = 149 - k by omega] at h3
      exact Nat.eq_of_mul_eq_mul_right (Nat.two_pow_pos _) h3
    · obtain ⟨k, hk⟩ : ∃ k : Nat, q = (k : Int) := ⟨q.toNat, by omega⟩
      subst hk
      rw [show ((k : Int)).toNat = k by omega, show (-(k : Int)).toNat = 0 by omega, Nat.pow_zero, Nat.mul_one]
      rw [show ((k : Int) - -149).toNat = k + 149 by omega, Nat.pow_add, ← Nat.mul_assoc] at h3
      exact Nat.eq_of_mul_eq_mul_right (Nat.two_pow_pos _) h3
  unfold FP.Core.toI
  rw [FP.Core.toInt_whole hw (by omega) (by omega)]
  rfl
theorem fl_zero_eq {a : UInt32} (h : fl a false 0) : a = 0 := by
  rcases fl_form h (Or.inl rfl) (by decide) with g | ⟨c, q, g, g1, g2, g3, g4⟩
  · refine FP.Core.val32_inj (fn_ne g) ?_
    rw [g]
    decide +kernel
  · exfalso
    obtain ⟨c', q', h1, h2⟩ := h
    have h5 : FP.Core.val32 a = .fin false c q := g
    rw [h5] at h1
    cases h1
    have h6 : c * 2 ^ (q - -149).toNat = 0 := by
      have : ((c * 2 ^ (q - -149).toNat : Nat) : Int) = 0 := h2
      exact Int.ofNat.inj this
    rcases Nat.mul_eq_zero.mp h6 with h7 | h7
    · omega
    · exact absurd h7 (Nat.pos_iff_ne_zero.mp (Nat.two_pow_pos _))
/-! ZEROS: nothing spreads where spread is 0 -/
theorem er1_zero {z : Int} (h : Er 1 z 0) : z = 0 := Er.zero (by decide) h
theorem part_0 {n w sp : UInt32} {N V : Int} (hn : fl n false N) (hw : fl w false V) (hN : 0 ≤ N) (hN2 : N ≤ 2 ^ 180) (hV : 0 ≤ V) (hV2 : V ≤ 2 ^ 180) (hsp : flW sp 0) : ∃ s, fl (FP.fdiv (FP.fmul (FP.fsub n w) sp) 1120403456) s 0 := by
  have p200 : (2 : Nat) ^ 200 = 1606938044258990275541962092341162602522202993782792835301376 := by decide
  obtain ⟨z, h1, -⟩ := fl_sub hn hw (by rw [p200]; omega)
  obtain ⟨z2, h2, e2⟩ := fl_mul h1 hsp (by rw [show z * ((0 : Nat) : Int) = 0 from Int.mul_zero z]; decide)
  rw [show z * ((0 : Nat) : Int) = 0 from Int.mul_zero z] at e2
  have := er1_zero e2
  subst this
  obtain ⟨z3, h3, e3⟩ := fl_div h2 (by decide)
  have := Er.zero (by decide) e3
  subst this
  exact ⟨_, h3⟩
theorem sum_0 {f : Nat → UInt32} {z : Nat → Int} {p : Nat} {sp : UInt32} (hp : fl (f p) false (z p)) (hp0 : 0 ≤ z p) (hp1 : z p ≤ 2 ^ 180) (hsp : flW sp 0) : ∀ (ns : List Nat) (t : UInt32) (st : Bool), (∀ n ∈ ns, fl (f n) false (z n) ∧ 0 ≤ z n ∧ z n ≤ 2 ^ 180) → fl t st 0 → ∃ st', fl (sp_t f p sp t ns) st' 0
  | [], t, st, _, ht => ⟨st, ht⟩
  | n :: ns, t, st, hn, ht => by
    obtain ⟨h1, h2, h3⟩ := hn n List.mem_cons_self
    obtain ⟨s, hq⟩ := part_0 h1 hp h2 h3 hp0 hp1 hsp
    obtain ⟨v, hv, ev⟩ := fl_add ht hq (by decide)
    have := er1_zero ev
    subst this
    exact sum_0 hp hp0 hp1 hsp ns _ _ (fun k hk => hn k (List.mem_cons_of_mem _ hk)) hv
theorem runs_exact {P : Nat} {h : Nat → Bool} (hP : P ≤ 99) : ∀ k, k ≤ 100 → ∀ p, p < 64 → fi (runs 0 100 P h k p) (if h p = true then P * k else 0)
  | 0, _, p, _ => by
    have e : (if h p = true then P * 0 else 0) = 0 := by split <;> rfl
    rw [e]
    exact fi_0 (a := 0) ⟨0, -149, by decide +kernel, by decide⟩
  | k + 1, hk, p, hp => by
    have ih := runs_exact (h := h) hP k (by omega)
    have hb : ∀ q, (if h q = true then P * k else 0) ≤ 9900 := by
      intro q
      split
      · exact Nat.mul_le_mul hP (show k ≤ 100 by omega)
      · omega
    have hz : ∀ q, (((if h q = true then P * k else 0) * 2 ^ 149 : Nat) : Int) ≤ 2 ^ 180 := by
      intro q
      have h1 := Nat.mul_le_mul_right (2 ^ 149) (hb q)
      have h2 : (9900 * 2 ^ 149 : Nat) ≤ 2 ^ 180 := by decide
      exact_mod_cast Nat.le_trans h1 h2
    have hsp : flW (FP.i2f (nI 0)) 0 := fl_i2f (by decide) (by decide)
    have hle : flW (FP.i2f (nI 100)) 100 := fl_i2f (by decide) (by decide)
    obtain ⟨st, ht⟩ := sum_0 (f := runs 0 100 P h k) (z := fun q => (((if h q = true then P * k else 0) * 2 ^ 149 : Nat) : Int)) (p := p) (ih p hp) (Int.natCast_nonneg _) (hz p) hsp (sp_nb p) FP.fconst0 false (fun n hn => ⟨ih n ((sp_nb_lt p hp).2 n hn), Int.natCast_nonneg _, hz n⟩) fl_0
    have b1 := hb p
    have a1 := fi_add0 (ih p hp) ht (by omega)
    have a2 := fi_mul a1 hle (by omega)
    have a3 := fi_div a2 (by omega)
    show fi (if h p = true then FP.fadd (sp_v (runs 0 100 P h k) p (FP.i2f (nI 0)) (FP.i2f (nI 100)) (sp_nb p)) (FP.i2f (nI P)) else sp_v (runs 0 100 P h k) p (FP.i2f (nI 0)) (FP.i2f (nI 100)) (sp_nb p)) (if h p = true then P * (k + 1) else 0)
    have a3 : fi (sp_v (runs 0 100 P h k) p (FP.i2f (nI 0)) (FP.i2f (nI 100)) (sp_nb p)) (if h p = true then P * k else 0) := a3
    cases hh : h p with
    | false =>
      rw [if_neg (by decide), if_neg (by decide)]
      rw [hh, if_neg (by decide)] at a3
      exact a3
    | true =>
      rw [if_pos rfl, if_pos rfl]
      rw [hh, if_pos rfl] at a3 b1
      have hpw : fi (FP.i2f (nI P)) P := by
        have := fl_pw hP
        unfold fi
        rw [Int.natCast_mul, Int.natCast_pow]
        exact this
      have := fi_add a3 hpw (by omega)
      rw [Nat.mul_add, Nat.mul_one]
      exact this
theorem rdf_exact {a : UInt32} {m : Nat} (h : fi a m) (hm : m * 10 < 2 ^ 24) : rdf a = nI (m * 10) := fi_f2i (fi_mul h flW_10 hm) (by omega)
theorem rdf_0 : rdf 0 = 0 := by
  have h : fi 0 0 := fi_0 ⟨0, -149, by decide +kernel, by decide⟩
  exact rdf_exact h (by decide)
/-- where nothing is heated, nothing gets warm -/
theorem runs_cold {S L P : Nat} {h : Nat → Bool} (hs : SetOK S L P) {k : Nat} (hk : k ≤ 301) (hc : ∀ q, q < 64 → h q = false) {p : Nat} (hp : p < 64) : runs S L P h k p = 0 := by
  obtain ⟨z, hz⟩ := runs_ok (h := h) hs k hk
  obtain ⟨a1, a2, a3, a4, a5⟩ := hz p hp
  have h0 := a5 (fun q hq hqh => by rw [hc q hq] at hqh; cases hqh)
  rw [h0] at a1
  exact fl_zero_eq a1
theorem runs_congr {S L P : Nat} {h h' : Nat → Bool} (hh : ∀ n, n < 64 → h n = h' n) : ∀ k p, p < 64 → runs S L P h k p = runs S L P h' k p
  | 0, _, _ => rfl
  | k + 1, p, hp => sp_step_congr (fun n hn => runs_congr hh k n hn) hh hp
