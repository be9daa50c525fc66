/-! RUNS as functions, and the class's passOne -/
theorem sp_t_congr {f f' : Nat → UInt32} {p : Nat} {sp : UInt32} (hp : f p = f' p) : ∀ (ns : List Nat) (t : UInt32), (∀ n ∈ ns, f n = f' n) → sp_t f p sp t ns = sp_t f' p sp t ns
  | [], _, _ => rfl
  | n :: ns, t, h => by
    have e : sp_q f p sp n = sp_q f' p sp n := by
      unfold sp_q
      rw [h n List.mem_cons_self, hp]
    show sp_t f p sp (FP.fadd t (sp_q f p sp n)) ns = sp_t f' p sp (FP.fadd t (sp_q f' p sp n)) ns
    rw [e]
    exact sp_t_congr hp ns _ (fun k hk => h k (List.mem_cons_of_mem _ hk))
theorem sp_step_congr {f f' : Nat → UInt32} {sp le pw : UInt32} {h h' : Nat → Bool} (hf : ∀ n, n < 64 → f n = f' n) (hh : ∀ n, n < 64 → h n = h' n) {p : Nat} (hp : p < 64) : sp_step f sp le pw h p = sp_step f' sp le pw h' p := by
  have e : sp_v f p sp le (sp_nb p) = sp_v f' p sp le (sp_nb p) := by
    unfold sp_v
    rw [sp_t_congr (hf p hp) (sp_nb p) _ (fun n hn => hf n ((sp_nb_lt p hp).2 n hn)), hf p hp]
  unfold sp_step
  rw [e, hh p hp]
theorem Rn.congr {S k : Nat} {h h' : Nat → Bool} {f f' : Nat → UInt32} (hf : ∀ n, n < 64 → f n = f' n) (hh : ∀ n, n < 64 → h n = h' n) (R : Rn S h k f) : Rn S h' k f' := by
  obtain ⟨z, hz⟩ := R
  refine ⟨z, fun p hp => ?_⟩
  obtain ⟨a1, a2, a3, a4, a5⟩ := hz p hp
  refine ⟨by rw [← hf p hp]; exact a1, a2, a3, fun q hq hqh => a4 q hq (by rw [hh q hq]; exact hqh), fun hall => a5 (fun q hq hqh => hall q hq (by rw [← hh q hq]; exact hqh))⟩
/-- the settings of a run: spread, what is left of a hundred, power -/
def SetOK (S L P : Nat) : Prop := S ≤ 24 ∧ 50 ≤ L ∧ L ≤ 100 ∧ 1 ≤ P ∧ P ≤ 99
def runs (S L P : Nat) (h : Nat → Bool) : Nat → (Nat → UInt32)
  | 0 => fun _ => 0
  | k + 1 => sp_step (runs S L P h k) (FP.i2f (nI S)) (FP.i2f (nI L)) (FP.i2f (nI P)) h
theorem fl_pw {P : Nat} (hP : P ≤ 99) : fl (FP.i2f (nI P)) false ((P : Int) * 2 ^ 149) := by
  obtain ⟨d, r, h1, h2⟩ := fl_i2f (v := nI P) (n := P) (nI_toInt (by omega)) (by omega)
  have hq := fl_q h1
  refine ⟨d, r, h1, ?_⟩
  show ((d * 2 ^ (r - -149).toNat : Nat) : Int) = (P : Int) * 2 ^ 149
  have e : d * 2 ^ (r - -149).toNat = P * 2 ^ 149 := by
    rcases Int.lt_or_le r 0 with hr | hr
    · obtain ⟨k, hk⟩ : ∃ k : Nat, r = -(k : Int) := ⟨(-r).toNat, by omega⟩
      subst hk
      rw [show (-(k : Int)).toNat = 0 by omega, show (- -(k : Int)).toNat = k by omega, Nat.pow_zero, Nat.mul_one] at h2
      rw [h2, Nat.mul_assoc, ← Nat.pow_add, show k + (-(k : Int) - -149).toNat = 149 by omega]
    · obtain ⟨k, hk⟩ : ∃ k : Nat, r = (k : Int) := ⟨r.toNat, by omega⟩
      subst hk
      rw [show ((k : Int)).toNat = k by omega, show (-(k : Int)).toNat = 0 by omega, Nat.pow_zero, Nat.mul_one] at h2
      rw [show ((k : Int) - -149).toNat = k + 149 by omega, Nat.pow_add, ← Nat.mul_assoc, h2]
  rw [e, Int.natCast_mul, Int.natCast_pow]
  rfl
theorem runs_ok {S L P : Nat} {h : Nat → Bool} (hs : SetOK S L P) : ∀ k, k ≤ 301 → Rn S h k (runs S L P h k)
  | 0, _ => Rn.start (fun _ _ => rfl)
  | k + 1, hk => by
    obtain ⟨s1, s2, s3, s4, s5⟩ := hs
    exact (Rn.step (runs_ok ⟨s1, s2, s3, s4, s5⟩ k (by omega)) (by omega) (fl_i2f (nI_toInt (by omega)) (by omega)) s1 (fl_i2f (nI_toInt (by omega)) (by omega)) s2 s3 (fl_pw s5) s4 s5).2
theorem runs_sok {S L P : Nat} {h : Nat → Bool} (hs : SetOK S L P) {k : Nat} (hk : k ≤ 300) {f : Nat → UInt32} (hf : ∀ p, p < 64 → f p = runs S L P h k p) : sp_sok f (FP.i2f (nI S)) (FP.i2f (nI L)) (FP.i2f (nI P)) h := by
  have R := (runs_ok (h := h) hs k (by omega)).congr (fun n hn => (hf n hn).symm) (fun _ _ => rfl)
  obtain ⟨s1, s2, s3, s4, s5⟩ := hs
  exact (Rn.step R hk (fl_i2f (nI_toInt (by omega)) (by omega)) s1 (fl_i2f (nI_toInt (by omega)) (by omega)) s2 s3 (fl_pw s5) s4 s5).1
theorem runs_low {S L P : Nat} {h : Nat → Bool} (hs : SetOK S L P) {k : Nat} (hk : k ≤ 301) : ∃ z : Nat → Int, ∀ p, p < 64 → fl (runs S L P h k p) false (z p) ∧ 0 ≤ z p ∧ z p ≤ 301 * 2 ^ 156 ∧ (z p = 0 ∨ 2 ^ 36 ≤ z p) := by
  obtain ⟨z, hz⟩ := runs_ok (h := h) hs k hk
  refine ⟨z, fun p hp => ?_⟩
  obtain ⟨g1, g2, g3, g4, g5⟩ := hz p hp
  refine ⟨g1, g2, by omega, ?_⟩
  by_cases hc : ∀ q, q < 64 → h q = true → k ≤ sp_d S q p
  · exact Or.inl (g5 hc)
  · right
    have : ∃ q, q < 64 ∧ h q = true ∧ sp_d S q p < k := Classical.byContradiction fun hn => hc fun q hq hh => Nat.le_of_not_lt fun hlt => hn ⟨q, hq, hh, hlt⟩
    obtain ⟨q, hq, hh, hlt⟩ := this
    have e1 := g4 q hq hh hlt
    have e2 := (sp_pw_lo _ (sp_d_lt hq hp (by omega) hlt)).1
    omega
theorem passOne_eq {o S L P k : Nat} {M : Int64} {σ : wx_St} {h : Nat → Bool} (hs : SetOK S L P) (hk : k ≤ 300) (h0 : σ.1 o 0 0 = nI S) (h1 : 100 - σ.1 o 0 1 = nI L) (h2 : σ.1 o 0 2 = nI P) (hf : ∀ p, p < 64 → σ.2.1 o 7 p = runs S L P h k p) (hM : ∀ p, p < 64 → mk M p = h p) :
    ∃ τ, f_X0_passOne o M σ = some ((), τ) ∧ τ.1 = σ.1 ∧ τ.2.2 = σ.2.2 ∧ (∀ i, i < 64 → τ.2.1 o 7 i = runs S L P h (k + 1) i) ∧ ∀ o' k' i, ¬ (o' = o ∧ (k' = 7 ∨ k' = 8)) → τ.2.1 o' k' i = σ.2.1 o' k' i := by
  have hok := runs_sok (h := h) hs hk (f := fun p => σ.2.1 o 7 (0 + p)) (fun p hp => by rw [Nat.zero_add]; exact hf p hp)
  have e := st_step (o0 := o) (k0 := 7) (n0 := 64) (o2 := o) (k2 := 8) (n2 := 64) (o6 := o) (k6 := 0) (a := 0) (b := 0) (x4 := M) (σ := σ) (h := h) (by decide) (by decide) (by decide) (by decide) (Or.inl (fun hx => absurd hx.2 (by decide))) (fun Q hQ => by rw [isIn_eq M hQ, hM Q hQ]) h0 h1 h2 hok
  unfold f_X0_passOne
  rw [show (0 : Int32) = nI 0 from rfl, px_b e]
  refine ⟨_, rfl, rfl, rfl, fun i hi => ?_, fun o' k' i hne => ?_⟩
  · show (if o = o ∧ 7 = 7 then va_cpy _ _ 0 0 64 i else _) = _
    rw [if_pos ⟨rfl, rfl⟩]
    unfold va_cpy
    rw [if_pos (by omega)]
    show (if o = o ∧ 8 = 8 ∧ 0 ≤ 0 + (i - 0) ∧ 0 + (i - 0) < 0 + 64 then sp_step _ _ _ _ h (0 + (i - 0) - 0) else _) = _
    rw [if_pos ⟨rfl, rfl, by omega, by omega⟩, show 0 + (i - 0) - 0 = i by omega]
    exact sp_step_congr (fun n hn => by rw [Nat.zero_add]; exact hf n hn) (fun _ _ => rfl) hi
  · show (if o' = o ∧ k' = 7 then _ else (if o' = o ∧ k' = 8 ∧ _ then _ else σ.2.1 o' k' i)) = _
    rw [if_neg (fun hx => hne ⟨hx.1, Or.inl hx.2⟩), if_neg (fun hx => hne ⟨hx.1, Or.inr hx.2.1⟩)]

