/-! WHAT IS READ, told by the board -/
theorem cnt_zero {h : Nat → Bool} : ∀ n, cnt h n = 0 → ∀ q, q < n → h q = false
  | 0, _, q, hq => absurd hq (Nat.not_lt_zero q)
  | n + 1, hc, q, hq => by
    have e : cnt h (n + 1) = cnt h n + (if h n = true then 1 else 0) := rfl
    rw [e] at hc
    by_cases hqn : q = n
    · subst hqn
      cases hh : h q with
      | false => rfl
      | true => rw [hh, if_pos rfl] at hc; omega
    · exact cnt_zero n (by omega) q (by omega)
theorem heat_live0 {b : Bd} (h : cnt (live b) (bT b) = 0) (q : Nat) : heat b q = false := by
  unfold heat
  rw [List.any_eq_false]
  intro i hi
  rw [cnt_zero _ h i (List.mem_range.mp hi)]
  simp
theorem warm_0 {b : Bd} (g : good b) {P : Nat} (hP : P < 64) (h : bK b = 0 ∨ cnt (live b) (bT b) = 0) : bWarm b P = 0 := by
  have gK := g.2.2.2.2.2.2.1
  rcases h with h | h
  · exact bWarm_0 h P
  · exact runs_cold g.set (by omega) (fun q _ => heat_live0 h q) hP
theorem ta_heat {b : Bd} (g : good b) {P : Nat} {r : Int32} (h : TA b P r) : (r = -6 ∧ heat b P = false) ∨ ∃ i, i < bT b ∧ bP b i = P ∧ r = nI i ∧ heat b P = live b i := by
  rcases h with ⟨i, hi, hp, hr⟩ | ⟨h, hr⟩
  · exact Or.inr ⟨i, hi, hp, hr, heat_at g hi hp⟩
  · exact Or.inl ⟨hr, heat_no h⟩
theorem read_x {b : Bd} (g : good b) {P : Nat} (hP : P < 64) (h0 : bS b 0 = 0) (h1 : bS b 1 = 0) : rdf (bWarm b P) = if heat b P = true then 10 * nI (bS b 2) * nI (bK b) else 0 := by
  have gK := g.2.2.2.2.2.2.1
  have gS := g.1
  have e := runs_exact (P := bS b 2) (h := heat b) (by omega) (bK b) gK P hP
  have ew : bWarm b P = runs 0 100 (bS b 2) (heat b) (bK b) P := by
    unfold bWarm
    rw [h0, h1]
  rw [ew]
  cases hh : heat b P with
  | false =>
    rw [hh, if_neg (by decide)] at e
    rw [if_neg (by decide), rdf_exact e (by decide)]
    rfl
  | true =>
    rw [hh, if_pos rfl] at e
    have hm : bS b 2 * bK b ≤ 99 * 100 := Nat.mul_le_mul gS.2.2.2.1 gK
    rw [if_pos rfl, rdf_exact e (by omega), show (10 : Int32) = nI 10 from rfl, nI_mul, nI_mul]
    congr 1
    ac_rfl
theorem read_nn {b : Bd} (g : good b) {P : Nat} (hP : P < 64) : ¬ rdf (bWarm b P) < 0 := by
  obtain ⟨-, j, hj, e⟩ := warm_ok g hP
  rw [e]
  exact nI_pos hj
/-! ONE PLACE of a comparison -/
def trk (b : Bd) (p : Nat) : Bool := decide (bN b p ≠ 0)
def many (b : Bd) (P n : Nat) : Nat := cnt (fun p => decide (bN b p = n)) P
def CO (could : Int64) (b : Bd) : Prop := ∀ p, p < 64 → cb b p = (sus b p && mk could p)
theorem q_S0 {b : Bd} {σ : wx_St} (h : LR b σ) {α : Type} (F : Int32 → Option α) : wx_rI σ 16 0 7 0 F = F (nI (bS b 0)) := q_S h (i := 0) (by decide) F
theorem q_S1 {b : Bd} {σ : wx_St} (h : LR b σ) {α : Type} (F : Int32 → Option α) : wx_rI σ 16 0 7 1 F = F (nI (bS b 1)) := q_S h (i := 1) (by decide) F
theorem q_S2 {b : Bd} {σ : wx_St} (h : LR b σ) {α : Type} (F : Int32 → Option α) : wx_rI σ 16 0 7 2 F = F (nI (bS b 2)) := q_S h (i := 2) (by decide) F
theorem q_S3 {b : Bd} {σ : wx_St} (h : LR b σ) {α : Type} (F : Int32 → Option α) : wx_rI σ 16 0 7 3 F = F (nI (bS b 3)) := q_S h (i := 3) (by decide) F
theorem nI_z {n : Nat} (h : n < 2 ^ 31) : (nI n = 0 ↔ n = 0) := nI_eq (b := 0) h (by decide)
section place
variable {b : Bd} {σ : wx_St} {K30 : Int64 → Int32 → Int32 → Int32 → Int32 → Int32 → wx_St → Option (Int32 × wx_St)} {K49 : Int64 → Int32 → Int32 → Int32 → Int32 → Int32 → Int32 → Int32 → Int32 → Int32 → wx_St → Option (Int32 × wx_St)} {x1 : Int64} {x8 x9 x10 x11 x13 x14 x15 x16 x17 x22 : Int32} {P : Nat}
theorem p351 (h : LR b σ) (g : good b) (hP : P < 64) {s c : Bool} {x21 x23 : Int32} : f_L_same_351 K30 K49 x1 x8 x9 x10 x11 x13 x14 x15 x16 x17 (nI P) (b01 s) (b01 c) x21 x22 x23 σ = K49 x1 (x8 + b01 (trk b P)) (x9 + b01 s) (x10 + b01 c) x11 x13 x14 x15 x16 (x17 + 1) σ := by
  have gN := g.2.1 P hP
  unfold f_L_same_351 f_L_same_363 f_L_same_388
  rw [q_b h hP, q_b h hP]
  unfold trk
  have e : (if b01 s = 0 then (0 : Int32) else 1) = b01 s := by cases s <;> rfl
  by_cases h0 : bN b P = 0
  · rw [if_pos ((nI_le0 _ gN).mpr h0), if_pos ((nI_le0 _ gN).mpr h0), decide_eq_false (fun hh => hh h0)]
    cases s <;> rfl
  · rw [if_neg (fun hh => h0 ((nI_le0 _ gN).mp hh)), if_neg (fun hh => h0 ((nI_le0 _ gN).mp hh)), decide_eq_true h0]
    cases s <;> rfl
theorem p311 (h : LR b σ) (g : good b) (hP : P < 64) {s c : Bool} : f_L_same_311 K30 K49 x1 x8 x9 x10 x11 x13 x14 x15 x16 x17 (nI P) (b01 s) (b01 c) (rdf (bWarm b P)) x22 (b01 (heat b P)) σ = K49 x1 (x8 + b01 (trk b P)) (x9 + b01 s) (x10 + b01 c) x11 x13 x14 x15 x16 (x17 + 1) σ := by
  have gS := g.1
  unfold f_L_same_311
  rw [q_S0 h, q_S1 h, q_S2 h, q_K h]
  by_cases h0 : bS b 0 = 0
  · rw [if_pos ((nI_z (by omega)).mpr h0)]
    by_cases h1 : bS b 1 = 0
    · rw [if_pos ((nI_z (by omega)).mpr h1)]
      have e := read_x g hP h0 h1
      unfold f_L_same_346
      cases hh : heat b P with
      | false =>
        rw [hh, if_neg (by decide)] at e
        rw [if_pos (show b01 false = 0 from rfl), if_pos e]
        exact p351 h g hP
      | true =>
        rw [hh, if_pos rfl] at e
        rw [if_neg (show ¬ b01 true = 0 by decide), if_pos e]
        exact p351 h g hP
    · rw [if_neg (fun hh => h1 ((nI_z (by omega)).mp hh))]
      exact p351 h g hP
  · rw [if_neg (fun hh => h0 ((nI_z (by omega)).mp hh))]
    exact p351 h g hP
theorem p269 (h : LR b σ) (g : good b) (hP : P < 64) {s c : Bool} : f_L_same_269 K30 K49 x1 x8 x9 x10 x11 x13 x14 x15 x16 x17 (nI P) (b01 s) (b01 c) (rdf (bWarm b P)) σ = K49 x1 (x8 + b01 (trk b P)) (x9 + b01 s) (x10 + b01 c) x11 x13 x14 x15 x16 (x17 + 1) σ := by
  obtain ⟨r, r1, r2⟩ := ltouch_eq h g hP
  have gT := g.2.2.2.1
  unfold f_L_same_269
  rw [px_o r1]
  rcases ta_heat g r2 with ⟨e, hh⟩ | ⟨i, hi, hp, e, hh⟩
  · rw [e, if_pos (by decide)]
    unfold f_L_same_310
    have := p311 (K30 := K30) (K49 := K49) (x1 := x1) (x8 := x8) (x9 := x9) (x10 := x10) (x11 := x11) (x13 := x13) (x14 := x14) (x15 := x15) (x16 := x16) (x17 := x17) (x22 := -6) h g hP (s := s) (c := c)
    rw [hh] at this
    exact this
  · obtain ⟨gP, gO1, gO, -⟩ := g.2.2.2.2.1 i hi
    have el : live b i = (bF b (bN b P)).testBit (bO b i) := by unfold live; rw [hp]
    rw [e, if_neg (nI_pos (by omega)), q_b h hP, q_O h g hi, px_o (lfed_eq h g (g.2.1 P hP) gO), ← el]
    unfold f_L_same_310
    have := p311 (K30 := K30) (K49 := K49) (x1 := x1) (x8 := x8) (x9 := x9) (x10 := x10) (x11 := x11) (x13 := x13) (x14 := x14) (x15 := x15) (x16 := x16) (x17 := x17) (x22 := nI i) h g hP (s := s) (c := c)
    rw [hh] at this
    cases hl : live b i with
    | false =>
      rw [hl] at this
      rw [if_pos (show b01 false = 0 from rfl)]
      exact this
    | true =>
      rw [hl] at this
      rw [if_neg (show ¬ b01 true = 0 by decide)]
      exact this
end place
section place2
variable {b : Bd} {σ : wx_St} {K30 : Int64 → Int32 → Int32 → Int32 → Int32 → Int32 → wx_St → Option (Int32 × wx_St)} {K49 : Int64 → Int32 → Int32 → Int32 → Int32 → Int32 → Int32 → Int32 → Int32 → Int32 → wx_St → Option (Int32 × wx_St)} {x1 : Int64} {x8 x9 x10 x14 x15 x16 : Int32} {R C t : Nat} {k : Nat → Nat}
theorem p232 (S : SM b t k σ) (hR : R < 8) (hC : C < 8) {s c : Bool} : ∃ τ, SM b t k τ ∧ f_L_same_232 K30 K49 x1 x8 x9 x10 (nI (cnt (live b) (bT b))) (nI R) x14 x15 x16 (nI C) (nI (8 * R + C)) (b01 s) (b01 c) (rdf (bWarm b (8 * R + C))) σ = K49 x1 (x8 + b01 (trk b (8 * R + C))) (x9 + b01 s) (x10 + b01 c) (nI (cnt (live b) (bT b))) (nI R) x14 x15 x16 (nI C + 1) τ := by
  have g := S.1.good
  have hP : 8 * R + C < 64 := by omega
  have gT := g.2.2.2.1
  have gK := g.2.2.2.2.2.2.1
  have hc := cnt_le (live b) (bT b)
  have e250 : (bK b = 0 ∨ cnt (live b) (bT b) = 0) → ∃ τ, SM b t k τ ∧ f_L_same_250 K30 K49 x1 x8 x9 x10 (nI (cnt (live b) (bT b))) (nI R) x14 x15 x16 (nI C) (nI (8 * R + C)) (b01 s) (b01 c) (rdf (bWarm b (8 * R + C))) σ = K49 x1 (x8 + b01 (trk b (8 * R + C))) (x9 + b01 s) (x10 + b01 c) (nI (cnt (live b) (bT b))) (nI R) x14 x15 x16 (nI C + 1) τ := by
    intro h0
    have w0 := warm_0 g hP h0
    obtain ⟨τ, S1, e1⟩ := S.call (at5_1 hR hC)
    refine ⟨τ, S1, ?_⟩
    unfold f_L_same_250
    rw [if_pos (by rw [w0]; exact rdf_0), show (1 : Int32) = 1 from rfl, e1]
    unfold f_L_same_264
    rw [if_pos (by rw [w0]; rfl)]
    exact p269 S1.2.1 g hP
  unfold f_L_same_232
  rw [if_neg (read_nn g hP), q_K S.2.1]
  by_cases h0 : bK b = 0
  · rw [if_pos ((nI_z (by omega)).mpr h0)]
    exact e250 (Or.inl h0)
  · rw [if_neg (fun hh => h0 ((nI_z (by omega)).mp hh))]
    by_cases h1 : cnt (live b) (bT b) = 0
    · rw [if_pos ((nI_z (by omega)).mpr h1)]
      exact e250 (Or.inr h1)
    · rw [if_neg (fun hh => h1 ((nI_z (by omega)).mp hh))]
      exact ⟨σ, S, p269 S.2.1 g hP⟩
theorem p148 (S : SM b t k σ) (hR : R < 8) (hC : C < 8) {c : Bool} {y0 y1 : Int32} : ∃ τ, SM b t k τ ∧ f_L_same_148 K30 K49 x1 x8 x9 x10 (nI (cnt (live b) (bT b))) (nI R) x14 x15 x16 (nI C) (nI (8 * R + C)) (b01 (sus b (8 * R + C))) (b01 c) y0 y1 σ = K49 x1 (x8 + b01 (trk b (8 * R + C))) (x9 + b01 (sus b (8 * R + C))) (x10 + b01 c) (nI (cnt (live b) (bT b))) (nI R) x14 (y0 ||| y1) (x16 ||| (b01 c <<< (nI C &&& 31))) (nI C + 1) τ := by
  have g := S.1.good
  have hP : 8 * R + C < 64 := by omega
  obtain ⟨σ1, S1, e1⟩ := S.call (at5_0 hR hC)
  obtain ⟨σ2, S2, e2⟩ := S1.call (at5_3 hR hC)
  obtain ⟨r, r1, r2⟩ := ltouch_eq S2.2.1 g hP
  obtain ⟨σ3, S3, e3⟩ := S2.call (at5_6 hR hC r2)
  obtain ⟨r', r1', r2'⟩ := ltouch_eq S3.2.1 g hP
  have hrr : r = r' := r2.uniq g r2'
  subst hrr
  obtain ⟨σ4, S4, e4⟩ := S3.call (at5_2 hR hC)
  obtain ⟨τ, S5, e5⟩ := p232 (K30 := K30) (K49 := K49) (x1 := x1) (x8 := x8) (x9 := x9) (x10 := x10) (x14 := x14) (x15 := y0 ||| y1) (x16 := x16 ||| (b01 c <<< (nI C &&& 31))) S4 hR hC (s := sus b (8 * R + C)) (c := c)
  refine ⟨τ, S5, ?_⟩
  unfold f_L_same_148
  rw [e1]
  unfold f_L_same_170
  rw [q_b S1.2.1 hP, if_pos rfl, e2]
  unfold f_L_same_187
  have e197 : ∀ (q : Int32), q = b01 (sus b (8 * R + C)) → f_L_same_197 K30 K49 x1 x8 x9 x10 (nI (cnt (live b) (bT b))) (nI R) x14 (y0 ||| y1) (x16 ||| (b01 c <<< (nI C &&& 31))) (nI C) (nI (8 * R + C)) (b01 (sus b (8 * R + C))) (b01 c) (b01 (sus b (8 * R + C))) q σ2 = f_L_same_232 K30 K49 x1 x8 x9 x10 (nI (cnt (live b) (bT b))) (nI R) x14 (y0 ||| y1) (x16 ||| (b01 c <<< (nI C &&& 31))) (nI C) (nI (8 * R + C)) (b01 (sus b (8 * R + C))) (b01 c) (rdf (bWarm b (8 * R + C))) σ4 := by
    intro q hq
    unfold f_L_same_197
    rw [if_pos hq.symm, e3]
    unfold f_L_same_210
    rw [px_o r1', if_pos rfl, e4]
  rw [← e5]
  by_cases hs : b01 (sus b (8 * R + C)) = 0
  · rw [if_pos hs]
    exact e197 0 hs.symm
  · rw [if_neg hs]
    refine e197 1 ?_
    cases hh : sus b (8 * R + C) with
    | false => rw [hh] at hs; exact absurd rfl hs
    | true => rfl
end place2
