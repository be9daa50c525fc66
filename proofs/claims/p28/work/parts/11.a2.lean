/-! fits, in the class -/
def lw (b : Bd) (P i : Nat) : UInt32 := rl b P (bC b i) (bA b i)
def lw2 (b : Bd) (P Q i : Nat) : UInt32 := FP.fadd (lw b P i) (lw b Q i)
def fit1 (b : Bd) (i : Nat) (w : UInt32) : Bool := decide (((rdf w).toInt - (bB b i : Int)).natAbs ≤ bS b 3)
def fitN (b : Bd) (w : Nat → UInt32) : Bool := (List.range (bR b)).all (fun i => fit1 b i (w i))
def okW (w : UInt32) : Prop := wx_nn (FP.fmul w 1092616192) = true ∧ ∃ j, j < 2 ^ 31 ∧ rdf w = nI j
theorem fl_add_pos {a c : UInt32} {x y : Int} (ha : fl a false x) (hc : fl c false y) (hx : 0 ≤ x) (hy : 0 ≤ y) (hx1 : x ≤ 301 * 2 ^ 156) (hy1 : y ≤ 301 * 2 ^ 156) : wx_nn (FP.fadd a c) = true ∧ okW (FP.fadd a c) := by
  have p200 : (2 : Nat) ^ 200 = 1606938044258990275541962092341162602522202993782792835301376 := by decide
  obtain ⟨v, hv, he⟩ := fl_add ha hc (by rw [p200]; omega)
  rw [dl_sg (by omega)] at hv
  have he' := he
  unfold Er at he'
  have hv0 : 0 ≤ v ∧ v ≤ 2 ^ 180 := by omega
  have hr := readOf_nn hv hv0.1 hv0.2
  refine ⟨fl_nn hv, hr.1, ?_⟩
  have h0 : ¬ rdf (FP.fadd a c) < 0 := by
    intro hh
    rw [Int32.lt_iff_toInt_lt] at hh
    have e0 : (0 : Int32).toInt = 0 := rfl
    have h2 : 0 ≤ (rdf (FP.fadd a c)).toInt := hr.2
    omega
  obtain ⟨j, hj, e⟩ := nI_of h0
  exact ⟨j, hj, e⟩
theorem lw_ok {b : Bd} (g : good b) {P i : Nat} (hi : i < bR b) : okW (lw b P i) := by
  obtain ⟨r1, r2, r3⟩ := g.2.2.2.2.2.2.2.2 i hi
  have gK := g.2.2.2.2.2.2.1
  exact rd_ok g.set (by omega) r1
theorem lw2_ok {b : Bd} (g : good b) {P Q i : Nat} (hi : i < bR b) : wx_nn (lw2 b P Q i) = true ∧ okW (lw2 b P Q i) := by
  obtain ⟨r1, r2, r3⟩ := g.2.2.2.2.2.2.2.2 i hi
  have gK := g.2.2.2.2.2.2.1
  obtain ⟨z, hz⟩ := runs_low (h := lone P) g.set (k := bC b i) (by omega)
  obtain ⟨y, hy⟩ := runs_low (h := lone Q) g.set (k := bC b i) (by omega)
  obtain ⟨z1, z2, z3, -⟩ := hz _ r1
  obtain ⟨y1, y2, y3, -⟩ := hy _ r1
  exact fl_add_pos z1 y1 z2 y2 z3 y3
theorem abs5 {j m d : Nat} (hj : j < 2 ^ 31) (hm : m < 2 ^ 31) (hd : d < 100) : (if 0 ≤ (nI j - nI m) then (nI j - nI m) else 0 - (nI j - nI m)) ≤ nI d ↔ ((j : Int) - (m : Int)).natAbs ≤ d := by
  have e1 : (nI j - nI m).toInt = (j : Int) - m := by
    rw [Int32.toInt_sub, nI_toInt hj, nI_toInt hm]
    exact Int.bmod_eq_of_le (by omega) (by omega)
  have e2 : (0 - (nI j - nI m)).toInt = -((j : Int) - m) := by
    rw [Int32.toInt_sub, e1]
    have e0 : (0 : Int32).toInt = 0 := rfl
    rw [e0, Int.zero_sub]
    exact Int.bmod_eq_of_le (by omega) (by omega)
  have e0 : (0 : Int32).toInt = 0 := rfl
  by_cases h : 0 ≤ (nI j - nI m)
  · rw [if_pos h, Int32.le_iff_toInt_le, e1, nI_toInt (by omega)]
    rw [Int32.le_iff_toInt_le, e1, e0] at h
    omega
  · rw [if_neg h, Int32.le_iff_toInt_le, e2, nI_toInt (by omega)]
    rw [Int32.le_iff_toInt_le, e1, e0] at h
    omega
theorem fits_80 {b : Bd} {σ : wx_St} (g : good b) (hb : bdI 7 b σ) {K : Int32 → Int32 → Int32 → wx_St → Option (Int32 × wx_St)} {x2 x3 : Int32} {i : Nat} {w : UInt32} (hi : i < bR b) (hw : okW w) : f_X4_fits_80 7 K x2 x3 (nI i) w σ = if fit1 b i w = true then K x2 x3 (nI (i + 1)) σ else some (0, σ) := by
  have gR := g.2.2.2.2.2.2.2.1
  obtain ⟨w1, j, w2, w3⟩ := hw
  obtain ⟨r1, r2, r3⟩ := g.2.2.2.2.2.2.2.2 i hi
  have h3 := g.1.2.2.2.2
  unfold f_X4_fits_80
  rw [px_o (readOf5 w1), px_rI (by omega) (by decide), (hb.2.2.2.2.2.2.2 i hi).2.1, show wx_rI σ 7 0 4 3 = wx_rI σ 7 0 4 (nI 3) from rfl, px_rI (by decide) (by decide), hb.1 3 (by decide), w3, nI_1]
  have e := abs5 (j := j) (m := bB b i) (d := bS b 3) w2 r2 (by omega)
  unfold fit1
  rw [w3, nI_toInt w2]
  by_cases h : ((j : Int) - (bB b i : Int)).natAbs ≤ bS b 3
  · rw [if_pos (e.mpr h), if_pos (decide_eq_true h)]
  · rw [if_neg (fun hh => h (e.mp hh)), if_neg (by simpa using h)]
/-- high: none, or another place -/
def hiI (hi : Option Nat) : Int32 := match hi with
  | none => -6
  | some q => nI q
def hiW (b : Bd) (P : Nat) (hi : Option Nat) (i : Nat) : UInt32 := match hi with
  | none => lw b P i
  | some q => lw2 b P q i
theorem fits_14 {b : Bd} (g : good b) {P : Nat} (hP : P < 64) (hi : Option Nat) (hh : ∀ q, hi = some q → q < 64) : ∀ (n i m : Nat) (z : Nat → Nat) (σ : wx_St), bdI 7 b σ → loneI (bS b 0) (bS b 1) (bS b 2) z σ → i + n = bR b → n < m → (∀ k, k < i → fit1 b k (hiW b P hi k) = true) →
    ∃ τ z', f_X4_fits_14 7 m (nI P) (hiI hi) (nI i) σ = some (b01 (fitN b (hiW b P hi)), τ) ∧ loneI (bS b 0) (bS b 1) (bS b 2) z' τ ∧ eqL σ τ := by
  have gR := g.2.2.2.2.2.2.2.1
  have gK := g.2.2.2.2.2.2.1
  intro n
  induction n with
  | zero =>
    intro i m z σ hb hl hi0 hm hall
    obtain ⟨m, rfl⟩ : ∃ k, m = k + 1 := ⟨m - 1, by omega⟩
    have hi1 : i = bR b := by omega
    subst hi1
    rw [f_X4_fits_14, hb.2.2.2.2.2.2.1, if_pos (nI_le (Nat.le_refl _) (by omega))]
    have : fitN b (hiW b P hi) = true := by
      unfold fitN
      rw [List.all_eq_true]
      intro k hk
      exact hall k (List.mem_range.mp hk)
    rw [this]
    exact ⟨σ, z, rfl, hl, eqL.rf σ⟩
  | succ n ih =>
    intro i m z σ hb hl hi0 hm hall
    obtain ⟨m, rfl⟩ : ∃ k, m = k + 1 := ⟨m - 1, by omega⟩
    have hiR : i < bR b := by omega
    obtain ⟨r1, r2, r3⟩ := g.2.2.2.2.2.2.2.2 i hiR
    obtain ⟨b10, b11, b12⟩ := hb.2.2.2.2.2.2.2 i hiR
    obtain ⟨τ, z', t1, t2, t3⟩ := warmthBy_ok (p := bA b i) (k := bC b i) g.set hP (by omega) r1 hl
    have hbτ : bdI 7 b τ := hb.agr (t3.1 7 (by decide))
    have fin : ∀ (ρ : wx_St) (z'' : Nat → Nat), bdI 7 b ρ → loneI (bS b 0) (bS b 1) (bS b 2) z'' ρ → eqL σ ρ → okW (hiW b P hi i) → ∃ τ z', f_X4_fits_80 7 (f_X4_fits_14 7 m) (nI P) (hiI hi) (nI i) (hiW b P hi i) ρ = some (b01 (fitN b (hiW b P hi)), τ) ∧ loneI (bS b 0) (bS b 1) (bS b 2) z' τ ∧ eqL σ τ := by
      intro ρ z'' hbρ hlρ exρ hw
      rw [fits_80 g hbρ hiR hw]
      by_cases hf : fit1 b i (hiW b P hi i) = true
      · rw [if_pos hf]
        obtain ⟨ν, zz, n1, n2, n3⟩ := ih (i + 1) m z'' ρ hbρ hlρ (by omega) (by omega) (fun k hk => by
          by_cases he : k = i
          · rw [he]; exact hf
          · exact hall k (by omega))
        exact ⟨ν, zz, n1, n2, exρ.tr n3⟩
      · rw [if_neg hf]
        have : fitN b (hiW b P hi) = false := by
          unfold fitN
          rw [List.all_eq_false]
          exact ⟨i, List.mem_range.mpr hiR, hf⟩
        rw [this]
        exact ⟨ρ, z'', rfl, hlρ, exρ⟩
    rw [f_X4_fits_14, hb.2.2.2.2.2.2.1, if_neg (nI_ge hiR (by omega)), px_rI (by omega) (by decide), b12, px_rI (by omega) (by decide), b10, px_b t1]
    unfold f_X4_fits_45
    cases hi with
    | none =>
      rw [if_pos (show hiI none = -6 from rfl)]
      exact fin τ z' hbτ t2 t3 (lw_ok g hiR)
    | some q =>
      have hq := hh q rfl
      rw [if_neg (show ¬ hiI (some q) = -6 from p64_i q hq)]
      obtain ⟨c10, c11, c12⟩ := hbτ.2.2.2.2.2.2.2 i hiR
      rw [px_rI (by omega) (by decide), c12, px_rI (by omega) (by decide), c10]
      obtain ⟨ρ, z'', u1, u2, u3⟩ := warmthBy_ok (p := bA b i) (k := bC b i) g.set hq (by omega) r1 t2
      have u1' : f_X1_warmthBy (hiI (some q)) (nI (bC b i)) (nI (bA b i)) τ = some (runs (bS b 0) (100 - bS b 1) (bS b 2) (lone q) (bC b i) (bA b i), ρ) := u1
      rw [px_b u1']
      unfold f_X4_fits_77
      have w2 := lw2_ok g (P := P) (Q := q) hiR
      have e : FP.fadd (runs (bS b 0) (100 - bS b 1) (bS b 2) (lone P) (bC b i) (bA b i)) (runs (bS b 0) (100 - bS b 1) (bS b 2) (lone q) (bC b i) (bA b i)) = lw2 b P q i := rfl
      rw [e, px_f w2.1]
      exact fin ρ z'' (hbτ.agr (u3.1 7 (by decide))) u2 (t3.tr u3) w2.2
/-- what the class's readers keep: the board, lone rows for some settings -/
def kL (b : Bd) (σ : wx_St) : Prop := bdI 7 b σ ∧ ∃ S L P z, loneI S L P z σ
theorem fits5 {b : Bd} {σ : wx_St} (g : good b) (h : kL b σ) {P : Nat} (hP : P < 64) (hi : Option Nat) (hh : ∀ q, hi = some q → q < 64) : ∃ τ, f_X4_fits 7 (nI P) (hiI hi) σ = some (b01 (fitN b (hiW b P hi)), τ) ∧ kL b τ ∧ eqL σ τ := by
  obtain ⟨hb, S, L, PP, z, hl⟩ := h
  have gR := g.2.2.2.2.2.2.2.1
  obtain ⟨τ, z', t1, t2, t3⟩ := follow_ok g hb hl
  have hbτ : bdI 7 b τ := hb.agr (t3.1 7 (by decide))
  obtain ⟨ρ, z'', u1, u2, u3⟩ := fits_14 g hP hi hh (bR b) 0 2000 z' τ hbτ t2 (by omega) (by omega) (fun k hk => absurd hk (by omega))
  have u1' : f_X4_fits_14 7 2000 (nI P) (hiI hi) 0 τ = some (b01 (fitN b (hiW b P hi)), ρ) := u1
  unfold f_X4_fits
  rw [px_b t1, u1']
  exact ⟨ρ, rfl, ⟨hbτ.agr (u3.1 7 (by decide)), _, _, _, _, u2⟩, t3.tr u3⟩
def cb (b : Bd) (P : Nat) : Bool := sus b P && fitN b (lw b P)
def fit2 (b : Bd) (P Q : Nat) : Bool := fitN b (lw2 b P Q)
theorem couldBe5 {b : Bd} {σ : wx_St} (g : good b) (h : kL b σ) {P : Nat} (hP : P < 64) : ∃ τ, f_X4_couldBe 7 (nI P) σ = some (b01 (cb b P), τ) ∧ kL b τ ∧ eqL σ τ := by
  have e24 : ∀ c τ, f_X4_couldBe_24 7 (nI P) (b01 c) τ = some (b01 c, τ) := fun c τ => px_z
  unfold f_X4_couldBe
  rw [px_o (isSuspect5 h.1 g hP)]
  unfold f_X4_couldBe_23 f_X4_couldBe_16
  cases hs : sus b P with
  | false =>
    rw [if_pos (show b01 false = 0 from rfl)]
    have : cb b P = false := by unfold cb; rw [hs]; rfl
    rw [this]
    exact ⟨σ, e24 false σ, h, eqL.rf σ⟩
  | true =>
    rw [if_neg (show ¬ b01 true = 0 by decide)]
    obtain ⟨τ, t1, t2, t3⟩ := fits5 g h hP none (fun q hq => by cases hq)
    have t1' : f_X4_fits 7 (nI P) (-6) σ = some (b01 (fitN b (lw b P)), τ) := t1
    rw [px_b t1']
    have : cb b P = fitN b (lw b P) := by unfold cb; rw [hs]; rfl
    rw [this]
    refine ⟨τ, ?_, t2, t3⟩
    cases hf : fitN b (lw b P) with
    | false =>
      rw [if_pos (show b01 false = 0 from rfl)]
      exact e24 false τ
    | true =>
      rw [if_neg (show ¬ b01 true = 0 by decide)]
      exact e24 true τ
theorem fitting_loop {b : Bd} (g : good b) : ∀ (n P m : Nat) (M : Int64) (σ : wx_St), kL b σ → P + n = 64 → n < m → (∀ p, p < 64 → mk M p = (decide (p < P) && cb b p)) → ∃ M' τ, f_X4_fitting_5 7 m M (nI P) σ = some (M', τ) ∧ (∀ p, p < 64 → mk M' p = cb b p) ∧ kL b τ ∧ eqL σ τ := by
  intro n
  induction n with
  | zero =>
    intro P m M σ h hP hm hM
    obtain ⟨m, rfl⟩ : ∃ k, m = k + 1 := ⟨m - 1, by omega⟩
    have hP : P = 64 := by omega
    subst hP
    rw [f_X4_fitting_5, if_pos (by decide)]
    refine ⟨M, σ, rfl, fun p hp => ?_, h, eqL.rf σ⟩
    rw [hM p hp, decide_eq_true hp]
    rfl
  | succ n ih =>
    intro P m M σ h hP hm hM
    obtain ⟨m, rfl⟩ : ∃ k, m = k + 1 := ⟨m - 1, by omega⟩
    have hP64 : P < 64 := by omega
    obtain ⟨τ, t1, t2, t3⟩ := couldBe5 g h hP64
    rw [f_X4_fitting_5, if_neg (p64_c P hP64).2.2.2.2, px_b t1]
    unfold f_X4_fitting_19 f_X4_fitting_29
    rw [nI_1]
    cases hc : cb b P with
    | false =>
      rw [if_pos (show b01 false = 0 from rfl)]
      obtain ⟨M', ρ, r1, r2, r3, r4⟩ := ih (P + 1) m M τ t2 (by omega) (by omega) (fun p hp => by
        rw [hM p hp]
        by_cases he : p = P
        · subst he
          rw [hc, Bool.and_false, Bool.and_false]
        · rw [show decide (p < P) = decide (p < P + 1) from decide_eq_decide.mpr (by omega)])
      exact ⟨M', ρ, r1, r2, r3, t3.tr r4⟩
    | true =>
      rw [if_neg (show ¬ b01 true = 0 by decide)]
      obtain ⟨M', ρ, r1, r2, r3, r4⟩ := ih (P + 1) m (M ||| ((1 : Int64) <<< ((nI P).toInt64 &&& 63))) τ t2 (by omega) (by omega) (fun p hp => by
        rw [mk_or M hP64 hp, hM p hp]
        by_cases he : p = P
        · subst he
          rw [hc, decide_eq_true (show p = p from rfl), decide_eq_true (show p < p + 1 by omega), Bool.or_true]
          rfl
        · rw [decide_eq_false he, Bool.or_false, show decide (p < P) = decide (p < P + 1) from decide_eq_decide.mpr (by omega)])
      exact ⟨M', ρ, r1, r2, r3, t3.tr r4⟩
theorem fitting5 {b : Bd} {σ : wx_St} (g : good b) (h : kL b σ) : ∃ M τ, f_X4_fitting 7 σ = some (M, τ) ∧ (∀ p, p < 64 → mk M p = cb b p) ∧ kL b τ ∧ eqL σ τ :=
  fitting_loop g 64 0 2000 0 σ h (by omega) (by omega) (fun p _ => by rw [mk_0]; rfl)
theorem readBy5 {b : Bd} {σ : wx_St} (g : good b) (h : kL b σ) {Q P : Nat} (hQ : Q < 64) (hP : P < 64) : ∃ τ, f_X4_readBy 7 (nI Q) (nI P) σ = some (rdf (rl b Q (bK b) P), τ) ∧ kL b τ ∧ eqL σ τ := by
  obtain ⟨hb, S, L, PP, z, hl⟩ := h
  have gK := g.2.2.2.2.2.2.1
  obtain ⟨τ, z', t1, t2, t3⟩ := follow_ok g hb hl
  have hbτ : bdI 7 b τ := hb.agr (t3.1 7 (by decide))
  obtain ⟨ρ, z'', u1, u2, u3⟩ := warmthBy_ok (p := P) (k := bK b) g.set hQ (by omega) hP t2
  have ok : okW (rl b Q (bK b) P) := rd_ok g.set (by omega) hP
  unfold f_X4_readBy f_X4_readBy_24
  rw [px_b t1, hbτ.2.2.2.2.2.1, px_b u1]
  have e : runs (bS b 0) (100 - bS b 1) (bS b 2) (lone Q) (bK b) P = rl b Q (bK b) P := rfl
  rw [e, px_o (readOf5 ok.1)]
  exact ⟨ρ, rfl, ⟨hbτ.agr (u3.1 7 (by decide)), _, _, _, _, u2⟩, t3.tr u3⟩

