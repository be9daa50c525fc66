/-! pairs, one of two, unlike reads: in the class -/
theorem suspects_loop {b : Bd} {σ : wx_St} (g : good b) (h : bdI 7 b σ) : ∀ (n P m : Nat) (M : Int64), P + n = 64 → n < m → (∀ p, p < 64 → mk M p = (decide (p < P) && sus b p)) → ∃ M', f_X0_suspects_4 7 m M (nI P) σ = some M' ∧ ∀ p, p < 64 → mk M' p = sus b p := by
  intro n
  induction n with
  | zero =>
    intro P m M hP hm hM
    obtain ⟨m, rfl⟩ : ∃ k, m = k + 1 := ⟨m - 1, by omega⟩
    have hP : P = 64 := by omega
    subst hP
    rw [f_X0_suspects_4, if_pos (by decide)]
    refine ⟨M, rfl, fun p hp => ?_⟩
    rw [hM p hp, decide_eq_true hp]
    rfl
  | succ n ih =>
    intro P m M hP hm hM
    obtain ⟨m, rfl⟩ : ∃ k, m = k + 1 := ⟨m - 1, by omega⟩
    have hP64 : P < 64 := by omega
    rw [f_X0_suspects_4, if_neg (p64_c P hP64).2.2.2.2, px_o (isSuspect5 h g hP64)]
    unfold f_X0_suspects_24
    rw [nI_1]
    cases hc : sus b P with
    | false =>
      rw [if_pos (show b01 false = 0 from rfl)]
      refine ih (P + 1) m M (by omega) (by omega) (fun p hp => ?_)
      rw [hM p hp]
      by_cases he : p = P
      · subst he
        rw [hc, Bool.and_false, Bool.and_false]
      · rw [show decide (p < P) = decide (p < P + 1) from decide_eq_decide.mpr (by omega)]
    | true =>
      rw [if_neg (show ¬ b01 true = 0 by decide)]
      refine ih (P + 1) m (M ||| ((1 : Int64) <<< ((nI P).toInt64 &&& 63))) (by omega) (by omega) (fun p hp => ?_)
      rw [mk_or M hP64 hp, hM p hp]
      by_cases he : p = P
      · subst he
        rw [hc, decide_eq_true (show p = p from rfl), decide_eq_true (show p < p + 1 by omega), Bool.or_true]
        rfl
      · rw [decide_eq_false he, Bool.or_false, show decide (p < P) = decide (p < P + 1) from decide_eq_decide.mpr (by omega)]
theorem suspects5 {b : Bd} {σ : wx_St} (g : good b) (h : bdI 7 b σ) : ∃ M, f_X0_suspects 7 σ = some M ∧ ∀ p, p < 64 → mk M p = sus b p :=
  suspects_loop g h 64 0 2000 0 (by omega) (by omega) (fun p _ => by rw [mk_0]; rfl)
theorem tracked_loop {b : Bd} {σ : wx_St} (g : good b) (h : bdI 7 b σ) : ∀ (n P m : Nat) (M : Int64), P + n = 64 → n < m → (∀ p, p < 64 → mk M p = (decide (p < P) && decide (bN b p ≠ 0))) → ∃ M', f_X0_tracked_4 7 m M (nI P) σ = some M' ∧ ∀ p, p < 64 → mk M' p = decide (bN b p ≠ 0) := by
  intro n
  induction n with
  | zero =>
    intro P m M hP hm hM
    obtain ⟨m, rfl⟩ : ∃ k, m = k + 1 := ⟨m - 1, by omega⟩
    have hP : P = 64 := by omega
    subst hP
    rw [f_X0_tracked_4, if_pos (by decide)]
    refine ⟨M, rfl, fun p hp => ?_⟩
    rw [hM p hp, decide_eq_true hp]
    rfl
  | succ n ih =>
    intro P m M hP hm hM
    obtain ⟨m, rfl⟩ : ∃ k, m = k + 1 := ⟨m - 1, by omega⟩
    have hP64 : P < 64 := by omega
    have gN := g.2.1 P hP64
    rw [f_X0_tracked_4, if_neg (p64_c P hP64).2.2.2.2, px_rI hP64 (by decide), h.2.1 P hP64]
    unfold f_X0_tracked_25
    rw [nI_1]
    by_cases hc : bN b P = 0
    · rw [if_pos (show nI (bN b P) = 0 by rw [hc]; rfl)]
      refine ih (P + 1) m M (by omega) (by omega) (fun p hp => ?_)
      rw [hM p hp]
      by_cases he : p = P
      · subst he
        rw [decide_eq_false (fun hh : bN b p ≠ 0 => hh hc), Bool.and_false, Bool.and_false]
      · rw [show decide (p < P) = decide (p < P + 1) from decide_eq_decide.mpr (by omega)]
    · rw [if_neg (nI_ne0 (by omega) (by omega))]
      refine ih (P + 1) m (M ||| ((1 : Int64) <<< ((nI P).toInt64 &&& 63))) (by omega) (by omega) (fun p hp => ?_)
      rw [mk_or M hP64 hp, hM p hp]
      by_cases he : p = P
      · subst he
        rw [decide_eq_true (show p = p from rfl), decide_eq_true (show p < p + 1 by omega), Bool.or_true, decide_eq_true (show bN b p ≠ 0 from hc)]
        rfl
      · rw [decide_eq_false he, Bool.or_false, show decide (p < P) = decide (p < P + 1) from decide_eq_decide.mpr (by omega)]
theorem tracked5 {b : Bd} {σ : wx_St} (g : good b) (h : bdI 7 b σ) : ∃ M, f_X0_tracked 7 σ = some M ∧ ∀ p, p < 64 → mk M p = decide (bN b p ≠ 0) :=
  tracked_loop g h 64 0 2000 0 (by omega) (by omega) (fun p _ => by rw [mk_0]; rfl)
theorem isIn_b (x : Int64) {P : Nat} (hP : P < 64) : f_X5_isIn x (nI P) = some (b01 (mk x P)) := isIn_eq x hP
def pr (b : Bd) (p q : Nat) : Bool := sus b p && sus b q && fit2 b p q
def inn (b : Bd) (p : Nat) : Nat → Nat → Nat
  | 0, acc => acc
  | n + 1, acc => inn b p n (if pr b p (63 - n) = true then acc + 1 else acc)
def outr (b : Bd) : Nat → Nat → Nat
  | 0, acc => acc
  | n + 1, acc => outr b n (inn b (63 - n) n acc)
theorem pairs_24 {b : Bd} (g : good b) {M : Int64} (hM : ∀ p, p < 64 → mk M p = sus b p) {K : Int64 → Int32 → Int32 → wx_St → Option (Int32 × wx_St)} {p : Nat} (hp : p < 64) : ∀ (n q m acc : Nat) (σ : wx_St), q + n = 64 → n < m → kL b σ → ∃ τ, f_X4_pairs_24 7 K m M (nI acc) (nI p) (nI q) σ = K M (nI (inn b p n acc)) (nI (p + 1)) τ ∧ kL b τ ∧ eqL σ τ := by
  intro n
  induction n with
  | zero =>
    intro q m acc σ hq hm h
    obtain ⟨m, rfl⟩ : ∃ k, m = k + 1 := ⟨m - 1, by omega⟩
    have hq : q = 64 := by omega
    subst hq
    rw [f_X4_pairs_24, if_pos (by decide), nI_1]
    exact ⟨σ, rfl, h, eqL.rf σ⟩
  | succ n ih =>
    intro q m acc σ hq hm h
    obtain ⟨m, rfl⟩ : ∃ k, m = k + 1 := ⟨m - 1, by omega⟩
    have hq64 : q < 64 := by omega
    have e63 : 63 - n = q := by omega
    have no : pr b p q = false → ∀ τ, kL b τ → eqL σ τ → ∃ ρ, f_X4_pairs_24 7 K m M (nI acc) (nI p) (nI (q + 1)) τ = K M (nI (inn b p (n + 1) acc)) (nI (p + 1)) ρ ∧ kL b ρ ∧ eqL σ ρ := by
      intro hpr τ hτ hex
      obtain ⟨ρ, r1, r2, r3⟩ := ih (q + 1) m acc τ (by omega) (by omega) hτ
      refine ⟨ρ, ?_, r2, hex.tr r3⟩
      rw [r1]
      show _ = K M (nI (inn b p n (if pr b p (63 - n) = true then acc + 1 else acc))) _ _
      rw [e63, hpr, if_neg (by decide)]
    rw [f_X4_pairs_24, if_neg (p64_c q hq64).2.2.2.2, px_o (isIn_b M hp), px_o (isIn_b M hq64), hM p hp, hM q hq64]
    unfold f_X4_pairs_64 f_X4_pairs_58 f_X4_pairs_64
    rw [nI_1]
    cases h1 : sus b p with
    | false =>
      rw [if_pos (show b01 false = 0 from rfl)]
      exact no (by unfold pr; rw [h1]; rfl) σ h (eqL.rf σ)
    | true =>
      rw [if_neg (show ¬ b01 true = 0 by decide)]
      cases h2 : sus b q with
      | false =>
        rw [if_pos (show b01 false = 0 from rfl)]
        exact no (by unfold pr; rw [h1, h2]; rfl) σ h (eqL.rf σ)
      | true =>
        rw [if_neg (show ¬ b01 true = 0 by decide)]
        obtain ⟨τ, t1, t2, t3⟩ := fits5 g h hp (some q) (fun q' hq' => by cases hq'; exact hq64)
        have t1' : f_X4_fits 7 (nI p) (nI q) σ = some (b01 (fit2 b p q), τ) := t1
        rw [px_b t1']
        have hpr : pr b p q = fit2 b p q := by unfold pr; rw [h1, h2]; rfl
        cases h3 : fit2 b p q with
        | false =>
          rw [if_pos (show b01 false = 0 from rfl)]
          exact no (hpr.trans h3) τ t2 t3
        | true =>
          rw [if_neg (show ¬ b01 true = 0 by decide), nI_1]
          obtain ⟨ρ, r1, r2, r3⟩ := ih (q + 1) m (acc + 1) τ (by omega) (by omega) t2
          refine ⟨ρ, ?_, r2, t3.tr r3⟩
          rw [r1]
          show _ = K M (nI (inn b p n (if pr b p (63 - n) = true then acc + 1 else acc))) _ _
          rw [e63, hpr, h3, if_pos rfl]
theorem pairs_11 {b : Bd} (g : good b) {M : Int64} (hM : ∀ p, p < 64 → mk M p = sus b p) : ∀ (n p m acc : Nat) (σ : wx_St), p + n = 64 → n < m → kL b σ → ∃ τ, f_X4_pairs_11 7 m M (nI acc) (nI p) σ = some (nI (outr b n acc), τ) ∧ kL b τ ∧ eqL σ τ := by
  intro n
  induction n with
  | zero =>
    intro p m acc σ hp hm h
    obtain ⟨m, rfl⟩ : ∃ k, m = k + 1 := ⟨m - 1, by omega⟩
    have hp : p = 64 := by omega
    subst hp
    rw [f_X4_pairs_11, if_pos (by decide)]
    exact ⟨σ, rfl, h, eqL.rf σ⟩
  | succ n ih =>
    intro p m acc σ hp hm h
    obtain ⟨m, rfl⟩ : ∃ k, m = k + 1 := ⟨m - 1, by omega⟩
    have hp64 : p < 64 := by omega
    have e63 : 63 - n = p := by omega
    obtain ⟨τ, t1, t2, t3⟩ := pairs_24 g hM (K := f_X4_pairs_11 7 m) hp64 n (p + 1) 2000 acc σ (by omega) (by omega) h
    rw [f_X4_pairs_11, if_neg (p64_c p hp64).2.2.2.2, nI_1, t1]
    obtain ⟨ρ, r1, r2, r3⟩ := ih (p + 1) m (inn b p n acc) τ (by omega) (by omega) t2
    refine ⟨ρ, ?_, r2, t3.tr r3⟩
    rw [r1]
    show _ = some (nI (outr b n (inn b (63 - n) n acc)), ρ)
    rw [e63]
theorem pairs5 {b : Bd} {σ : wx_St} (g : good b) (h : kL b σ) : ∃ τ, f_X4_pairs 7 σ = some (nI (outr b 64 0), τ) ∧ kL b τ ∧ eqL σ τ := by
  obtain ⟨M, m1, m2⟩ := suspects5 g h.1
  unfold f_X4_pairs
  rw [px_o m1]
  exact pairs_11 g m2 64 0 2000 0 σ (by omega) (by omega) h
def c2 (b : Bd) (P o : Nat) : Bool := decide (o ≠ P) && (sus b o && fit2 b (min P o) (max P o))
def cb2 (b : Bd) (P : Nat) : Bool := sus b P && (List.range 64).any (c2 b P)
theorem minmax : ∀ x, x < 64 → ∀ y, y < 64 → (if nI y < nI x then nI y else nI x) = nI (min x y) ∧ (if nI x < nI y then nI y else nI x) = nI (max x y) := by decide +kernel
theorem one2_loop {b : Bd} (g : good b) {P : Nat} (hP : P < 64) : ∀ (n o m : Nat) (σ : wx_St), o + n = 64 → n < m → kL b σ → (∀ k, k < o → c2 b P k = false) → ∃ τ, f_X4_couldBeOneOfTwo_12 7 m (nI P) (nI o) σ = some (b01 ((List.range 64).any (c2 b P)), τ) ∧ kL b τ ∧ eqL σ τ := by
  intro n
  induction n with
  | zero =>
    intro o m σ ho hm h hall
    obtain ⟨m, rfl⟩ : ∃ k, m = k + 1 := ⟨m - 1, by omega⟩
    have ho : o = 64 := by omega
    subst ho
    have : (List.range 64).any (c2 b P) = false := by
      rw [List.any_eq_false]
      intro k hk
      rw [hall k (List.mem_range.mp hk)]
      decide
    rw [f_X4_couldBeOneOfTwo_12, if_pos (by decide), this]
    exact ⟨σ, rfl, h, eqL.rf σ⟩
  | succ n ih =>
    intro o m σ ho hm h hall
    obtain ⟨m, rfl⟩ : ∃ k, m = k + 1 := ⟨m - 1, by omega⟩
    have ho64 : o < 64 := by omega
    have no : c2 b P o = false → ∀ τ, kL b τ → eqL σ τ → ∃ ρ, f_X4_couldBeOneOfTwo_12 7 m (nI P) (nI (o + 1)) τ = some (b01 ((List.range 64).any (c2 b P)), ρ) ∧ kL b ρ ∧ eqL σ ρ := by
      intro hc τ hτ hex
      obtain ⟨ρ, r1, r2, r3⟩ := ih (o + 1) m τ (by omega) (by omega) hτ (fun k hk => by
        by_cases he : k = o
        · rw [he]; exact hc
        · exact hall k (by omega))
      exact ⟨ρ, r1, r2, hex.tr r3⟩
    rw [f_X4_couldBeOneOfTwo_12, if_neg (p64_c o ho64).2.2.2.2]
    unfold f_X4_couldBeOneOfTwo_51 f_X4_couldBeOneOfTwo_46 f_X4_couldBeOneOfTwo_51
    rw [nI_1]
    by_cases he : o = P
    · rw [if_pos (by rw [he])]
      exact no (by unfold c2; rw [decide_eq_false (fun hh : o ≠ P => hh he)]; rfl) σ h (eqL.rf σ)
    · rw [if_neg (fun hh => he ((nI_eq (by omega) (by omega)).mp hh)), px_o (isSuspect5 h.1 g ho64)]
      cases h2 : sus b o with
      | false =>
        rw [if_pos (show b01 false = 0 from rfl)]
        exact no (by unfold c2; rw [h2]; simp) σ h (eqL.rf σ)
      | true =>
        rw [if_neg (show ¬ b01 true = 0 by decide), (minmax P hP o ho64).1, (minmax P hP o ho64).2]
        obtain ⟨τ, t1, t2, t3⟩ := fits5 g h (P := min P o) (by omega) (some (max P o)) (fun q' hq' => by cases hq'; omega)
        have t1' : f_X4_fits 7 (nI (min P o)) (nI (max P o)) σ = some (b01 (fit2 b (min P o) (max P o)), τ) := t1
        rw [px_b t1']
        cases h3 : fit2 b (min P o) (max P o) with
        | false =>
          rw [if_pos (show b01 false = 0 from rfl)]
          exact no (by unfold c2; rw [h3]; simp) τ t2 t3
        | true =>
          rw [if_neg (show ¬ b01 true = 0 by decide)]
          have : (List.range 64).any (c2 b P) = true := by
            rw [List.any_eq_true]
            exact ⟨o, List.mem_range.mpr ho64, by unfold c2; rw [h2, h3]; simp [he]⟩
          rw [this]
          exact ⟨τ, rfl, t2, t3⟩
theorem one2_5 {b : Bd} {σ : wx_St} (g : good b) (h : kL b σ) {P : Nat} (hP : P < 64) : ∃ τ, f_X4_couldBeOneOfTwo 7 (nI P) σ = some (b01 (cb2 b P), τ) ∧ kL b τ ∧ eqL σ τ := by
  unfold f_X4_couldBeOneOfTwo
  rw [px_o (isSuspect5 h.1 g hP)]
  unfold cb2
  cases h1 : sus b P with
  | false =>
    rw [if_pos (show b01 false = 0 from rfl)]
    exact ⟨σ, rfl, h, eqL.rf σ⟩
  | true =>
    rw [if_neg (show ¬ b01 true = 0 by decide), Bool.true_and]
    exact one2_loop g hP 64 0 2000 σ (by omega) (by omega) h (fun k hk => absurd hk (by omega))
/-! unlike reads -/
def rdk (b : Bd) (k p : Nat) : Int32 := rdf (rl b p (bK b) k)
def newAt (b : Bd) (k p : Nat) : Bool := cb b p && (List.range p).all (fun q => !(cb b q) || decide (rdk b k q ≠ rdk b k p))
def unl (b : Bd) (k : Nat) : Nat → Nat
  | 0 => 0
  | p + 1 => unl b k p + (if newAt b k p = true then 1 else 0)
theorem unl_le (b : Bd) (k : Nat) : ∀ p, unl b k p ≤ p
  | 0 => Nat.le_refl 0
  | p + 1 => by
    have := unl_le b k p
    show unl b k p + (if newAt b k p = true then 1 else 0) ≤ p + 1
    split <;> omega
def eqM (σ τ : wx_St) : Prop := (∀ x, x ≠ 8 ∧ x ≠ 12 ∧ x ≠ 13 → agr x σ τ) ∧ τ.2.2.2.1 = σ.2.2.2.1 ∧ ∀ j, (σ.2.2.2.2 j = true → τ.2.2.2.2 j = true) ∧ (64 ≤ j → τ.2.2.2.2 j = σ.2.2.2.2 j)
theorem eqM.rf (σ : wx_St) : eqM σ σ := ⟨fun _ _ => ⟨rfl, rfl, rfl⟩, rfl, fun _ => ⟨fun h => h, fun _ => rfl⟩⟩
theorem eqM.tr {σ τ ρ : wx_St} (h : eqM σ τ) (h' : eqM τ ρ) : eqM σ ρ := ⟨fun x hx => ⟨(h'.1 x hx).1.trans (h.1 x hx).1, (h'.1 x hx).2.1.trans (h.1 x hx).2.1, (h'.1 x hx).2.2.trans (h.1 x hx).2.2⟩, h'.2.1.trans h.2.1, fun j => ⟨fun hj => (h'.2.2 j).1 ((h.2.2 j).1 hj), fun hj => ((h'.2.2 j).2 hj).trans ((h.2.2 j).2 hj)⟩⟩
theorem eqL.eqM {σ τ : wx_St} (h : eqL σ τ) : eqM σ τ := ⟨fun x hx => h.1 x hx.2.2, h.2⟩
