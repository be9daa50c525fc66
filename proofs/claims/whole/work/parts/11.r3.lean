/-! thinks, unlike numbers, the best probe: in the reference; the best probe in the class -/
theorem thinks_loop {b : Bd} (g : good b) {P K : Nat} (hP : P < 64) (hK : K ≤ 100) : ∀ (n k m : Nat) (σ : wx_St), k + n = K → n < m → rfI 0 0 b σ → (∀ p, p < 64 → σ.2.1 16 10 p = rl b P k p) → ∃ τ, f_X6_thinks_6 m (nI P) (nI K) (nI k) σ = some ((), τ) ∧ τ.1 = σ.1 ∧ τ.2.2 = σ.2.2 ∧ (∀ p, p < 64 → τ.2.1 16 10 p = rl b P K p) ∧ ∀ x k i, ¬ (x = 16 ∧ (k = 10 ∨ k = 11)) → τ.2.1 x k i = σ.2.1 x k i := by
  intro n
  induction n with
  | zero =>
    intro k m σ hk hm h hf
    obtain ⟨m, rfl⟩ : ∃ k, m = k + 1 := ⟨m - 1, by omega⟩
    have hk : k = K := by omega
    subst hk
    rw [f_X6_thinks_6, if_pos (nI_le (Nat.le_refl _) (by omega))]
    exact ⟨σ, rfl, rfl, rfl, hf, fun _ _ _ _ => rfl⟩
  | succ n ih =>
    intro k m σ hk hm h hf
    obtain ⟨m, rfl⟩ : ∃ k, m = k + 1 := ⟨m - 1, by omega⟩
    obtain ⟨ν, n1, n2, n3, n4, n5⟩ := lone_step g hP (k := k) (by omega) h hf
    rw [f_X6_thinks_6, if_neg (nI_ge (by omega) (by omega)), px_b n1, nI_1]
    obtain ⟨ρ, r1, r2, r3, r4, r5⟩ := ih (k + 1) m ν (by omega) (by omega) (h.of n2) n4
    exact ⟨ρ, r1, r2.trans n2, r3.trans n3, r4, fun x k i hne => (r5 x k i hne).trans (n5 x k i hne)⟩
theorem thinks6 {b : Bd} (g : good b) {P : Nat} (hP : P < 64) {σ : wx_St} (h : rfI 0 0 b σ) : ∃ τ, f_X6_thinks (nI P) (nI (bK b)) σ = some ((), τ) ∧ τ.1 = σ.1 ∧ τ.2.2 = σ.2.2 ∧ (∀ p, p < 64 → τ.2.1 16 10 p = rl b P (bK b) p) ∧ ∀ x k i, ¬ (x = 16 ∧ (k = 10 ∨ k = 11)) → τ.2.1 x k i = σ.2.1 x k i := by
  have gK := g.2.2.2.2.2.2.1
  unfold f_X6_thinks
  rw [px_b cools_eq]
  obtain ⟨τ, t1, t2, t3, t4, t5⟩ := thinks_loop g hP gK (bK b) 0 2000 (wx_uF σ 16 10 0 64 (fun _ => FP.fconst0)) (by omega) (by omega) (h.of rfl) (fun p hp => by
    show (if (16 : Nat) = 16 ∧ (10 : Nat) = 10 ∧ 0 ≤ p ∧ p < 0 + 64 then FP.fconst0 else σ.2.1 16 10 p) = _
    rw [if_pos ⟨rfl, rfl, by omega, by omega⟩]
    rfl)
  refine ⟨τ, t1, t2, t3, t4, fun x k i hne => ?_⟩
  rw [t5 x k i hne]
  show (if x = 16 ∧ k = 10 ∧ _ then _ else σ.2.1 x k i) = _
  rw [if_neg (fun hh => hne ⟨hh.1, Or.inl hh.2.1⟩)]
theorem mul64 : ∀ P, P < 64 → (64 : Int32) * nI P = nI (64 * P) := by decide +kernel
theorem best_54 {b : Bd} (g : good b) {K : Int32 → Int32 → wx_St → Option (Int32 × wx_St)} {x1 : Int32} {p : Nat} (hp : p < 64) {σ : wx_St} (hf : ∀ k, k < 64 → σ.2.1 16 10 k = rl b p (bK b) k) : ∀ (m P : Nat), P ≤ 64 → 65 ≤ m + P → f_X6_bestProbe_54 K m x1 (nI p) (nI P) (wx_uI σ 16 17 (64 * p) P (fun k => rdk b k p)) = K x1 (nI (p + 1)) (wx_uI σ 16 17 (64 * p) 64 (fun k => rdk b k p)) := by
  have gK := g.2.2.2.2.2.2.1
  intro m
  induction m with
  | zero => intro P h1 h2; omega
  | succ m ih =>
    intro P h1 h2
    rw [f_X6_bestProbe_54]
    unfold f_X6_bestProbe_86
    rw [nI_1]
    by_cases hP : P < 64
    · have ok : okW (rl b p (bK b) P) := rd_ok g.set (by omega) hP
      have e : (wx_uI σ 16 17 (64 * p) P (fun k => rdk b k p)).2.1 16 10 P = rl b p (bK b) P := hf P hP
      have e2 : rdf (rl b p (bK b) P) = rdk b P p := rfl
      rw [if_neg (p64_c P hP).2.2.2.2, px_rF hP (by decide), e, px_o (readOf6 ok.1), mul64 p hp, nI_add, px_w (by omega) (by decide), nI_clamp (by omega), e2, wx_uI_s (g := fun k => rdk b k p), nI_1]
      exact ih (P + 1) (by omega) (by omega)
    · have : P = 64 := by omega
      subst this
      rw [if_pos (by decide)]
def rdI (b : Bd) (P : Nat) (σ : wx_St) : Prop := ∀ q, q < P → cb b q = true → ∀ k, k < 64 → σ.1 16 17 (64 * q + k) = rdk b k q
def bpE (σ τ : wx_St) : Prop := (∀ x k i, ¬ (x = 16 ∧ k = 17) → τ.1 x k i = σ.1 x k i) ∧ (∀ x k i, ¬ (x = 16 ∧ (k = 10 ∨ k = 11 ∨ k = 12)) → τ.2.1 x k i = σ.2.1 x k i) ∧ (∀ x y, ¬ (x = 16 ∧ (y = 18 ∨ y = 19)) → τ.2.2.1 x y = σ.2.2.1 x y) ∧ τ.2.2.2 = σ.2.2.2
theorem bpE.rf (σ : wx_St) : bpE σ σ := ⟨fun _ _ _ _ => rfl, fun _ _ _ _ => rfl, fun _ _ _ => rfl, rfl⟩
theorem bpE.tr {σ τ ρ : wx_St} (h : bpE σ τ) (h' : bpE τ ρ) : bpE σ ρ := ⟨fun x k i hn => (h'.1 x k i hn).trans (h.1 x k i hn), fun x k i hn => (h'.2.1 x k i hn).trans (h.2.1 x k i hn), fun x y hn => (h'.2.2.1 x y hn).trans (h.2.2.1 x y hn), h'.2.2.2.trans h.2.2.2⟩
theorem bpE.rfI {k off : Nat} {b : Bd} {σ τ : wx_St} (e : bpE σ τ) (hk : k < 13) (h : rfI k off b σ) : rfI k off b τ := h.agr (by
  funext i
  exact e.1 16 k i (by omega))
theorem best_25 {b : Bd} (g : good b) {x1 : Int32} : ∀ (n p m : Nat) (σ : wx_St), p + n = 64 → n < m → rfI 0 0 b σ → (∀ q, q < 64 → σ.1 16 14 q = b01 (cb b q)) → rdI b p σ → ∃ τ, f_X6_bestProbe_25 m x1 (nI p) σ = f_X6_bestProbe_99 2000 x1 0 (wx_sS τ 16 19 0) ∧ rdI b 64 τ ∧ bpE σ τ := by
  intro n
  induction n with
  | zero =>
    intro p m σ hp hm h h14 hr
    obtain ⟨m, rfl⟩ : ∃ k, m = k + 1 := ⟨m - 1, by omega⟩
    have hp : p = 64 := by omega
    subst hp
    rw [f_X6_bestProbe_25, if_pos (by decide)]
    exact ⟨σ, rfl, hr, bpE.rf σ⟩
  | succ n ih =>
    intro p m σ hp hm h h14 hr
    obtain ⟨m, rfl⟩ : ∃ k, m = k + 1 := ⟨m - 1, by omega⟩
    have hp64 : p < 64 := by omega
    rw [f_X6_bestProbe_25, if_neg (p64_c p hp64).2.2.2.2, px_rI hp64 (by decide), h14 p hp64]
    cases hc : cb b p with
    | false =>
      rw [if_neg (by decide)]
      unfold f_X6_bestProbe_86
      rw [nI_1]
      exact ih (p + 1) m σ (by omega) (by omega) h h14 (fun q hq hcq k hk => by
        have : q ≠ p := fun he => by rw [he, hc] at hcq; cases hcq
        exact hr q (by omega) hcq k hk)
    | true =>
      obtain ⟨s1, s2, s3, s4⟩ := rf_st h
      obtain ⟨ν, n1, n2, n3, n4, n5⟩ := thinks6 g hp64 h
      rw [if_pos (show b01 true = 1 from rfl), show (4 : Int32) = nI 4 from rfl, r16 σ 4 (by decide), s2, px_b n1]
      have e54 := best_54 g (K := f_X6_bestProbe_25 m) (x1 := x1) hp64 (σ := ν) n4 2000 0 (by decide) (by decide)
      rw [wx_uI_0] at e54
      have e54' : f_X6_bestProbe_54 (f_X6_bestProbe_25 m) 2000 x1 (nI p) 0 ν = _ := e54
      rw [e54']
      have hI : ∀ x k i, (wx_uI ν 16 17 (64 * p) 64 (fun k => rdk b k p)).1 x k i = if x = 16 ∧ k = 17 ∧ 64 * p ≤ i ∧ i < 64 * p + 64 then rdk b (i - 64 * p) p else σ.1 x k i := by
        intro x k i
        show (if x = 16 ∧ k = 17 ∧ 64 * p ≤ i ∧ i < 64 * p + 64 then rdk b (i - 64 * p) p else ν.1 x k i) = _
        rw [n2]
      have ex : bpE σ (wx_uI ν 16 17 (64 * p) 64 (fun k => rdk b k p)) := ⟨fun x k i hn => by rw [hI, if_neg (fun hh => hn ⟨hh.1, hh.2.1⟩)], fun x k i hn => n5 x k i (by omega), fun x y _ => by
        show ν.2.2.1 x y = _
        rw [n3], by
        show ν.2.2.2 = _
        rw [n3]⟩
      obtain ⟨ρ, r1, r2, r3⟩ := ih (p + 1) m _ (by omega) (by omega) (ex.rfI (by decide) h) (fun q hq => by rw [hI, if_neg (by omega)]; exact h14 q hq) (fun q hq hcq k hk => by
        rw [hI]
        by_cases he : q = p
        · subst he
          rw [if_pos ⟨rfl, rfl, by omega, by omega⟩, show 64 * q + k - 64 * q = k by omega]
        · rw [if_neg (by omega)]
          exact hr q (by omega) hcq k hk)
      exact ⟨ρ, r1, r2, ex.tr r3⟩
def nwP (b : Bd) (k p q : Nat) : Bool := cb b p && (List.range q).all (fun q' => !(cb b q') || decide (rdk b k q' ≠ rdk b k p))
theorem nwP_f {b : Bd} {k p q : Nat} (hq : q ≤ p) (h : nwP b k p q = false) : newAt b k p = false := by
  unfold nwP at h
  unfold newAt
  cases hc : cb b p with
  | false => rfl
  | true =>
    rw [hc, Bool.true_and, List.all_eq_false] at h
    obtain ⟨x, x1, x2⟩ := h
    rw [Bool.true_and, List.all_eq_false]
    exact ⟨x, List.mem_range.mpr (by have := List.mem_range.mp x1; omega), x2⟩
theorem nwP_s (b : Bd) (k p q : Nat) : nwP b k p (q + 1) = (nwP b k p q && (!(cb b q) || decide (rdk b k q ≠ rdk b k p))) := by
  unfold nwP
  rw [List.range_succ, List.all_append, Bool.and_assoc]
  congr 2
  simp
theorem unlike_30 {b : Bd} {σ : wx_St} (h14 : ∀ q, q < 64 → σ.1 16 14 q = b01 (cb b q)) (hr : rdI b 64 σ) {k : Nat} (hk : k < 64) {p : Nat} (hp : p < 64) {K4 : Int32 → Int32 → Int32 → wx_St → Option Int32} {acc : Int32} : ∀ (n q m : Nat), q + n = p → n < m → f_X6_unlikeAt_30 K4 m (nI k) acc (nI p) (b01 (nwP b k p q)) (nI q) σ = K4 (nI k) (acc + b01 (newAt b k p)) (nI (p + 1)) σ := by
  have e90 : ∀ c v, f_X6_unlikeAt_90 K4 (nI k) acc (nI p) (b01 c) v σ = K4 (nI k) (acc + b01 c) (nI (p + 1)) σ := by
    intro c v
    unfold f_X6_unlikeAt_90 f_X6_unlikeAt_101
    rw [nI_1]
    cases c
    · exact if_pos rfl
    · exact if_neg (by decide)
  intro n
  induction n with
  | zero =>
    intro q m hq hm
    obtain ⟨m, rfl⟩ : ∃ k, m = k + 1 := ⟨m - 1, by omega⟩
    have hq : q = p := by omega
    subst hq
    rw [f_X6_unlikeAt_30, if_pos (nI_le (Nat.le_refl _) (by omega)), e90]
    rfl
  | succ n ih =>
    intro q m hq hm
    obtain ⟨m, rfl⟩ : ∃ k, m = k + 1 := ⟨m - 1, by omega⟩
    have hnext := ih (q + 1) m (by omega) (by omega)
    rw [nwP_s] at hnext
    rw [f_X6_unlikeAt_30, if_neg (nI_ge (by omega) (by omega))]
    cases hc : nwP b k p q with
    | false =>
      rw [if_pos (show b01 false = 0 from rfl), e90, nwP_f (by omega) hc]
    | true =>
      rw [hc, Bool.true_and] at hnext
      have hcp : cb b p = true := by
        unfold nwP at hc
        rw [Bool.and_eq_true] at hc
        exact hc.1
      rw [if_neg (show ¬ b01 true = 0 by decide), px_rI (by omega) (by decide), h14 q (by omega)]
      unfold f_X6_unlikeAt_77 f_X6_unlikeAt_82
      rw [nI_1]
      cases hq2 : cb b q with
      | false =>
        rw [hq2] at hnext
        rw [if_pos (show b01 false = 0 from rfl)]
        exact hnext
      | true =>
        rw [hq2] at hnext
        rw [if_neg (show ¬ b01 true = 0 by decide), mul64 q (by omega), mul64 p hp, nI_add, nI_add, px_rI (by omega) (by decide), hr q (by omega) hq2 k hk, px_rI (by omega) (by decide), hr p hp hcp k hk]
        by_cases he : rdk b k q = rdk b k p
        · rw [if_pos he]
          rw [decide_eq_false (fun hh : rdk b k q ≠ rdk b k p => hh he)] at hnext
          exact hnext
        · rw [if_neg he]
          rw [decide_eq_true (show rdk b k q ≠ rdk b k p from he)] at hnext
          exact hnext
theorem unlike_4 {b : Bd} {σ : wx_St} (h14 : ∀ q, q < 64 → σ.1 16 14 q = b01 (cb b q)) (hr : rdI b 64 σ) {k : Nat} (hk : k < 64) : ∀ (n p m : Nat), p + n = 64 → n < m → f_X6_unlikeAt_4 m (nI k) (nI (unl b k p)) (nI p) σ = some (nI (unl b k 64)) := by
  intro n
  induction n with
  | zero =>
    intro p m hp hm
    obtain ⟨m, rfl⟩ : ∃ k, m = k + 1 := ⟨m - 1, by omega⟩
    have hp : p = 64 := by omega
    subst hp
    rw [f_X6_unlikeAt_4, if_pos (by decide)]
  | succ n ih =>
    intro p m hp hm
    obtain ⟨m, rfl⟩ : ∃ k, m = k + 1 := ⟨m - 1, by omega⟩
    have hp64 : p < 64 := by omega
    have hnext := ih (p + 1) m (by omega) (by omega)
    have hS : unl b k (p + 1) = unl b k p + (if newAt b k p = true then 1 else 0) := rfl
    rw [f_X6_unlikeAt_4, if_neg (p64_c p hp64).2.2.2.2, px_rI hp64 (by decide), h14 p hp64]
    unfold f_X6_unlikeAt_25
    have e0 : nwP b k p 0 = cb b p := by
      unfold nwP
      simp
    have key : (if b01 (cb b p) = 1 then f_X6_unlikeAt_30 (f_X6_unlikeAt_4 m) 2000 (nI k) (nI (unl b k p)) (nI p) 1 0 σ else f_X6_unlikeAt_30 (f_X6_unlikeAt_4 m) 2000 (nI k) (nI (unl b k p)) (nI p) 0 0 σ) = f_X6_unlikeAt_30 (f_X6_unlikeAt_4 m) 2000 (nI k) (nI (unl b k p)) (nI p) (b01 (nwP b k p 0)) (nI 0) σ := by
      rw [e0]
      cases cb b p
      · exact if_neg (by decide)
      · exact if_pos rfl
    rw [key, unlike_30 h14 hr hk hp64 p 0 2000 (by omega) (by omega), b01_nI, ← hS]
    exact hnext
theorem unlike6 {b : Bd} {σ : wx_St} (h14 : ∀ q, q < 64 → σ.1 16 14 q = b01 (cb b q)) (hr : rdI b 64 σ) {k : Nat} (hk : k < 64) : f_X6_unlikeAt (nI k) σ = some (nI (unl b k 64)) :=
  unlike_4 h14 hr hk 64 0 2000 (by omega) (by omega)
def bst (b : Bd) : Nat → Nat × Nat
  | 0 => (0, 0)
  | k + 1 => if unl b k 64 ≤ (bst b k).2 then bst b k else (k, unl b k 64)
theorem bst_le (b : Bd) : ∀ k, (bst b k).1 ≤ k ∧ (bst b k).2 ≤ 64
  | 0 => ⟨Nat.le_refl 0, Nat.zero_le 64⟩
  | k + 1 => by
    have h := bst_le b k
    have hu := unl_le b k 64
    show (if unl b k 64 ≤ (bst b k).2 then bst b k else (k, unl b k 64)).1 ≤ k + 1 ∧ (if unl b k 64 ≤ (bst b k).2 then bst b k else (k, unl b k 64)).2 ≤ 64
    split
    · exact ⟨by omega, h.2⟩
    · exact ⟨by show k ≤ k + 1; omega, hu⟩
theorem unl_0 {b : Bd} {k : Nat} : ∀ p, unl b k p = 0 → ∀ q, q < p → cb b q = false
  | 0, _, q, hq => absurd hq (Nat.not_lt_zero _)
  | p + 1, h, q, hq => by
    have hS : unl b k (p + 1) = unl b k p + (if newAt b k p = true then 1 else 0) := rfl
    rw [hS] at h
    have ih := unl_0 (b := b) (k := k) p (by omega)
    by_cases he : q = p
    · subst he
      cases hc : cb b q with
      | false => rfl
      | true =>
        have hn : newAt b k q = true := by
          unfold newAt
          rw [hc, Bool.true_and, List.all_eq_true]
          intro x hx
          rw [ih x (List.mem_range.mp hx)]
          rfl
        rw [hn, if_pos rfl] at h
        omega
    · exact ih q (by omega)
theorem cnt_0 {h : Nat → Bool} : ∀ n, (∀ q, q < n → h q = false) → cnt h n = 0
  | 0, _ => rfl
  | n + 1, hh => by
    show cnt h n + (if h n = true then 1 else 0) = 0
    rw [hh n (by omega), cnt_0 n (fun q hq => hh q (by omega))]
    rfl
theorem cnt_congr {h h' : Nat → Bool} : ∀ n, (∀ q, q < n → h q = h' q) → cnt h n = cnt h' n
  | 0, _ => rfl
  | n + 1, hh => by
    show cnt h n + (if h n = true then 1 else 0) = cnt h' n + (if h' n = true then 1 else 0)
    rw [hh n (by omega), cnt_congr n (fun q hq => hh q (by omega))]
/-- the answer -/
def bpA (b : Bd) (x1 : Int32) : Int32 := if x1 = 0 then nI (bst b 64).1 else nI (bst b 64).2
theorem best_99 {b : Bd} {x1 : Int32} (h1 : 2 ≤ cnt (cb b) 64) : ∀ (n k m : Nat) (σ : wx_St), k + n = 64 → n < m → (∀ q, q < 64 → σ.1 16 14 q = b01 (cb b q)) → rdI b 64 σ → σ.2.2.1 16 19 = nI (bst b k).2 → (k = 0 ∨ σ.2.2.1 16 18 = nI (bst b k).1) → ∃ τ, f_X6_bestProbe_99 m x1 (nI k) σ = some (bpA b x1, τ) ∧ bpE σ τ := by
  intro n
  induction n with
  | zero =>
    intro k m σ hk hm h14 hr h19 h18
    obtain ⟨m, rfl⟩ : ∃ k, m = k + 1 := ⟨m - 1, by omega⟩
    have hk : k = 64 := by omega
    subst hk
    have h18' : σ.2.2.1 16 18 = nI (bst b 64).1 := by
      rcases h18 with h | h
      · omega
      · exact h
    rw [f_X6_bestProbe_99, if_pos (by decide), h18', h19]
    unfold f_X6_bestProbe_172 bpA
    refine ⟨σ, ?_, bpE.rf σ⟩
    by_cases h0 : x1 = 0
    · rw [if_pos h0, if_pos h0]
    · rw [if_neg h0, if_neg h0]
  | succ n ih =>
    intro k m σ hk hm h14 hr h19 h18
    obtain ⟨m, rfl⟩ : ∃ k, m = k + 1 := ⟨m - 1, by omega⟩
    have hk64 : k < 64 := by omega
    have hu := unl_le b k 64
    have hb := bst_le b k
    have hS : bst b (k + 1) = if unl b k 64 ≤ (bst b k).2 then bst b k else (k, unl b k 64) := rfl
    rw [f_X6_bestProbe_99, if_neg (p64_c k hk64).2.2.2.2, px_o (unlike6 h14 hr hk64), h19]
    unfold f_X6_bestProbe_128 f_X6_bestProbe_148
    rw [nI_1]
    have hSS : ∀ (u v : Int32) x y, (wx_sS (wx_sS σ 16 18 u) 16 19 v).2.2.1 x y = if x = 16 ∧ y = 19 then v else if x = 16 ∧ y = 18 then u else σ.2.2.1 x y := fun _ _ _ _ => rfl
    have ex : ∀ u v : Int32, bpE σ (wx_sS (wx_sS σ 16 18 u) 16 19 v) := fun u v => ⟨fun _ _ _ _ => rfl, fun _ _ _ _ => rfl, fun x y hn => by rw [hSS, if_neg (fun hh => hn ⟨hh.1, Or.inr hh.2⟩), if_neg (fun hh => hn ⟨hh.1, Or.inl hh.2⟩)], rfl⟩
    have e19 : ∀ u : Int32, (wx_sS σ 16 18 u).2.2.1 16 19 = nI (bst b k).2 := fun u => h19
    by_cases hc : unl b k 64 ≤ (bst b k).2
    · rw [if_pos (nI_le hc (by omega)), px_l, e19, if_pos (nI_le hc (by omega)), px_l]
      rw [if_pos hc] at hS
      have hk0 : k ≠ 0 := by
        intro h0
        subst h0
        have h00 : (bst b 0).2 = 0 := rfl
        have : unl b 0 64 = 0 := by omega
        have := cnt_0 64 (unl_0 64 this)
        omega
      have h18' : σ.2.2.1 16 18 = nI (bst b k).1 := by
        rcases h18 with h | h
        · exact absurd h hk0
        · exact h
      obtain ⟨τ, t1, t2⟩ := ih (k + 1) m (wx_sS (wx_sS σ 16 18 (σ.2.2.1 16 18)) 16 19 (nI (bst b k).2)) (by omega) (by omega) h14 hr (by rw [hSS, if_pos ⟨rfl, rfl⟩, hS]) (Or.inr (by rw [hSS, if_neg (by omega), if_pos ⟨rfl, rfl⟩, hS]; exact h18'))
      exact ⟨τ, t1, (ex _ _).tr t2⟩
    · rw [if_neg (nI_ge (by omega) (by omega)), px_l, e19, if_neg (nI_ge (by omega) (by omega)), px_l]
      rw [if_neg hc] at hS
      obtain ⟨τ, t1, t2⟩ := ih (k + 1) m (wx_sS (wx_sS σ 16 18 (nI k)) 16 19 (nI (unl b k 64))) (by omega) (by omega) h14 hr (by rw [hSS, if_pos ⟨rfl, rfl⟩, hS]) (Or.inr (by rw [hSS, if_neg (by omega), if_pos ⟨rfl, rfl⟩, hS]))
      exact ⟨τ, t1, (ex _ _).tr t2⟩
theorem best5_44 {b : Bd} (g : good b) {M : Int64} (hM : ∀ p, p < 64 → mk M p = cb b p) {x1 : Int32} : ∀ (n k m : Nat) (σ : wx_St), k + n = 64 → n < m → kL b σ → ∃ τ, f_X5_bestProbe_44 m x1 M (nI (bst b k).1) (nI (bst b k).2) (nI k) σ = some (bpA b x1, τ) ∧ kL b τ ∧ eqM σ τ := by
  intro n
  induction n with
  | zero =>
    intro k m σ hk hm h
    obtain ⟨m, rfl⟩ : ∃ k, m = k + 1 := ⟨m - 1, by omega⟩
    have hk : k = 64 := by omega
    subst hk
    rw [f_X5_bestProbe_44, if_pos (by decide)]
    unfold f_X5_bestProbe_99 bpA
    refine ⟨σ, ?_, h, eqM.rf σ⟩
    by_cases h0 : x1 = 0
    · rw [if_pos h0, if_pos h0]
    · rw [if_neg h0, if_neg h0]
  | succ n ih =>
    intro k m σ hk hm h
    obtain ⟨m, rfl⟩ : ∃ k, m = k + 1 := ⟨m - 1, by omega⟩
    have hk64 : k < 64 := by omega
    have hu := unl_le b k 64
    have hb := bst_le b k
    have hS : bst b (k + 1) = if unl b k 64 ≤ (bst b k).2 then bst b k else (k, unl b k 64) := rfl
    obtain ⟨τ, t1, t2, t3⟩ := unlike5 g h hM hk64
    rw [f_X5_bestProbe_44, if_neg (p64_c k hk64).2.2.2.2, px_b t1]
    unfold f_X5_bestProbe_65 f_X5_bestProbe_82
    rw [nI_1]
    obtain ⟨ρ, r1, r2, r3⟩ := ih (k + 1) m τ (by omega) (by omega) t2
    refine ⟨ρ, ?_, r2, t3.tr r3⟩
    rw [← r1, hS]
    by_cases hc : unl b k 64 ≤ (bst b k).2
    · rw [if_pos (nI_le hc (by omega)), if_pos hc]
    · rw [if_neg (nI_ge (by omega) (by omega)), if_neg hc]
