/-! the fault, on both sides -/
section flt
variable {len : Nat} {c : Nat → Int32}
theorem ord_hd {i : Nat} (h : cd len c i ≠ 116) : ordE len c i = hdE len c i := by
  unfold ordE hdE
  rw [if_neg h, if_neg h]
theorem ord_t {i : Nat} (h : cd len c i = 116) : ordE len c i = if isD len c (i + 1) = true then (if (efE len c [1, 0] (i + 2)).1 = true then plsL len c 40 (efE len c [1, 0] (i + 2)).2 else efE len c [1, 0] (i + 2)) else (false, i + 1) := by
  unfold ordE
  rw [if_pos h]
  have e : efE len c [0, 1, 0] (i + 1) = if isD len c (i + 1) = true then efE len c [1, 0] (i + 2) else (false, i + 1) := rfl
  rw [e]
  cases isD len c (i + 1)
  · rfl
  · rfl
theorem hd_t {i : Nat} (h : cd len c i = 116) : hdE len c i = if isD len c (i + 1) = true then (true, i + 2) else (false, i + 1) := by
  unfold hdE
  rw [if_pos h]
  rfl
theorem pls6 (hl : len ≤ 80) : ∀ (n j m : Nat) (ν : wx_St), pd6 len c ν → j ≤ len → len ≤ j + 2 * n → n + 1 < m → ν.2.2.1 16 20 = nI j → ∃ τ, f_X6_readsPlaces_5 m 1 ν = some (b01 (plsL len c n j).1, τ) ∧ txE ν τ ∧ τ.2.2.1 16 20 = nI (plsL len c n j).2 ∧ τ.2.2.1 16 21 = ν.2.2.1 16 21 := by
  have z1 : ∀ τ : wx_St, wx_z (α := Int32 × wx_St) 1 (some (1, τ)) = some (b01 true, τ) := fun τ => px_z (c := true)
  have z0 : ∀ τ : wx_St, wx_z (α := Int32 × wx_St) 0 (some (0, τ)) = some (b01 false, τ) := fun τ => px_z (c := false)
  intro n
  induction n with
  | zero =>
    intro j m ν h hj hjl hm ha
    obtain ⟨m, rfl⟩ : ∃ k, m = k + 1 := ⟨m - 1, by omega⟩
    have hc : isC len c j = false := by
      cases h : isC len c j with
      | false => rfl
      | true =>
        have := isC_lt h
        omega
    rw [f_X6_readsPlaces_5, if_neg (show ¬ (1 : Int32) = 0 by decide), px_o (isCol6 h hl (by omega) ha), hc, if_pos (show b01 false = 0 from rfl)]
    unfold f_X6_readsPlaces_24
    rw [z1]
    exact ⟨ν, rfl, txE.rf ν, ha, rfl⟩
  | succ n ih =>
    intro j m ν h hj hjl hm ha
    obtain ⟨m, rfl⟩ : ∃ k, m = k + 1 := ⟨m - 1, by omega⟩
    rw [f_X6_readsPlaces_5, if_neg (show ¬ (1 : Int32) = 0 by decide), px_o (isCol6 h hl (by omega) ha)]
    unfold f_X6_readsPlaces_24 plsL
    cases hc : isC len c j with
    | false =>
      rw [if_pos (show b01 false = 0 from rfl), if_neg (by decide), z1]
      exact ⟨ν, rfl, txE.rf ν, ha, rfl⟩
    | true =>
      rw [if_neg (show ¬ b01 true = 0 by decide), if_pos rfl]
      rcases place6 h hl (i := j) (by omega) ha with ⟨q1, q2, q3, q4⟩ | ⟨q1, τ, q2, q3, q4, q5⟩
      · obtain ⟨e1, e2⟩ := efE_ok _ _ q1
        have e2 := e2 hj
        have h2 : [1, 0].length = 2 := rfl
        rw [h2] at e1 e2
        obtain ⟨v1, v2, v3, v4, v5⟩ := pl_v c ν j
        rw [q1, q4, px_bs, if_pos rfl, e1]
        obtain ⟨ρ, r1, r2, r3, r4⟩ := ih (j + 2) m (pl c ν j) ((pl_tx c ν j).pd h) e2 (by omega) (by omega) v1
        exact ⟨ρ, r1, (pl_tx c ν j).tr r2, r3, r4.trans v3⟩
      · obtain ⟨m, rfl⟩ : ∃ k, m = k + 1 := ⟨m - 1, by omega⟩
        rw [q1, q2, px_bs, if_neg (show ¬ false = true by decide), f_X6_readsPlaces_5, if_pos (show (0 : Int32) = 0 from rfl)]
        unfold f_X6_readsPlaces_24
        rw [z0]
        exact ⟨τ, by rw [q1], q3, q4, q5⟩
/-- an order as a whole -/
theorem ordw6 (hl : len ≤ 80) {ν : wx_St} (h : pd6 len c ν) {i : Nat} (hi : i ≤ len) (ha : ν.2.2.1 16 20 = nI i) (m : Nat) : ∃ τ, ((ordE len c i).1 = true → f_X6_findFault_5 (m + 1) ν = f_X6_findFault_33 (f_X6_findFault_5 m) τ) ∧ ((ordE len c i).1 = false → f_X6_findFault_5 (m + 1) ν = some (nI (ordE len c i).2, τ)) ∧ txE ν τ ∧ τ.2.2.1 16 20 = nI (ordE len c i).2 := by
  obtain ⟨τ, t1, t2, t3, t4, t5⟩ := order6 h hl hi ha
  have f0 : f_X6_findFault_5 (m + 1) ν = if b01 (hdE len c i).1 = 0 then some (τ.2.2.1 16 20, τ) else if τ.2.2.1 16 21 = 116 then wx_b (f_X6_readsPlaces τ) (fun v22 σ22 => if v22 = 0 then some (σ22.2.2.1 16 20, σ22) else f_X6_findFault_33 (f_X6_findFault_5 m) σ22) else f_X6_findFault_33 (f_X6_findFault_5 m) τ := by
    rw [f_X6_findFault_5, px_b t1]
    rfl
  by_cases h116 : cd len c i = 116
  · obtain ⟨hlt, hc116⟩ := cd_lt h116 (by decide)
    rw [if_pos hlt, hc116] at t4
    rw [hd_t h116] at f0 t3
    rw [ord_t h116]
    cases hd : isD len c (i + 1) with
    | false =>
      rw [hd, if_neg (show ¬ false = true by decide)] at f0 t3
      rw [if_pos (show b01 (false, i + 1).1 = 0 from rfl), t3] at f0
      rw [if_neg (show ¬ false = true by decide)]
      exact ⟨τ, fun hh => (by cases hh), fun _ => f0, t2, t3⟩
    | true =>
      rw [hd, if_pos (show true = true from rfl)] at f0 t3
      rw [if_neg (show ¬ b01 (true, i + 2).1 = 0 from (by decide : ¬ b01 true = 0)), t4, if_pos (show (116 : Int32) = 116 from rfl)] at f0
      rw [if_pos (show true = true from rfl)]
      have hlt1 := isD_lt hd
      unfold f_X6_readsPlaces at f0
      rcases place6 (t2.pd h) hl (i := i + 2) (by omega) t3 with ⟨q1, q2, q3, q4⟩ | ⟨q1, ρ, q2, q3, q4, q5⟩
      · obtain ⟨e1, e2⟩ := efE_ok _ _ q1
        have e2 := e2 (by omega)
        have h2 : [1, 0].length = 2 := rfl
        rw [h2] at e1 e2
        obtain ⟨v1, v2, v3, v4, v5⟩ := pl_v c τ (i + 2)
        obtain ⟨ρ, r1, r2, r3, r4⟩ := pls6 (c := c) hl 40 (i + 2 + 2) 2000 (pl c τ (i + 2)) (((t2.tr (pl_tx c τ (i + 2))).pd h)) e2 (by omega) (by omega) v1
        rw [q4, px_bs, px_b r1] at f0
        rw [q1, if_pos rfl, e1]
        refine ⟨ρ, fun hh => ?_, fun hh => ?_, (t2.tr (pl_tx c τ (i + 2))).tr r2, r3⟩
        · rw [hh, if_neg (show ¬ b01 true = 0 by decide)] at f0
          exact f0
        · rw [hh, if_pos (show b01 false = 0 from rfl), r3] at f0
          exact f0
      · have e0 : f_X6_readsPlaces_5 2000 0 ρ = some (b01 false, ρ) := by
          rw [f_X6_readsPlaces_5, if_pos (show (0 : Int32) = 0 from rfl)]
          exact px_z (c := false)
        rw [q2, px_bs, px_b e0, if_pos (show b01 false = 0 from rfl), q4] at f0
        rw [q1, if_neg (show ¬ false = true by decide)]
        exact ⟨ρ, fun hh => (by rw [q1] at hh; cases hh), fun _ => f0, t2.tr q3, q4⟩
  · have hL : ¬ τ.2.2.1 16 21 = 116 := by
      rw [t4]
      exact fun e => h116 ((c6_of (by decide) (by decide)).mp e)
    rw [if_neg hL] at f0
    rw [ord_hd h116]
    refine ⟨τ, fun hh => ?_, fun hh => ?_, t2, t3⟩
    · rw [hh, if_neg (show ¬ b01 true = 0 by decide)] at f0
      exact f0
    · rw [hh, if_pos (show b01 false = 0 from rfl), t3] at f0
      exact f0
theorem fault6 (hl : len ≤ 80) : ∀ (n i m : Nat) (ν : wx_St), pd6 len c ν → i ≤ len → len + 3 ≤ i + 3 * n → n < m → ν.2.2.1 16 20 = nI i → ∃ τ, f_X6_findFault_5 m ν = some (fltE len c n i, τ) ∧ txE ν τ := by
  intro n
  induction n with
  | zero => intro i m ν h hi h1; omega
  | succ n ih =>
    intro i m ν h hi h1 hm ha
    obtain ⟨m, rfl⟩ : ∃ k, m = k + 1 := ⟨m - 1, by omega⟩
    obtain ⟨τ, u1, u0, t2, t3⟩ := ordw6 hl h hi ha m
    unfold fltE
    cases ho : (ordE len c i).1 with
    | false =>
      rw [u0 ho, if_neg (show ¬ false = true by decide)]
      exact ⟨τ, rfl, t2⟩
    | true =>
      obtain ⟨o1, o2⟩ := ord_ok ho
      have hp := t2.pd h
      rw [u1 ho, if_pos rfl]
      unfold f_X6_findFault_33
      rw [t3, hp.1]
      by_cases hle : len ≤ (ordE len c i).2
      · rw [if_pos (show nI (ordE len c i).2 = nI len by rw [show (ordE len c i).2 = len by omega]), if_pos hle]
        exact ⟨τ, rfl, t2⟩
      · rw [if_neg (fun e => hle (by have := (nI_eq (by omega) (by omega)).mp e; omega)), if_neg hle, next6 hp hl (by omega) t3 (by decide), px_bs]
        cases hk : isK len c 59 (ordE len c i).2 with
        | false =>
          rw [if_pos (show b01 false = 0 from rfl), if_neg (show ¬ false = true by decide), if_neg (show ¬ false = true by decide)]
          exact ⟨_, rfl, t2.tr (txE.s _ (by decide) _)⟩
        | true =>
          have txn : txE ν (wx_sS τ 16 20 (nI ((ordE len c i).2 + 1))) := t2.tr (txE.s _ (by decide) _)
          rw [if_neg (show ¬ b01 true = 0 by decide), if_pos (show true = true from rfl), if_pos (show true = true from rfl)]
          obtain ⟨ρ, r1, r2⟩ := ih ((ordE len c i).2 + 1) m (wx_sS τ 16 20 (nI ((ordE len c i).2 + 1))) (txn.pd h) (by omega) (by omega) (by omega) rfl
          exact ⟨ρ, r1, txn.tr r2⟩
theorem findFault6 (hl : len ≤ 80) {ν : wx_St} (h : pd6 len c ν) : ∃ τ, f_X6_findFault ν = some (fltE len c 28 0, τ) ∧ txE ν τ := by
  have tx : txE ν (wx_sS ν 16 20 0) := txE.s ν (by decide) 0
  obtain ⟨τ, t1, t2⟩ := fault6 hl 28 0 2000 (wx_sS ν 16 20 0) (tx.pd h) (by omega) (by omega) (by omega) rfl
  unfold f_X6_findFault
  rw [px_l]
  exact ⟨τ, t1, tx.tr t2⟩
end flt
theorem i_fault (σ : wx_St) (hI : Inv σ) : ∃ r σ2, f_X5_fault σ = some r ∧ f_X6_fault σ = some (r, σ2) ∧ Inv σ2 ∧ σ2.2.2.2.2 = σ.2.2.2.2 := by
  obtain ⟨b, n, h, v, sl, len, c, G, iC, iR⟩ := hI
  have hl := G.2.2.2.2.1
  obtain ⟨τ, t1, t2⟩ := findFault6 (c := c) hl iR.2.2.2
  refine ⟨fltE len c 28 0, τ, ?_, ?_, ⟨b, n, h, v, sl, len, c, G, iC.of G.2.1 t2.eqr.1, iR.eqr t2.eqr⟩, by rw [t2.2.2.2]⟩
  · unfold f_X5_fault
    rw [px_o (firstFault5 iC.2.2.2.1 hl)]
  · unfold f_X6_fault
    rw [px_b t1]
