/-! THE COMPARISON: rows, touches, readings, nets, numbers -/
section psame
variable {b : Bd} {σ : wx_St} {could : Int64} {x8 x9 x10 x11 : Int32} {t : Nat} {k : Nat → Nat}
theorem rows_ok (co : CO could b) : ∀ (n R m : Nat) (σ : wx_St), SM b t (many b (8 * R)) σ → R + n = 8 → n < m → ∃ τ, SM b t (many b 64) τ ∧ f_L_same_30 m could (nI (cnt (trk b) (8 * R))) (nI (cnt (sus b) (8 * R))) (nI (cnt (cb b) (8 * R))) (nI (cnt (live b) (bT b))) (nI R) σ = f_L_same_486 2000 could (nI (cnt (trk b) 64)) (nI (cnt (sus b) 64)) (nI (cnt (cb b) 64)) (nI (cnt (live b) (bT b))) 0 τ := by
  intro n
  induction n with
  | zero =>
    intro R m σ S hR hm
    obtain ⟨m, rfl⟩ : ∃ k, m = k + 1 := ⟨m - 1, by omega⟩
    have : R = 8 := by omega
    subst this
    rw [f_L_same_30, if_pos (by decide)]
    exact ⟨σ, S, rfl⟩
  | succ n ih =>
    intro R m σ S hR hm
    obtain ⟨m, rfl⟩ : ∃ k, m = k + 1 := ⟨m - 1, by omega⟩
    obtain ⟨σ1, S1, e1⟩ := row_ok (K30 := f_L_same_30 m) S co (by omega)
    obtain ⟨τ, S2, e2⟩ := ih (R + 1) m σ1 S1 (by omega) (by omega)
    refine ⟨τ, S2, ?_⟩
    rw [f_L_same_30, if_neg (show ¬ (8 : Int32) ≤ nI R from nI_ge (a := R) (b := 8) (by omega) (by decide)), e1]
    exact e2
theorem touches_ok (S : SM b t k σ) : ∀ (n j m : Nat), j + n = bT b → n < m → f_L_same_486 m could x8 x9 x10 x11 (nI j) σ = f_L_same_603 2000 could x8 x9 x10 x11 0 σ := by
  have g := S.1.good
  have gT := g.2.2.2.1
  have h := S.2.1
  intro n
  induction n with
  | zero =>
    intro j m hj hm
    obtain ⟨m, rfl⟩ : ∃ k, m = k + 1 := ⟨m - 1, by omega⟩
    have : j = bT b := by omega
    subst this
    rw [f_L_same_486, q_T h, if_pos (nI_le (Nat.le_refl _) (by omega))]
  | succ n ih =>
    intro j m hj hm
    obtain ⟨m, rfl⟩ : ∃ k, m = k + 1 := ⟨m - 1, by omega⟩
    have hjT : j < bT b := by omega
    obtain ⟨gP, gO1, gO, -⟩ := g.2.2.2.2.1 j hjT
    have el : live b j = (bF b (bN b (bP b j))).testBit (bO b j) := rfl
    have f0 : f_X5_ofTouch (nI j) 0 σ = some (nI (bP b j)) := ofTouch5 hjT 0 σ S.1
    have f1 : f_X5_ofTouch (nI j) 1 σ = some (nI (bN b (bP b j))) := ofTouch5 hjT 1 σ S.1
    have f2 : f_X5_ofTouch (nI j) 2 σ = some (nI (bO b j)) := ofTouch5 hjT 2 σ S.1
    have f3 : f_X5_ofTouch (nI j) 3 σ = some (b01 (live b j)) := ofTouch5 hjT 3 σ S.1
    rw [f_L_same_486, q_T h, if_neg (nI_ge hjT (by omega)), px_o f0, q_P h g hjT, if_pos rfl, px_o f1, q_P h g hjT, q_b h gP, if_pos rfl, px_o f2, q_O h g hjT, if_pos rfl, px_o f3, q_P h g hjT, q_b h gP, q_O h g hjT, px_o (lfed_eq h g (g.2.1 _ gP) gO), ← el]
    unfold f_L_same_589
    rw [nI_1]
    cases live b j with
    | false => rw [if_pos (show b01 false = 0 from rfl), if_pos (show b01 false = 0 from rfl)]; exact ih (j + 1) m (by omega) (by omega)
    | true => rw [if_neg (show ¬ b01 true = 0 by decide), if_pos (show b01 true = 1 from rfl)]; exact ih (j + 1) m (by omega) (by omega)
theorem readings_ok (S : SM b t k σ) : ∀ (n j m : Nat), j + n = bR b → n < m → f_L_same_603 m could x8 x9 x10 x11 (nI j) σ = f_L_same_678 2000 could x8 x9 x10 x11 1 σ := by
  have g := S.1.good
  have gR := g.2.2.2.2.2.2.2.1
  have h := S.2.1
  intro n
  induction n with
  | zero =>
    intro j m hj hm
    obtain ⟨m, rfl⟩ : ∃ k, m = k + 1 := ⟨m - 1, by omega⟩
    have : j = bR b := by omega
    subst this
    rw [f_L_same_603, q_R h, if_pos (nI_le (Nat.le_refl _) (by omega))]
  | succ n ih =>
    intro j m hj hm
    obtain ⟨m, rfl⟩ : ∃ k, m = k + 1 := ⟨m - 1, by omega⟩
    have hjR : j < bR b := by omega
    obtain ⟨f0, f1, f2⟩ := reading5 hjR
    obtain ⟨r0, r1, r2⟩ := h.2.2.1 j hjR
    have e2 : nI (3 * j) + 2 = nI (3 * j + 2) := nI_add _ 2
    rw [f_L_same_603, q_R h, if_neg (nI_ge hjR (by omega)), px_o (f0 σ S.1), nI_3, px_rI (by omega) (by decide), r0, if_pos rfl, px_o (f1 σ S.1), nI_1, px_rI (by omega) (by decide), r1, if_pos rfl, px_o (f2 σ S.1), e2, px_rI (by omega) (by decide), r2, if_pos rfl, nI_1]
    exact ih (j + 1) m (by omega) (by omega)
theorem nets_ok (S : SM b t (many b 64) σ) : ∀ (n j m : Nat), j + n = 8 → 1 ≤ j → n < m → f_L_same_678 m could x8 x9 x10 x11 (nI j) σ = f_L_same_726 2000 could x8 x9 x10 x11 0 σ := by
  have g := S.1.good
  have h := S.2.1
  intro n
  induction n with
  | zero =>
    intro j m hj h1 hm
    obtain ⟨m, rfl⟩ : ∃ k, m = k + 1 := ⟨m - 1, by omega⟩
    have : j = 8 := by omega
    subst this
    rw [f_L_same_678, if_pos (by decide)]
  | succ n ih =>
    intro j m hj h1 hm
    obtain ⟨m, rfl⟩ : ∃ k, m = k + 1 := ⟨m - 1, by omega⟩
    have hj8 : j < 8 := by omega
    obtain ⟨f0, f1⟩ := ofNet5 (b := b) h1 hj8
    rw [f_L_same_678, if_neg (show ¬ (8 : Int32) ≤ nI j from nI_ge (a := j) (b := 8) (by omega) (by decide)), px_o (f0 σ S.1), px_rI hj8 (by decide), S.2.2.2 j hj8, if_pos (show nI (cnt (fun p => decide (bN b p = j)) 64) = nI (many b 64 j) from rfl), px_o (f1 σ S.1), q_fed h hj8, if_pos rfl, nI_1]
    exact ih (j + 1) m (by omega) (by omega) (by omega)
theorem sets_ok : ∀ (n j m : Nat) (σ : wx_St), SM b t k σ → j + n = 4 → n < m → ∃ τ, SM b t k τ ∧ f_L_same_726 m could x8 x9 x10 x11 (nI j) σ = f_L_same_761 could x8 x9 x10 x11 (nI 4) (nI (bK b)) τ := by
  intro n
  induction n with
  | zero =>
    intro j m σ S hj hm
    obtain ⟨m, rfl⟩ : ∃ k, m = k + 1 := ⟨m - 1, by omega⟩
    have : j = 4 := by omega
    subst this
    obtain ⟨τ, S1, e1⟩ := S.call (count5_0 (b := b))
    rw [f_L_same_726, if_pos (by decide), e1]
    exact ⟨τ, S1, rfl⟩
  | succ n ih =>
    intro j m σ S hj hm
    obtain ⟨m, rfl⟩ : ∃ k, m = k + 1 := ⟨m - 1, by omega⟩
    obtain ⟨σ1, S1, e1⟩ := S.call (count5_9 (b := b) (k := j) (by omega))
    obtain ⟨τ, S2, e2⟩ := ih (j + 1) m σ1 S1 (by omega) (by omega)
    have e9 : (9 : Int32) + nI j = nI (9 + j) := nI_add 9 j
    refine ⟨τ, S2, ?_⟩
    rw [f_L_same_726, if_neg (show ¬ (4 : Int32) ≤ nI j from nI_ge (a := j) (b := 4) (by omega) (by decide)), e9, e1]
    unfold f_L_same_741
    rw [q_S S1.2.1 (by omega), if_pos rfl, nI_1]
    exact e2
theorem pairs_half : ∀ n, n ≤ 64 → (nI n * (nI n - 1)) / 2 = nI (n * (n - 1) / 2) := by decide +kernel
/-- with no reading every two suspects could be the touches -/
theorem inn_all {b : Bd} (hR : bR b = 0) {p : Nat} (hp : p < 64) : ∀ (n acc : Nat), n ≤ 63 - p → inn b p n acc = acc + (if sus b p = true then cnt (sus b) 64 - cnt (sus b) (64 - n) else 0) := by
  intro n
  induction n with
  | zero =>
    intro acc _
    show acc = _
    rw [Nat.sub_zero, Nat.sub_self]
    split <;> rfl
  | succ n ih =>
    intro acc hn
    show inn b p n (if pr b p (63 - n) = true then acc + 1 else acc) = _
    rw [ih _ (by omega)]
    have hf : fit2 b p (63 - n) = true := by
      unfold fit2 fitN
      rw [hR]
      rfl
    have e64 : 64 - n = (64 - (n + 1)) + 1 := by omega
    have ec : cnt (sus b) (64 - n) = cnt (sus b) (64 - (n + 1)) + (if sus b (63 - n) = true then 1 else 0) := by
      rw [e64]
      have : 64 - (n + 1) = 63 - n := by omega
      rw [this]
      rfl
    have hle : cnt (sus b) (64 - n) ≤ cnt (sus b) 64 := by
      have := cnt_add (sus b) (64 - n) n
      rw [show 64 - n + n = 64 by omega] at this
      omega
    unfold pr
    rw [hf, Bool.and_true]
    generalize cnt (sus b) (64 - (n + 1)) = A at *
    generalize cnt (sus b) (64 - n) = B at *
    generalize cnt (sus b) 64 = E at *
    cases h1 : sus b p with
    | false => simp
    | true =>
      cases h2 : sus b (63 - n) with
      | false =>
        rw [h2, if_neg (by decide)] at ec
        simp
        omega
      | true =>
        rw [h2, if_pos rfl] at ec
        simp
        omega
theorem tri_s (s : Nat) : (s + 1) * s / 2 = s * (s - 1) / 2 + s := by
  cases s with
  | zero => rfl
  | succ s =>
    have : (s + 1 + 1) * (s + 1) = (s + 1) * s + (s + 1) * 2 := by
      rw [Nat.mul_comm (s + 1 + 1), ← Nat.mul_add]
    rw [this, Nat.add_mul_div_right _ _ (by decide)]
    rfl
theorem outr_all {b : Bd} (hR : bR b = 0) : ∀ (n acc : Nat), n ≤ 64 → outr b n acc = acc + (cnt (sus b) 64 - cnt (sus b) (64 - n)) * ((cnt (sus b) 64 - cnt (sus b) (64 - n)) - 1) / 2 := by
  intro n
  induction n with
  | zero =>
    intro acc _
    show acc = _
    rw [Nat.sub_zero, Nat.sub_self]
    simp
  | succ n ih =>
    intro acc hn
    show outr b n (inn b (63 - n) n acc) = _
    rw [ih _ (by omega), inn_all hR (p := 63 - n) (by omega) n acc (by omega)]
    have e64 : 64 - n = (64 - (n + 1)) + 1 := by omega
    have ec : cnt (sus b) (64 - n) = cnt (sus b) (64 - (n + 1)) + (if sus b (63 - n) = true then 1 else 0) := by
      rw [e64]
      have : 64 - (n + 1) = 63 - n := by omega
      rw [this]
      rfl
    have hle : cnt (sus b) (64 - n) ≤ cnt (sus b) 64 := by
      have := cnt_add (sus b) (64 - n) n
      rw [show 64 - n + n = 64 by omega] at this
      omega
    cases h2 : sus b (63 - n) with
    | false =>
      rw [h2, if_neg (by decide), Nat.add_zero] at ec
      rw [if_neg (by decide), Nat.add_zero, ec]
    | true =>
      rw [h2, if_pos rfl] at ec
      rw [if_pos rfl]
      have hd : cnt (sus b) 64 - cnt (sus b) (64 - (n + 1)) = (cnt (sus b) 64 - cnt (sus b) (64 - n)) + 1 := by omega
      rw [hd, Nat.add_sub_cancel, tri_s]
      omega
theorem pairs_all {b : Bd} (hR : bR b = 0) : outr b 64 0 = cnt (sus b) 64 * (cnt (sus b) 64 - 1) / 2 := by
  rw [outr_all hR 64 0 (Nat.le_refl _)]
  have : cnt (sus b) (64 - 64) = 0 := rfl
  rw [this, Nat.zero_add, Nat.sub_zero]
theorem last_ok (S : SM b t k σ) : ∃ τ, SM b t k τ ∧ f_L_same_761 could (nI (cnt (trk b) 64)) (nI (cnt (sus b) 64)) (nI (cnt (cb b) 64)) (nI (cnt (live b) (bT b))) (nI 4) (nI (bK b)) σ = some (1, τ) := by
  have g := S.1.good
  have gR := g.2.2.2.2.2.2.2.1
  obtain ⟨σ1, S1, e1⟩ := S.call (count5_1 (b := b))
  obtain ⟨σ2, S2, e2⟩ := S1.call (count5_2 (b := b))
  obtain ⟨σ3, S3, e3⟩ := S2.call (count5_3 (b := b))
  obtain ⟨σ4, S4, e4⟩ := S3.call (count5_4 (b := b))
  obtain ⟨σ5, S5, e5⟩ := S4.call (count5_5 (b := b))
  obtain ⟨σ6, S6, e6⟩ := S5.call (count5_6 (b := b))
  obtain ⟨σ7, S7, e7⟩ := S6.call (count5_7 (b := b))
  have hh : cnt (heat b) 64 = cnt (live b) (bT b) := cnt_heat g (bT b) (Nat.le_refl _)
  have yes : ∀ τ, f_L_same_881 could (nI (cnt (trk b) 64)) (nI (cnt (sus b) 64)) (nI (cnt (cb b) 64)) (nI (cnt (live b) (bT b))) (nI 4) τ = some (1, τ) := fun τ => rfl
  have go : ∃ τ, SM b t k τ ∧ f_L_same_826 could (nI (cnt (trk b) 64)) (nI (cnt (sus b) 64)) (nI (cnt (cb b) 64)) (nI (cnt (live b) (bT b))) (nI 4) (nI (cnt (cb b) 64)) σ6 = some (1, τ) := by
    unfold f_L_same_826
    rw [if_pos rfl, q_T S6.2.1, px_o (ofTouch5n (b := b) 0 σ6 S6.1), if_pos (show (-1 : Int32) = -1 from rfl), q_R S6.2.1, px_o (reading5n (b := b) 0 σ6 S6.1), if_pos (show (-1 : Int32) = -1 from rfl), q_R S6.2.1]
    by_cases h0 : bR b = 0
    · rw [if_neg (show ¬ 0 < nI (bR b) by rw [h0]; decide), e7]
      unfold f_L_same_869
      rw [if_pos (by rw [pairs_all h0, pairs_half _ (cnt_le _ 64)])]
      exact ⟨σ7, S7, yes σ7⟩
    · rw [if_pos (show (0 : Int32) < nI (bR b) from nI_lt (a := 0) (by omega) (by omega))]
      exact ⟨σ6, S6, yes σ6⟩
  obtain ⟨τ, T1, T2⟩ := go
  refine ⟨τ, T1, ?_⟩
  unfold f_L_same_761
  rw [q_K S.2.1, if_pos rfl, e1]
  unfold f_L_same_772
  rw [q_T S1.2.1, if_pos rfl, e2]
  unfold f_L_same_783
  rw [if_pos (by rw [hh]), e3]
  unfold f_L_same_793
  rw [q_R S3.2.1, if_pos rfl, e4]
  unfold f_L_same_805
  rw [if_pos (show nI (cnt (fun p => decide (bN b p ≠ 0)) 64) = nI (cnt (trk b) 64) from rfl), e5]
  unfold f_L_same_815
  rw [if_pos rfl, e6]
  exact T2
end psame
def LI (t : Nat) (could : Int64) (b : Bd) (σ : wx_St) : Prop := IC b σ ∧ LR b σ ∧ TL t σ ∧ CO could b
theorem same_ok {t : Nat} {could : Int64} {b : Bd} {σ : wx_St} (I : LI t could b σ) (ht : t < 34) : ∃ τ, f_L_same could σ = some (1, τ) ∧ LI (t + 1) could b τ := by
  obtain ⟨i1, i2, i3, co⟩ := I
  have g := i1.good
  have gT := g.2.2.2.1
  have gR := g.2.2.2.2.2.2.2.1
  have S0 : SM b (t + 1) (many b (8 * 0)) (wx_sM σ) := by
    refine ⟨i1.sM, ?_, i3.sM ht, fun n _ => ?_⟩
    · obtain ⟨⟨a1, a2, a3, a4⟩, a5, a6, a7, a8⟩ := i2
      have e : ∀ k, k ≠ 5 → (wx_sM σ).1 16 k = σ.1 16 k := by
        intro k hk
        funext i
        show (if 16 = 16 ∧ k = 5 then (0 : Int32) else σ.1 16 k i) = _
        rw [if_neg (fun hh => hk hh.2)]
      unfold LR
      rw [e 0 (by decide), e 1 (by decide), e 2 (by decide), e 3 (by decide), e 4 (by decide)]
      exact ⟨⟨a1, a2, a3, a4⟩, a5, a6, a7, a8⟩
    · show (if 16 = 16 ∧ 5 = 5 then (0 : Int32) else σ.1 16 5 n) = _
      rw [if_pos ⟨rfl, rfl⟩]
      rfl
  obtain ⟨σ1, S1, e1⟩ := rows_ok (t := t + 1) co 8 0 2000 _ S0 (by decide) (by decide)
  obtain ⟨σ2, S2, e2⟩ := sets_ok (b := b) (t := t + 1) (k := many b 64) (could := could) (x8 := nI (cnt (trk b) 64)) (x9 := nI (cnt (sus b) 64)) (x10 := nI (cnt (cb b) 64)) (x11 := nI (cnt (live b) (bT b))) 4 0 2000 σ1 S1 (by decide) (by decide)
  obtain ⟨τ, S3, e3⟩ := last_ok (could := could) S2
  refine ⟨τ, ?_, S3.1, S3.2.1, S3.2.2.1, co⟩
  unfold f_L_same f_L_same_25
  rw [px_o (llive_eq i2 g), mk_ok i3 ht]
  have h1 := touches_ok (could := could) (x8 := nI (cnt (trk b) 64)) (x9 := nI (cnt (sus b) 64)) (x10 := nI (cnt (cb b) 64)) (x11 := nI (cnt (live b) (bT b))) S1 (bT b) 0 2000 (by omega) (by omega)
  have h2 := readings_ok (could := could) (x8 := nI (cnt (trk b) 64)) (x9 := nI (cnt (sus b) 64)) (x10 := nI (cnt (cb b) 64)) (x11 := nI (cnt (live b) (bT b))) S1 (bR b) 0 2000 (by omega) (by omega)
  have h3 := nets_ok (could := could) (x8 := nI (cnt (trk b) 64)) (x9 := nI (cnt (sus b) 64)) (x10 := nI (cnt (cb b) 64)) (x11 := nI (cnt (live b) (bT b))) S1 7 1 2000 (by decide) (by decide) (by decide)
  exact e1.trans (h1.trans (h2.trans (h3.trans (e2.trans e3))))
