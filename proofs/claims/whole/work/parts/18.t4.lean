/-! carryOut, on both sides -/
theorem mend_why {b : Bd} (g : good b) (x1 : Int32) : Why (f_X0_part 7 x1) (fun ν => wx_o (f_X6_isTouch x1 ν) (fun v => if v = 0 then some (-1) else some 0)) (f_X6_mends x1) b := by
  have hT := g.2.2.2.1
  rcases in_cases x1 (n := bT b) (by omega) with ⟨t, ht, rfl⟩ | hx
  · right
    refine ⟨nI (bT b - 1), bPart b t, nI_pos' (by omega), bPart_good g ht, part_cs g ht, fun σ hσ => ?_, mends_rs g ht⟩
    rcases isTouch6 hσ g (nI t) with ⟨-, h⟩ | ⟨h, -⟩
    · show wx_o (f_X6_isTouch (nI t) σ) _ = _
      rw [px_o h, if_neg (show ¬ (1 : Int32) = 0 by decide)]
    · rcases h with h | h
      · exact absurd h (nI_pos (by omega))
      · exact absurd h (nI_ge ht (by omega))
  · left
    refine ⟨-1, by decide, part_no g hx, fun σ hσ => ?_⟩
    rcases isTouch6 hσ g x1 with ⟨⟨t, ht, rfl⟩, -⟩ | ⟨-, h⟩
    · rcases hx with h | h
      · exact absurd h (nI_pos (by omega))
      · exact absurd h (nI_ge ht (by omega))
    · show wx_o (f_X6_isTouch x1 σ) _ = _
      rw [px_o h, if_pos (show (0 : Int32) = 0 from rfl)]
section cry
variable {len : Nat} {c : Nat → Int32}
/-- what carrying out may change in the reference -/
def eqT (σ τ : wx_St) : Prop := eqx 16 σ τ ∧ (∀ k, k ≠ 0 → τ.1 16 k = σ.1 16 k) ∧ (∀ k, k ≠ 1 → k ≠ 10 → k ≠ 11 → τ.2.1 16 k = σ.2.1 16 k) ∧ ∀ y, y < 20 → y ≠ 9 → τ.2.2.1 16 y = σ.2.2.1 16 y
theorem eqT.tr {σ τ ρ : wx_St} (h : eqT σ τ) (h' : eqT τ ρ) : eqT σ ρ :=
  ⟨h.1.tr h'.1, fun k hk => (h'.2.1 k hk).trans (h.2.1 k hk), fun k h1 h2 h3 => (h'.2.2.1 k h1 h2 h3).trans (h.2.2.1 k h1 h2 h3), fun y h1 h2 => (h'.2.2.2 y h1 h2).trans (h.2.2.2 y h1 h2)⟩
theorem eq6.eqT {σ τ : wx_St} (h : eq6 σ τ) : eqT σ τ := ⟨h.1, h.2.1, h.2.2.1, fun y _ _ => by rw [h.2.2.2]⟩
theorem txE.eqT {σ τ : wx_St} (h : txE σ τ) : eqT σ τ := ⟨h.eqr.1, fun k _ => by rw [h.1], fun k _ _ _ => by rw [h.2.1], fun y hy _ => h.2.2.1 16 y (by omega)⟩
theorem pd6.eq6 {σ τ : wx_St} (h : pd6 len c σ) (e : eq6 σ τ) : pd6 len c τ := by
  unfold pd6
  rw [e.2.2.2, e.2.1 8 (by decide)]
  exact h
/-- the class's way goes so -/
def CK (len : Nat) (c : Nat → Int32) (F : wx_St → Option (Int32 × wx_St)) (b : Bd) (r : Int32) (b' : Bd) : Prop := ∀ σ, bdI 7 b σ → wm5 7 b σ → padI len c σ → ∃ τ, F σ = some (r, τ) ∧ bdI 7 b' τ ∧ wm5 7 b' τ ∧ eqx 7 σ τ
/-- the reference's way goes so, ends with the pad empty -/
def RK (len : Nat) (c : Nat → Int32) (P : wx_St → Prop) (F : wx_St → Option (Int32 × wx_St)) (b : Bd) (r : Int32) (b' : Bd) : Prop := ∀ ν, rfI 0 0 b ν → wm6 1 0 b ν → pd6 len c ν → P ν → ∃ τ, F ν = some (r, τ) ∧ rfI 0 0 b' τ ∧ wm6 1 0 b' τ ∧ eqT ν τ ∧ τ.2.2.1 16 9 = 0
def Both (len : Nat) (c : Nat → Int32) (P : wx_St → Prop) (F5 F6 : wx_St → Option (Int32 × wx_St)) (b : Bd) : Prop := ∃ (r : Nat) (b' : Bd), r < 1000 ∧ good b' ∧ CK len c F5 b (nI r) b' ∧ RK len c P F6 b (nI r) b'
/-- the end: nothing more is carried out -/
theorem stop6 (hl : len ≤ 80) {K : Int32 → Int32 → wx_St → Option (Int32 × wx_St)} {m : Nat} (hK : K = f_X6_carryOut_25 (m + 1)) {b : Bd} {ν : wx_St} {j d : Nat} {x3 x4 : Int32} (hj : j < 2 ^ 20) (hr : rfI 0 0 b ν) (hw : wm6 1 0 b ν) (hp : pd6 len c ν) (ha : ν.2.2.1 16 20 = nI j) : ∃ τ, f_X6_carryOut_118 K (nI d) 0 x3 x4 ν = some (nI d, τ) ∧ rfI 0 0 b τ ∧ wm6 1 0 b τ ∧ eqT ν τ ∧ τ.2.2.1 16 9 = 0 := by
  subst hK
  unfold f_X6_carryOut_118
  rw [next6 hp hl hj ha (by decide), px_bs, f_X6_carryOut_25, if_pos (show (0 : Int32) = 0 from rfl)]
  unfold f_X6_carryOut_128
  rw [px_l]
  have tx : txE ν (wx_sS ν 16 20 (nI (if isK len c 59 j = true then j + 1 else j))) := txE.s ν (by decide) _
  generalize wx_sS ν 16 20 (nI (if isK len c 59 j = true then j + 1 else j)) = μ at tx ⊢
  have hS : ∀ x y, (wx_sS μ 16 9 0).2.2.1 x y = if x = 16 ∧ y = 9 then 0 else μ.2.2.1 x y := fun _ _ => rfl
  refine ⟨wx_sS μ 16 9 0, rfl, (hr.of tx.1).of rfl, hw.agr (by show μ.2.1 16 1 = _; rw [tx.2.1]), tx.eqT.tr ⟨⟨fun x hx => ⟨rfl, rfl, ?_⟩, rfl⟩, fun _ _ => rfl, fun _ _ _ _ => rfl, fun y _ hy => ?_⟩, rfl⟩
  · funext y
    rw [hS, if_neg (fun hh => hx hh.1)]
  · rw [hS, if_neg (fun hh => hy hh.2)]
/-- an order's turn: refused, or done and gone on with -/
theorem turn {g5 do6 : wx_St → Option (Int32 × wx_St)} {why6 : wx_St → Option Int32} (hl : len ≤ 80) {b : Bd} (hW : Why g5 why6 do6 b) {P0 P1 : wx_St → Prop} {Fc Fr : wx_St → Option (Int32 × wx_St)} {K : Int32 → Int32 → wx_St → Option (Int32 × wx_St)} {m d j : Nat} {x3 x4 : Int32} (hK : K = f_X6_carryOut_25 (m + 1)) (hd : d < 1000) (hj : j < 2 ^ 20) (gb : good b)
    (hP0 : ∀ ν, P0 ν → ν.2.2.1 16 20 = nI j) (hP1 : ∀ ν τ, P0 ν → eq6 ν τ → P1 τ) (next : ∀ b1, good b1 → Both len c P1 Fc Fr b1) :
    Both len c P0 (fun σ => wx_b (g5 σ) (fun v τ => if 0 ≤ v then Fc τ else some (nI d, τ))) (fun ν => wx_o (why6 ν) (fun v => if v = 0 then wx_b (do6 ν) (fun _ τ => Fr τ) else f_X6_carryOut_118 K (nI d) 0 x3 x4 ν)) b := by
  rcases hW with ⟨e, e1, e2, e3⟩ | ⟨r0, b1, r1, r2, r3, r4, r5⟩
  · refine ⟨d, b, hd, gb, fun σ hb hw hp => ?_, fun ν hr hw hp h0 => ?_⟩
    · obtain ⟨τ, t1, t2, t3, t4⟩ := e2 σ hb hw
      refine ⟨τ, ?_, t2, t3, t4⟩
      show wx_b (g5 σ) _ = _
      rw [px_b t1, if_neg e1]
    · have he0 : ¬ e = 0 := fun he => e1 (by rw [he]; decide)
      obtain ⟨τ, t1, t2⟩ := stop6 hl hK hj hr hw hp (hP0 ν h0) (d := d) (x3 := x3) (x4 := x4)
      refine ⟨τ, ?_, t2⟩
      show wx_o (why6 ν) _ = _
      rw [px_o (e3 ν hr), if_neg he0]
      exact t1
  · obtain ⟨r, b', q1, q2, q3, q4⟩ := next b1 r2
    refine ⟨r, b', q1, q2, fun σ hb hw hp => ?_, fun ν hr hw hp h0 => ?_⟩
    · obtain ⟨τ, t1, t2, t3, t4⟩ := r3 σ hb hw
      obtain ⟨ρ, s1, s2, s3, s4⟩ := q3 τ t2 t3 (hp.of (t4.1 15 (by decide)))
      refine ⟨ρ, ?_, s2, s3, t4.tr s4⟩
      show wx_b (g5 σ) _ = _
      rw [px_b t1, if_pos r1]
      exact s1
    · obtain ⟨τ, t1, t2, t3, t4⟩ := r5 ν hr hw
      obtain ⟨ρ, s1, s2, s3, s4, s5⟩ := q4 τ t2 t3 (hp.eq6 t4) (hP1 ν τ h0 t4)
      refine ⟨ρ, ?_, s2, s3, t4.eqT.tr s4, s5⟩
      show wx_o (why6 ν) _ = _
      rw [px_o (r4 ν hr), if_pos (show (0 : Int32) = 0 from rfl), px_b t1]
      exact s1
theorem Both.mono {P P' : wx_St → Prop} {F5 F5' F6 F6' : wx_St → Option (Int32 × wx_St)} {b : Bd} (h : Both len c P F5 F6 b) (h5 : ∀ σ, padI len c σ → F5' σ = F5 σ) (h6 : ∀ ν, pd6 len c ν → P' ν → P ν ∧ F6' ν = F6 ν) : Both len c P' F5' F6' b := by
  obtain ⟨r, b', q1, q2, q3, q4⟩ := h
  refine ⟨r, b', q1, q2, fun σ hb hw hp => ?_, fun ν hr hw hp h0 => ?_⟩
  · rw [h5 σ hp]
    exact q3 σ hb hw hp
  · rw [(h6 ν hp h0).2]
    exact q4 ν hr hw hp (h6 ν hp h0).1
theorem cdA (hl : len ≤ 80) {σ : wx_St} (hp : padI len c σ) {i : Nat} (hi : i < len) : f_X2_digitAt (nI i) σ = some (c i - 48) ∧ f_X2_columnAt (nI i) σ = some (c i - 97) := by
  unfold f_X2_digitAt f_X2_columnAt
  rw [px_o (codeAt5 hp hl (by omega)), px_o (codeAt5 hp hl (by omega))]
  unfold cd
  rw [if_pos hi]
  exact ⟨rfl, rfl⟩
theorem wx_b_id {m : Option (Int32 × wx_St)} : wx_b m (fun v τ => some (v, τ)) = m := by
  cases m with
  | none => rfl
  | some r => rfl
/-- number of the class -/
theorem numIn5 (hl : len ≤ 80) {σ : wx_St} (hp : padI len c σ) {a : Nat} (h : (numE len c a).1 = true) : f_X2_numberIn (nI a) (nI (numE len c a).2) σ = some (if (numE len c a).2 = a + 2 then 10 * (c a - 48) + c (a + 1) - 48 else c a - 48) := by
  have hd : isD len c a = true := by
    unfold numE at h
    by_cases hd : isD len c a = true
    · exact hd
    · rw [if_neg hd] at h
      cases h
  have ha := isD_lt hd
  have one : f_X2_numberIn (nI a) (nI (a + 1)) σ = some (c a - 48) := by
    unfold f_X2_numberIn
    rw [f_X2_numberIn_5, if_neg (nI_ge (by omega) (by omega)), px_o (cdA hl hp ha).1, nI_1, f_X2_numberIn_5, if_pos (nI_le (Nat.le_refl _) (by omega))]
    have : (10 : Int32) * 0 = 0 := rfl
    rw [this, Int32.zero_add]
  unfold numE
  rw [if_pos hd]
  by_cases h0 : c a = 48
  · rw [if_pos h0, if_neg (show ¬ (true, a + 1).2 = a + 2 by show ¬ a + 1 = a + 2; omega)]
    exact one
  · rw [if_neg h0]
    cases hd2 : isD len c (a + 1) with
    | false =>
      rw [if_neg (show ¬ false = true by decide), if_neg (show ¬ (true, a + 1).2 = a + 2 by show ¬ a + 1 = a + 2; omega)]
      exact one
    | true =>
      have ha2 := isD_lt hd2
      rw [if_pos (show true = true from rfl), if_pos (show (true, a + 2).2 = a + 2 from rfl)]
      show f_X2_numberIn (nI a) (nI (a + 2)) σ = _
      unfold f_X2_numberIn
      rw [f_X2_numberIn_5, if_neg (nI_ge (by omega) (by omega)), px_o (cdA hl hp ha).1, nI_1, f_X2_numberIn_5, if_neg (nI_ge (by omega) (by omega)), px_o (cdA hl hp ha2).1, nI_1, f_X2_numberIn_5, if_pos (nI_le (Nat.le_refl _) (by omega))]
      have : (10 : Int32) * 0 = 0 := rfl
      rw [this, Int32.zero_add, Int32.sub_eq_add_neg (a := 10 * (c a - 48) + c (a + 1)), Int32.sub_eq_add_neg (a := c (a + 1)), Int32.add_assoc]
end cry
