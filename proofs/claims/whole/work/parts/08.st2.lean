/-! THE REFERENCE'S STEP is sp_step -/
def sp_nl (P s : Nat) : List Nat := if s = 0 then (if 8 ≤ P then [P - 8] else []) else if s = 1 then (if P < 56 then [P + 8] else []) else if s = 2 then (if 0 < P % 8 then [P - 1] else []) else (if P % 8 < 7 then [P + 1] else [])
theorem sp_nl_v : ∀ P, P < 64 → ∀ s, s < 4 → f_X6_neighbour (nI P) (nI s) = some (match sp_nl P s with | [] => -6 | n :: _ => nI n) ∧ (sp_nl P s = [] ∨ ∃ n, n < 64 ∧ sp_nl P s = [n]) := by
  have h1 : ∀ P, P < 64 → ∀ s, s < 4 → f_X6_neighbour (nI P) (nI s) = some (match sp_nl P s with | [] => -6 | n :: _ => nI n) := by decide +kernel
  have h2 : ∀ P, P < 64 → ∀ s, s < 4 → (sp_nl P s = [] ∨ ∃ n, n < 64 ∧ sp_nl P s = [n]) := by
    intro P hP s hs
    unfold sp_nl
    split
    · split
      · exact Or.inr ⟨_, by omega, rfl⟩
      · exact Or.inl rfl
    · split
      · split
        · exact Or.inr ⟨_, by omega, rfl⟩
        · exact Or.inl rfl
      · split
        · split
          · exact Or.inr ⟨_, by omega, rfl⟩
          · exact Or.inl rfl
        · split
          · exact Or.inr ⟨_, by omega, rfl⟩
          · exact Or.inl rfl
  exact fun P hP s hs => ⟨h1 P hP s hs, h2 P hP s hs⟩
theorem wx_uF_congr {σ : wx_St} {o k b n : Nat} {g g' : Nat → UInt32} (h : ∀ i, i < n → g i = g' i) : wx_uF σ o k b n g = wx_uF σ o k b n g' := by
  unfold wx_uF
  have : (fun x y i => if x = o ∧ y = k ∧ b ≤ i ∧ i < b + n then g (i - b) else σ.2.1 x y i) = (fun x y i => if x = o ∧ y = k ∧ b ≤ i ∧ i < b + n then g' (i - b) else σ.2.1 x y i) := by
    funext x y i
    by_cases hc : x = o ∧ y = k ∧ b ≤ i ∧ i < b + n
    · rw [if_pos hc, if_pos hc, h (i - b) (by omega)]
    · rw [if_neg hc, if_neg hc]
  rw [this]
theorem p64_i : ∀ n, n < 64 → ¬ nI n = -6 := by decide +kernel
section stepref
variable {P : Nat} {K2 : Int32 → Int32 → wx_St → Option (Unit × wx_St)} {x1 : Int32} {t : UInt32} {σ : wx_St} {f0 : Nat → UInt32} {h : Nat → Bool} {sp le pw : UInt32}
theorem st6_side (hP : P < 64) {s m : Nat} (hs : s < 4) (hf : ∀ n, n < 64 → σ.2.1 16 10 n = f0 n) (hsp : FP.i2f (σ.1 16 0 0) = sp) (hok : sp_tok f0 P sp t (sp_nl P s)) :
    f_X6_steps_21 K2 (m + 1) x1 (nI P) (f0 P) t (nI s) σ = f_X6_steps_21 K2 m x1 (nI P) (f0 P) (sp_t f0 P sp t (sp_nl P s)) (nI (s + 1)) σ := by
  rw [f_X6_steps_21]
  have h4 : ¬ (4 : Int32) ≤ nI s := by
    have : ∀ s, s < 4 → ¬ (4 : Int32) ≤ nI s := by decide
    exact this s hs
  rw [if_neg h4]
  obtain ⟨g1, g2⟩ := sp_nl_v P hP s hs
  rw [px_o g1]
  rcases g2 with g2 | ⟨n, hn, g2⟩
  · rw [g2, if_pos rfl]
    unfold f_X6_steps_67
    rw [nI_1]
    rfl
  · rw [g2] at hok ⊢
    rw [if_neg (p64_i n hn)]
    obtain ⟨⟨d1, d2, d3, d4⟩, -⟩ := hok
    show wx_rF σ 16 10 64 (nI n) _ = _
    rw [px_rF hn (by decide), hf n hn, px_f d1, show wx_rI σ 16 0 109 0 = wx_rI σ 16 0 109 (nI 0) from rfl, px_rI (by decide) (by decide), hsp, px_f d2]
    unfold sp_q at d3 d4
    rw [px_f d3, px_f d4]
    unfold f_X6_steps_67
    rw [nI_1]
    rfl
theorem st6_place (hP : P < 64) {m : Nat} (hf : ∀ n, n < 64 → σ.2.1 16 10 n = f0 n) (hsp : FP.i2f (σ.1 16 0 0) = sp) (hle : FP.i2f (100 - σ.1 16 0 1) = le) (hpw : FP.i2f (σ.1 16 0 2) = pw) (hH : f_X6_isWarmed (nI P) x1 σ = some (if h P = true then 1 else 0)) (hok : sp_sok f0 sp le pw h) :
    f_X6_steps_21 K2 (m + 5) x1 (nI P) (f0 P) FP.fconst0 (nI 0) σ = K2 x1 (nI (P + 1)) (wx_sF σ 16 11 P (sp_step f0 sp le pw h P)) := by
  obtain ⟨k1, k2, k3, k4, k5⟩ := hok P hP
  have hnb : sp_nb P = sp_nl P 0 ++ (sp_nl P 1 ++ (sp_nl P 2 ++ sp_nl P 3)) := rfl
  unfold sp_v at k4 k5
  rw [hnb, sp_t_app, sp_t_app, sp_t_app] at k2 k3 k4 k5
  rw [hnb] at k1
  have j1 := sp_tok_app _ _ _ k1
  have j2 := sp_tok_app _ _ _ j1.2
  have j3 := sp_tok_app _ _ _ j2.2
  rw [st6_side hP (s := 0) (by decide) hf hsp j1.1, st6_side hP (s := 1) (by decide) hf hsp j2.1, st6_side hP (s := 2) (by decide) hf hsp j3.1, st6_side hP (s := 3) (by decide) hf hsp j3.2]
  rw [f_X6_steps_21, if_pos (by decide), px_f k2, show wx_rI σ 16 0 109 1 = wx_rI σ 16 0 109 (nI 1) from rfl, px_rI (by decide) (by decide), hle, px_f k3, px_f k4, px_o hH]
  have hg : sp_step f0 sp le pw h P = (if h P = true then FP.fadd (FP.fdiv (FP.fmul (FP.fadd (f0 P) (sp_t f0 P sp (sp_t f0 P sp (sp_t f0 P sp (sp_t f0 P sp FP.fconst0 (sp_nl P 0)) (sp_nl P 1)) (sp_nl P 2)) (sp_nl P 3))) le) 1120403456) pw else FP.fdiv (FP.fmul (FP.fadd (f0 P) (sp_t f0 P sp (sp_t f0 P sp (sp_t f0 P sp (sp_t f0 P sp FP.fconst0 (sp_nl P 0)) (sp_nl P 1)) (sp_nl P 2)) (sp_nl P 3))) le) 1120403456) := by
    unfold sp_step sp_v
    rw [hnb, sp_t_app, sp_t_app, sp_t_app]
  rw [hg]
  by_cases hh : h P = true
  · rw [if_pos hh, if_pos hh, if_neg (by decide), show wx_rI σ 16 0 109 2 = wx_rI σ 16 0 109 (nI 2) from rfl, px_rI (by decide) (by decide), hpw, px_f (k5 hh)]
    unfold f_X6_steps_122
    rw [px_w hP (by decide), nI_clamp (by omega), nI_1]
  · rw [if_neg hh, if_neg hh, if_pos rfl]
    unfold f_X6_steps_122
    rw [px_w hP (by decide), nI_clamp (by omega), nI_1]
theorem st6_mw {o0 k0 n0 o2 k2 n2 a b : Nat} (ha : a + 64 ≤ n0) (hn0 : n0 < 2 ^ 31) (hb : b + 64 ≤ n2) (hn2 : n2 < 2 ^ 31) (hsep : ¬ (o0 = o2 ∧ k0 = k2)) : ∀ (m P : Nat), P ≤ 64 → 65 ≤ m + P →
    f_X6_movesWarmth_3 o0 k0 n0 o2 k2 n2 m (nI a) (nI b) (nI P) (wx_uF σ o2 k2 b P (fun i => σ.2.1 o0 k0 (a + i))) = some ((), wx_uF σ o2 k2 b 64 (fun i => σ.2.1 o0 k0 (a + i))) := by
  intro m
  induction m with
  | zero => intro P h1 h2; omega
  | succ m ih =>
    intro P h1 h2
    unfold f_X6_movesWarmth_3
    by_cases hP : P < 64
    · rw [if_neg (p64_c P hP).2.2.2.2, nI_add, nI_add, px_rF (by omega) hn0, px_w (by omega) hn2, nI_clamp (by omega)]
      have e : (wx_uF σ o2 k2 b P (fun i => σ.2.1 o0 k0 (a + i))).2.1 o0 k0 (a + P) = (fun i => σ.2.1 o0 k0 (a + i)) P := by
        show (if o0 = o2 ∧ k0 = k2 ∧ b ≤ a + P ∧ a + P < b + P then _ else σ.2.1 o0 k0 (a + P)) = σ.2.1 o0 k0 (a + P)
        rw [if_neg (fun hx => hsep ⟨hx.1, hx.2.1⟩)]
      rw [e, wx_uF_s, nI_1]
      exact ih (P + 1) (by omega) (by omega)
    · have : P = 64 := by omega
      subst this
      rw [if_pos (by decide)]
theorem st6_moves {o0 k0 n0 o2 k2 n2 a b : Nat} (ha : a + 64 ≤ n0) (hn0 : n0 < 2 ^ 31) (hb : b + 64 ≤ n2) (hn2 : n2 < 2 ^ 31) (hsep : ¬ (o0 = o2 ∧ k0 = k2)) :
    f_X6_movesWarmth o0 k0 n0 o2 k2 n2 (nI a) (nI b) σ = some ((), wx_uF σ o2 k2 b 64 (fun i => σ.2.1 o0 k0 (a + i))) := by
  have := st6_mw (σ := σ) ha hn0 hb hn2 hsep 2000 0 (by decide) (by decide)
  rw [wx_uF_0] at this
  exact this
theorem st6_2 (hf : ∀ n, n < 64 → σ.2.1 16 10 n = f0 n) (hsp : FP.i2f (σ.1 16 0 0) = sp) (hle : FP.i2f (100 - σ.1 16 0 1) = le) (hpw : FP.i2f (σ.1 16 0 2) = pw) (hH : ∀ P, P < 64 → ∀ g, f_X6_isWarmed (nI P) x1 (wx_uF σ 16 11 0 P g) = some (if h P = true then 1 else 0)) (hok : sp_sok f0 sp le pw h) : ∀ (m P : Nat), P ≤ 64 → 65 ≤ m + P →
    f_X6_steps_2 m x1 (nI P) (wx_uF σ 16 11 0 P (sp_step f0 sp le pw h)) = some ((), wx_uF (wx_uF σ 16 11 0 64 (sp_step f0 sp le pw h)) 16 10 0 64 (sp_step f0 sp le pw h)) := by
  intro m
  induction m with
  | zero => intro P h1 h2; omega
  | succ m ih =>
    intro P h1 h2
    unfold f_X6_steps_2
    by_cases hP : P < 64
    · have hf' : ∀ n, n < 64 → (wx_uF σ 16 11 0 P (sp_step f0 sp le pw h)).2.1 16 10 n = f0 n := by
        intro n hn
        show (if (16 : Nat) = 16 ∧ (10 : Nat) = 11 ∧ 0 ≤ n ∧ n < 0 + P then sp_step f0 sp le pw h (n - 0) else σ.2.1 16 10 n) = f0 n
        rw [if_neg (fun hx => absurd hx.2.1 (by decide)), hf n hn]
      rw [if_neg (p64_c P hP).2.2.2.2, px_rF hP (by decide), hf' P hP]
      have := st6_place (K2 := f_X6_steps_2 m) (x1 := x1) (σ := wx_uF σ 16 11 0 P (sp_step f0 sp le pw h)) (m := 1995) hP hf' hsp hle hpw (hH P hP _) hok
      rw [show (nI 0 : Int32) = 0 from rfl] at this
      rw [this]
      have e := wx_uF_s (σ := σ) (o := 16) (k := 11) (b := 0) (P := P) (g := sp_step f0 sp le pw h)
      rw [Nat.zero_add] at e
      rw [e]
      exact ih (P + 1) (by omega) (by omega)
    · have : P = 64 := by omega
      subst this
      rw [if_pos (by decide)]
      have e := st6_moves (σ := wx_uF σ 16 11 0 64 (sp_step f0 sp le pw h)) (o0 := 16) (k0 := 11) (n0 := 64) (o2 := 16) (k2 := 10) (n2 := 64) (a := 0) (b := 0) (by decide) (by decide) (by decide) (by decide) (by decide)
      rw [show (nI 0 : Int32) = 0 from rfl] at e
      rw [px_b e]
      have e3 : wx_uF (wx_uF σ 16 11 0 64 (sp_step f0 sp le pw h)) 16 10 0 64 (fun i => (wx_uF σ 16 11 0 64 (sp_step f0 sp le pw h)).2.1 16 11 (0 + i)) = wx_uF (wx_uF σ 16 11 0 64 (sp_step f0 sp le pw h)) 16 10 0 64 (sp_step f0 sp le pw h) := wx_uF_congr (fun i hi => by
        show (if (16 : Nat) = 16 ∧ (11 : Nat) = 11 ∧ 0 ≤ 0 + i ∧ 0 + i < 0 + 64 then sp_step f0 sp le pw h (0 + i - 0) else σ.2.1 16 11 (0 + i)) = sp_step f0 sp le pw h i
        rw [if_pos ⟨rfl, rfl, by omega, by omega⟩, show 0 + i - 0 = i by omega])
      rw [e3]
theorem st6_steps (hf : ∀ n, n < 64 → σ.2.1 16 10 n = f0 n) (hsp : FP.i2f (σ.1 16 0 0) = sp) (hle : FP.i2f (100 - σ.1 16 0 1) = le) (hpw : FP.i2f (σ.1 16 0 2) = pw) (hH : ∀ P, P < 64 → ∀ g, f_X6_isWarmed (nI P) x1 (wx_uF σ 16 11 0 P g) = some (if h P = true then 1 else 0)) (hok : sp_sok f0 sp le pw h) :
    f_X6_steps x1 σ = some ((), wx_uF (wx_uF σ 16 11 0 64 (sp_step f0 sp le pw h)) 16 10 0 64 (sp_step f0 sp le pw h)) := by
  have := st6_2 (σ := σ) hf hsp hle hpw hH hok 2000 0 (by decide) (by decide)
  rw [wx_uF_0] at this
  exact this
end stepref
