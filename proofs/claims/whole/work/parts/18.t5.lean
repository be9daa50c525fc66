/-! orders carried out -/
theorem px_oc {α β : Type} {m : Option α} {F G : α → Option β} (h : ∀ a, F a = G a) : wx_o m F = wx_o m G := by
  have e : F = G := by
    funext a
    exact h a
  rw [e]
theorem wx_o_id {m : Option Int32} : wx_o m (fun v => some v) = m := by
  cases m with
  | none => rfl
  | some r => rfl
section cry2
variable {len : Nat} {c : Nat → Int32}
theorem Both.tx {P P' : wx_St → Prop} {F5 F6 F6' : wx_St → Option (Int32 × wx_St)} {b : Bd} (h : Both len c P' F5 F6' b) (h6 : ∀ ν, pd6 len c ν → P ν → ∃ τ, F6 ν = F6' τ ∧ txE ν τ ∧ P' τ) : Both len c P F5 F6 b := by
  obtain ⟨r, b', q1, q2, q3, q4⟩ := h
  refine ⟨r, b', q1, q2, q3, fun ν hr hw hp h0 => ?_⟩
  obtain ⟨τ, t1, t2, t3⟩ := h6 ν hp h0
  obtain ⟨ρ, s1, s2, s3, s4, s5⟩ := q4 τ (hr.of t2.1) (hw.agr (by rw [t2.2.1])) (t2.pd hp) t3
  exact ⟨ρ, by rw [t1]; exact s1, s2, s3, t2.eqT.tr s4, s5⟩
/-- the reference's row 76, for an order of one -/
theorem f76_0 {K : Int32 → Int32 → wx_St → Option (Int32 × wx_St)} {K66 : Int32 → Int32 → Int32 → Int32 → wx_St → Option (Int32 × wx_St)} {x1 x3 : Int32} {ν : wx_St} : f_X6_carryOut_76 K K66 x1 1 x3 0 ν = wx_o (f_X6_whyNotDone x3 ν) (fun v => if v = 0 then wx_b (f_X6_does x3 ν) (fun _ τ => f_X6_carryOut_118 K (x1 + 1) 1 x3 0 τ) else f_X6_carryOut_118 K x1 0 x3 0 ν) := by
  unfold f_X6_carryOut_76 f_X6_carryOut_89 f_X6_carryOut_102
  refine px_oc (fun v => ?_)
  by_cases h : v = 0
  · rw [if_pos h, if_pos h, if_neg (show ¬ (1 : Int32) = 0 by decide)]
    refine px_bc (fun _ τ => ?_)
    rw [if_neg (show ¬ (1 : Int32) = 0 by decide), if_pos (show (0 : Int32) = 0 from rfl)]
  · rw [if_neg h, if_neg h, if_pos (show (0 : Int32) = 0 from rfl), if_pos (show (0 : Int32) = 0 from rfl)]
theorem f76_1 {K : Int32 → Int32 → wx_St → Option (Int32 × wx_St)} {K66 : Int32 → Int32 → Int32 → Int32 → wx_St → Option (Int32 × wx_St)} {x1 x3 : Int32} {ν : wx_St} : f_X6_carryOut_76 K K66 x1 1 x3 1 ν = wx_o (f_X6_whyNotDone x3 ν) (fun v => if v = 0 then wx_b (f_X6_does x3 ν) (fun _ τ => wx_o (f_X6_isColumn τ) (fun v112 => if v112 = 0 then f_X6_carryOut_118 K (x1 + 1) 1 x3 1 τ else K66 (x1 + 1) 1 x3 1 τ)) else f_X6_carryOut_118 K x1 0 x3 1 ν) := by
  unfold f_X6_carryOut_76 f_X6_carryOut_89 f_X6_carryOut_102
  refine px_oc (fun v => ?_)
  by_cases h : v = 0
  · rw [if_pos h, if_pos h, if_neg (show ¬ (1 : Int32) = 0 by decide)]
    refine px_bc (fun _ τ => ?_)
    rw [if_neg (show ¬ (1 : Int32) = 0 by decide), if_neg (show ¬ (1 : Int32) = 0 by decide)]
  · rw [if_neg h, if_neg h, if_pos (show (0 : Int32) = 0 from rfl), if_pos (show (0 : Int32) = 0 from rfl)]
/-- an order of one, by its parts -/
theorem nt_gen (hl : len ≤ 80) {b : Bd} (gb : good b) {g5 do6 : wx_St → Option (Int32 × wx_St)} {why6 : wx_St → Option Int32} (hW : Why g5 why6 do6 b) {i e d m' : Nat} {net : Int32} {K66 : Int32 → Int32 → Int32 → Int32 → wx_St → Option (Int32 × wx_St)} {Fc : wx_St → Option (Int32 × wx_St)} {P0 : wx_St → Prop} (hd : d < 999) (he : e < 2 ^ 20)
    (hP0 : ∀ ν, P0 ν → ν.2.2.1 16 20 = nI e)
    (h5 : ∀ σ, padI len c σ → f_X5_answerOf (nI i) (nI e) 0 σ = g5 σ)
    (h6 : ∀ ν, pd6 len c ν → P0 ν → f_X6_whyNotDone net ν = why6 ν ∧ f_X6_does net ν = wx_b (do6 ν) (fun _ τ => some ((), τ)))
    (next : ∀ b1, good b1 → Both len c (fun ν => ν.2.2.1 16 20 = nI e) Fc (fun τ => wx_b (f_X6_isNext 59 τ) (fun _ σ => f_X6_carryOut_25 (m' + 1) (nI (d + 1)) 1 σ)) b1) :
    Both len c P0 (fun σ => wx_b (f_X5_answerOf (nI i) (nI e) 0 σ) (fun v τ => if 0 ≤ v then Fc τ else some (nI d, τ))) (fun ν => f_X6_carryOut_76 (f_X6_carryOut_25 (m' + 1)) K66 (nI d) 1 net 0 ν) b := by
  have T := turn hl hW (P0 := P0) (P1 := fun ν => ν.2.2.1 16 20 = nI e) (Fc := Fc) (Fr := fun τ => wx_b (f_X6_isNext 59 τ) (fun _ σ => f_X6_carryOut_25 (m' + 1) (nI (d + 1)) 1 σ)) (K := f_X6_carryOut_25 (m' + 1)) (m := m') (d := d) (j := e) (x3 := net) (x4 := 0) rfl (by omega) he gb hP0 (fun ν τ h0 e6 => by rw [e6.2.2.2]; exact hP0 ν h0) next
  refine T.mono (fun σ hp => ?_) (fun ν hp h0 => ⟨h0, ?_⟩)
  · show wx_b (f_X5_answerOf (nI i) (nI e) 0 σ) _ = wx_b (g5 σ) _
    rw [h5 σ hp]
  · obtain ⟨w1, w2⟩ := h6 ν hp h0
    show f_X6_carryOut_76 _ K66 (nI d) 1 net 0 ν = _
    rw [f76_0, w1, w2]
    refine px_oc (fun v => ?_)
    by_cases hv : v = 0
    · rw [if_pos hv, if_pos hv]
      cases do6 ν with
      | none => rfl
      | some r =>
        obtain ⟨x, τ⟩ := r
        rw [px_bs, px_bs, px_bs, nI_1]
        rfl
    · rw [if_neg hv, if_neg hv]
/-- behind an order that ends at e, with the text out or the next order -/
theorem rest_end (hl : len ≤ 80) {b : Bd} (gb : good b) {m m' k d : Nat} (hd : d < 1000) (hk : k < 80) : Both len c (fun ν => ν.2.2.1 16 20 = nI len) (fun σ => f_X5_carriedOut_6 (m + 1) (nI d) (nI (len + 1)) (nI k) σ) (fun τ => wx_b (f_X6_isNext 59 τ) (fun _ σ => f_X6_carryOut_25 (m' + 1) (nI d) 1 σ)) b := by
  refine ⟨d, b, hd, gb, fun σ hb hw hp => ⟨σ, ?_, hb, hw, eqx.rf 7 σ⟩, fun ν hr hw hp h0 => ?_⟩
  · show f_X5_carriedOut_6 (m + 1) (nI d) (nI (len + 1)) (nI k) σ = _
    rw [f_X5_carriedOut_6, if_neg (show ¬ (80 : Int32) ≤ nI k from nI_ge (a := k) (b := 80) hk (by decide)), hp.1, if_pos (nI_le (by omega) (by omega))]
    rfl
  · have hK : isK len c 59 len = false := by
      unfold isK
      rw [decide_eq_false (Nat.lt_irrefl len)]
      rfl
    have tx : txE ν (wx_sS ν 16 20 (nI len)) := txE.s ν (by decide) _
    have hp2 := tx.pd hp
    have hS : ∀ x y, (wx_sS (wx_sS ν 16 20 (nI len)) 16 9 0).2.2.1 x y = if x = 16 ∧ y = 9 then 0 else (wx_sS ν 16 20 (nI len)).2.2.1 x y := fun _ _ => rfl
    refine ⟨wx_sS (wx_sS ν 16 20 (nI len)) 16 9 0, ?_, hr.of rfl, hw.agr rfl, tx.eqT.tr ⟨⟨fun x hx => ⟨rfl, rfl, ?_⟩, rfl⟩, fun _ _ => rfl, fun _ _ _ _ => rfl, fun y _ hy => ?_⟩, rfl⟩
    · show wx_b (f_X6_isNext 59 ν) _ = _
      rw [next6 hp hl (by omega) h0 (by decide), px_bs, hK, if_neg (show ¬ false = true by decide), f_X6_carryOut_25, if_neg (show ¬ (1 : Int32) = 0 by decide), hp2.1, if_pos (show nI len ≤ (wx_sS ν 16 20 (nI len)).2.2.1 16 20 from nI_le (Nat.le_refl _) (by omega))]
      rfl
    · funext y
      rw [hS, if_neg (fun hh => hx hh.1)]
    · rw [hS, if_neg (fun hh => hy hh.2)]
theorem rest_next (hl : len ≤ 80) {b : Bd} {m m' k d e : Nat} (he : e < len) (hK : isK len c 59 e = true) (h : Both len c (fun ν => ν.2.2.1 16 20 = nI (e + 1)) (fun σ => f_X5_carriedOut_6 m (nI d) (nI (e + 1)) (nI k) σ) (fun ν => f_X6_carryOut_25 m' (nI d) 1 ν) b) : Both len c (fun ν => ν.2.2.1 16 20 = nI e) (fun σ => f_X5_carriedOut_6 m (nI d) (nI (e + 1)) (nI k) σ) (fun τ => wx_b (f_X6_isNext 59 τ) (fun _ σ => f_X6_carryOut_25 m' (nI d) 1 σ)) b := by
  refine h.tx (fun ν hp h0 => ⟨wx_sS ν 16 20 (nI (e + 1)), ?_, txE.s ν (by decide) _, rfl⟩)
  show wx_b (f_X6_isNext 59 ν) _ = _
  rw [next6 hp hl (by omega) h0 (by decide), px_bs, hK, if_pos (show true = true from rfl)]
theorem pls_shape : ∀ (n j e : Nat), len ≤ j + 2 * n → plsL len c n j = (true, e) → ∃ W, e = j + 2 * W ∧ (∀ p, p < W → isC len c (j + 2 * p) = true ∧ isD len c (j + 2 * p + 1) = true) ∧ isC len c e = false
  | 0, j, e, hl, h => by
    have h : (true, j) = (true, e) := h
    cases h
    refine ⟨0, rfl, fun p hp => absurd hp (Nat.not_lt_zero _), ?_⟩
    cases hc : isC len c j with
    | false => rfl
    | true =>
      have := isC_lt hc
      omega
  | n + 1, j, e, hl, h => by
    unfold plsL at h
    cases hc : isC len c j with
    | false =>
      rw [hc, if_neg (show ¬ false = true by decide)] at h
      cases h
      exact ⟨0, rfl, fun p hp => absurd hp (Nat.not_lt_zero _), hc⟩
    | true =>
      rw [hc, if_pos (show true = true from rfl)] at h
      cases hd : isD len c (j + 1) with
      | false =>
        have e1 : efE len c [1, 0] j = (false, j + 1) := by
          show (if isC len c j = true then (if isD len c (j + 1) = true then (true, j + 1 + 1) else (false, j + 1)) else (false, j)) = _
          rw [hc, hd]
          rfl
        rw [e1, if_neg (show ¬ (false, j + 1).1 = true from (by decide : ¬ false = true))] at h
        cases h
      | true =>
        have e1 : efE len c [1, 0] j = (true, j + 2) := by
          show (if isC len c j = true then (if isD len c (j + 1) = true then (true, j + 1 + 1) else (false, j + 1)) else (false, j)) = _
          rw [hc, hd]
          rfl
        rw [e1, if_pos (show (true, j + 2).1 = true from rfl)] at h
        obtain ⟨W, w1, w2, w3⟩ := pls_shape n (j + 2) e (by omega) h
        refine ⟨W + 1, by omega, fun p hp => ?_, w3⟩
        cases p with
        | zero => exact ⟨hc, hd⟩
        | succ p =>
          have := w2 p (by omega)
          rw [show j + 2 + 2 * p = j + 2 * (p + 1) by omega] at this
          exact this
theorem t_shape {i : Nat} (hl : len ≤ 80) (h : cd len c i = 116) (ho : (ordE len c i).1 = true) : isD len c (i + 1) = true ∧ ∃ W, 1 ≤ W ∧ (ordE len c i).2 = i + 2 + 2 * W ∧ (∀ p, p < W → isC len c (i + 2 + 2 * p) = true ∧ isD len c (i + 2 + 2 * p + 1) = true) ∧ isC len c (i + 2 + 2 * W) = false := by
  rw [ord_t h] at ho ⊢
  cases hd : isD len c (i + 1) with
  | false =>
    rw [hd, if_neg (show ¬ false = true by decide)] at ho
    cases ho
  | true =>
    rw [hd, if_pos (show true = true from rfl)] at ho
    rw [if_pos (show true = true from rfl)]
    refine ⟨rfl, ?_⟩
    have e0 : efE len c [1, 0] (i + 2) = if isC len c (i + 2) = true then (if isD len c (i + 3) = true then (true, i + 4) else (false, i + 3)) else (false, i + 2) := rfl
    cases hc : isC len c (i + 2) with
    | false =>
      rw [e0, hc, if_neg (show ¬ false = true by decide), if_neg (show ¬ (false, i + 2).1 = true from (by decide : ¬ false = true))] at ho
      cases ho
    | true =>
      cases hd2 : isD len c (i + 3) with
      | false =>
        rw [e0, hc, if_pos (show true = true from rfl), hd2, if_neg (show ¬ false = true by decide), if_neg (show ¬ (false, i + 3).1 = true from (by decide : ¬ false = true))] at ho
        cases ho
      | true =>
        rw [hc, if_pos (show true = true from rfl), hd2, if_pos (show true = true from rfl)] at e0
        rw [e0, if_pos (show (true, i + 4).1 = true from rfl)] at ho ⊢
        have ho : (plsL len c 40 (i + 4)).1 = true := ho
        obtain ⟨W, w1, w2, w3⟩ := pls_shape (len := len) (c := c) 40 (i + 4) (plsL len c 40 (i + 4)).2 (by omega) (Prod.ext ho rfl)
        show ∃ W, 1 ≤ W ∧ (plsL len c 40 (i + 4)).2 = i + 2 + 2 * W ∧ (∀ p, p < W → isC len c (i + 2 + 2 * p) = true ∧ isD len c (i + 2 + 2 * p + 1) = true) ∧ isC len c (i + 2 + 2 * W) = false
        refine ⟨W + 1, by omega, by omega, fun p hp => ?_, ?_⟩
        · cases p with
          | zero => exact ⟨hc, hd2⟩
          | succ p =>
            have := w2 p (by omega)
            rw [show i + 4 + 2 * p = i + 2 + 2 * (p + 1) by omega] at this
            exact this
        · rw [show i + 2 + 2 * (W + 1) = (plsL len c 40 (i + 4)).2 by omega]
          exact w3
theorem mul2 : ∀ p, p < 100 → (2 : Int32) * nI p = nI (2 * p) := by decide +kernel
theorem half : ∀ n, n < 200 → nI n / 2 = nI (n / 2) := by decide +kernel
/-- the places of an order for tracks -/
theorem t_loop (hl : len ≤ 80) {i e W k m2 m3 : Nat} (hc116 : cd len c i = 116) (hd1 : isD len c (i + 1) = true) (he : e = i + 2 + 2 * W) (hel : e ≤ len) (hW : ∀ p, p < W → isC len c (i + 2 + 2 * p) = true ∧ isD len c (i + 2 + 2 * p + 1) = true) (hcE : isC len c e = false)
    (next : ∀ b1 d1, good b1 → d1 ≤ i + W → Both len c (fun ν => ν.2.2.1 16 20 = nI e) (fun σ => f_X5_carriedOut_6 m2 (nI d1) (nI (e + 1)) (nI (k + 1)) σ) (fun τ => wx_b (f_X6_isNext 59 τ) (fun _ σ => f_X6_carryOut_25 (m3 + 1) (nI d1) 1 σ)) b1) : ∀ (n p m m' d : Nat) (b : Bd), p + n = W → 1 ≤ n → n + 1 < m → n < m' → good b → d ≤ i + p →
    Both len c (fun ν => ν.2.2.1 16 20 = nI (i + 2 + 2 * p) ∧ ν.2.2.1 16 21 = 116) (fun σ => f_X5_carriedOut_48 (f_X5_carriedOut_6 m2) m (nI d) (nI i) (nI k) (nI e) (nI W) (nI p) σ) (fun ν => f_X6_carryOut_66 (f_X6_carryOut_25 (m3 + 1)) m' (nI d) 1 (c (i + 1) - 48) 1 ν) b := by
  have hi1 := isD_lt hd1
  intro n
  induction n with
  | zero => intro p m m' d b h1 h2; omega
  | succ n ih =>
    intro p m m' d b hp h1 hm hm' gb hd
    obtain ⟨m, rfl⟩ : ∃ k, m = k + 1 := ⟨m - 1, by omega⟩
    obtain ⟨m', rfl⟩ : ∃ k, m' = k + 1 := ⟨m' - 1, by omega⟩
    obtain ⟨hcp, hdp⟩ := hW p (by omega)
    have hlt := isD_lt hdp
    -- the rest behind this place
    have rest : ∀ b1, good b1 → Both len c (fun ν => ν.2.2.1 16 20 = nI (i + 2 + 2 * p + 2) ∧ ν.2.2.1 16 21 = 116) (fun σ => f_X5_carriedOut_48 (f_X5_carriedOut_6 m2) m (nI (d + 1)) (nI i) (nI k) (nI e) (nI W) (nI (p + 1)) σ) (fun τ => wx_o (f_X6_isColumn τ) (fun v112 => if v112 = 0 then f_X6_carryOut_118 (f_X6_carryOut_25 (m3 + 1)) (nI (d + 1)) 1 (c (i + 1) - 48) 1 τ else f_X6_carryOut_66 (f_X6_carryOut_25 (m3 + 1)) m' (nI (d + 1)) 1 (c (i + 1) - 48) 1 τ)) b1 := by
      intro b1 g1
      by_cases hn : n = 0
      · obtain ⟨m, rfl⟩ : ∃ k, m = k + 1 := ⟨m - 1, by omega⟩
        have hpW : p + 1 = W := by omega
        have eE : i + 2 + 2 * p + 2 = e := by omega
        refine (next b1 (d + 1) g1 (by omega)).mono (fun σ _ => ?_) (fun ν hpd h0 => ⟨?_, ?_⟩)
        · show f_X5_carriedOut_48 (f_X5_carriedOut_6 m2) (m + 1) (nI (d + 1)) (nI i) (nI k) (nI e) (nI W) (nI (p + 1)) σ = _
          rw [f_X5_carriedOut_48, if_pos (nI_le (by omega) (by omega)), nI_1, nI_1]
        · rw [← eE]
          exact h0.1
        · show wx_o (f_X6_isColumn ν) _ = _
          rw [px_o (isCol6 hpd hl (i := e) (by omega) (by rw [← eE]; exact h0.1)), hcE, if_pos (show b01 false = 0 from rfl)]
          rfl
      · have := ih (p + 1) m m' (d + 1) b1 (by omega) (by omega) (by omega) (by omega) g1 (by omega)
        refine this.mono (fun σ _ => rfl) (fun ν hpd h0 => ⟨?_, ?_⟩)
        · rw [show i + 2 + 2 * (p + 1) = i + 2 + 2 * p + 2 by omega]
          exact h0
        · have hcn := (hW (p + 1) (by omega)).1
          rw [show i + 2 + 2 * (p + 1) = i + 2 + 2 * p + 2 by omega] at hcn
          show wx_o (f_X6_isColumn ν) _ = _
          rw [px_o (isCol6 hpd hl (i := i + 2 + 2 * p + 2) (by omega) h0.1), hcn, if_neg (show ¬ b01 true = 0 by decide)]
    have T := turn hl (lay_why gb (c (i + 2 + 2 * p + 1) - 48) (c (i + 2 + 2 * p) - 97) (c (i + 1) - 48)) (P0 := fun ν => ν.2.2.1 16 20 = nI (i + 2 + 2 * p + 2) ∧ ν.2.2.1 16 21 = 116) (K := f_X6_carryOut_25 (m3 + 1)) (m := m3) (d := d) (j := i + 2 + 2 * p + 2) (x3 := c (i + 1) - 48) (x4 := 1) rfl (by omega) (by omega) gb (fun ν h0 => h0.1) (fun ν τ h0 e6 => by rw [e6.2.2.2]; exact h0) rest
    have T2 : Both len c (fun ν => (ν.2.2.1 16 20 = nI (i + 2 + 2 * p + 2) ∧ ν.2.2.1 16 21 = 116) ∧ ν.2.2.1 16 22 = c (i + 2 + 2 * p + 1) - 48 ∧ ν.2.2.1 16 23 = c (i + 2 + 2 * p) - 97) (fun σ => f_X5_carriedOut_48 (f_X5_carriedOut_6 m2) (m + 1) (nI d) (nI i) (nI k) (nI e) (nI W) (nI p) σ) (fun ν => f_X6_carryOut_76 (f_X6_carryOut_25 (m3 + 1)) (f_X6_carryOut_66 (f_X6_carryOut_25 (m3 + 1)) m') (nI d) 1 (c (i + 1) - 48) 1 ν) b := by
      refine T.mono (fun σ hpd => ?_) (fun ν hpd h0 => ⟨h0.1, ?_⟩)
      · have e2 : nI i + 2 = nI (i + 2) := nI_add i 2
        have ans : f_X5_answerOf (nI i) (nI e) (nI p) σ = f_X0_lay 7 (c (i + 2 + 2 * p + 1) - 48) (c (i + 2 + 2 * p) - 97) (c (i + 1) - 48) σ := by
          unfold f_X5_answerOf
          rw [px_o (codeAt5 hpd hl (by omega)), hc116, if_neg (show ¬ (116 : Int32) = 102 by decide), if_neg (show ¬ (116 : Int32) = 109 by decide), if_neg (show ¬ (116 : Int32) = 115 by decide), if_pos (show (116 : Int32) = 116 from rfl), e2, mul2 p (by omega), nI_add, nI_1, nI_1, px_o (cdA hl hpd (i := i + 2 + 2 * p + 1) hlt).1, px_o (cdA hl hpd (i := i + 2 + 2 * p) (by omega)).2, px_o (cdA hl hpd (i := i + 1) hi1).1, wx_b_id]
        show f_X5_carriedOut_48 (f_X5_carriedOut_6 m2) (m + 1) (nI d) (nI i) (nI k) (nI e) (nI W) (nI p) σ = _
        rw [f_X5_carriedOut_48, if_neg (nI_ge (by omega) (by omega)), ans, nI_1, nI_1]
      · show f_X6_carryOut_76 _ _ (nI d) 1 (c (i + 1) - 48) 1 ν = _
        have w1 : f_X6_whyNotDone (c (i + 1) - 48) ν = f_X6_whyNotTracked (c (i + 2 + 2 * p + 1) - 48) (c (i + 2 + 2 * p) - 97) (c (i + 1) - 48) ν := by
          unfold f_X6_whyNotDone
          rw [h0.1.2, if_neg (show ¬ (116 : Int32) = 102 by decide), if_neg (show ¬ (116 : Int32) = 109 by decide), if_neg (show ¬ (116 : Int32) = 115 by decide), if_pos (show (116 : Int32) = 116 from rfl), h0.2.1, h0.2.2, wx_o_id]
        have w2 : f_X6_does (c (i + 1) - 48) ν = wx_b (f_X6_tracks (c (i + 2 + 2 * p + 1) - 48) (c (i + 2 + 2 * p) - 97) (c (i + 1) - 48) ν) (fun _ τ => some ((), τ)) := by
          unfold f_X6_does f_X6_does_134
          rw [h0.1.2, if_neg (show ¬ (116 : Int32) = 102 by decide), if_neg (show ¬ (116 : Int32) = 109 by decide), if_neg (show ¬ (116 : Int32) = 115 by decide), if_pos (show (116 : Int32) = 116 from rfl), h0.2.1, h0.2.2]
        rw [f76_1, w1, w2]
        refine px_oc (fun v => ?_)
        by_cases hv : v = 0
        · rw [if_pos hv, if_pos hv]
          cases f_X6_tracks (c (i + 2 + 2 * p + 1) - 48) (c (i + 2 + 2 * p) - 97) (c (i + 1) - 48) ν with
          | none => rfl
          | some r =>
            obtain ⟨x, τ⟩ := r
            rw [px_bs, px_bs, px_bs, nI_1]
        · rw [if_neg hv, if_neg hv]
    refine T2.tx (fun ν hpd h0 => ?_)
    have e10 : (efE len c [1, 0] (i + 2 + 2 * p)).1 = true := by
      show (if isC len c (i + 2 + 2 * p) = true then (if isD len c (i + 2 + 2 * p + 1) = true then (true, i + 2 + 2 * p + 1 + 1) else (false, i + 2 + 2 * p + 1)) else (false, i + 2 + 2 * p)).1 = true
      rw [hcp, hdp]
      rfl
    rcases place6 hpd hl (i := i + 2 + 2 * p) (by omega) h0.1 with ⟨q1, q2, q3, q4⟩ | ⟨q1, -⟩
    · obtain ⟨v1, v2, v3, v4, v5⟩ := pl_v c ν (i + 2 + 2 * p)
      refine ⟨pl c ν (i + 2 + 2 * p), ?_, pl_tx c ν _, ⟨v1, v3.trans h0.2⟩, v4, v5⟩
      show f_X6_carryOut_66 (f_X6_carryOut_25 (m3 + 1)) (m' + 1) (nI d) 1 (c (i + 1) - 48) 1 ν = _
      rw [f_X6_carryOut_66, if_neg (show ¬ (1 : Int32) = 0 by decide), q4, px_bs]
    · rw [q1] at e10
      cases e10
end cry2
