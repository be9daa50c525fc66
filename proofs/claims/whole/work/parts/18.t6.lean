/-! the text's orders, one after the other *)-/
section cry3
variable {len : Nat} {c : Nat → Int32}
theorem ef_s {k : Nat} {ks : List Nat} {a : Nat} (h : (efE len c (k :: ks) a).1 = true) : okK len c k a = true ∧ (efE len c ks (a + 1)).1 = true ∧ (efE len c (k :: ks) a).2 = (efE len c ks (a + 1)).2 := by
  have e : efE len c (k :: ks) a = if okK len c k a = true then efE len c ks (a + 1) else (false, a) := rfl
  by_cases hk : okK len c k a = true
  · rw [if_pos hk] at e
    rw [e] at h ⊢
    exact ⟨hk, h, rfl⟩
  · rw [if_neg hk] at e
    rw [e] at h
    cases h
theorem hd_ok {i : Nat} (h : (ordE len c i).1 = true) : (hdE len c i).1 = true := by
  by_cases h116 : cd len c i = 116
  · rw [hd_t h116]
    rw [ord_t h116] at h
    cases hd : isD len c (i + 1) with
    | false =>
      rw [hd, if_neg (show ¬ false = true by decide)] at h
      cases h
    | true => rfl
  · rw [← ord_hd h116]
    exact h
/-- the class's and the reference's order of one -/
theorem nt_ord (hl : len ≤ 80) {i d m' : Nat} {K66 : Int32 → Int32 → Int32 → Int32 → wx_St → Option (Int32 × wx_St)} {Fc : wx_St → Option (Int32 × wx_St)} (hi : i < len) (ho : (ordE len c i).1 = true) (h116 : cd len c i ≠ 116) (hd : d < 999) {b : Bd} (gb : good b) (net : Int32)
    (next : ∀ b1, good b1 → Both len c (fun ν => ν.2.2.1 16 20 = nI (ordE len c i).2) Fc (fun τ => wx_b (f_X6_isNext 59 τ) (fun _ σ => f_X6_carryOut_25 (m' + 1) (nI (d + 1)) 1 σ)) b1) :
    Both len c (fun ν => ν.2.2.1 16 20 = nI (ordE len c i).2 ∧ ν.2.2.1 16 21 = c i ∧ vals len c i ν ∧ ν.2.2.1 16 24 = net) (fun σ => wx_b (f_X5_answerOf (nI i) (nI (ordE len c i).2) 0 σ) (fun v τ => if 0 ≤ v then Fc τ else some (nI d, τ))) (fun ν => f_X6_carryOut_76 (f_X6_carryOut_25 (m' + 1)) K66 (nI d) 1 net 0 ν) b := by
  have hcd : cd len c i = c i := if_pos hi
  obtain ⟨o1, o2⟩ := ord_ok ho
  have he20 : (ordE len c i).2 < 2 ^ 20 := by omega
  have hoh := ord_hd h116
  have dD : ∀ a, isD len c a = true → a < len := fun a h => isD_lt h
  have e1 : nI i + 1 = nI (i + 1) := nI_add i 1
  have e2 : nI i + 2 = nI (i + 2) := nI_add i 2
  have e4 : nI i + 4 = nI (i + 4) := nI_add i 4
  by_cases h102 : cd len c i = 102
  · have hE : ordE len c i = efE len c [0, 0] (i + 1) := by rw [hoh]; unfold hdE; rw [if_neg h116, if_pos h102]
    rw [hE] at ho
    obtain ⟨k1, k2, -⟩ := ef_s ho
    obtain ⟨k3, -, -⟩ := ef_s k2
    have l1 := dD _ k1
    have l2 := dD _ k3
    refine nt_gen hl gb (feed_why gb (c (i + 1) - 48) (c (i + 2) - 48)) hd he20 (fun ν h0 => h0.1) (fun σ hp => ?_) (fun ν hp h0 => ?_) next
    · unfold f_X5_answerOf
      rw [px_o (codeAt5 hp hl (by omega)), h102, if_pos (show (102 : Int32) = 102 from rfl), e1, e2, px_o (cdA hl hp l1).1, px_o (cdA hl hp (i := i + 2) l2).1, wx_b_id]
    · obtain ⟨h1, h2, h3, h4⟩ := h0
      obtain ⟨v1, v2⟩ := h3.1 h102
      rw [← hcd, h102] at h2
      rw [v2] at h4
      unfold f_X6_whyNotDone f_X6_does f_X6_does_134
      rw [h2, if_pos (show (102 : Int32) = 102 from rfl), if_pos (show (102 : Int32) = 102 from rfl), v1, ← h4, wx_o_id]
      exact ⟨rfl, rfl⟩
  · by_cases h115 : cd len c i = 115
    · have hE : ordE len c i = efE len c [1, 0, 2, 0] (i + 1) := by rw [hoh]; unfold hdE; rw [if_neg h116, if_neg h102, if_pos h115]
      rw [hE] at ho
      obtain ⟨k1, k2, -⟩ := ef_s ho
      obtain ⟨k3, k4, -⟩ := ef_s k2
      obtain ⟨k5, k6, -⟩ := ef_s k4
      obtain ⟨k7, -, -⟩ := ef_s k6
      have l1 := okK_lt k1
      have l2 := okK_lt k3
      have l4 := okK_lt k7
      refine nt_gen hl gb (join_why gb (c (i + 2) - 48) (c (i + 1) - 97) (c (i + 4) - 48)) hd he20 (fun ν h0 => h0.1) (fun σ hp => ?_) (fun ν hp h0 => ?_) next
      · unfold f_X5_answerOf
        rw [px_o (codeAt5 hp hl (by omega)), h115, if_neg (show ¬ (115 : Int32) = 102 by decide), if_neg (show ¬ (115 : Int32) = 109 by decide), if_pos (show (115 : Int32) = 115 from rfl), e1, e2, e4, px_o (cdA hl hp (i := i + 2) l2).1, px_o (cdA hl hp l1).2, px_o (cdA hl hp (i := i + 4) l4).1, wx_b_id]
      · obtain ⟨h1, h2, h3, h4⟩ := h0
        obtain ⟨v1, v2, v3⟩ := h3.2.2.1 h115
        rw [← hcd, h115] at h2
        rw [v3] at h4
        unfold f_X6_whyNotDone f_X6_does f_X6_does_134
        rw [h2, if_neg (show ¬ (115 : Int32) = 102 by decide), if_neg (show ¬ (115 : Int32) = 109 by decide), if_pos (show (115 : Int32) = 115 from rfl), if_neg (show ¬ (115 : Int32) = 102 by decide), if_neg (show ¬ (115 : Int32) = 109 by decide), if_pos (show (115 : Int32) = 115 from rfl), v1, v2, ← h4, wx_o_id]
        exact ⟨rfl, rfl⟩
    · by_cases h109 : cd len c i = 109
      · have hE : ordE len c i = efE len c [0] (i + 1) := by rw [hoh]; unfold hdE; rw [if_neg h116, if_neg h102, if_neg h115, if_pos h109]
        rw [hE] at ho
        obtain ⟨k1, -, -⟩ := ef_s ho
        have l1 := okK_lt k1
        refine nt_gen hl gb (mend_why gb (c (i + 1) - 48)) hd he20 (fun ν h0 => h0.1) (fun σ hp => ?_) (fun ν hp h0 => ?_) next
        · unfold f_X5_answerOf
          rw [px_o (codeAt5 hp hl (by omega)), h109, if_neg (show ¬ (109 : Int32) = 102 by decide), if_pos (show (109 : Int32) = 109 from rfl), e1, px_o (cdA hl hp l1).1, wx_b_id]
        · obtain ⟨h1, h2, h3, h4⟩ := h0
          have v1 := h3.2.1 (Or.inr h109)
          rw [← hcd, h109] at h2
          rw [v1] at h4
          unfold f_X6_whyNotDone f_X6_does f_X6_does_134 f_X6_whyNotDone_106
          rw [h2, if_neg (show ¬ (109 : Int32) = 102 by decide), if_pos (show (109 : Int32) = 109 from rfl), if_neg (show ¬ (109 : Int32) = 102 by decide), if_pos (show (109 : Int32) = 109 from rfl), ← h4]
          exact ⟨rfl, rfl⟩
      · by_cases h119 : cd len c i = 119
        · have hE : ordE len c i = numE len c (i + 1) := by rw [hoh]; unfold hdE; rw [if_neg h116, if_neg h102, if_neg h115, if_neg h109, if_pos h119]
          have hn : (numE len c (i + 1)).1 = true := by rw [← hE]; exact ho
          have e3 : i + 1 + 2 = i + 3 := rfl
          refine nt_gen hl gb (warm_why gb (if (numE len c (i + 1)).2 = i + 3 then 10 * (c (i + 1) - 48) + c (i + 2) - 48 else c (i + 1) - 48)) hd he20 (fun ν h0 => h0.1) (fun σ hp => ?_) (fun ν hp h0 => ?_) next
          · unfold f_X5_answerOf
            rw [px_o (codeAt5 hp hl (by omega)), h119, if_neg (show ¬ (119 : Int32) = 102 by decide), if_neg (show ¬ (119 : Int32) = 109 by decide), if_neg (show ¬ (119 : Int32) = 115 by decide), if_neg (show ¬ (119 : Int32) = 116 by decide), if_pos (show (119 : Int32) = 119 from rfl), e1, hE, px_o (numIn5 hl hp hn), wx_b_id]
          · obtain ⟨h1, h2, h3, h4⟩ := h0
            have v1 := h3.2.2.2.2 h119
            rw [← hcd, h119] at h2
            rw [v1] at h4
            unfold f_X6_whyNotDone f_X6_does f_X6_does_134
            rw [h2, if_neg (show ¬ (119 : Int32) = 102 by decide), if_neg (show ¬ (119 : Int32) = 109 by decide), if_neg (show ¬ (119 : Int32) = 115 by decide), if_neg (show ¬ (119 : Int32) = 116 by decide), if_pos (show (119 : Int32) = 119 from rfl), if_neg (show ¬ (119 : Int32) = 102 by decide), if_neg (show ¬ (119 : Int32) = 109 by decide), if_neg (show ¬ (119 : Int32) = 115 by decide), if_neg (show ¬ (119 : Int32) = 116 by decide), if_pos (show (119 : Int32) = 119 from rfl), ← h4, wx_o_id]
            exact ⟨rfl, rfl⟩
        · by_cases h112 : cd len c i = 112
          · have hE : ordE len c i = efE len c [1, 0] (i + 1) := by rw [hoh]; unfold hdE; rw [if_neg h116, if_neg h102, if_neg h115, if_neg h109, if_neg h119, if_pos h112]
            rw [hE] at ho
            obtain ⟨k1, k2, -⟩ := ef_s ho
            obtain ⟨k3, -, -⟩ := ef_s k2
            have l1 := okK_lt k1
            have l2 := okK_lt k3
            refine nt_gen hl gb (probe_why gb (c (i + 2) - 48) (c (i + 1) - 97)) hd he20 (fun ν h0 => h0.1) (fun σ hp => ?_) (fun ν hp h0 => ?_) next
            · unfold f_X5_answerOf
              rw [px_o (codeAt5 hp hl (by omega)), h112, if_neg (show ¬ (112 : Int32) = 102 by decide), if_neg (show ¬ (112 : Int32) = 109 by decide), if_neg (show ¬ (112 : Int32) = 115 by decide), if_neg (show ¬ (112 : Int32) = 116 by decide), if_neg (show ¬ (112 : Int32) = 119 by decide), e1, e2, px_o (cdA hl hp (i := i + 2) l2).1, px_o (cdA hl hp l1).2, wx_b_id]
            · obtain ⟨h1, h2, h3, h4⟩ := h0
              obtain ⟨v1, v2, -⟩ := h3.2.2.2.1 h112
              rw [← hcd, h112] at h2
              unfold f_X6_whyNotDone f_X6_does f_X6_does_134
              rw [h2, if_neg (show ¬ (112 : Int32) = 102 by decide), if_neg (show ¬ (112 : Int32) = 109 by decide), if_neg (show ¬ (112 : Int32) = 115 by decide), if_neg (show ¬ (112 : Int32) = 116 by decide), if_neg (show ¬ (112 : Int32) = 119 by decide), if_neg (show ¬ (112 : Int32) = 102 by decide), if_neg (show ¬ (112 : Int32) = 109 by decide), if_neg (show ¬ (112 : Int32) = 115 by decide), if_neg (show ¬ (112 : Int32) = 116 by decide), if_neg (show ¬ (112 : Int32) = 119 by decide), v1, v2, wx_o_id]
              exact ⟨rfl, rfl⟩
          · exfalso
            have : hdE len c i = (false, i) := by
              unfold hdE
              rw [if_neg h116, if_neg h102, if_neg h115, if_neg h109, if_neg h119, if_neg h112]
            rw [hoh, this] at ho
            cases ho
def netV (len : Nat) (c : Nat → Int32) (i : Nat) : Int32 := if cd len c i = 102 then c (i + 2) - 48 else if cd len c i = 115 then c (i + 4) - 48 else if cd len c i = 119 then (if (numE len c (i + 1)).2 = i + 3 then 10 * (c (i + 1) - 48) + c (i + 2) - 48 else c (i + 1) - 48) else if cd len c i = 112 then c (i + 2) - 48 else c (i + 1) - 48
theorem vals_net {i : Nat} {τ : wx_St} (hv : vals len c i τ) (hh : (hdE len c i).1 = true) : τ.2.2.1 16 24 = netV len c i := by
  obtain ⟨v1, v2, v3, v4, v5⟩ := hv
  unfold netV
  by_cases h102 : cd len c i = 102
  · rw [if_pos h102]
    exact (v1 h102).2
  · rw [if_neg h102]
    by_cases h115 : cd len c i = 115
    · rw [if_pos h115]
      exact (v3 h115).2.2
    · rw [if_neg h115]
      by_cases h119 : cd len c i = 119
      · rw [if_pos h119]
        exact v5 h119
      · rw [if_neg h119]
        by_cases h112 : cd len c i = 112
        · rw [if_pos h112]
          exact (v4 h112).2.2
        · rw [if_neg h112]
          by_cases h116 : cd len c i = 116
          · exact v2 (Or.inl h116)
          · by_cases h109 : cd len c i = 109
            · exact v2 (Or.inr h109)
            · exfalso
              unfold hdE at hh
              rw [if_neg h116, if_neg h102, if_neg h115, if_neg h109, if_neg h119, if_neg h112] at hh
              cases hh
theorem out_loop (hl : len ≤ 80) : ∀ (n i m m' k d : Nat) (b : Bd), i < len → fltE len c n i = -6 → n + 1 < m → n + 1 < m' → k + n ≤ 79 → good b → d ≤ i → Both len c (fun ν => ν.2.2.1 16 20 = nI i) (fun σ => f_X5_carriedOut_6 m (nI d) (nI i) (nI k) σ) (fun ν => f_X6_carryOut_25 m' (nI d) 1 ν) b := by
  intro n
  induction n with
  | zero =>
    intro i m m' k d b hi hf
    have hf : (0 : Int32) = -6 := hf
    exact absurd hf (by decide)
  | succ n ih =>
    intro i m m' k d b hi hf hm hm' hk gb hd
    obtain ⟨m, rfl⟩ : ∃ k, m = k + 1 := ⟨m - 1, by omega⟩
    obtain ⟨m', rfl⟩ : ∃ k, m' = k + 1 := ⟨m' - 1, by omega⟩
    have hlt := ord_lt (c := c) (Nat.le_of_lt hi)
    unfold fltE at hf
    cases ho : (ordE len c i).1 with
    | false =>
      rw [ho, if_neg (show ¬ false = true by decide)] at hf
      have : ∀ x, x < 256 → ¬ nI x = -6 := by decide +kernel
      exact absurd hf (this _ (by omega))
    | true =>
      rw [ho, if_pos (show true = true from rfl)] at hf
      obtain ⟨o1, o2⟩ := ord_ok ho
      have hen : enc (ordE len c i) = nI (ordE len c i).2 := by
        unfold enc
        rw [ho, if_pos rfl]
      have hhd := hd_ok ho
      -- behind the order
      have next : ∀ b1 d1, good b1 → d1 ≤ (ordE len c i).2 + 1 → Both len c (fun ν => ν.2.2.1 16 20 = nI (ordE len c i).2) (fun σ => f_X5_carriedOut_6 m (nI d1) (nI ((ordE len c i).2 + 1)) (nI (k + 1)) σ) (fun τ => wx_b (f_X6_isNext 59 τ) (fun _ σ => f_X6_carryOut_25 m' (nI d1) 1 σ)) b1 := by
        intro b1 d1 g1 hd1
        by_cases hle : len ≤ (ordE len c i).2
        · have hE : (ordE len c i).2 = len := by omega
          obtain ⟨m, rfl⟩ : ∃ k, m = k + 1 := ⟨m - 1, by omega⟩
          obtain ⟨m', rfl⟩ : ∃ k, m' = k + 1 := ⟨m' - 1, by omega⟩
          rw [hE]
          exact rest_end hl g1 (by omega) (by omega)
        · rw [if_neg hle] at hf
          cases hK : isK len c 59 (ordE len c i).2 with
          | false =>
            rw [hK, if_neg (show ¬ false = true by decide)] at hf
            have : ∀ x, x < 256 → ¬ nI x = -6 := by decide +kernel
            exact absurd hf (this _ (by omega))
          | true =>
            rw [hK, if_pos (show true = true from rfl)] at hf
            refine rest_next hl (by omega) hK (ih ((ordE len c i).2 + 1) m m' (k + 1) d1 b1 ?_ hf (by omega) (by omega) (by omega) g1 hd1)
            apply Classical.byContradiction
            intro hge
            obtain ⟨n, rfl⟩ : ∃ k, n = k + 1 := by
              cases n with
              | zero =>
                have hf : (0 : Int32) = -6 := hf
                exact absurd hf (by decide)
              | succ n => exact ⟨n, rfl⟩
            have hiE : (ordE len c i).2 + 1 = len := by omega
            rw [hiE] at hf
            have hoL : ordE len c len = (false, len) := by
              unfold ordE cd
              rw [if_neg (Nat.lt_irrefl len)]
              rfl
            unfold fltE at hf
            rw [hoL, if_neg (show ¬ (false, len).1 = true from (by decide : ¬ false = true))] at hf
            have : ∀ x, x < 256 → ¬ nI x = -6 := by decide +kernel
            exact absurd hf (this len (by omega))
      -- the class's order
      have c5 : ∀ σ, padI len c σ → ∀ w : Int32, f_X2_ordersIn (nI i) (nI (ordE len c i).2) σ = some w → f_X5_carriedOut_6 (m + 1) (nI d) (nI i) (nI k) σ = f_X5_carriedOut_48 (f_X5_carriedOut_6 m) 2000 (nI d) (nI i) (nI k) (nI (ordE len c i).2) w 0 σ := by
        intro σ hp w hw
        rw [f_X5_carriedOut_6, if_neg (show ¬ (80 : Int32) ≤ nI k from nI_ge (a := k) (b := 80) (by omega) (by decide)), hp.1, if_neg (nI_ge hi (by omega)), px_o (order5 hp hl (Nat.le_of_lt hi)), hen, px_o hw]
      obtain ⟨hhi, hci⟩ : i < len ∧ cd len c i = c i := ⟨hi, if_pos hi⟩
      by_cases h116 : cd len c i = 116
      · obtain ⟨hd1, W, w1, w2, w3, w4⟩ := t_shape hl h116 ho
        rw [w2] at next
        have hc116 : c i = 116 := by rw [← hci]; exact h116
        have hi1 := isD_lt hd1
        obtain ⟨m', rfl⟩ : ∃ k, m' = k + 1 := ⟨m' - 1, by omega⟩
        have L := t_loop hl (i := i) (e := i + 2 + 2 * W) (W := W) (k := k) (m2 := m) (m3 := m') h116 hd1 rfl (by omega) w3 w4 (fun b1 d1 g1 hd1 => next b1 d1 g1 (by omega)) W 0 2000 2000 d b (by omega) w1 (by omega) (by omega) gb (by omega)
        refine (L.tx (F6 := fun ν => f_X6_carryOut_25 (m' + 1 + 1) (nI d) 1 ν) (P := fun ν => ν.2.2.1 16 20 = nI i) (fun ν hp h0 => ?_)).mono (fun σ hp => ?_) (fun ν _ h0 => ⟨h0, rfl⟩)
        · obtain ⟨τ, t1, t2, t3, t4, t5⟩ := order6 hp hl (Nat.le_of_lt hi) h0
          have v := (t5 hhd).2.1 (Or.inl h116)
          rw [if_pos hi, hc116] at t4
          have hh : (hdE len c i).2 = i + 2 := by
            rw [hd_t h116, hd1]
            rfl
          rw [hh] at t3
          refine ⟨τ, ?_, t2, t3, t4⟩
          show f_X6_carryOut_25 (m' + 1 + 1) (nI d) 1 ν = _
          rw [f_X6_carryOut_25, if_neg (show ¬ (1 : Int32) = 0 by decide), hp.1, h0, if_neg (nI_ge hi (by omega)), px_b t1, t4, if_pos (show (116 : Int32) = 116 from rfl), v]
          rfl
        · show f_X5_carriedOut_6 (m + 1) (nI d) (nI i) (nI k) σ = _
          rw [c5 σ hp (nI W) ?_, w2]
          · rfl
          · unfold f_X2_ordersIn f_X2_ordersIn_21
            have e2 : nI (i + 2 + 2 * W) - nI i = nI (2 + 2 * W) := by
              rw [nI_sub (by omega), show i + 2 + 2 * W - i = 2 + 2 * W by omega]
            have e3 : nI (2 + 2 * W) - 2 = nI (2 * W) := by
              have := nI_sub (m := 2 + 2 * W) (k := 2) (by omega)
              rw [show 2 + 2 * W - 2 = 2 * W by omega] at this
              exact this
            rw [px_o (codeAt5 hp hl (by omega)), h116, if_pos (show (116 : Int32) = 116 from rfl), w2, e2, e3, half _ (by omega), show 2 * W / 2 = W by omega]
      · obtain ⟨m', rfl⟩ : ∃ k, m' = k + 1 := ⟨m' - 1, by omega⟩
        -- the reference reads the order, then does it
        have main := nt_ord hl (K66 := f_X6_carryOut_66 (f_X6_carryOut_25 (m' + 1)) 1999) (Fc := fun τ => f_X5_carriedOut_6 m (nI (d + 1)) (nI ((ordE len c i).2 + 1)) (nI (k + 1)) τ) hi ho h116 (by omega) gb (netV len c i) (fun b1 g1 => next b1 (d + 1) g1 (by omega))
        refine (main.tx (F6 := fun ν => f_X6_carryOut_25 (m' + 1 + 1) (nI d) 1 ν) (P := fun ν => ν.2.2.1 16 20 = nI i) (fun ν hp h0 => ?_)).mono (fun σ hp => ?_) (fun ν _ h0 => ⟨h0, rfl⟩)
        · obtain ⟨τ, t1, t2, t3, t4, t5⟩ := order6 hp hl (Nat.le_of_lt hi) h0
          have v := vals_net (t5 hhd) hhd
          rw [if_pos hi] at t4
          rw [← ord_hd h116] at t3
          refine ⟨τ, ?_, t2, t3, t4, t5 hhd, v⟩
          show f_X6_carryOut_25 (m' + 1 + 1) (nI d) 1 ν = _
          have hL : ¬ τ.2.2.1 16 21 = 116 := by
            rw [t4, ← hci]
            exact h116
          rw [f_X6_carryOut_25, if_neg (show ¬ (1 : Int32) = 0 by decide), hp.1, h0, if_neg (nI_ge hi (by omega)), px_b t1, if_neg hL, v]
          unfold f_X6_carryOut_64
          rw [f_X6_carryOut_66, if_pos (show (0 : Int32) = 0 from rfl)]
        · show f_X5_carriedOut_6 (m + 1) (nI d) (nI i) (nI k) σ = _
          rw [c5 σ hp 1 ?_, f_X5_carriedOut_48, if_neg (show ¬ (1 : Int32) ≤ 0 by decide)]
          · refine px_bc (fun v τ => ?_)
            by_cases hv : 0 ≤ v
            · rw [if_pos hv, if_pos hv, f_X5_carriedOut_48, if_pos (show (1 : Int32) ≤ 0 + 1 by decide), nI_1, nI_1, nI_1]
            · rw [if_neg hv, if_neg hv]
          · unfold f_X2_ordersIn f_X2_ordersIn_21
            rw [px_o (codeAt5 hp hl (by omega)), if_neg h116]
end cry3
