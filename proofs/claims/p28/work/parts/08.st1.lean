/-! THE CLASS'S STEP is sp_step -/
theorem px_rF {α : Type} {σ : wx_St} {o k n j : Nat} {F : UInt32 → Option α} (h : j < n) (hn : n < 2 ^ 31) : wx_rF σ o k n (nI j) F = F (σ.2.1 o k j) := by
  unfold wx_rF
  rw [if_pos (wx_in_nI h hn), nI_clamp (by omega)]
theorem px_rI {α : Type} {σ : wx_St} {o k n j : Nat} {F : Int32 → Option α} (h : j < n) (hn : n < 2 ^ 31) : wx_rI σ o k n (nI j) F = F (σ.1 o k j) := by
  unfold wx_rI
  rw [if_pos (wx_in_nI h hn), nI_clamp (by omega)]
theorem px_w {α : Type} {τ : wx_St} {n j : Nat} {F : wx_St → Option α} (h : j < n) (hn : n < 2 ^ 31) : wx_w τ n (nI j) F = F τ := by
  unfold wx_w
  rw [if_pos (wx_in_nI h hn)]
theorem px_f {α : Type} {x : UInt32} {F : UInt32 → Option α} (h : wx_nn x = true) : wx_f x F = F x := by
  unfold wx_f
  rw [if_pos h]
theorem px_o {α β : Type} {m : Option α} {a : α} {F : α → Option β} (h : m = some a) : wx_o m F = F a := by rw [h]; rfl
theorem px_b {α β : Type} {m : Option (α × wx_St)} {a : α} {τ : wx_St} {F : α → wx_St → Option β} (h : m = some (a, τ)) : wx_b m F = F a τ := by rw [h]; rfl
theorem nI_sub {m k : Nat} (h : k ≤ m) : nI m - nI k = nI (m - k) := by
  have e : nI m = nI (m - k) + nI k := by rw [nI_add, show m - k + k = m by omega]
  rw [e, Int32.add_sub_cancel]
theorem p64_c : ∀ P, P < 64 → (nI P < 8 ↔ P < 8) ∧ (56 ≤ nI P ↔ ¬ P < 56) ∧ ((nI P - nI P / 8 * 8) ≤ 0 ↔ ¬ 0 < P % 8) ∧ (7 ≤ (nI P - nI P / 8 * 8) ↔ ¬ P % 8 < 7) ∧ ¬ 64 ≤ nI P := by decide +kernel
def wx_uF (σ : wx_St) (o k b P : Nat) (g : Nat → UInt32) : wx_St := (σ.1, fun x y i => if x = o ∧ y = k ∧ b ≤ i ∧ i < b + P then g (i - b) else σ.2.1 x y i, σ.2.2.1, σ.2.2.2.1, σ.2.2.2.2)
theorem wx_uF_0 {σ : wx_St} {o k b : Nat} {g : Nat → UInt32} : wx_uF σ o k b 0 g = σ := by
  unfold wx_uF
  have : (fun x y i => if x = o ∧ y = k ∧ b ≤ i ∧ i < b + 0 then g (i - b) else σ.2.1 x y i) = σ.2.1 := by
    funext x y i
    rw [if_neg (by omega)]
  rw [this]
theorem wx_uF_s {σ : wx_St} {o k b P : Nat} {g : Nat → UInt32} : wx_sF (wx_uF σ o k b P g) o k (b + P) (g P) = wx_uF σ o k b (P + 1) g := by
  unfold wx_sF wx_uF
  have : (fun x y i => if x = o ∧ y = k ∧ i = b + P then g P else if x = o ∧ y = k ∧ b ≤ i ∧ i < b + P then g (i - b) else σ.2.1 x y i) = (fun x y i => if x = o ∧ y = k ∧ b ≤ i ∧ i < b + (P + 1) then g (i - b) else σ.2.1 x y i) := by
    funext x y i
    by_cases h : x = o ∧ y = k ∧ i = b + P
    · obtain ⟨rfl, rfl, rfl⟩ := h
      rw [if_pos ⟨rfl, rfl, rfl⟩, if_pos ⟨rfl, rfl, by omega, by omega⟩]
      congr 1
      omega
    · rw [if_neg h]
      by_cases h2 : x = o ∧ y = k ∧ b ≤ i ∧ i < b + P
      · rw [if_pos h2, if_pos ⟨h2.1, h2.2.1, h2.2.2.1, by omega⟩]
      · rw [if_neg h2, if_neg (fun h3 => by
          by_cases h4 : i = b + P
          · exact h ⟨h3.1, h3.2.1, h4⟩
          · exact h2 ⟨h3.1, h3.2.1, h3.2.2.1, by omega⟩)]
  show (σ.1, _, σ.2.2.1, σ.2.2.2.1, σ.2.2.2.2) = _
  rw [← this]
theorem sp_t_app {f : Nat → UInt32} {p : Nat} {sp : UInt32} : ∀ (l1 l2 : List Nat) (t : UInt32), sp_t f p sp t (l1 ++ l2) = sp_t f p sp (sp_t f p sp t l1) l2
  | [], _, _ => rfl
  | n :: l1, l2, t => sp_t_app l1 l2 _
theorem sp_tok_app {f : Nat → UInt32} {p : Nat} {sp : UInt32} : ∀ (l1 l2 : List Nat) (t : UInt32), sp_tok f p sp t (l1 ++ l2) → sp_tok f p sp t l1 ∧ sp_tok f p sp (sp_t f p sp t l1) l2
  | [], _, _, h => ⟨trivial, h⟩
  | n :: l1, l2, t, h => ⟨⟨h.1, (sp_tok_app l1 l2 _ h.2).1⟩, (sp_tok_app l1 l2 _ h.2).2⟩
section stepclass
variable {o0 k0 n0 o2 k2 n2 o6 k6 a b P : Nat} {K27 : Int32 → Int32 → Int64 → UInt32 → UInt32 → UInt32 → Int32 → wx_St → Option (Unit × wx_St)} {x4 : Int64} {sp le pw : UInt32} {t : UInt32} {σ : wx_St} {f0 : Nat → UInt32} {h : Nat → Bool}
theorem st_167 (hP : P < 64) (hb : b + 64 ≤ n2) (hn2 : n2 < 2 ^ 31) (hH : f_X5_isIn x4 (nI P) = some (if h P = true then 1 else 0)) (c1 : wx_nn (FP.fadd (f0 P) t) = true) (c2 : wx_nn (FP.fmul (FP.fadd (f0 P) t) le) = true) (c3 : wx_nn (FP.fdiv (FP.fmul (FP.fadd (f0 P) t) le) 1120403456) = true) (c4 : h P = true → wx_nn (FP.fadd (FP.fdiv (FP.fmul (FP.fadd (f0 P) t) le) 1120403456) pw) = true) :
    f_X5_step_167 o0 k0 n0 o2 k2 n2 o6 k6 K27 (nI a) (nI b) x4 sp le pw (nI P) (nI (a + P)) (f0 P) t σ = K27 (nI a) (nI b) x4 sp le pw (nI (P + 1)) (wx_sF σ o2 k2 (b + P) (if h P = true then FP.fadd (FP.fdiv (FP.fmul (FP.fadd (f0 P) t) le) 1120403456) pw else FP.fdiv (FP.fmul (FP.fadd (f0 P) t) le) 1120403456)) := by
  unfold f_X5_step_167
  rw [px_f c1, px_f c2, px_f c3, px_o hH]
  by_cases hh : h P = true
  · rw [if_pos hh, if_pos hh, if_neg (by decide), px_f (c4 hh)]
    unfold f_X5_step_206
    rw [nI_add, px_w (by omega) hn2, nI_clamp (by omega), nI_1]
  · rw [if_neg hh, if_neg hh, if_pos rfl]
    unfold f_X5_step_206
    rw [nI_add, px_w (by omega) hn2, nI_clamp (by omega), nI_1]
theorem st_136 (hP : P < 64) (ha : a + 64 ≤ n0) (hn0 : n0 < 2 ^ 31) (hf : ∀ n, n < 64 → σ.2.1 o0 k0 (a + n) = f0 n) (hok : sp_tok f0 P sp t (if P % 8 < 7 then [P + 1] else [])) :
    f_X5_step_136 o0 k0 n0 o2 k2 n2 o6 k6 K27 (nI a) (nI b) x4 sp le pw (nI P) (nI (a + P)) (f0 P) t σ = f_X5_step_167 o0 k0 n0 o2 k2 n2 o6 k6 K27 (nI a) (nI b) x4 sp le pw (nI P) (nI (a + P)) (f0 P) (sp_t f0 P sp t (if P % 8 < 7 then [P + 1] else [])) σ := by
  unfold f_X5_step_136
  by_cases hc : P % 8 < 7
  · rw [if_pos hc] at hok ⊢
    rw [if_neg (fun hx => ((p64_c P hP).2.2.2.1.mp hx) hc)]
    obtain ⟨⟨d1, d2, d3, d4⟩, -⟩ := hok
    rw [nI_1, px_rF (by omega) hn0, show a + P + 1 = a + (P + 1) by omega, hf (P + 1) (by omega), px_f d1, px_f d2]
    unfold sp_q at d3 d4
    rw [px_f d3, px_f d4]
    rfl
  · rw [if_neg hc] at hok ⊢
    rw [if_pos ((p64_c P hP).2.2.2.1.mpr hc)]
    rfl
theorem st_107 (hP : P < 64) (ha : a + 64 ≤ n0) (hn0 : n0 < 2 ^ 31) (hf : ∀ n, n < 64 → σ.2.1 o0 k0 (a + n) = f0 n) (hok : sp_tok f0 P sp t (if 0 < P % 8 then [P - 1] else [])) :
    f_X5_step_107 o0 k0 n0 o2 k2 n2 o6 k6 K27 (nI a) (nI b) x4 sp le pw (nI P) (nI (a + P)) (f0 P) t σ = f_X5_step_136 o0 k0 n0 o2 k2 n2 o6 k6 K27 (nI a) (nI b) x4 sp le pw (nI P) (nI (a + P)) (f0 P) (sp_t f0 P sp t (if 0 < P % 8 then [P - 1] else [])) σ := by
  unfold f_X5_step_107
  by_cases hc : 0 < P % 8
  · rw [if_pos hc] at hok ⊢
    rw [if_neg (fun hx => ((p64_c P hP).2.2.1.mp hx) hc)]
    obtain ⟨⟨d1, d2, d3, d4⟩, -⟩ := hok
    have e1 : nI (a + P) - 1 = nI (a + (P - 1)) := by
      have := nI_sub (m := a + P) (k := 1) (by omega)
      rw [show a + P - 1 = a + (P - 1) by omega] at this
      exact this
    rw [e1, px_rF (by omega) hn0, hf (P - 1) (by omega), px_f d1, px_f d2]
    unfold sp_q at d3 d4
    rw [px_f d3, px_f d4]
    rfl
  · rw [if_neg hc] at hok ⊢
    rw [if_pos ((p64_c P hP).2.2.1.mpr hc)]
    rfl
theorem st_78 (hP : P < 64) (ha : a + 64 ≤ n0) (hn0 : n0 < 2 ^ 31) (hf : ∀ n, n < 64 → σ.2.1 o0 k0 (a + n) = f0 n) (hok : sp_tok f0 P sp t (if P < 56 then [P + 8] else [])) :
    f_X5_step_78 o0 k0 n0 o2 k2 n2 o6 k6 K27 (nI a) (nI b) x4 sp le pw (nI P) (nI (a + P)) (f0 P) t σ = f_X5_step_107 o0 k0 n0 o2 k2 n2 o6 k6 K27 (nI a) (nI b) x4 sp le pw (nI P) (nI (a + P)) (f0 P) (sp_t f0 P sp t (if P < 56 then [P + 8] else [])) σ := by
  unfold f_X5_step_78
  by_cases hc : P < 56
  · rw [if_pos hc] at hok ⊢
    rw [if_neg (fun hx => ((p64_c P hP).2.1.mp hx) hc)]
    obtain ⟨⟨d1, d2, d3, d4⟩, -⟩ := hok
    have e1 : nI (a + P) + 8 = nI (a + (P + 8)) := by
      have := nI_add (a + P) 8
      rw [show a + P + 8 = a + (P + 8) by omega] at this
      exact this
    rw [e1, px_rF (by omega) hn0, hf (P + 8) (by omega), px_f d1, px_f d2]
    unfold sp_q at d3 d4
    rw [px_f d3, px_f d4]
    rfl
  · rw [if_neg hc] at hok ⊢
    rw [if_pos ((p64_c P hP).2.1.mpr hc)]
    rfl
theorem st_27 (ha : a + 64 ≤ n0) (hn0 : n0 < 2 ^ 31) (hb : b + 64 ≤ n2) (hn2 : n2 < 2 ^ 31) (hsep : ¬ (o0 = o2 ∧ k0 = k2) ∨ a + 64 ≤ b) (hf : ∀ n, n < 64 → σ.2.1 o0 k0 (a + n) = f0 n) (hH : ∀ P, P < 64 → f_X5_isIn x4 (nI P) = some (if h P = true then 1 else 0)) (hok : sp_sok f0 sp le pw h) : ∀ (m P : Nat), P ≤ 64 → 65 ≤ m + P →
    f_X5_step_27 o0 k0 n0 o2 k2 n2 o6 k6 m (nI a) (nI b) x4 sp le pw (nI P) (wx_uF σ o2 k2 b P (sp_step f0 sp le pw h)) = some ((), wx_uF σ o2 k2 b 64 (sp_step f0 sp le pw h)) := by
  intro m
  induction m with
  | zero => intro P h1 h2; omega
  | succ m ih =>
    intro P h1 h2
    unfold f_X5_step_27
    by_cases hP : P < 64
    · rw [if_neg (p64_c P hP).2.2.2.2]
      have hf' : ∀ n, n < 64 → (wx_uF σ o2 k2 b P (sp_step f0 sp le pw h)).2.1 o0 k0 (a + n) = f0 n := by
        intro n hn
        show (if o0 = o2 ∧ k0 = k2 ∧ b ≤ a + n ∧ a + n < b + P then _ else σ.2.1 o0 k0 (a + n)) = f0 n
        rw [if_neg (fun hx => by rcases hsep with hs | hs; exact hs ⟨hx.1, hx.2.1⟩; omega), hf n hn]
      rw [nI_add, px_rF (by omega) hn0, hf' P hP]
      obtain ⟨k1, k2', k3, k4, k5⟩ := hok P hP
      have hnb : sp_nb P = (if 8 ≤ P then [P - 8] else []) ++ ((if P < 56 then [P + 8] else []) ++ ((if 0 < P % 8 then [P - 1] else []) ++ (if P % 8 < 7 then [P + 1] else []))) := rfl
      have key : f_X5_step_78 o0 k0 n0 o2 k2 n2 o6 k6 (f_X5_step_27 o0 k0 n0 o2 k2 n2 o6 k6 m) (nI a) (nI b) x4 sp le pw (nI P) (nI (a + P)) (f0 P) (sp_t f0 P sp FP.fconst0 (if 8 ≤ P then [P - 8] else [])) (wx_uF σ o2 k2 b P (sp_step f0 sp le pw h)) = some ((), wx_uF σ o2 k2 b 64 (sp_step f0 sp le pw h)) := by
        unfold sp_v at k4 k5
        rw [hnb, sp_t_app, sp_t_app, sp_t_app] at k2' k3 k4 k5
        rw [hnb] at k1
        have j1 := sp_tok_app _ _ _ k1
        have j2 := sp_tok_app _ _ _ j1.2
        have j3 := sp_tok_app _ _ _ j2.2
        rw [st_78 hP ha hn0 hf' j2.1, st_107 hP ha hn0 hf' j3.1, st_136 hP ha hn0 hf' j3.2, st_167 (h := h) hP hb hn2 (hH P hP) k2' k3 k4 k5]
        have hg : (if h P = true then FP.fadd (FP.fdiv (FP.fmul (FP.fadd (f0 P) (sp_t f0 P sp (sp_t f0 P sp (sp_t f0 P sp (sp_t f0 P sp FP.fconst0 (if 8 ≤ P then [P - 8] else [])) (if P < 56 then [P + 8] else [])) (if 0 < P % 8 then [P - 1] else [])) (if P % 8 < 7 then [P + 1] else []))) le) 1120403456) pw else FP.fdiv (FP.fmul (FP.fadd (f0 P) (sp_t f0 P sp (sp_t f0 P sp (sp_t f0 P sp (sp_t f0 P sp FP.fconst0 (if 8 ≤ P then [P - 8] else [])) (if P < 56 then [P + 8] else [])) (if 0 < P % 8 then [P - 1] else [])) (if P % 8 < 7 then [P + 1] else []))) le) 1120403456) = sp_step f0 sp le pw h P := by
          unfold sp_step sp_v
          rw [hnb, sp_t_app, sp_t_app, sp_t_app]
        rw [hg, wx_uF_s]
        exact ih (P + 1) (by omega) (by omega)
      by_cases hc : 8 ≤ P
      · rw [if_neg (fun hx => by have := (p64_c P hP).1.mp hx; omega)]
        rw [if_pos hc] at key
        rw [hnb, if_pos hc] at k1
        obtain ⟨⟨d1, d2, d3, d4⟩, -⟩ := k1
        have e1 : nI (a + P) - 8 = nI (a + (P - 8)) := by
          have := nI_sub (m := a + P) (k := 8) (by omega)
          rw [show a + P - 8 = a + (P - 8) by omega] at this
          exact this
        rw [e1, px_rF (by omega) hn0, hf' (P - 8) (by omega), px_f d1, px_f d2]
        unfold sp_q at d3 d4
        rw [px_f d3, px_f d4]
        exact key
      · rw [if_pos ((p64_c P hP).1.mpr (by omega))]
        rw [if_neg hc] at key
        exact key
    · have : P = 64 := by omega
      subst this
      rw [if_pos (by decide)]
end stepclass
theorem st_step {o0 k0 n0 o2 k2 n2 o6 k6 a b S L Pw : Nat} {x4 : Int64} {σ : wx_St} {h : Nat → Bool} (ha : a + 64 ≤ n0) (hn0 : n0 < 2 ^ 31) (hb : b + 64 ≤ n2) (hn2 : n2 < 2 ^ 31) (hsep : ¬ (o0 = o2 ∧ k0 = k2) ∨ a + 64 ≤ b) (hH : ∀ P, P < 64 → f_X5_isIn x4 (nI P) = some (if h P = true then 1 else 0))
    (hs : σ.1 o6 k6 0 = nI S) (hl : 100 - σ.1 o6 k6 1 = nI L) (hp : σ.1 o6 k6 2 = nI Pw) (hok : sp_sok (fun p => σ.2.1 o0 k0 (a + p)) (FP.i2f (nI S)) (FP.i2f (nI L)) (FP.i2f (nI Pw)) h) :
    f_X5_step o0 k0 n0 o2 k2 n2 o6 k6 (nI a) (nI b) x4 σ = some ((), wx_uF σ o2 k2 b 64 (sp_step (fun p => σ.2.1 o0 k0 (a + p)) (FP.i2f (nI S)) (FP.i2f (nI L)) (FP.i2f (nI Pw)) h)) := by
  unfold f_X5_step
  have e0 : (0 : Int32) = nI 0 := rfl
  have e1 : (1 : Int32) = nI 1 := rfl
  have e2 : (2 : Int32) = nI 2 := rfl
  rw [e1, e2]
  rw [show wx_rI σ o6 k6 4 0 = wx_rI σ o6 k6 4 (nI 0) from rfl, px_rI (by decide) (by decide), px_rI (by decide) (by decide), px_rI (by decide) (by decide), hs, hl, hp]
  have := st_27 (σ := σ) (o6 := o6) (k6 := k6) ha hn0 hb hn2 hsep (fun n _ => rfl) hH hok 2000 0 (by decide) (by decide)
  rw [wx_uF_0] at this
  exact this

