/-! the reference's record; changes, on both sides -/
theorem invR.hist {b b' : Bd} {n n' : Nat} {h h' : Nat → Bd} {v sl len c} {σ τ : wx_St} (i : invR b n h v sl len c σ) (hb : rfI 0 0 b' τ) (hw : wm6 1 0 b' τ) (e4 : τ.2.2.1 16 4 = nI n') (hh : ∀ j, j < n' → rfI 2 (109 * j) (h' j) τ ∧ wm6 3 (64 * j) (h' j) τ) (e1 : ∀ k, k = 5 ∨ k = 7 ∨ k = 8 → τ.1 16 k = σ.1 16 k) (e2 : τ.2.1 16 6 = σ.2.1 16 6) (e9 : τ.2.2.1 16 9 = σ.2.2.1 16 9) : invR b' n' h' v sl len c τ := by
  obtain ⟨-, -, i5, i6, i7⟩ := i
  refine ⟨⟨hb, hw⟩, ⟨e4, hh⟩, fun s hs => ?_, e9.trans i6, fun j hj => ?_⟩
  · rw [e1 7 (by decide)]
    exact ⟨(i5 s hs).1, fun hv => ⟨((i5 s hs).2 hv).1.agr (e1 5 (by decide)), ((i5 s hs).2 hv).2.agr e2⟩⟩
  · rw [e1 8 (by decide)]
    exact i7 j hj
theorem wm6.moved {σ τ : wx_St} {k0 k2 a c : Nat} {b : Bd} (h : wm6 k0 a b σ) (ht : ∀ p, p < 64 → τ.2.1 16 k2 (c + p) = σ.2.1 16 k0 (a + p)) : wm6 k2 c b τ := fun p hp => (ht p hp).trans (h p hp)
theorem rcd_I (σ : wx_St) (n x y i : Nat) : (rcd σ n).1 x y i = if x = 16 ∧ y = 2 ∧ 109 * n ≤ i ∧ i < 109 * n + 109 then σ.1 16 0 (0 + (i - 109 * n)) else σ.1 x y i := rfl
theorem rcd_F (σ : wx_St) (n x y i : Nat) : (rcd σ n).2.1 x y i = if x = 16 ∧ y = 3 ∧ 64 * n ≤ i ∧ i < 64 * n + 64 then σ.2.1 16 1 (0 + (i - 64 * n)) else σ.2.1 x y i := rfl
theorem rcd_S (σ : wx_St) (n x y : Nat) : (rcd σ n).2.2.1 x y = if x = 16 ∧ y = 4 then nI (n + 1) else σ.2.2.1 x y := rfl
theorem rcd_ok {b n h v sl len c} {σ : wx_St} (gb : good b) (gh : ∀ j, j < n → good (h j)) (i : invR b n h v sl len c σ) : invR b (n + 1) (fun j => if j = n then b else h j) v sl len c (rcd σ n) ∧ eqx 16 σ (rcd σ n) := by
  have i0 := i
  obtain ⟨⟨i1, i2⟩, ⟨i3, i4⟩, -⟩ := i
  refine ⟨i0.hist (i1.agr ?_) (i2.agr ?_) ?_ (fun j hj => ?_) (fun k hk => ?_) ?_ ?_, ⟨fun x hx => ⟨?_, ?_, ?_⟩, rfl⟩⟩
  · funext i
    rw [rcd_I, if_neg (by omega)]
  · funext i
    rw [rcd_F, if_neg (by omega)]
  · rw [rcd_S, if_pos ⟨rfl, rfl⟩]
  · show rfI 2 (109 * j) (if j = n then b else h j) _ ∧ wm6 3 (64 * j) (if j = n then b else h j) _
    by_cases he : j = n
    · subst he
      rw [if_pos rfl]
      refine ⟨rfI.moved gb i1 (fun i hi => ?_), wm6.moved i2 (fun p hp => ?_)⟩
      · rw [rcd_I, if_pos ⟨rfl, rfl, by omega, by omega⟩, show 109 * j + i - 109 * j = i by omega]
      · rw [rcd_F, if_pos ⟨rfl, rfl, by omega, by omega⟩, show 64 * j + p - 64 * j = p by omega]
    · rw [if_neg he]
      refine ⟨rfI.moved (gh j (by omega)) (i4 j (by omega)).1 (fun i hi => ?_), wm6.moved (i4 j (by omega)).2 (fun p hp => ?_)⟩
      · rw [rcd_I, if_neg (by omega)]
      · rw [rcd_F, if_neg (by omega)]
  · funext i
    rw [rcd_I, if_neg (by omega)]
  · funext i
    rw [rcd_F, if_neg (by omega)]
  · rw [rcd_S, if_neg (by omega)]
  · funext y i
    rw [rcd_I, if_neg (fun hh => hx hh.1)]
  · funext y i
    rw [rcd_F, if_neg (fun hh => hx hh.1)]
  · funext y
    rw [rcd_S, if_neg (fun hh => hx hh.1)]
theorem gA.push {b b' n h v sl len c} (G : gA b n h v sl len c) (g' : good b') : gA b' (pushN n) (pushH n h b) v sl len c := by
  obtain ⟨gb, gn, gh, gs, gl, gc⟩ := G
  obtain ⟨p1, p2⟩ := push_good gn gb gh
  exact ⟨g', p1, p2, gs, gl, gc⟩
/-- the class's call changes the board from b to b', with the answer r -/
def IC (b : Bd) (σ : wx_St) : Prop := ∃ n h v sl len c, gA b n h v sl len c ∧ invC b n h v sl len c σ
def Ch {α : Type} (f : wx_St → Option (α × wx_St)) (b : Bd) (r : α) (b' : Bd) : Prop := ∀ σ, IC b σ → ∃ τ, f σ = some (r, τ) ∧ IC b' τ ∧ eqC σ τ
def Rd {α : Type} (f : wx_St → Option α) (b : Bd) (r : α) : Prop := ∀ σ, IC b σ → f σ = some r
theorem IC.good {b : Bd} {σ : wx_St} (h : IC b σ) : good b := by
  obtain ⟨n, hh, v, sl, len, c, G, -⟩ := h
  exact G.1
theorem chg5n {f g5 : wx_St → Option (Int32 × wx_St)} (hf : ∀ σ, f σ = wx_b (f_X3_prepare 7 σ) (fun _ σ8 => wx_b (g5 σ8) (fun w τ => wx_b (f_X3_kept w τ) (fun w ρ => some (w, ρ))))) {b : Bd} {e : Int32} (e1 : ¬ 0 ≤ e) (H : Cs g5 b e b) : Ch f b e b := by
  rintro σ ⟨n, h, v, sl, len, c, G, iC⟩
  have hn := G.2.1
  obtain ⟨σ8, p1, p2, p3, p4⟩ := prepare_ok G iC
  rw [hf, px_b p1]
  obtain ⟨τ, t1, t2, t3, t4⟩ := H σ8 p2.1.1 p2.1.2
  rw [px_b t1, kept_neg e1]
  exact ⟨τ, rfl, ⟨n, h, v, sl, len, c, G, p2.board hn t4 t2 t3⟩, p4.tr (t4.eqC (by decide))⟩
theorem chg5 {f g5 : wx_St → Option (Int32 × wx_St)} (hf : ∀ σ, f σ = wx_b (f_X3_prepare 7 σ) (fun _ σ8 => wx_b (g5 σ8) (fun w τ => wx_b (f_X3_kept w τ) (fun w ρ => some (w, ρ))))) {b b' : Bd} {r : Int32} (r1 : 0 ≤ r) (r2 : good b') (H : Cs g5 b r b') : Ch f b r b' := by
  rintro σ ⟨n, h, v, sl, len, c, G, iC⟩
  have hn := G.2.1
  obtain ⟨σ8, p1, p2, p3, p4⟩ := prepare_ok G iC
  rw [hf, px_b p1]
  obtain ⟨τ, t1, t2, t3, t4⟩ := H σ8 p2.1.1 p2.1.2
  have hρ := p2.2.1.2.1 n (by omega)
  obtain ⟨ρ, k1, k2, k3⟩ := kept_ok hn r1 (p2.board hn t4 t2 t3) (p3.board hρ t4)
  rw [px_b t1, px_b k1]
  exact ⟨ρ, rfl, ⟨pushN n, pushH n h b, v, sl, len, c, G.push r2, k2⟩, (p4.tr (t4.eqC (by decide))).tr k3⟩
theorem px_bs {α β : Type} (a : α) (s : wx_St) (F : α → wx_St → Option β) : wx_b (some (a, s)) F = F a s := rfl
theorem px_bc {α β : Type} {m : Option (α × wx_St)} {F G : α → wx_St → Option β} (h : ∀ a s, F a s = G a s) : wx_b m F = wx_b m G := by
  have e : F = G := by
    funext a s
    exact h a s
  rw [e]
