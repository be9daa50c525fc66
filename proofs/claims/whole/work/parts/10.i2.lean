/-! the reference's record; changes, on both sides -/
theorem invR.hist {b b' : Bd} {n n' : Nat} {h h' : Nat → Bd} {v sl len c} {σ τ : wx_St} (i : invR b n h v sl len c σ) (hb : rfI 0 0 b' τ) (hw : wm6 1 0 b' τ) (e4 : τ.2.2.1 16 4 = nI n') (hh : ∀ j, j < n' → rfI 2 (109 * j) (h' j) τ ∧ wm6 3 (64 * j) (h' j) τ) (e1 : ∀ k, k = 5 ∨ k = 7 ∨ k = 8 → τ.1 16 k = σ.1 16 k) (e2 : τ.2.1 16 6 = σ.2.1 16 6) (e9 : τ.2.2.1 16 9 = σ.2.2.1 16 9) : invR b' n' h' v sl len c τ := by
  obtain ⟨-, -, i5, i6, i7⟩ := i
  refine ⟨⟨hb, hw⟩, ⟨e4, hh⟩, fun s hs => ?_, e9.trans i6, fun j hj => ?_⟩
  · rw [e1 7 (by decide)]
    exact ⟨(i5 s hs).1, fun hv => ⟨((i5 s hs).2 hv).1.agr (e1 5 (by decide)), ((i5 s hs).2 hv).2.agr e2⟩⟩
  · rw [e1 8 (by decide)]
    exact i7 j hj
theorem wm6.moved {σ τ : wx_St} {k0 k2 a c : Nat} {b : Bd} (h : wm6 k0 a b σ) (ht : ∀ p, p < 64 → τ.2.1 16 k2 (c + p) = σ.2.1 16 k0 (a + p)) : wm6 k2 c b τ := fun p hp => (ht p hp).trans (h p hp)
theorem rcd_I (σ : wx_St) (n x y i : Nat) : (rcd σ n).1 x y i = if x = 16 ∧ y = 2 ∧ 109 * n ≤ i ∧ i < 109 * n + 109 then σ.1 16 0 (0 + (i - 109 * n)) else σ.1 x y i := rfl
theorem rcd_F (σ : wx_St) (n x y i : Nat) : (rcd σ n).2.1 x y i = if x = 16 ∧ y = 3 ∧ 64 * n ≤ i ∧ i < 64 * n + 64 then σ.2.1 16 1 (0 + (i - 64 * n)) else σ.2.1 x y i := rfl
theorem rcd_S (σ : wx_St) (n x y : Nat) : (rcd σ n).2.2.1 x y = if x = 16 ∧ y = 4 then nI (n + 1) else σ.2.2.1 x y := rfl
theorem rcd_ok {b n h v sl len c} {σ : wx_St} (gb : good b) (gh : ∀ j, j < n → good (h j)) (i : invR b n h v sl len c σ) : invR b (n + 1) (fun j => if j = n then b else h j) v sl len c (rcd σ n) ∧ eqx 16 σ (rcd σ n) := by
  have i0 := i
  obtain ⟨⟨i1, i2⟩, ⟨i3, i4⟩, -⟩ := i
  refine ⟨i0.hist (i1.agr ?_) (i2.agr ?_) ?_ (fun j hj => ?_) (fun k hk => ?_) ?_ ?_, ⟨fun x hx => ⟨?_, ?_, ?_⟩, rfl⟩⟩
  · funext i
    rw [rcd_I, if_neg (by omega)]
  · funext i
    rw [rcd_F, if_neg (by omega)]
  · rw [rcd_S, if_pos ⟨rfl, rfl⟩]
  · show rfI 2 (109 * j) (if j = n then b else h j) _ ∧ wm6 3 (64 * j) (if j = n then b else h j) _
    by_cases he : j = n
    · subst he
      rw [if_pos rfl]
      refine ⟨rfI.moved gb i1 (fun i hi => ?_), wm6.moved i2 (fun p hp => ?_)⟩
      · rw [rcd_I, if_pos ⟨rfl, rfl, by omega, by omega⟩, show 109 * j + i - 109 * j = i by omega]
      · rw [rcd_F, if_pos ⟨rfl, rfl, by omega, by omega⟩, show 64 * j + p - 64 * j = p by omega]
    · rw [if_neg he]
      refine ⟨rfI.moved (gh j (by omega)) (i4 j (by omega)).1 (fun i hi => ?_), wm6.moved (i4 j (by omega)).2 (fun p hp => ?_)⟩
      · rw [rcd_I, if_neg (by omega)]
      · rw [rcd_F, if_neg (by omega)]
  · funext i
    rw [rcd_I, if_neg (by omega)]
  · funext i
    rw [rcd_F, if_neg (by omega)]
  · rw [rcd_S, if_neg (by omega)]
  · funext y i
    rw [rcd_I, if_neg (fun hh => hx hh.1)]
  · funext y i
    rw [rcd_F, if_neg (fun hh => hx hh.1)]
  · funext y
    rw [rcd_S, if_neg (fun hh => hx hh.1)]
theorem record_ok {b n h v sl len c} {σ : wx_St} (G : gA b n h v sl len c) (i : invR b n h v sl len c σ) : ∃ τ, f_X6_record σ = some ((), τ) ∧ invR b (pushN n) (pushH n h b) v sl len c τ ∧ eqx 16 σ τ := by
  obtain ⟨gb, gn, gh, -⟩ := G
  by_cases h6 : n < 6
  · rw [record_lt i.2.1.1 h6]
    obtain ⟨k1, k2⟩ := rcd_ok gb gh i
    unfold pushN pushH
    rw [if_pos h6, if_pos h6]
    exact ⟨_, rfl, k1, k2⟩
  · have h6' : n = 6 := by omega
    subst h6'
    rw [record_6 i.2.1.1]
    have hI : ∀ x y k, (wx_sS (shF (shI σ)) 16 4 (nI 5)).1 x y k = if x = 16 ∧ y = 2 ∧ 0 ≤ k ∧ k < 0 + 545 then σ.1 16 2 (k - 0 + 109) else σ.1 x y k := fun _ _ _ => rfl
    have hF : ∀ x y k, (wx_sS (shF (shI σ)) 16 4 (nI 5)).2.1 x y k = if x = 16 ∧ y = 3 ∧ 0 ≤ k ∧ k < 0 + 320 then σ.2.1 16 3 (k - 0 + 64) else σ.2.1 x y k := fun _ _ _ => rfl
    have hS : ∀ x y, (wx_sS (shF (shI σ)) 16 4 (nI 5)).2.2.1 x y = if x = 16 ∧ y = 4 then nI 5 else σ.2.2.1 x y := fun _ _ => rfl
    have i0 := i
    obtain ⟨⟨i1, i2⟩, ⟨i3, i4⟩, -⟩ := i
    have j5 : invR b 5 (fun j => h (j + 1)) v sl len c (wx_sS (shF (shI σ)) 16 4 (nI 5)) := by
      refine i0.hist (i1.agr ?_) (i2.agr ?_) ?_ (fun j hj => ⟨?_, ?_⟩) (fun k hk => ?_) ?_ ?_
      · funext k
        rw [hI, if_neg (by omega)]
      · funext k
        rw [hF, if_neg (by omega)]
      · rw [hS, if_pos ⟨rfl, rfl⟩]
      · refine rfI.moved (gh (j + 1) (by omega)) (i4 (j + 1) (by omega)).1 (fun k hk => ?_)
        rw [hI, if_pos ⟨rfl, rfl, by omega, by omega⟩, show 109 * j + k - 0 + 109 = 109 * (j + 1) + k by omega]
      · refine wm6.moved (i4 (j + 1) (by omega)).2 (fun k hk => ?_)
        rw [hF, if_pos ⟨rfl, rfl, by omega, by omega⟩, show 64 * j + k - 0 + 64 = 64 * (j + 1) + k by omega]
      · funext q
        rw [hI, if_neg (by omega)]
      · funext q
        rw [hF, if_neg (by omega)]
      · rw [hS, if_neg (by omega)]
    obtain ⟨k1, k2⟩ := rcd_ok gb (fun j hj => gh (j + 1) (by omega)) j5
    refine ⟨_, rfl, k1, eqx.tr (τ := wx_sS (shF (shI σ)) 16 4 (nI 5)) ⟨fun x hx => ⟨?_, ?_, ?_⟩, rfl⟩ k2⟩
    · funext y k
      rw [hI, if_neg (fun hh => hx hh.1)]
    · funext y k
      rw [hF, if_neg (fun hh => hx hh.1)]
    · funext y
      rw [hS, if_neg (fun hh => hx hh.1)]
theorem gA.push {b b' n h v sl len c} (G : gA b n h v sl len c) (g' : good b') : gA b' (pushN n) (pushH n h b) v sl len c := by
  obtain ⟨gb, gn, gh, gs, gl, gc⟩ := G
  obtain ⟨p1, p2⟩ := push_good gn gb gh
  exact ⟨g', p1, p2, gs, gl, gc⟩
/-- a change: the class's way (held, changed, kept) and the reference's (refused, or recorded and done) -/
theorem chg {f g5 g6 : wx_St → Option (Int32 × wx_St)} (hf : ∀ σ, f σ = wx_b (f_X3_prepare 7 σ) (fun _ σ8 => wx_b (g5 σ8) (fun w τ => wx_b (f_X3_kept w τ) (fun w ρ => some (w, ρ))))) (H : ∀ b, good b → Two g5 g6 b) : two f g6 := by
  refine two.of (fun b n h v sl len c σ G iC iR => ?_)
  have hn := G.2.1
  obtain ⟨σ8, p1, p2, p3, p4⟩ := prepare_ok G iC
  rw [hf, px_b p1]
  rcases H b G.1 with ⟨e, e1, e2, e3⟩ | ⟨r, b', do6, r1, r2, r3, r4, r5⟩
  · obtain ⟨τ, t1, t2, t3, t4⟩ := e2 σ8 p2.1.1 p2.1.2
    rw [px_b t1, kept_neg e1]
    exact ⟨e, τ, b, n, h, v, sl, len, c, rfl, G, p2.board hn t4 t2 t3, p4.tr (t4.eqC (by decide)), fun iR' => ⟨τ, e3 τ iR'.1.1, iR', eqx.rf 16 τ⟩⟩
  · obtain ⟨τ, t1, t2, t3, t4⟩ := r3 σ8 p2.1.1 p2.1.2
    have hρ := p2.2.1.2.1 n (by omega)
    obtain ⟨ρ, k1, k2, k3⟩ := kept_ok hn r1 (p2.board hn t4 t2 t3) (p3.board hρ t4)
    rw [px_b t1, px_b k1]
    refine ⟨r, ρ, b', pushN n, pushH n h b, v, sl, len, c, rfl, G.push r2, k2, (p4.tr (t4.eqC (by decide))).tr k3, fun iR' => ?_⟩
    obtain ⟨ν, n1, n2, n3⟩ := record_ok G iR'
    obtain ⟨μ, m1, m2, m3, m4⟩ := r5 ν n2.1.1 n2.1.2
    rw [r4 ρ iR'.1.1, px_b n1]
    exact ⟨μ, m1, n2.eq6 m2 m3 m4, n3.tr m4.1⟩
theorem i_set (a0 a1 : Int32) : two (f_X5_set a0 a1) (f_X6_set a0 a1) := chg (g5 := f_X0_change 7 a0 a1) (fun σ => rfl) (fun b g => change_two g a0 a1)
theorem i_track (a0 a1 a2 : Int32) : two (f_X5_track a0 a1 a2) (f_X6_track a0 a1 a2) := chg (g5 := f_X0_lay 7 a0 a1 a2) (fun σ => rfl) (fun b g => (lay_why g a0 a1 a2).two (fun σ => rfl))
theorem i_touch (a0 a1 a2 : Int32) : two (f_X5_touch a0 a1 a2) (f_X6_touch a0 a1 a2) := chg (g5 := f_X0_join 7 a0 a1 a2) (fun σ => rfl) (fun b g => (join_why g a0 a1 a2).two (fun σ => rfl))
theorem i_mend (a0 : Int32) : two (f_X5_mend a0) (f_X6_mend a0) := chg (g5 := f_X0_part 7 a0) (fun σ => rfl) (fun b g => mend_two g a0)
theorem i_feed (a0 a1 : Int32) : two (f_X5_feed a0 a1) (f_X6_feed a0 a1) := chg (g5 := f_X0_turnPair 7 a0 a1) (fun σ => rfl) (fun b g => (feed_why g a0 a1).two (fun σ => rfl))
theorem px_bs {α β : Type} (a : α) (s : wx_St) (F : α → wx_St → Option β) : wx_b (some (a, s)) F = F a s := rfl
theorem px_bc {α β : Type} {m : Option (α × wx_St)} {F G : α → wx_St → Option β} (h : ∀ a s, F a s = G a s) : wx_b m F = wx_b m G := by
  have e : F = G := by
    funext a s
    exact h a s
  rw [e]
theorem i_cool : two f_X5_cool f_X6_cool := chg (g5 := fun σ8 => wx_b (f_X0_beginRun 7 σ8) (fun _ σ23 => some (σ8.2.2.1 7 6, σ23))) (fun σ => by
  unfold f_X5_cool
  refine px_bc (fun _ σ8 => ?_)
  rw [beginRun_eq, px_bs, px_bs, px_bs]) (fun b g => cool_two g)
theorem i_warm (a0 : Int32) : two (f_X5_warm a0) (f_X6_warm a0) := chg (g5 := f_X0_letPass 7 a0) (fun σ => rfl) (fun b g => (warm_why g a0).two (fun σ => rfl))
theorem i_probe (a0 a1 : Int32) : two (f_X5_probe a0 a1) (f_X6_probe a0 a1) := chg (g5 := f_X0_measure 7 a0 a1) (fun σ => rfl) (fun b g => (probe_why g a0 a1).two (fun σ => rfl))
