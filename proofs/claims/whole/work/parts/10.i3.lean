/-! undo, save, restore -/
theorem uI_I (σ : wx_St) (o k b n : Nat) (g : Nat → Int32) (x y i : Nat) : (wx_uI σ o k b n g).1 x y i = if x = o ∧ y = k ∧ b ≤ i ∧ i < b + n then g (i - b) else σ.1 x y i := rfl
theorem uF_F (σ : wx_St) (o k b n : Nat) (g : Nat → UInt32) (x y i : Nat) : (wx_uF σ o k b n g).2.1 x y i = if x = o ∧ y = k ∧ b ≤ i ∧ i < b + n then g (i - b) else σ.2.1 x y i := rfl
/-- both rows moved inside the reference -/
def mv2 (σ : wx_St) (k0 a k2 c f0 d f2 e : Nat) : wx_St := wx_uF (wx_uI σ 16 k2 c 109 (fun i => σ.1 16 k0 (a + i))) 16 f2 e 64 (fun i => σ.2.1 16 f0 (d + i))
theorem mv2_I (σ : wx_St) (k0 a k2 c f0 d f2 e x y i : Nat) : (mv2 σ k0 a k2 c f0 d f2 e).1 x y i = if x = 16 ∧ y = k2 ∧ c ≤ i ∧ i < c + 109 then σ.1 16 k0 (a + (i - c)) else σ.1 x y i := rfl
theorem mv2_F (σ : wx_St) (k0 a k2 c f0 d f2 e x y i : Nat) : (mv2 σ k0 a k2 c f0 d f2 e).2.1 x y i = if x = 16 ∧ y = f2 ∧ e ≤ i ∧ i < e + 64 then σ.2.1 16 f0 (d + (i - e)) else σ.2.1 x y i := rfl
theorem mv2_ex (σ : wx_St) (k0 a k2 c f0 d f2 e : Nat) : eqx 16 σ (mv2 σ k0 a k2 c f0 d f2 e) := by
  refine ⟨fun x hx => ⟨?_, ?_, rfl⟩, rfl⟩
  · funext y i
    rw [mv2_I, if_neg (fun hh => hx hh.1)]
  · funext y i
    rw [mv2_F, if_neg (fun hh => hx hh.1)]
theorem mv2_rf {σ : wx_St} {k0 a k2 c f0 d f2 e : Nat} {b : Bd} (g : good b) (h : rfI k0 a b σ) (w : wm6 f0 d b σ) : rfI k2 c b (mv2 σ k0 a k2 c f0 d f2 e) ∧ wm6 f2 e b (mv2 σ k0 a k2 c f0 d f2 e) := by
  refine ⟨rfI.moved g h (fun i hi => ?_), wm6.moved w (fun p hp => ?_)⟩
  · rw [mv2_I, if_pos ⟨rfl, rfl, by omega, by omega⟩, show c + i - c = i by omega]
  · rw [mv2_F, if_pos ⟨rfl, rfl, by omega, by omega⟩, show e + p - e = p by omega]
theorem eq6_of {σ τ : wx_St} (h : eqx 16 σ τ) (h1 : ∀ k, k ≠ 0 → τ.1 16 k = σ.1 16 k) (h2 : ∀ k, k ≠ 1 → k ≠ 10 → k ≠ 11 → τ.2.1 16 k = σ.2.1 16 k) (h3 : τ.2.2.1 16 = σ.2.2.1 16) : eq6 σ τ := ⟨h, h1, h2, h3⟩
theorem mv2_eq6 (σ : wx_St) (k0 a f0 d : Nat) : eq6 σ (mv2 σ k0 a 0 0 f0 d 1 0) := by
  refine ⟨mv2_ex _ _ _ _ _ _ _ _ _, fun k hk => ?_, fun k h1 _ _ => ?_, rfl⟩
  · funext i
    rw [mv2_I, if_neg (fun hh => hk hh.2.1)]
  · funext i
    rw [mv2_F, if_neg (fun hh => h1 hh.2.1)]
theorem mv2_run {σ : wx_St} {k0 n0 a k2 n2 c f0 m0 d f2 m2 e : Nat} {α : Type} {F : Unit → wx_St → Option α} (h1 : a + 109 ≤ n0) (h2 : n0 < 2 ^ 31) (h3 : c + 109 ≤ n2) (h4 : n2 < 2 ^ 31) (h5 : k0 ≠ k2) (h6 : d + 64 ≤ m0) (h7 : m0 < 2 ^ 31) (h8 : e + 64 ≤ m2) (h9 : m2 < 2 ^ 31) (h10 : f0 ≠ f2) :
    wx_b (f_X6_moves 16 k0 n0 16 k2 n2 (nI a) (nI c) σ) (fun _ τ => wx_b (f_X6_movesWarmth 16 f0 m0 16 f2 m2 (nI d) (nI e) τ) F) = F () (mv2 σ k0 a k2 c f0 d f2 e) := by
  rw [px_b (mv6 h1 h2 h3 h4 (fun hh => h5 hh.2)), px_b (st6_moves h6 h7 h8 h9 (fun hh => h10 hh.2))]
  rfl
theorem i_undo : two f_X5_undo f_X6_undo := by
  refine two.of (fun b n h v sl len c σ G iC iR => ?_)
  obtain ⟨gb, gn, gh, gs, gl, gc⟩ := G
  have iC0 := iC
  obtain ⟨⟨i1, i2⟩, ⟨p1, p2, p3, p4⟩, i4, i5, S, L, P, z, i6⟩ := iC
  unfold f_X5_undo f_X3_goBack
  by_cases h0 : n = 0
  · subst h0
    rw [p1, if_pos (show nI 0 = 0 from rfl)]
    refine ⟨-5, σ, b, 0, h, v, sl, len, c, rfl, ⟨gb, gn, gh, gs, gl, gc⟩, iC0, eqC.rf σ, fun iR' => ⟨σ, ?_, iR', eqx.rf 16 σ⟩⟩
    unfold f_X6_undo
    rw [iR'.2.1.1, if_pos (show nI 0 = 0 from rfl)]
  · have e1 : nI n - 1 = nI (n - 1) := nI_sub (m := n) (k := 1) (by omega)
    rw [p1, if_neg (nI_ne0 (by omega) (by omega)), e1, px_l]
    have hS : ∀ x y, (wx_sS σ 14 1 (nI (n - 1))).2.2.1 x y = if x = 14 ∧ y = 1 then nI (n - 1) else σ.2.2.1 x y := fun _ _ => rfl
    have hρ := p2 (n - 1) (by omega)
    have e2 : (wx_sS σ 14 1 (nI (n - 1))).2.2.1 14 1 = nI (n - 1) := rfl
    rw [e2, px_rR (σ := wx_sS σ 14 1 (nI (n - 1))) (by omega) hρ]
    have a0 : ∀ x, x ≠ 14 → agr x σ (wx_sS σ 14 1 (nI (n - 1))) := fun x hx => ⟨rfl, rfl, by funext y; rw [hS, if_neg (fun hh => hx hh.1)]⟩
    obtain ⟨τ, t1, t2, t3, t4, t5, t6, t7, t8⟩ := takeOver_eq (o := 7) (c := σ.2.2.2.1 (n - 1)) (σ := wx_sS σ 14 1 (nI (n - 1))) (by omega)
    have t1' : f_X0_takeOver 7 ((wx_sS σ 14 1 (nI (n - 1))).2.2.2.1 (n - 1)) (wx_sS σ 14 1 (nI (n - 1))) = some ((), τ) := t1
    have a : ∀ x, x ≠ 7 → agr x (wx_sS σ 14 1 (nI (n - 1))) τ := fun x hx => ⟨t3 x hx, t7 x hx, t5 x hx⟩
    have a2 : ∀ x, x ≠ 7 → x ≠ 14 → agr x σ τ := fun x h1 h2 => ⟨(a x h1).1.trans (a0 x h2).1, (a x h1).2.1.trans (a0 x h2).2.1, (a x h1).2.2.trans (a0 x h2).2.2⟩
    have t14 : τ.2.2.1 14 1 = nI (n - 1) := by
      rw [(a 14 (by decide)).2.2]
      rfl
    have tr : τ.2.2.2 = σ.2.2.2 := t8
    rw [px_b t1', px_b (m := some (τ.2.2.1 14 1, τ)) rfl, t14]
    obtain ⟨q1, q2⟩ := p4 (n - 1) (by omega)
    refine ⟨nI (n - 1), τ, h (n - 1), n - 1, h, v, sl, len, c, rfl, ⟨gh _ (by omega), by omega, fun j hj => gh j (by omega), gs, gl, gc⟩, ⟨⟨bdI.take (gh _ (by omega)) (q1.agr (a0 _ (by omega))) t2 t4, fun p hp => ?_⟩, ⟨t14, ?_, ?_, fun j hj => ?_⟩, i4.of (a2 9 (by omega) (by omega)) (a2 10 (by omega) (by omega)) (a2 11 (by omega) (by omega)).1, i5.of (a2 15 (by omega) (by omega)), S, L, P, z, i6.of (a2 13 (by omega) (by omega)) (by rw [tr])⟩, ⟨a2 16 (by omega) (by omega), fun j hj => by rw [tr]; exact hj⟩, fun iR' => ?_⟩
    · rw [t6 p hp]
      exact q2 p hp
    · rw [tr]; exact p2
    · rw [tr]; exact p3
    · rw [tr]
      have hρj := p2 j (by omega)
      exact ⟨(p4 j (by omega)).1.agr (a2 _ (by omega) (by omega)), (p4 j (by omega)).2.agr (a2 _ (by omega) (by omega))⟩
    · obtain ⟨r1, r2⟩ := iR'.2.1
      unfold f_X6_undo
      rw [r1, if_neg (nI_ne0 (by omega) (by omega)), e1, px_l]
      have e109 : nI (n - 1) * 109 = nI (109 * (n - 1)) := by
        have : ∀ n, n < 6 → nI n * 109 = nI (109 * n) := by decide
        exact this _ (by omega)
      have e64 : nI (n - 1) * 64 = nI (64 * (n - 1)) := by
        have : ∀ n, n < 6 → nI n * 64 = nI (64 * n) := by decide
        exact this _ (by omega)
      have m6 := mv6 (σ := wx_sS τ 16 4 (nI (n - 1))) (o0 := 16) (k0 := 2) (n0 := 654) (o2 := 16) (k2 := 0) (n2 := 109) (a := 109 * (n - 1)) (b := 0) (by omega) (by decide) (by decide) (by decide) (by decide)
      have e3 : (wx_sS τ 16 4 (nI (n - 1))).2.2.1 16 4 = nI (n - 1) := rfl
      rw [e3, e109, show (0 : Int32) = nI 0 from rfl, px_b m6]
      have e4 : (wx_uI (wx_sS τ 16 4 (nI (n - 1))) 16 0 0 109 (fun i => (wx_sS τ 16 4 (nI (n - 1))).1 16 2 (109 * (n - 1) + i))).2.2.1 16 4 = nI (n - 1) := rfl
      have w6 := st6_moves (σ := wx_uI (wx_sS τ 16 4 (nI (n - 1))) 16 0 0 109 (fun i => (wx_sS τ 16 4 (nI (n - 1))).1 16 2 (109 * (n - 1) + i))) (o0 := 16) (k0 := 3) (n0 := 384) (o2 := 16) (k2 := 1) (n2 := 64) (a := 64 * (n - 1)) (b := 0) (by omega) (by decide) (by decide) (by decide) (by decide)
      rw [e4, e64, px_b w6]
      have hm : wx_uF (wx_uI (wx_sS τ 16 4 (nI (n - 1))) 16 0 0 109 (fun i => (wx_sS τ 16 4 (nI (n - 1))).1 16 2 (109 * (n - 1) + i))) 16 1 0 64 (fun i => (wx_uI (wx_sS τ 16 4 (nI (n - 1))) 16 0 0 109 (fun i => (wx_sS τ 16 4 (nI (n - 1))).1 16 2 (109 * (n - 1) + i))).2.1 16 3 (64 * (n - 1) + i)) = mv2 (wx_sS τ 16 4 (nI (n - 1))) 2 (109 * (n - 1)) 0 0 3 (64 * (n - 1)) 1 0 := rfl
      rw [hm]
      obtain ⟨s1, s2⟩ := r2 (n - 1) (by omega)
      obtain ⟨k1, k2⟩ := mv2_rf (σ := wx_sS τ 16 4 (nI (n - 1))) (k2 := 0) (c := 0) (f2 := 1) (e := 0) (gh (n - 1) (by omega)) (s1.of rfl) (s2.agr rfl)
      have ee := mv2_eq6 (wx_sS τ 16 4 (nI (n - 1))) 2 (109 * (n - 1)) 3 (64 * (n - 1))
      refine ⟨_, rfl, iR'.hist k1 k2 rfl (fun j hj => ⟨?_, ?_⟩) (fun k hk => ee.2.1 k (by omega)) (ee.2.2.1 6 (by decide) (by decide) (by decide)) rfl, eqx.tr (τ := wx_sS τ 16 4 (nI (n - 1))) ⟨fun x hx => ⟨rfl, rfl, ?_⟩, rfl⟩ ee.1⟩
      · exact (r2 j (by omega)).1.agr (ee.2.1 2 (by decide))
      · exact (r2 j (by omega)).2.agr (ee.2.2.1 3 (by decide) (by decide) (by decide))
      · funext y
        show (if x = 16 ∧ y = 4 then _ else τ.2.2.1 x y) = _
        rw [if_neg (fun hh => hx hh.1)]
theorem px_rS {α : Type} {σ : wx_St} {s : Nat} {F : Nat → Option α} (hs : s < 2) : wx_rR σ 11 2 (nI s) F = F (9 + s) := by
  unfold wx_rR
  have e : wx_ro σ 11 (nI s).toNatClampNeg = 9 + s := by
    rw [nI_clamp (by omega)]
    rfl
  rw [if_pos (wx_in_nI hs (by decide)), e, if_pos (by omega)]
theorem slot_cases (x : Int32) : (∃ s, s < 2 ∧ x = nI s ∧ f_X6_within x 0 1 = some 1 ∧ ¬ x < 0 ∧ x < 2) ∨ (f_X6_within x 0 1 = some 0 ∧ (x < 0 ∨ ¬ x < 2)) := by
  rcases in_cases x (n := 2) (by decide) with ⟨s, hs, rfl⟩ | hx
  · have : ∀ s, s < 2 → f_X6_within (nI s) 0 1 = some 1 ∧ ¬ nI s < 0 ∧ nI s < 2 := by decide
    exact Or.inl ⟨s, hs, rfl, this s hs⟩
  · exact Or.inr ⟨within6_o (n := 1) (by decide) hx, out_not hx⟩
theorem i_save (a0 : Int32) : two (f_X5_save a0) (f_X6_save a0) := by
  refine two.of (fun b n h v sl len c σ G iC iR => ?_)
  have G0 := G
  obtain ⟨gb, gn, gh, gs, gl, gc⟩ := G
  have iC0 := iC
  obtain ⟨⟨i1, i2⟩, ⟨p1, p2, p3, p4⟩, i4, i5, S, L, P, z, i6⟩ := iC
  unfold f_X5_save f_X5_save_9
  rcases slot_cases a0 with ⟨s, hs, rfl, c1, c2, c3⟩ | ⟨c1, c2⟩
  · rw [if_neg c2, if_pos c3, px_rS hs]
    obtain ⟨τ, t1, t2, t3, t4, t5, t6, t7, t8⟩ := takeOver_eq (o := 9 + s) (c := 7) (σ := σ) (by omega)
    have a : ∀ x, x ≠ 9 + s → agr x σ τ := fun x hx => ⟨t3 x hx, t7 x hx, t5 x hx⟩
    rw [px_b t1, px_w hs (by decide), nI_clamp (by omega), show vp_nar .boolean 1 = 1 from rfl]
    have hI : ∀ x y i, (wx_sI τ 11 6 s 1).1 x y i = if x = 11 ∧ y = 6 ∧ i = s then 1 else τ.1 x y i := fun _ _ _ => rfl
    have a2 : ∀ x, x ≠ 11 → agr x τ (wx_sI τ 11 6 s 1) := fun x hx => ⟨by funext y i; rw [hI, if_neg (fun hh => hx hh.1)], rfl, rfl⟩
    have a3 : ∀ x, x ≠ 9 + s → x ≠ 11 → agr x σ (wx_sI τ 11 6 s 1) := fun x h1 h2 => ⟨(a2 x h2).1.trans (a x h1).1, (a2 x h2).2.1.trans (a x h1).2.1, (a2 x h2).2.2.trans (a x h1).2.2⟩
    have tr : τ.2.2.2 = σ.2.2.2 := t8
    have eT : (wx_sI τ 11 6 s 1).2.2.1 7 3 = nI (bT b) := by
      rw [(a3 7 (by omega) (by omega)).2.2]
      exact i1.2.2.2.1
    rw [eT]
    refine ⟨nI (bT b), wx_sI τ 11 6 s 1, b, n, h, fun j => if j = s then true else v j, fun j => if j = s then b else sl j, len, c, rfl, ⟨gb, gn, gh, fun j hj hv => ?_, gl, gc⟩, ⟨⟨i1.agr (a3 7 (by omega) (by omega)), i2.agr (a3 7 (by omega) (by omega))⟩, ⟨?_, ?_, ?_, fun j hj => ?_⟩, fun j hj => ?_, i5.of (a3 15 (by omega) (by omega)), S, L, P, z, i6.of (a3 13 (by omega) (by omega)) (by show τ.2.2.2.2 = _; rw [tr])⟩, ⟨a3 16 (by omega) (by omega), fun j hj => by show τ.2.2.2.2 j = true; rw [tr]; exact hj⟩, fun iR' => ?_⟩
    · show good (if j = s then b else sl j)
      by_cases he : j = s
      · rw [if_pos he]; exact gb
      · rw [if_neg he]
        have hv : (if j = s then true else v j) = true := hv
        rw [if_neg he] at hv
        exact gs j hj hv
    · rw [(a3 14 (by omega) (by omega)).2.2]; exact p1
    · show ∀ j, j < 7 → τ.2.2.2.1 j < 7
      rw [tr]; exact p2
    · show ∀ i j, i < 7 → j < 7 → τ.2.2.2.1 i = τ.2.2.2.1 j → i = j
      rw [tr]; exact p3
    · have hρj := p2 j (by omega)
      show bdI (τ.2.2.2.1 j) (h j) _ ∧ wm5 (τ.2.2.2.1 j) (h j) _
      rw [tr]
      exact ⟨(p4 j hj).1.agr (a3 _ (by omega) (by omega)), (p4 j hj).2.agr (a3 _ (by omega) (by omega))⟩
    · show (wx_sI τ 11 6 s 1).1 11 6 j = b01 (if j = s then true else v j) ∧ ((if j = s then true else v j) = true → bdI (9 + j) (if j = s then b else sl j) _ ∧ wm5 (9 + j) (if j = s then b else sl j) _)
      rw [hI]
      by_cases he : j = s
      · subst he
        rw [if_pos ⟨rfl, rfl, rfl⟩, if_pos rfl, if_pos rfl]
        refine ⟨rfl, fun _ => ?_⟩
        have k1 : bdI (9 + j) b τ := bdI.take gb i1 t2 t4
        have k2 : wm5 (9 + j) b τ := fun p hp => by rw [t6 p hp]; exact i2 p hp
        exact ⟨k1.agr (a2 _ (by omega)), k2.agr (a2 _ (by omega))⟩
      · rw [if_neg (fun hh => he hh.2.2), if_neg he, if_neg he, (a 11 (by omega)).1]
        refine ⟨(i4 j hj).1, fun hv => ?_⟩
        exact ⟨((i4 j hj).2 hv).1.agr (a3 _ (by omega) (by omega)), ((i4 j hj).2 hv).2.agr (a3 _ (by omega) (by omega))⟩
    · obtain ⟨⟨r1, r2⟩, ⟨r3, r4⟩, r5, r6, r7⟩ := iR'
      generalize wx_sI τ 11 6 s 1 = ν at r1 r2 r3 r4 r5 r6 r7 ⊢
      have e109 : 109 * nI s = nI (109 * s) := by
        have : ∀ n, n < 2 → 109 * nI n = nI (109 * n) := by decide
        exact this _ hs
      have e64 : 64 * nI s = nI (64 * s) := by
        have : ∀ n, n < 2 → 64 * nI n = nI (64 * n) := by decide
        exact this _ hs
      unfold f_X6_save
      rw [px_o c1, if_neg (by decide), e109, e64, show (0 : Int32) = nI 0 from rfl]
      have hrun := mv2_run (σ := ν) (k0 := 0) (n0 := 109) (a := 0) (k2 := 5) (n2 := 218) (c := 109 * s) (f0 := 1) (m0 := 64) (d := 0) (f2 := 6) (m2 := 128) (e := 64 * s) (F := fun _ σ41 => wx_w (wx_sI σ41 16 7 (Int32.toNatClampNeg (nI s)) 1) 2 (nI s) (fun σ50 => wx_rI σ50 16 0 109 5 (fun v56 => some (v56, σ50)))) (by decide) (by decide) (by omega) (by decide) (by decide) (by decide) (by decide) (by omega) (by decide) (by decide)
      rw [hrun]
      rw [px_w hs (by decide), nI_clamp (by omega), show ∀ (F : Int32 → Option (Int32 × wx_St)), wx_rI (wx_sI (mv2 ν 0 0 5 (109 * s) 1 0 6 (64 * s)) 16 7 s 1) 16 0 109 5 F = F ((wx_sI (mv2 ν 0 0 5 (109 * s) 1 0 6 (64 * s)) 16 7 s 1).1 16 0 5) from fun F => px_rI (j := 5) (by decide) (by decide)]
      have hI : ∀ x y i, (wx_sI (mv2 ν 0 0 5 (109 * s) 1 0 6 (64 * s)) 16 7 s 1).1 x y i = if x = 16 ∧ y = 7 ∧ i = s then 1 else if x = 16 ∧ y = 5 ∧ 109 * s ≤ i ∧ i < 109 * s + 109 then ν.1 16 0 (0 + (i - 109 * s)) else ν.1 x y i := fun _ _ _ => rfl
      have hF : ∀ x y i, (wx_sI (mv2 ν 0 0 5 (109 * s) 1 0 6 (64 * s)) 16 7 s 1).2.1 x y i = if x = 16 ∧ y = 6 ∧ 64 * s ≤ i ∧ i < 64 * s + 64 then ν.2.1 16 1 (0 + (i - 64 * s)) else ν.2.1 x y i := fun _ _ _ => rfl
      have e5 : (wx_sI (mv2 ν 0 0 5 (109 * s) 1 0 6 (64 * s)) 16 7 s 1).1 16 0 5 = nI (bT b) := by
        rw [hI, if_neg (by omega), if_neg (by omega)]
        have := r1.2.2.2.1
        rw [Nat.zero_add] at this
        exact this
      rw [e5]
      refine ⟨_, rfl, ⟨⟨r1.agr ?_, r2.agr ?_⟩, ⟨r3, fun j hj => ⟨(r4 j hj).1.agr ?_, (r4 j hj).2.agr ?_⟩⟩, fun j hj => ?_, r6, fun j hj => ?_⟩, ⟨fun x hx => ⟨?_, ?_, rfl⟩, rfl⟩⟩
      · funext i; rw [hI, if_neg (by omega), if_neg (by omega)]
      · funext i; rw [hF, if_neg (by omega)]
      · funext i; rw [hI, if_neg (by omega), if_neg (by omega)]
      · funext i; rw [hF, if_neg (by omega)]
      · show _ = b01 (if j = s then true else v j) ∧ ((if j = s then true else v j) = true → rfI 5 (109 * j) (if j = s then b else sl j) _ ∧ wm6 6 (64 * j) (if j = s then b else sl j) _)
        rw [hI]
        by_cases he : j = s
        · subst he
          rw [if_pos ⟨rfl, rfl, rfl⟩, if_pos rfl, if_pos rfl]
          refine ⟨rfl, fun _ => ⟨rfI.moved gb r1 (fun i hi => ?_), wm6.moved r2 (fun p hp => ?_)⟩⟩
          · rw [hI, if_neg (by omega), if_pos ⟨rfl, rfl, by omega, by omega⟩, show 109 * j + i - 109 * j = i by omega]
          · rw [hF, if_pos ⟨rfl, rfl, by omega, by omega⟩, show 64 * j + p - 64 * j = p by omega]
        · rw [if_neg (fun hh => he hh.2.2), if_neg (by omega), if_neg he, if_neg he]
          refine ⟨(r5 j hj).1, fun hv => ⟨rfI.moved (gs j hj hv) ((r5 j hj).2 hv).1 (fun i hi => ?_), wm6.moved ((r5 j hj).2 hv).2 (fun p hp => ?_)⟩⟩
          · rw [hI, if_neg (by omega), if_neg (by omega)]
          · rw [hF, if_neg (by omega)]
      · rw [hI, if_neg (by omega), if_neg (by omega)]
        exact r7 j hj
      · funext y i
        rw [hI, if_neg (fun hh => hx hh.1), if_neg (fun hh => hx hh.1)]
      · funext y i
        rw [hF, if_neg (fun hh => hx hh.1)]
  · have : (if a0 < 0 then some ((-2 : Int32), σ) else if a0 < 2 then wx_rR σ 11 2 a0 (fun z17 => wx_b (f_X0_takeOver z17 7 σ) (fun v22 σ22 => wx_w (wx_sI σ22 11 6 (Int32.toNatClampNeg a0) (vp_nar .boolean 1)) 2 a0 (fun σ31 => some ((σ31.2.2.1 7 3), σ31)))) else some (-2, σ)) = some (-2, σ) := by
      rcases c2 with h2 | h2
      · rw [if_pos h2]
      · by_cases h3 : a0 < 0
        · rw [if_pos h3]
        · rw [if_neg h3, if_neg h2]
    rw [this]
    refine ⟨-2, σ, b, n, h, v, sl, len, c, rfl, G0, iC0, eqC.rf σ, fun iR' => ⟨σ, ?_, iR', eqx.rf 16 σ⟩⟩
    unfold f_X6_save
    rw [px_o c1, if_pos rfl]
theorem i_restore (a0 : Int32) : two (f_X5_restore a0) (f_X6_restore a0) := by
  refine two.of (fun b n h v sl len c σ G iC iR => ?_)
  unfold f_X5_restore f_X5_restore_9
  rcases slot_cases a0 with ⟨s, hs, rfl, c1, c2, c3⟩ | ⟨c1, c2⟩
  · rw [if_neg c2, if_pos c3, px_rI hs (by decide), (iC.2.2.1 s hs).1]
    cases hv : v s with
    | false =>
      rw [if_pos (show b01 false = 0 from rfl)]
      refine ⟨-5, σ, b, n, h, v, sl, len, c, rfl, G, iC, eqC.rf σ, fun iR' => ⟨σ, ?_, iR', eqx.rf 16 σ⟩⟩
      unfold f_X6_restore
      rw [px_o c1, if_neg (by decide), px_rI hs (by decide), (iR'.2.2.1 s hs).1, hv, if_pos (show b01 false = 0 from rfl)]
    | true =>
      rw [if_neg (show ¬ b01 true = 0 by decide)]
      obtain ⟨σ8, p1, p2, p3, p4⟩ := prepare_ok G iC
      have gs := G.2.2.2.1 s hs hv
      obtain ⟨q1, q2⟩ := (p2.2.2.1 s hs).2 hv
      obtain ⟨τ, t1, t2, t3, t4, t5, t6, t7, t8⟩ := takeOver_eq (o := 7) (c := 9 + s) (σ := σ8) (by omega)
      have ex : eqx 7 σ8 τ := ⟨fun x hx => ⟨t3 x hx, t7 x hx, t5 x hx⟩, t8⟩
      have hn := G.2.1
      have k1 : bdI 7 (sl s) τ := bdI.take gs q1 t2 t4
      have k2 : wm5 7 (sl s) τ := fun p hp => by rw [t6 p hp]; exact q2 p hp
      have hρ := p2.2.1.2.1 n (by omega)
      have hT3 := gs.2.2.2.1
      obtain ⟨ρ, m1, m2, m3⟩ := kept_ok (x := nI (bT (sl s))) hn (nI_pos' (by omega)) (p2.board hn ex k1 k2) (p3.board hρ ex)
      rw [px_b p1, px_rS hs, px_b t1, k1.2.2.2.1, px_b m1]
      refine ⟨nI (bT (sl s)), ρ, sl s, pushN n, pushH n h b, v, sl, len, c, rfl, G.push gs, m2, (p4.tr (ex.eqC (by decide))).tr m3, fun iR' => ?_⟩
      obtain ⟨ν, n1, n2, n3⟩ := record_ok G iR'
      have e109 : 109 * nI s = nI (109 * s) := by
        have : ∀ n, n < 2 → 109 * nI n = nI (109 * n) := by decide
        exact this _ hs
      have e64 : 64 * nI s = nI (64 * s) := by
        have : ∀ n, n < 2 → 64 * nI n = nI (64 * n) := by decide
        exact this _ hs
      unfold f_X6_restore
      rw [px_o c1, if_neg (by decide), px_rI hs (by decide), (iR'.2.2.1 s hs).1, hv, if_neg (show ¬ b01 true = 0 by decide), px_b n1, e109, e64, show (0 : Int32) = nI 0 from rfl]
      have hrun := mv2_run (σ := ν) (k0 := 5) (n0 := 218) (a := 109 * s) (k2 := 0) (n2 := 109) (c := 0) (f0 := 6) (m0 := 128) (d := 64 * s) (f2 := 1) (m2 := 64) (e := 0) (F := fun _ σ57 => wx_rI σ57 16 0 109 5 (fun v65 => some (v65, σ57))) (by omega) (by decide) (by decide) (by decide) (by decide) (by omega) (by decide) (by decide) (by decide) (by decide)
      rw [hrun]
      obtain ⟨r1, r2⟩ := (n2.2.2.1 s hs).2 hv
      obtain ⟨j1, j2⟩ := mv2_rf (σ := ν) (k2 := 0) (c := 0) (f2 := 1) (e := 0) gs r1 r2
      have ee := mv2_eq6 ν 5 (109 * s) 6 (64 * s)
      have e5 : (mv2 ν 5 (109 * s) 0 0 6 (64 * s) 1 0).1 16 0 5 = nI (bT (sl s)) := by
        have := j1.2.2.2.1
        rw [Nat.zero_add] at this
        exact this
      rw [show ∀ (F : Int32 → Option (Int32 × wx_St)), wx_rI (mv2 ν 5 (109 * s) 0 0 6 (64 * s) 1 0) 16 0 109 5 F = F ((mv2 ν 5 (109 * s) 0 0 6 (64 * s) 1 0).1 16 0 5) from fun F => px_rI (j := 5) (by decide) (by decide), e5]
      exact ⟨_, rfl, n2.eq6 j1 j2 ee, n3.tr ee.1⟩
  · have : ∀ X : Option (Int32 × wx_St), (if a0 < 0 then some ((-2 : Int32), σ) else if a0 < 2 then X else some (-2, σ)) = some (-2, σ) := by
      intro X
      rcases c2 with h2 | h2
      · rw [if_pos h2]
      · by_cases h3 : a0 < 0
        · rw [if_pos h3]
        · rw [if_neg h3, if_neg h2]
    rw [this]
    refine ⟨-2, σ, b, n, h, v, sl, len, c, rfl, G, iC, eqC.rf σ, fun iR' => ⟨σ, ?_, iR', eqx.rf 16 σ⟩⟩
    unfold f_X6_restore
    rw [px_o c1, if_pos rfl]
