/-! readsIn, wouldRead -/
def rin (b : Bd) (P : Nat) (x3 : Int32) : Nat → Int32
  | 0 => -6
  | n + 1 => if rdf (runs (bS b 0) (100 - bS b 1) (bS b 2) (heat b) (bK b + (200 - n)) P) < x3 then rin b P x3 n else nI (200 - n)
theorem readsIn5 {b : Bd} (g : good b) {P : Nat} (hP : P < 64) {x1 x2 x3 : Int32} {M : Int64} (hM : ∀ p, p < 64 → mk M p = heat b p) : ∀ (n s m : Nat) (σ : wx_St), s + n = 201 → n < m → bdI 8 b σ → (∀ p, p < 64 → σ.2.1 8 7 p = runs (bS b 0) (100 - bS b 1) (bS b 2) (heat b) (bK b + s) p) → ∃ τ, f_X5_readsIn_52 m x1 x2 x3 (nI P) M (nI s) σ = some (rin b P x3 n, τ) ∧ eqx 8 σ τ := by
  have gK := g.2.2.2.2.2.2.1
  intro n
  induction n with
  | zero =>
    intro s m σ hs hm h hf
    obtain ⟨m, rfl⟩ : ∃ k, m = k + 1 := ⟨m - 1, by omega⟩
    have hs : s = 201 := by omega
    subst hs
    rw [f_X5_readsIn_52, if_pos (by decide)]
    exact ⟨σ, rfl, eqx.rf 8 σ⟩
  | succ n ih =>
    intro s m σ hs hm h hf
    obtain ⟨m, rfl⟩ : ∃ k, m = k + 1 := ⟨m - 1, by omega⟩
    have e : 200 - n = s := by omega
    have ok := rd_ok (h := heat b) g.set (k := bK b + s) (p := P) (by omega) hP
    have hR : rin b P x3 (n + 1) = if rdf (runs (bS b 0) (100 - bS b 1) (bS b 2) (heat b) (bK b + s) P) < x3 then rin b P x3 n else nI s := by
      show (if rdf (runs (bS b 0) (100 - bS b 1) (bS b 2) (heat b) (bK b + (200 - n)) P) < x3 then rin b P x3 n else nI (200 - n)) = _
      rw [e]
    rw [f_X5_readsIn_52, if_neg (show ¬ (200 : Int32) < nI s from nI_nlt (a := 200) (b := s) (by omega) (by decide)), px_rF hP (by decide), hf P hP, px_o (readOf5 ok.1), hR]
    by_cases hc : rdf (runs (bS b 0) (100 - bS b 1) (bS b 2) (heat b) (bK b + s) P) < x3
    · have h1 : (100 : Int32) - σ.1 8 0 1 = nI (100 - bS b 1) := by
        rw [h.1 1 (by decide)]
        exact nI_sub (m := 100) (by have := g.1.2.1; omega)
      obtain ⟨τ, t1, t2, t3, t4, t5⟩ := passOne_eq (o := 8) (M := M) (σ := σ) (h := heat b) (k := bK b + s) g.set (by omega) (h.1 0 (by decide)) h1 (h.1 2 (by decide)) hf hM
      rw [if_pos hc, if_pos hc, px_b t1, nI_1]
      obtain ⟨ρ, r1, r2⟩ := ih (s + 1) m τ (by omega) (by omega) (h.of t2 (by rw [t3])) (fun p hp => t4 p hp)
      refine ⟨ρ, r1, eqx.tr (τ := τ) ⟨fun x hx => ⟨by rw [t2], ?_, by rw [t3]⟩, by rw [t3]⟩ r2⟩
      funext k i
      exact t5 x k i (fun hh => hx hh.1)
    · rw [if_neg hc, if_neg hc]
      exact ⟨σ, rfl, eqx.rf 8 σ⟩
theorem readsIn6 {b : Bd} (g : good b) {P : Nat} (hP : P < 64) {x1 x2 x3 : Int32} : ∀ (n s m : Nat) (σ : wx_St), s + n = 201 → n < m → rfI 0 0 b σ → (∀ p, p < 64 → σ.2.1 16 10 p = runs (bS b 0) (100 - bS b 1) (bS b 2) (heat b) (bK b + s) p) → ∃ τ, f_X6_readsIn_47 m x1 x2 x3 (nI P) (nI s) σ = some (rin b P x3 n, τ) ∧ eqr σ τ := by
  have gK := g.2.2.2.2.2.2.1
  intro n
  induction n with
  | zero =>
    intro s m σ hs hm h hf
    obtain ⟨m, rfl⟩ : ∃ k, m = k + 1 := ⟨m - 1, by omega⟩
    have hs : s = 201 := by omega
    subst hs
    rw [f_X6_readsIn_47, if_pos (by decide)]
    exact ⟨σ, rfl, eqr.rf σ⟩
  | succ n ih =>
    intro s m σ hs hm h hf
    obtain ⟨m, rfl⟩ : ∃ k, m = k + 1 := ⟨m - 1, by omega⟩
    have e : 200 - n = s := by omega
    have ok := rd_ok (h := heat b) g.set (k := bK b + s) (p := P) (by omega) hP
    have hR : rin b P x3 (n + 1) = if rdf (runs (bS b 0) (100 - bS b 1) (bS b 2) (heat b) (bK b + s) P) < x3 then rin b P x3 n else nI s := by
      show (if rdf (runs (bS b 0) (100 - bS b 1) (bS b 2) (heat b) (bK b + (200 - n)) P) < x3 then rin b P x3 n else nI (200 - n)) = _
      rw [e]
    rw [f_X6_readsIn_47, if_neg (show ¬ (200 : Int32) < nI s from nI_nlt (a := 200) (b := s) (by omega) (by decide)), px_rF hP (by decide), hf P hP, px_o (readOf6 ok.1), hR]
    by_cases hc : rdf (runs (bS b 0) (100 - bS b 1) (bS b 2) (heat b) (bK b + s) P) < x3
    · obtain ⟨s1, -⟩ := rf_st h
      have hs1 : (100 : Int32) - σ.1 16 0 1 = nI (100 - bS b 1) := by
        rw [s1 1 (by decide)]
        exact nI_sub (m := 100) (by have := g.1.2.1; omega)
      obtain ⟨τ, t1, t2, t3, t4, t5⟩ := steps_n g (x1 := -6) (h := heat b) g.set (k := bK b + s) (σ := σ) (by omega) (s1 0 (by decide)) hs1 (s1 2 (by decide)) hf (fun τ hτ p hp => isWarmed_board (h.of hτ) g hp)
      rw [if_pos hc, if_pos hc, px_b t1, nI_1]
      obtain ⟨ρ, r1, r2⟩ := ih (s + 1) m τ (by omega) (by omega) (h.of t2) (fun p hp => t4 p hp)
      refine ⟨ρ, r1, eqr.tr (τ := τ) ⟨⟨fun x hx => ⟨by rw [t2], ?_, by rw [t3]⟩, by rw [t3]⟩, fun k _ => by rw [t2], fun k hk => ?_, fun y _ => by rw [t3]⟩ r2⟩
      · funext k i
        exact t5 x k i (fun hh => hx hh.1)
      · funext i
        exact t5 16 k i (by omega)
    · rw [if_neg hc, if_neg hc]
      exact ⟨σ, rfl, eqr.rf σ⟩
theorem i_readsIn (x1 x2 x3 : Int32) : two (f_X5_readsIn x1 x2 x3) (f_X6_readsIn x1 x2 x3) := by
  refine two.rd (fun b n h v sl len c σ G iC => ?_)
  have g := G.1
  have k0 := invC_kL iC
  have hb := iC.1.1
  have hw := iC.1.2
  rcases place_cases x1 x2 with ⟨R, C, hR, hC, rfl, rfl, p1, p2, p3⟩ | ⟨p1, p2⟩
  · have hP : 8 * R + C < 64 := by omega
    by_cases hx : (1 : Int32) ≤ x3 ∧ x3 ≤ 9999
    · obtain ⟨τ, t1, t2, t3, t4, t5, t6, t7, t8⟩ := takeOver_eq (o := 8) (c := 7) (σ := σ) (by decide)
      have b8 : bdI 8 b τ := bdI.take g hb t2 t4
      obtain ⟨M, m1, m2⟩ := heated5 b8 g
      obtain ⟨ρ, r1, r2⟩ := readsIn5 g hP (x1 := nI R) (x2 := nI C) (x3 := x3) m2 201 0 2000 τ (by omega) (by omega) b8 (fun p hp => by rw [t6 p hp]; exact hw p hp)
      have r1' : f_X5_readsIn_52 2000 (nI R) (nI C) x3 (nI (8 * R + C)) M 0 τ = some (rin b (8 * R + C) x3 201, ρ) := r1
      have ex : eqx 8 σ τ := ⟨fun x hx => ⟨t3 x hx, t7 x hx, t5 x hx⟩, t8⟩
      have ex2 := ex.tr r2
      have e5 : f_X5_readsIn (nI R) (nI C) x3 σ = some (rin b (8 * R + C) x3 201, ρ) := by
        unfold f_X5_readsIn
        rw [px_o p1, if_pos (nI_pos' (by omega)), if_neg (fun hh => (lt1_iff.mp hh) hx.1), if_pos hx.2, px_b t1, px_o m1, r1']
      have a7 : agr 7 σ ρ := ex2.1 7 (by decide)
      obtain ⟨S, L, PP, z, hl⟩ := k0.2
      refine ⟨_, ρ, e5, ⟨hb.agr a7, S, L, PP, z, hl.of (ex2.1 13 (by decide)) (by rw [ex2.2])⟩, ⟨fun x hx => ex2.1 x hx.1, by rw [ex2.2], fun j hj => by rw [ex2.2]; exact hj⟩, fun ν iR => ?_⟩
      have m1 : f_X6_movesWarmth 16 1 64 16 10 64 0 0 ν = some ((), wx_uF ν 16 10 0 64 (fun i => ν.2.1 16 1 (0 + i))) := st6_moves (o0 := 16) (k0 := 1) (n0 := 64) (o2 := 16) (k2 := 10) (n2 := 64) (a := 0) (b := 0) (by decide) (by decide) (by decide) (by decide) (by decide)
      obtain ⟨κ, u1, u2⟩ := readsIn6 g hP (x1 := nI R) (x2 := nI C) (x3 := x3) 201 0 2000 (wx_uF ν 16 10 0 64 (fun i => ν.2.1 16 1 (0 + i))) (by omega) (by omega) (iR.1.1.of rfl) (fun p hp => by
        show (if (16 : Nat) = 16 ∧ (10 : Nat) = 10 ∧ 0 ≤ p ∧ p < 0 + 64 then ν.2.1 16 1 (0 + (p - 0)) else ν.2.1 16 10 p) = _
        rw [if_pos ⟨rfl, rfl, by omega, by omega⟩, Nat.sub_zero]
        exact iR.1.2 p hp)
      have u1' : f_X6_readsIn_47 2000 (nI R) (nI C) x3 (nI (8 * R + C)) 0 (wx_uF ν 16 10 0 64 (fun i => ν.2.1 16 1 (0 + i))) = some (rin b (8 * R + C) x3 201, κ) := u1
      have hF : ∀ x k i, (wx_uF ν 16 10 0 64 (fun i => ν.2.1 16 1 (0 + i))).2.1 x k i = if x = 16 ∧ k = 10 ∧ 0 ≤ i ∧ i < 0 + 64 then ν.2.1 16 1 (0 + (i - 0)) else ν.2.1 x k i := fun _ _ _ => rfl
      refine ⟨κ, ?_, eqr.tr (τ := wx_uF ν 16 10 0 64 (fun i => ν.2.1 16 1 (0 + i))) ⟨⟨fun x hx => ⟨rfl, ?_, rfl⟩, rfl⟩, fun k _ => rfl, fun k hk => ?_, fun y _ => rfl⟩ u2⟩
      · unfold f_X6_readsIn
        rw [px_o p2, if_neg (by decide), px_o (within6_t hx.1 hx.2), if_neg (by decide), px_b m1, px_o p3, u1']
      · funext k i
        rw [hF, if_neg (fun hh => hx hh.1)]
      · funext i
        rw [hF, if_neg (by omega)]
    · have e5 : f_X5_readsIn (nI R) (nI C) x3 σ = some (-2, σ) := by
        unfold f_X5_readsIn f_X5_readsIn_26
        rw [px_o p1, if_pos (nI_pos' (by omega))]
        by_cases h1 : x3 < 1
        · rw [if_pos h1]
        · rw [if_neg h1, if_neg (fun h2 => hx ⟨Classical.byContradiction (fun h3 => h1 (lt1_iff.mpr h3)), h2⟩)]
      refine ⟨-2, σ, e5, k0, eqM.rf σ, fun ν iR => ⟨ν, ?_, eqr.rf ν⟩⟩
      unfold f_X6_readsIn
      rw [px_o p2, if_neg (by decide), px_o (within6_f hx), if_pos rfl]
  · have e5 : f_X5_readsIn x1 x2 x3 σ = some (-1, σ) := by
      unfold f_X5_readsIn
      rw [px_o p1, if_neg (by decide)]
    refine ⟨-1, σ, e5, k0, eqM.rf σ, fun ν iR => ⟨ν, ?_, eqr.rf ν⟩⟩
    unfold f_X6_readsIn
    rw [px_o p2, if_pos rfl]
theorem i_wouldRead (x1 x2 x3 x4 : Int32) : two (f_X5_wouldRead x1 x2 x3 x4) (f_X6_wouldRead x1 x2 x3 x4) := by
  refine two.rd (fun b n h v sl len c σ G iC => ?_)
  have g := G.1
  have gK := g.2.2.2.2.2.2.1
  have k0 := invC_kL iC
  have hb := iC.1.1
  have refuse : f_X5_wouldRead x1 x2 x3 x4 σ = some (-1, σ) → (∀ ν, invR b n h v sl len c ν → f_X6_wouldRead x1 x2 x3 x4 ν = some (-1, ν)) → ∃ r σ1, f_X5_wouldRead x1 x2 x3 x4 σ = some (r, σ1) ∧ kL b σ1 ∧ eqM σ σ1 ∧ ∀ ν, invR b n h v sl len c ν → ∃ σ2, f_X6_wouldRead x1 x2 x3 x4 ν = some (r, σ2) ∧ eqr ν σ2 := fun h1 h2 => ⟨-1, σ, h1, k0, eqM.rf σ, fun ν iR => ⟨ν, h2 ν iR, eqr.rf ν⟩⟩
  rcases place_cases x1 x2 with ⟨R, C, hR, hC, rfl, rfl, p1, p2, p3⟩ | ⟨p1, p2⟩
  · have hP : 8 * R + C < 64 := by omega
    rcases place_cases x3 x4 with ⟨R', C', hR', hC', rfl, rfl, q1, q2, q3⟩ | ⟨q1, q2⟩
    · have hQ : 8 * R' + C' < 64 := by omega
      cases hs : sus b (8 * R' + C') with
      | false =>
        refine refuse ?_ (fun ν iR => ?_)
        · unfold f_X5_wouldRead f_X5_wouldRead_37
          rw [px_o p1, px_o q1, if_neg (nI_pos (by omega)), if_neg (nI_pos (by omega)), px_o (isSuspect5 hb g hQ), hs, if_pos (show b01 false = 0 from rfl)]
        · unfold f_X6_wouldRead f_X6_wouldRead_30
          rw [px_o p2, if_neg (by decide), px_o q2, if_neg (by decide), px_o q3, px_o (isSuspect6 iR.1.1 g hQ), hs, if_pos (show b01 false = 0 from rfl)]
      | true =>
        obtain ⟨τ, t1, t2, t3⟩ := readBy5 g k0 hQ hP
        have ok : okW (rl b (8 * R' + C') (bK b) (8 * R + C)) := rd_ok g.set (by omega) hP
        refine ⟨rdf (rl b (8 * R' + C') (bK b) (8 * R + C)), τ, ?_, t2, t3.eqM, fun ν iR => ?_⟩
        · unfold f_X5_wouldRead f_X5_wouldRead_54
          rw [px_o p1, px_o q1, if_neg (nI_pos (by omega)), if_neg (nI_pos (by omega)), px_o (isSuspect5 hb g hQ), hs, if_neg (show ¬ b01 true = 0 by decide), px_b t1]
        · obtain ⟨ρ, r1, r2, r3, r4, r5⟩ := thinks6 g hQ iR.1.1
          refine ⟨ρ, ?_, ⟨⟨fun x hx => ⟨by rw [r2], ?_, by rw [r3]⟩, by rw [r3]⟩, fun k _ => by rw [r2], fun k hk => ?_, fun y _ => by rw [r3]⟩⟩
          · unfold f_X6_wouldRead
            rw [px_o p2, if_neg (by decide), px_o q2, if_neg (by decide), px_o q3, px_o (isSuspect6 iR.1.1 g hQ), hs, if_neg (show ¬ b01 true = 0 by decide), px_o q3, show (4 : Int32) = nI 4 from rfl, r16 ν 4 (by decide), (rf_st iR.1.1).2.1, px_b r1, px_o p3, px_rF hP (by decide), r4 _ hP, px_o (readOf6 ok.1)]
          · funext k i
            exact r5 x k i (fun hh => hx hh.1)
          · funext i
            exact r5 16 k i (by omega)
    · refine refuse ?_ (fun ν iR => ?_)
      · unfold f_X5_wouldRead f_X5_wouldRead_37
        rw [px_o p1, px_o q1, if_neg (nI_pos (by omega)), if_pos (by decide)]
      · unfold f_X6_wouldRead f_X6_wouldRead_30
        rw [px_o p2, if_neg (by decide), px_o q2, if_pos rfl]
  · refine refuse ?_ (fun ν iR => ?_)
    · have hq : ∃ w, f_X5_placeOf x3 x4 = some w := by
        rcases place_cases x3 x4 with ⟨R', C', hR', hC', rfl, rfl, q1, -⟩ | ⟨q1, -⟩
        · exact ⟨_, q1⟩
        · exact ⟨_, q1⟩
      obtain ⟨w, hw⟩ := hq
      unfold f_X5_wouldRead f_X5_wouldRead_37
      rw [px_o p1, px_o hw, if_pos (by decide)]
    · unfold f_X6_wouldRead f_X6_wouldRead_30
      rw [px_o p2, if_pos rfl]
/-! the pad: wiped, appended to -/
theorem invC.pad {b n h v sl len c} {len' : Nat} {c' : Nat → Int32} {σ τ : wx_St} (hn : n ≤ 6) (i : invC b n h v sl len c σ) (e : eqx 15 σ τ) (p : padI len' c' τ) : invC b n h v sl len' c' τ := by
  obtain ⟨⟨i1, i2⟩, i3, i4, -, S, L, P, z, i6⟩ := i
  have a : ∀ x, x ≠ 15 → agr x σ τ := fun x hx => e.1 x hx
  refine ⟨⟨i1.agr (a 7 (by decide)), i2.agr (a 7 (by decide))⟩, i3.of (by omega) (fun j hj => a _ ?_) (a 14 (by decide)).2.2 (by rw [e.2]), i4.of (a 9 (by decide)) (a 10 (by decide)) (a 11 (by decide)).1, p, S, L, P, z, i6.of (a 13 (by decide)) (by rw [e.2])⟩
  have := i3.2.1 j (by omega)
  omega
theorem invR.pad {b n h v sl len c} {len' : Nat} {c' : Nat → Int32} {σ τ : wx_St} (i : invR b n h v sl len c σ) (e1 : ∀ k, k < 8 → τ.1 16 k = σ.1 16 k) (e2 : τ.2.1 16 = σ.2.1 16) (e4 : τ.2.2.1 16 4 = σ.2.2.1 16 4) (p : τ.2.2.1 16 9 = nI len' ∧ ∀ j, j < len' → τ.1 16 8 j = c' j) : invR b n h v sl len' c' τ := by
  obtain ⟨⟨i1, i2⟩, ⟨i3, i4⟩, i5, -⟩ := i
  refine ⟨⟨i1.agr (e1 0 (by decide)), i2.agr (by rw [e2])⟩, ⟨e4.trans i3, fun j hj => ⟨(i4 j hj).1.agr (e1 2 (by decide)), (i4 j hj).2.agr (by rw [e2])⟩⟩, fun s hs => ?_, p⟩
  rw [e1 7 (by decide)]
  exact ⟨(i5 s hs).1, fun hv => ⟨((i5 s hs).2 hv).1.agr (e1 5 (by decide)), ((i5 s hs).2 hv).2.agr (by rw [e2])⟩⟩
theorem clear5 {b n h v sl len c} {σ : wx_St} (hn : n ≤ 6) (iC : invC b n h v sl len c σ) : ∃ τ, f_X2_clear σ = some (nI len, τ) ∧ invC b n h v sl 0 c τ ∧ eqx 15 σ τ := by
  have hS : ∀ x y, (wx_sS σ 15 1 0).2.2.1 x y = if x = 15 ∧ y = 1 then 0 else σ.2.2.1 x y := fun _ _ => rfl
  have ex : eqx 15 σ (wx_sS σ 15 1 0) := ⟨fun x hx => ⟨rfl, rfl, by funext y; rw [hS, if_neg (fun hh => hx hh.1)]⟩, rfl⟩
  refine ⟨wx_sS σ 15 1 0, ?_, iC.pad hn ex ⟨rfl, fun j hj => absurd hj (Nat.not_lt_zero _)⟩, ex⟩
  unfold f_X2_clear wx_l
  rw [iC.2.2.2.1.1]
theorem i_wipe : two f_X5_wipe f_X6_wipe := by
  refine two.of (fun b n h v sl len c σ G iC iR => ?_)
  obtain ⟨gb, gn, gh, gs, gl, gc⟩ := G
  obtain ⟨τ, t1, t2, t3⟩ := clear5 gn iC
  unfold f_X5_wipe
  rw [px_b t1]
  refine ⟨nI len, τ, b, n, h, v, sl, 0, c, rfl, ⟨gb, gn, gh, gs, Nat.zero_le _, fun _ _ => rfl⟩, t2, t3.eqC (by decide), fun iR' => ?_⟩
  have hS : ∀ x y, (wx_sS τ 16 9 0).2.2.1 x y = if x = 16 ∧ y = 9 then 0 else τ.2.2.1 x y := fun _ _ => rfl
  refine ⟨wx_sS τ 16 9 0, ?_, iR'.pad (fun _ _ => rfl) rfl (by rw [hS, if_neg (by omega)]) ⟨rfl, fun j hj => absurd hj (Nat.not_lt_zero _)⟩, ⟨fun x hx => ⟨rfl, rfl, by funext y; rw [hS, if_neg (fun hh => hx hh.1)]⟩, rfl⟩⟩
  unfold f_X6_wipe wx_l
  rw [iR'.2.2.2.1]
def sh8 (x : Int64) : Int64 := (x.toUInt64 >>> ((8 : Int32).toInt64.toUInt64 &&& Int64.toUInt64 63)).toInt64
/-- the characters of a number, from the last one on: none, or how many and the rest -/
def pk (x : Int64) : Nat → Nat → Option (Nat × Int64)
  | 0, k => some (k, x)
  | n + 1, k => if lg_cmp (x &&& (255 : Int64)) (0 : Int64) = 0 then some (k, x) else if (33 : Int32) ≤ (x &&& (255 : Int64)).toInt32 ∧ (x &&& (255 : Int64)).toInt32 ≤ 126 then pk (sh8 x) n (k + 1) else none
theorem low8 (x : Int64) : ∃ a : Nat, a < 256 ∧ (x &&& (255 : Int64)) = Int64.ofNat a := by
  refine ⟨(x &&& (255 : Int64)).toBitVec.toNat, ?_, ?_⟩
  · rw [Int64.toBitVec_and, BitVec.toNat_and]
    have : ((255 : Int64).toBitVec).toNat = 2 ^ 8 - 1 := rfl
    rw [this, Nat.and_two_pow_sub_one_eq_mod]
    exact Nat.mod_lt _ (by decide)
  · rw [← Int64.toBitVec_inj]
    show _ = BitVec.ofNat 64 _
    rw [BitVec.ofNat_toNat, BitVec.setWidth_eq]
theorem low8_c : ∀ a, a < 256 → (lg_cmp (Int64.ofNat a) (33 : Int64) < 0 ↔ ¬ (33 : Int32) ≤ (Int64.ofNat a).toInt32) ∧ (lg_cmp (Int64.ofNat a) (126 : Int64) ≤ 0 ↔ (Int64.ofNat a).toInt32 ≤ 126) := by decide +kernel
theorem append5_loop {x1 : Int64} {σ : wx_St} : ∀ (n k m : Nat) (x : Int64), k + n = 8 → n < m → f_X2_append_5 m x1 (nI k) x σ = (match pk x n k with | none => some (-2, σ) | some (K, r) => f_X2_append_64 x1 (nI K) r σ) := by
  intro n
  induction n with
  | zero =>
    intro k m x hk hm
    obtain ⟨m, rfl⟩ : ∃ k, m = k + 1 := ⟨m - 1, by omega⟩
    have hk : k = 8 := by omega
    subst hk
    rw [f_X2_append_5, if_pos (by decide)]
    rfl
  | succ n ih =>
    intro k m x hk hm
    obtain ⟨m, rfl⟩ : ∃ k, m = k + 1 := ⟨m - 1, by omega⟩
    have hP : pk x (n + 1) k = if lg_cmp (x &&& (255 : Int64)) (0 : Int64) = 0 then some (k, x) else if (33 : Int32) ≤ (x &&& (255 : Int64)).toInt32 ∧ (x &&& (255 : Int64)).toInt32 ≤ 126 then pk (sh8 x) n (k + 1) else none := rfl
    obtain ⟨a, ha, he⟩ := low8 x
    obtain ⟨c1, c2⟩ := low8_c a ha
    rw [hP, f_X2_append_5, if_neg (show ¬ (8 : Int32) ≤ nI k from nI_ge (a := k) (b := 8) (by omega) (by decide)), he]
    unfold f_X2_append_48
    by_cases h0 : lg_cmp (Int64.ofNat a) (0 : Int64) = 0
    · rw [if_pos h0, if_pos h0]
    · rw [if_neg h0, if_neg h0]
      by_cases h1 : (33 : Int32) ≤ (Int64.ofNat a).toInt32
      · rw [if_neg (fun hh => (c1.mp hh) h1)]
        by_cases h2 : (Int64.ofNat a).toInt32 ≤ 126
        · rw [if_pos (c2.mpr h2), if_pos ⟨h1, h2⟩, nI_1]
          exact ih (k + 1) m (sh8 x) (by omega) (by omega)
        · rw [if_neg (fun hh => h2 (c2.mp hh)), if_neg (fun hh => h2 hh.2)]
      · rw [if_pos (c1.mpr h1), if_neg (fun hh => h1 hh.1)]
theorem put6_bad {x1 : Int64} {σ : wx_St} : ∀ (n k m : Nat) (x : Int64), k + n = 8 → n < m → f_X6_put_8 m x1 (nI k) x 0 σ = some (-2, σ) := by
  intro n
  induction n with
  | zero =>
    intro k m x hk hm
    obtain ⟨m, rfl⟩ : ∃ k, m = k + 1 := ⟨m - 1, by omega⟩
    have hk : k = 8 := by omega
    subst hk
    rw [f_X6_put_8, if_pos (by decide)]
    unfold f_X6_put_67 f_X6_put_83
    rw [if_neg (by decide), if_pos rfl]
  | succ n ih =>
    intro k m x hk hm
    obtain ⟨m, rfl⟩ : ∃ k, m = k + 1 := ⟨m - 1, by omega⟩
    rw [f_X6_put_8, if_neg (show ¬ (8 : Int32) ≤ nI k from nI_ge (a := k) (b := 8) (by omega) (by decide))]
    unfold f_X6_put_67 f_X6_put_83 f_X6_put_51 f_X6_put_52
    by_cases h0 : lg_cmp (x &&& (255 : Int64)) (0 : Int64) = 0
    · rw [if_pos h0, if_pos rfl]
      by_cases hk0 : nI k = 0
      · rw [if_pos hk0]
      · rw [if_neg hk0]
    · rw [if_neg h0, if_pos rfl, nI_1]
      exact ih (k + 1) m _ (by omega) (by omega)
theorem put6_loop {x1 : Int64} {σ : wx_St} : ∀ (n k m : Nat) (x : Int64), k + n = 8 → n < m → f_X6_put_8 m x1 (nI k) x 1 σ = (match pk x n k with | none => some (-2, σ) | some (K, r) => f_X6_put_67 x1 (nI K) r 1 σ) := by
  intro n
  induction n with
  | zero =>
    intro k m x hk hm
    obtain ⟨m, rfl⟩ : ∃ k, m = k + 1 := ⟨m - 1, by omega⟩
    have hk : k = 8 := by omega
    subst hk
    rw [f_X6_put_8, if_pos (by decide)]
    rfl
  | succ n ih =>
    intro k m x hk hm
    obtain ⟨m, rfl⟩ : ∃ k, m = k + 1 := ⟨m - 1, by omega⟩
    have hP : pk x (n + 1) k = if lg_cmp (x &&& (255 : Int64)) (0 : Int64) = 0 then some (k, x) else if (33 : Int32) ≤ (x &&& (255 : Int64)).toInt32 ∧ (x &&& (255 : Int64)).toInt32 ≤ 126 then pk (sh8 x) n (k + 1) else none := rfl
    rw [hP, f_X6_put_8, if_neg (show ¬ (8 : Int32) ≤ nI k from nI_ge (a := k) (b := 8) (by omega) (by decide))]
    by_cases h0 : lg_cmp (x &&& (255 : Int64)) (0 : Int64) = 0
    · rw [if_pos h0, if_pos h0]
    · rw [if_neg h0, if_neg h0, if_neg (by decide)]
      unfold f_X6_put_51 f_X6_put_52
      by_cases h1 : (33 : Int32) ≤ (x &&& (255 : Int64)).toInt32 ∧ (x &&& (255 : Int64)).toInt32 ≤ 126
      · rw [px_o (within6_t h1.1 h1.2), if_neg (by decide), if_pos h1, nI_1]
        exact ih (k + 1) m (sh8 x) (by omega) (by omega)
      · rw [px_o (within6_f h1), if_pos rfl, if_neg h1, nI_1]
        exact put6_bad n (k + 1) m _ (by omega) (by omega)
theorem pkn_le : ∀ (n k : Nat) (x : Int64) K r, k + n = 8 → pk x n k = some (K, r) → K ≤ 8
  | 0, k, x, K, r, hk, h => by
    have h : some (k, x) = some (K, r) := h
    cases h
    omega
  | n + 1, k, x, K, r, hk, h => by
    have hP : pk x (n + 1) k = if lg_cmp (x &&& (255 : Int64)) (0 : Int64) = 0 then some (k, x) else if (33 : Int32) ≤ (x &&& (255 : Int64)).toInt32 ∧ (x &&& (255 : Int64)).toInt32 ≤ 126 then pk (sh8 x) n (k + 1) else none := rfl
    rw [hP] at h
    split at h
    · cases h
      omega
    · split at h
      · exact pkn_le n (k + 1) _ K r (by omega) h
      · cases h
/-- the j-th character from the end -/
def chr (x1 : Int64) (j : Nat) : Int32 := ((((x1.toUInt64 >>> ((8 * nI j).toInt64.toUInt64 &&& Int64.toUInt64 63)).toInt64) &&& (255 : Int64)).toInt32)
def chs (x1 : Int64) (len K : Nat) (c : Nat → Int32) (i : Nat) : Nat → Int32 := fun j => if len ≤ j ∧ j < len + i then chr x1 (K - 1 - (j - len)) else c j
theorem append_95 {x1 x4 : Int64} {len K : Nat} (hK1 : 1 ≤ K) (hK8 : K ≤ 8) (hl : len + K ≤ 80) : ∀ (n i m : Nat) (σ : wx_St), i + n = K → n < m → σ.2.2.1 15 1 = nI len → ∃ τ, f_X2_append_95 m x1 (nI K) x4 (nI i) σ = some (nI (len + K), τ) ∧ (∀ x k j, τ.1 x k j = if x = 15 ∧ k = 0 ∧ len + i ≤ j ∧ j < len + K then chr x1 (K - 1 - (j - len)) else σ.1 x k j) ∧ τ.2.1 = σ.2.1 ∧ (∀ x y, τ.2.2.1 x y = if x = 15 ∧ y = 1 then nI (len + K) else σ.2.2.1 x y) ∧ τ.2.2.2 = σ.2.2.2 := by
  intro n
  induction n with
  | zero =>
    intro i m σ hi hm h1
    obtain ⟨m, rfl⟩ : ∃ k, m = k + 1 := ⟨m - 1, by omega⟩
    have hi : i = K := by omega
    subst hi
    rw [f_X2_append_95, if_pos (nI_le (Nat.le_refl _) (by omega)), h1, nI_add]
    refine ⟨wx_sS σ 15 1 (nI (len + i)), rfl, fun x k j => ?_, rfl, fun x y => rfl, rfl⟩
    rw [if_neg (by omega)]
    rfl
  | succ n ih =>
    intro i m σ hi hm h1
    obtain ⟨m, rfl⟩ : ∃ k, m = k + 1 := ⟨m - 1, by omega⟩
    have e1 : nI K - 1 = nI (K - 1) := nI_sub (m := K) (k := 1) (by omega)
    have e2 : nI (K - 1) - nI i = nI (K - 1 - i) := nI_sub (by omega)
    rw [f_X2_append_95, if_neg (nI_ge (by omega) (by omega)), h1, nI_add, px_w (by omega) (by decide), nI_clamp (by omega), e1, e2, nI_1]
    have hc : ((((x1.toUInt64 >>> ((8 * nI (K - 1 - i)).toInt64.toUInt64 &&& Int64.toUInt64 63)).toInt64) &&& (255 : Int64)).toInt32) = chr x1 (K - 1 - i) := rfl
    rw [hc]
    obtain ⟨τ, t1, t2, t3, t4, t5⟩ := ih (i + 1) m (wx_sI σ 15 0 (len + i) (chr x1 (K - 1 - i))) (by omega) (by omega) h1
    refine ⟨τ, t1, fun x k j => ?_, t3, t4, t5⟩
    rw [t2]
    show (if x = 15 ∧ k = 0 ∧ len + (i + 1) ≤ j ∧ j < len + K then chr x1 (K - 1 - (j - len)) else if x = 15 ∧ k = 0 ∧ j = len + i then chr x1 (K - 1 - i) else σ.1 x k j) = _
    by_cases hc : x = 15 ∧ k = 0 ∧ len + i ≤ j ∧ j < len + K
    · rw [if_pos hc]
      by_cases hj : j = len + i
      · rw [if_neg (by omega), if_pos ⟨hc.1, hc.2.1, hj⟩, show j - len = i by omega]
      · rw [if_pos ⟨hc.1, hc.2.1, by omega, hc.2.2.2⟩]
    · rw [if_neg hc, if_neg (fun hh => hc ⟨hh.1, hh.2.1, by omega, hh.2.2.2⟩), if_neg (fun hh => hc ⟨hh.1, hh.2.1, by omega, by omega⟩)]
theorem put_105 {x1 x4 : Int64} {x3 x6 : Int32} {len K : Nat} (hK8 : K ≤ 8) (hl : len + K ≤ 80) : ∀ (n i m : Nat) (σ : wx_St), i + n = K → n < m → σ.2.2.1 16 9 = nI (len + i) → ∃ τ, f_X6_put_105 m x1 x3 x4 x6 (nI n - 1) σ = some (nI (len + K), τ) ∧ (∀ x k j, τ.1 x k j = if x = 16 ∧ k = 8 ∧ len + i ≤ j ∧ j < len + K then chr x1 (K - 1 - (j - len)) else σ.1 x k j) ∧ τ.2.1 = σ.2.1 ∧ (∀ x y, τ.2.2.1 x y = if x = 16 ∧ y = 9 then nI (len + K) else σ.2.2.1 x y) ∧ τ.2.2.2 = σ.2.2.2 := by
  intro n
  induction n with
  | zero =>
    intro i m σ hi hm h9
    obtain ⟨m, rfl⟩ : ∃ k, m = k + 1 := ⟨m - 1, by omega⟩
    have hi : i = K := by omega
    subst hi
    rw [f_X6_put_105, if_pos (by decide), h9]
    refine ⟨σ, rfl, fun x k j => ?_, rfl, fun x y => ?_, rfl⟩
    · rw [if_neg (by omega)]
    · by_cases hh : x = 16 ∧ y = 9
      · rw [if_pos hh, hh.1, hh.2, h9]
      · rw [if_neg hh]
  | succ n ih =>
    intro i m σ hi hm h9
    obtain ⟨m, rfl⟩ : ∃ k, m = k + 1 := ⟨m - 1, by omega⟩
    have e1 : nI (n + 1) - 1 = nI n := nI_sub (m := n + 1) (k := 1) (by omega)
    have e2 : nI n + (-1) = nI n - 1 := by
      have : ∀ n, n < 8 → nI n + (-1) = nI n - 1 := by decide
      exact this n (by omega)
    rw [f_X6_put_105, e1, if_neg (nI_pos (by omega)), h9, px_w (by omega) (by decide), nI_clamp (by omega), e2]
    have hc : ((((x1.toUInt64 >>> ((8 * nI n).toInt64.toUInt64 &&& Int64.toUInt64 63)).toInt64) &&& (255 : Int64)).toInt32) = chr x1 n := rfl
    rw [hc, px_l]
    have h9' : (wx_sI σ 16 8 (len + i) (chr x1 n)).2.2.1 16 9 + 1 = nI (len + (i + 1)) := by
      show σ.2.2.1 16 9 + 1 = _
      rw [h9, nI_1, Nat.add_assoc]
    rw [h9']
    obtain ⟨τ, t1, t2, t3, t4, t5⟩ := ih (i + 1) m (wx_sS (wx_sI σ 16 8 (len + i) (chr x1 n)) 16 9 (nI (len + (i + 1)))) (by omega) (by omega) rfl
    refine ⟨τ, t1, fun x k j => ?_, t3, fun x y => ?_, t5⟩
    · rw [t2]
      show (if x = 16 ∧ k = 8 ∧ len + (i + 1) ≤ j ∧ j < len + K then chr x1 (K - 1 - (j - len)) else if x = 16 ∧ k = 8 ∧ j = len + i then chr x1 n else σ.1 x k j) = _
      by_cases hc : x = 16 ∧ k = 8 ∧ len + i ≤ j ∧ j < len + K
      · rw [if_pos hc]
        by_cases hj : j = len + i
        · rw [if_neg (by omega), if_pos ⟨hc.1, hc.2.1, hj⟩, show K - 1 - (j - len) = n by omega]
        · rw [if_pos ⟨hc.1, hc.2.1, by omega, hc.2.2.2⟩]
      · rw [if_neg hc, if_neg (fun hh => hc ⟨hh.1, hh.2.1, by omega, hh.2.2.2⟩), if_neg (fun hh => hc ⟨hh.1, hh.2.1, by omega, by omega⟩)]
    · rw [t4]
      show (if x = 16 ∧ y = 9 then nI (len + K) else if x = 16 ∧ y = 9 then nI (len + (i + 1)) else σ.2.2.1 x y) = _
      by_cases hh : x = 16 ∧ y = 9
      · rw [if_pos hh, if_pos hh]
      · rw [if_neg hh, if_neg hh, if_neg hh]
theorem i_put (x1 : Int64) : two (f_X5_put x1) (f_X6_put x1) := by
  refine two.of (fun b n h v sl len c σ G iC iR => ?_)
  have G0 := G
  obtain ⟨gb, gn, gh, gs, gl, gc⟩ := G
  have a5 : f_X2_append x1 σ = _ := append5_loop (x1 := x1) (σ := σ) 8 0 2000 x1 (by omega) (by omega)
  have a6 : ∀ ν, f_X6_put x1 ν = _ := fun ν => put6_loop (x1 := x1) (σ := ν) 8 0 2000 x1 (by omega) (by omega)
  have same : ∀ r, f_X2_append x1 σ = some (r, σ) → (∀ ν, invR b n h v sl len c ν → f_X6_put x1 ν = some (r, ν)) → ∃ r σ1 b' n' h' v' sl' len' c', f_X5_put x1 σ = some (r, σ1) ∧ gA b' n' h' v' sl' len' c' ∧ invC b' n' h' v' sl' len' c' σ1 ∧ eqC σ σ1 ∧ (invR b n h v sl len c σ1 → ∃ σ2, f_X6_put x1 σ1 = some (r, σ2) ∧ invR b' n' h' v' sl' len' c' σ2 ∧ eqx 16 σ1 σ2) := fun r h1 h2 => ⟨r, σ, b, n, h, v, sl, len, c, by unfold f_X5_put; rw [px_b h1], G0, iC, eqC.rf σ, fun iR' => ⟨σ, h2 σ iR', iR', eqx.rf 16 σ⟩⟩
  cases hp : pk x1 8 0 with
  | none =>
    refine same (-2) (by rw [a5, hp]) (fun ν _ => by rw [a6, hp])
  | some Kr =>
    obtain ⟨K, r⟩ := Kr
    have hK := pkn_le 8 0 x1 K r (by omega) hp
    rw [hp] at a5
    have a6' : ∀ ν, f_X6_put x1 ν = f_X6_put_67 x1 (nI K) r 1 ν := fun ν => by rw [a6, hp]
    have a5' : f_X2_append x1 σ = f_X2_append_64 x1 (nI K) r σ := a5
    unfold f_X2_append_64 f_X2_append_75 at a5'
    unfold f_X6_put_67 f_X6_put_83 at a6'
    by_cases hK0 : K = 0
    · refine same (-2) (by rw [a5', if_pos (show nI K = 0 by rw [hK0]; rfl)]) (fun ν _ => by rw [a6', if_pos (show nI K = 0 by rw [hK0]; rfl)])
    · have hKn : ¬ nI K = 0 := nI_ne0 (by omega) (by omega)
      by_cases hr : lg_cmp r (0 : Int64) = 0
      · have a5'' : f_X2_append x1 σ = if nI (len + K) ≤ 80 then f_X2_append_95 2000 x1 (nI K) r 0 σ else some (-4, σ) := by
          rw [a5', if_neg hKn, if_pos hr, iC.2.2.2.1.1, nI_add]
        have a6'' : ∀ ν, invR b n h v sl len c ν → f_X6_put x1 ν = if nI (len + K) ≤ 80 then f_X6_put_105 2000 x1 (nI K) r 1 (nI K - 1) ν else some (-4, ν) := by
          intro ν iR'
          rw [a6', if_neg hKn, if_neg (by decide), if_pos hr, iR'.2.2.2.1, nI_add]
        by_cases hl : len + K ≤ 80
        · have hl' : nI (len + K) ≤ 80 := nI_le (b := 80) hl (by decide)
          obtain ⟨τ, t1, t2, t3, t4, t5⟩ := append_95 (x1 := x1) (x4 := r) (len := len) (K := K) (by omega) hK hl K 0 2000 σ (by omega) (by omega) iC.2.2.2.1.1
          have t1' : f_X2_append_95 2000 x1 (nI K) r 0 σ = some (nI (len + K), τ) := t1
          have ex : eqx 15 σ τ := ⟨fun x hx => ⟨by funext k j; rw [t2, if_neg (fun hh => hx hh.1)], by rw [t3], by funext y; rw [t4, if_neg (fun hh => hx hh.1)]⟩, t5⟩
          refine ⟨nI (len + K), τ, b, n, h, v, sl, len + K, chs x1 len K c K, by unfold f_X5_put; rw [a5'', if_pos hl', t1']; rfl, ⟨gb, gn, gh, gs, hl, fun _ _ => rfl⟩, iC.pad gn ex ⟨by rw [t4, if_pos ⟨rfl, rfl⟩], fun j hj => ?_⟩, ex.eqC (by decide), fun iR' => ?_⟩
          · rw [t2]
            show _ = if len ≤ j ∧ j < len + K then chr x1 (K - 1 - (j - len)) else c j
            by_cases hjl : len ≤ j
            · rw [if_pos ⟨rfl, rfl, by omega, hj⟩, if_pos ⟨hjl, hj⟩]
            · rw [if_neg (by omega), if_neg (by omega)]
              exact iC.2.2.2.1.2 j (by omega)
          · obtain ⟨ρ, r1, r2, r3, r4, r5⟩ := put_105 (x1 := x1) (x3 := nI K) (x4 := r) (x6 := 1) (len := len) (K := K) hK hl K 0 2000 τ (by omega) (by omega) iR'.2.2.2.1
            refine ⟨ρ, by rw [a6'' τ iR', if_pos hl', r1], iR'.pad (fun k hk => by funext j; rw [r2, if_neg (by omega)]) (by rw [r3]) (by rw [r4, if_neg (by omega)]) ⟨by rw [r4, if_pos ⟨rfl, rfl⟩], fun j hj => ?_⟩, ⟨fun x hx => ⟨by funext k j; rw [r2, if_neg (fun hh => hx hh.1)], by rw [r3], by funext y; rw [r4, if_neg (fun hh => hx hh.1)]⟩, r5⟩⟩
            rw [r2]
            show _ = if len ≤ j ∧ j < len + K then chr x1 (K - 1 - (j - len)) else c j
            by_cases hjl : len ≤ j
            · rw [if_pos ⟨rfl, rfl, by omega, hj⟩, if_pos ⟨hjl, hj⟩]
            · rw [if_neg (by omega), if_neg (by omega)]
              exact iR'.2.2.2.2 j (by omega)
        · have hl' : ¬ nI (len + K) ≤ 80 := nI_ge (a := 80) (by omega) (by omega)
          exact same (-4) (by rw [a5'', if_neg hl']) (fun ν iR' => by rw [a6'' ν iR', if_neg hl'])
      · refine same (-2) (by rw [a5', if_neg hKn, if_neg hr]) (fun ν _ => by rw [a6', if_neg hKn, if_neg (by decide), if_neg hr])
