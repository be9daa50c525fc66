/-! TURNS OF THE LAW: tracks, touches, mending -/
section turn
variable {ad : Nat → Nat → Nat} {K : Int64 → Int32 → wx_St → Option (Int32 × wx_St)} {t : Nat} {b : Bd} {σ : wx_St} {could : Int64} {x10 x11 x12 x13 x14 x15 : Int32}
def tHeld (b : Bd) (P : Nat) : Bool := (List.range (bT b)).any (fun i => decide (bP b i = P))
def nHeld (b : Bd) (P j : Nat) : Bool := (List.range j).any (fun i => nbr P (bP b i) && decide (bO b i = bN b P))
theorem need_h {b : Bd} (g : good b) {P : Nat} (hP : P < 64) : need b P = (tHeld b P || nHeld b P (bT b)) := by
  rw [Bool.eq_iff_iff, Bool.or_eq_true]
  unfold need tHeld nHeld
  simp only [List.any_eq_true, List.mem_range, decide_eq_true_eq, Bool.and_eq_true]
  constructor
  · rintro ⟨i, hi, h⟩
    unfold needI at h
    rw [Bool.or_eq_true, Bool.and_eq_true, decide_eq_true_eq, decide_eq_true_eq] at h
    rcases h with h | ⟨h1, h2⟩
    · exact Or.inl ⟨i, hi, h⟩
    · exact Or.inr ⟨i, hi, by rw [nbr_sym P hP _ (g.2.2.2.2.1 i hi).1]; exact h1, h2⟩
  · rintro (⟨i, hi, h⟩ | ⟨i, hi, h1, h2⟩)
    · refine ⟨i, hi, ?_⟩
      unfold needI
      rw [decide_eq_true h, Bool.true_or]
    · refine ⟨i, hi, ?_⟩
      unfold needI
      rw [nbr_sym P hP _ (g.2.2.2.2.1 i hi).1] at h1
      rw [h1, decide_eq_true h2]
      simp
theorem nHeld_s (b : Bd) (P j : Nat) : nHeld b P (j + 1) = (nHeld b P j || (nbr P (bP b j) && decide (bO b j = bN b P))) := by
  unfold nHeld
  rw [List.range_succ, List.any_append]
  simp
theorem k_A3 (hN : Nx K t) (ht : t < 34) (I : LI t could b σ) {R C N : Nat} (hR : R < 8) (hC : C < 8) (hNN : N < 8) {x17 x19 : Int32} (hx17 : x17 = nI N) : ∃ τ, (wx_b (f_X5_track (nI R) (nI C) x17 σ) (fun v254 σ254 => if b01 (need b (8 * R + C)) = 0 then
      wx_rI σ254 16 3 64 (nI (8 * R + C)) (fun v271 => f_L_law_272 ad K could (nI t) x10 x11 x12 (nI R) (nI C) (nI (8 * R + C)) 0 x17 (b01 (need b (8 * R + C))) x19 v254 v271 σ254)
     else
      f_L_law_272 ad K could (nI t) x10 x11 x12 (nI R) (nI C) (nI (8 * R + C)) 0 x17 (b01 (need b (8 * R + C))) x19 v254 (-5) σ254)) = some (1, τ) := by
  subst hx17
  have g := I.1.good
  have hP : 8 * R + C < 64 := by omega
  have gN := g.2.1 _ hP
  cases hn : need b (8 * R + C) with
  | true =>
    obtain ⟨σ1, e1, i1, i2, i3⟩ := I.call (k_trackn g hR hC hNN hn)
    rw [px_b e1, if_neg (show ¬ b01 true = 0 by decide)]
    unfold f_L_law_272
    rw [if_pos rfl, if_neg (show ¬ b01 true = 0 by decide)]
    unfold f_L_law_287
    rw [if_neg (show ¬ b01 true = 0 by decide), q_b i2 hP]
    unfold f_L_law_308
    rw [px_w hP (by decide), nI_clamp (by omega)]
    refine t0 (b := b) hN ht ⟨i1.r16 (ex_16 _ _ _ _), i2.of ?_, i3.ex (ex_16 _ _ _ _), I.2.2.2⟩
    funext y j
    rw [sI_16]
    by_cases h : y = 3 ∧ j = 8 * R + C
    · rw [if_pos h, h.1, h.2, i2.2.2.2.1 _ hP]
    · rw [if_neg h]
  | false =>
    obtain ⟨σ1, e1, i1, i2, i3⟩ := I.call (k_track g hR hC hNN hn)
    rw [px_b e1, if_pos (show b01 false = 0 from rfl), q_b i2 hP]
    unfold f_L_law_272
    rw [if_pos rfl, if_pos (show b01 false = 0 from rfl)]
    unfold f_L_law_287
    rw [if_pos (show b01 false = 0 from rfl)]
    unfold f_L_law_308
    rw [px_w hP (by decide), nI_clamp (by omega)]
    refine t1 (b := bLay b (8 * R + C) N) hN ht (i1.r16 (ex_16 _ _ _ _)) ?_ (i3.ex (ex_16 _ _ _ _)) rfl rfl
    obtain ⟨a1, a2, a3, a4, a5⟩ := i2.X
    refine ⟨fun i hi => ?_, ?_, fun i hi => ⟨?_, ?_⟩, fun p hp => ?_, fun n hn => ?_⟩
    · rw [sI_16, if_neg (by omega)]; exact a1 i hi
    · rw [sI_16, if_neg (by omega)]; exact a2
    · rw [sI_16, if_neg (by omega)]; exact (a3 i hi).1
    · rw [sI_16, if_neg (by omega)]; exact (a3 i hi).2
    · rw [sI_16]
      show _ = nI (if p = 8 * R + C then N else bN b p)
      by_cases h : p = 8 * R + C
      · rw [if_pos ⟨rfl, h⟩, if_pos h]
      · rw [if_neg (fun hh => h hh.2), if_neg h]; exact a4 p hp
    · rw [sI_16, if_neg (by omega)]; exact a5 n hn
theorem k_A2 (hN : Nx K t) (ht : t < 34) (I : LI t could b σ) {R C N : Nat} (hR : R < 8) (hC : C < 8) (hNN : N < 8) : ∀ (n j m : Nat), j + n = bT b → n < m → ∃ τ, f_L_law_191 ad K m could (nI t) x10 x11 x12 (nI R) (nI C) (nI (8 * R + C)) 0 (nI N) (b01 (tHeld b (8 * R + C) || nHeld b (8 * R + C) j)) (nI j) σ = some (1, τ) := by
  have g := I.1.good
  have gT := g.2.2.2.1
  have h := I.2.1
  have hP : 8 * R + C < 64 := by omega
  have gN := g.2.1 _ hP
  intro n
  induction n with
  | zero =>
    intro j m hj hm
    obtain ⟨m, rfl⟩ : ∃ k, m = k + 1 := ⟨m - 1, by omega⟩
    have : j = bT b := by omega
    subst this
    rw [f_L_law_191, q_T h, if_pos (nI_le (Nat.le_refl _) (by omega)), ← need_h g hP]
    exact k_A3 hN ht I hR hC hNN rfl
  | succ n ih =>
    intro j m hj hm
    obtain ⟨m, rfl⟩ : ∃ k, m = k + 1 := ⟨m - 1, by omega⟩
    have hjT : j < bT b := by omega
    obtain ⟨gP, gO1, gO, -⟩ := g.2.2.2.2.1 j hjT
    obtain ⟨τ, hτ⟩ := ih (j + 1) m (by omega) (by omega)
    refine ⟨τ, ?_⟩
    rw [← hτ, nHeld_s, ← Bool.or_assoc]
    have e239 : ∀ x18 y0, f_L_law_239 ad K (f_L_law_191 ad K m) could (nI t) x10 x11 x12 (nI R) (nI C) (nI (8 * R + C)) 0 (nI N) x18 (nI j) y0 σ = f_L_law_191 ad K m could (nI t) x10 x11 x12 (nI R) (nI C) (nI (8 * R + C)) 0 (nI N) y0 (nI (j + 1)) σ := by
      intro x18 y0
      unfold f_L_law_239
      rw [nI_1]
    rw [f_L_law_191, q_T h, if_neg (nI_ge hjT (by omega))]
    cases hh : (tHeld b (8 * R + C) || nHeld b (8 * R + C) j) with
    | true =>
      rw [if_neg (show ¬ b01 true = 0 by decide), Bool.true_or]
      unfold f_L_law_234
      exact e239 _ _
    | false =>
      rw [if_pos (show b01 false = 0 from rfl), q_P h g hjT, px_o (near_eq _ hP _ gP), Bool.false_or]
      cases hb : nbr (8 * R + C) (bP b j) with
      | false =>
        rw [if_pos (show b01 false = 0 from rfl), Bool.false_and]
        unfold f_L_law_238
        exact e239 _ _
      | true =>
        rw [if_neg (show ¬ b01 true = 0 by decide), q_O h g hjT, q_b h hP, Bool.true_and]
        by_cases ho : bO b j = bN b (8 * R + C)
        · rw [if_pos (by rw [ho]), decide_eq_true ho]
          unfold f_L_law_234
          exact e239 _ _
        · rw [if_neg (fun q => ho ((nI_eq (by omega) (by omega)).mp q)), decide_eq_false ho]
          unfold f_L_law_238
          exact e239 _ _
theorem k_A (hN : Nx K t) (ht : t < 34) (I : LI t could b σ) {R C N : Nat} (hR : R < 8) (hC : C < 8) (hNN : N < 8) : ∃ τ, (wx_o (f_L_touch (nI (8 * R + C)) σ) (fun v175 => if v175 < 0 then
      f_L_law_186 ad K could (nI t) x10 x11 x12 (nI R) (nI C) (nI (8 * R + C)) 0 (nI N) 0 σ
     else
      f_L_law_186 ad K could (nI t) x10 x11 x12 (nI R) (nI C) (nI (8 * R + C)) 0 (nI N) 1 σ)) = some (1, τ) := by
  have g := I.1.good
  have gT := g.2.2.2.1
  have hP : 8 * R + C < 64 := by omega
  obtain ⟨r, r1, r2⟩ := ltouch_eq I.2.1 g hP
  obtain ⟨τ, hτ⟩ := k_A2 (x10 := x10) (x11 := x11) (x12 := x12) (ad := ad) hN ht I hR hC hNN (bT b) 0 2000 (by omega) (by omega)
  refine ⟨τ, ?_⟩
  rw [px_o r1, ← hτ]
  have e0 : nHeld b (8 * R + C) 0 = false := rfl
  rw [e0, Bool.or_false]
  unfold f_L_law_186
  rcases r2 with ⟨i, hi, hp, hr⟩ | ⟨hno, hr⟩
  · have : tHeld b (8 * R + C) = true := by
      unfold tHeld
      rw [List.any_eq_true]
      exact ⟨i, List.mem_range.mpr hi, decide_eq_true hp⟩
    rw [hr, if_neg (nI_pos (by omega)), this]
    rfl
  · have : tHeld b (8 * R + C) = false := by
      unfold tHeld
      rw [List.any_eq_false]
      intro i hi
      rw [decide_eq_false (hno i (List.mem_range.mp hi))]
      simp
    rw [hr, if_pos (by decide), this]
    rfl
/-! touches -/
theorem k_C2 (hN : Nx K t) (ht : t < 34) (I : LI t could b σ) {R C N : Nat} (hR : R < 8) (hC : C < 8) (h1 : 1 ≤ N) (h8 : N < 8) : ∃ τ, f_L_law_533 ad K could (nI t) x10 x11 x12 (nI R) (nI C) (nI (8 * R + C)) 0 (nI N) (b01 (!notJ b (8 * R + C) N)) σ = some (1, τ) := by
  have g := I.1.good
  have gT := g.2.2.2.1
  have hP : 8 * R + C < 64 := by omega
  unfold f_L_law_533
  cases hn : notJ b (8 * R + C) N with
  | true =>
    obtain ⟨σ1, e1, i1, i2, i3⟩ := I.call (k_touchn g hR hC h1 h8 hn)
    rw [px_b e1, if_pos (show b01 (!true) = 0 from rfl)]
    unfold f_L_law_570
    rw [if_pos rfl, if_pos (show b01 (!true) = 0 from rfl)]
    unfold f_L_law_617
    exact t0 hN ht ⟨i1, i2, i3, I.2.2.2⟩
  | false =>
    by_cases hT : bT b < 3
    · obtain ⟨σ1, e1, i1, i2, i3⟩ := I.call (k_touch g hR hC h1 h8 hn hT)
      rw [px_b e1, if_neg (show ¬ b01 (!false) = 0 by decide), q_T i2, if_neg (show ¬ nI (bT b) = 3 from fun hh => by have := (nI_eq (b := 3) (by omega) (by decide)).mp hh; omega), q_T i2]
      unfold f_L_law_570
      have ex1 := ex_16 σ1 1 (2 * bT b) (nI (8 * R + C))
      have ex2 := ex_16 (wx_sI σ1 16 1 (2 * bT b) (nI (8 * R + C))) 1 (2 * bT b + 1) (nI N)
      have ex3 := ex_16 (wx_sI (wx_sI σ1 16 1 (2 * bT b) (nI (8 * R + C))) 16 1 (2 * bT b + 1) (nI N)) 0 5 (nI (bT b + 1))
      have e5 : (wx_sI σ1 16 1 (2 * bT b) (nI (8 * R + C))).1 16 0 5 = nI (bT b) := by
        rw [sI_16, if_neg (by omega)]; exact i2.1.2.2.1
      have e5' : (wx_sI (wx_sI σ1 16 1 (2 * bT b) (nI (8 * R + C))) 16 1 (2 * bT b + 1) (nI N)).1 16 0 5 = nI (bT b) := by
        rw [sI_16, if_neg (by omega)]; exact e5
      rw [if_pos rfl, if_neg (show ¬ b01 (!false) = 0 by decide), q_T i2, if_neg (show ¬ (3 : Int32) ≤ nI (bT b) from nI_ge (b := 3) hT (by decide)), q_T i2, nI_2, px_w (by omega) (by decide), nI_clamp (by omega), show (5 : Int32) = nI 5 from rfl, px_rI (by decide) (by decide), e5, nI_2, nI_1, px_w (by omega) (by decide), nI_clamp (by omega), px_rI (by decide) (by decide), e5', nI_1, px_w (by decide) (by decide), nI_clamp (by decide)]
      unfold f_L_law_617
      refine t1 (b := bJoin b (8 * R + C) N) hN ht (((i1.r16 ex1).r16 ex2).r16 ex3) ?_ (((i3.ex ex1).ex ex2).ex ex3) rfl rfl
      obtain ⟨a1, a2, a3, a4, a5⟩ := i2.X
      refine ⟨fun i hi => ?_, ?_, fun i hi => ⟨?_, ?_⟩, fun p hp => ?_, fun n hn => ?_⟩
      · rw [sI_16, sI_16, sI_16, if_neg (by omega), if_neg (by omega), if_neg (by omega)]; exact a1 i hi
      · rw [sI_16, if_pos ⟨rfl, rfl⟩]; rfl
      · have hi : i < bT b + 1 := hi
        rw [sI_16, sI_16, sI_16, if_neg (by omega), if_neg (by omega)]
        show _ = nI (if i = bT b then 8 * R + C else bP b i)
        by_cases he : i = bT b
        · rw [if_pos ⟨rfl, by omega⟩, if_pos he]
        · rw [if_neg (by omega), if_neg he]
          exact (a3 i (by omega)).1
      · have hi : i < bT b + 1 := hi
        rw [sI_16, sI_16, if_neg (by omega)]
        show _ = nI (if i = bT b then N else bO b i)
        by_cases he : i = bT b
        · rw [if_pos ⟨rfl, by omega⟩, if_pos he]
        · rw [if_neg (by omega), sI_16, if_neg (by omega), if_neg he]
          exact (a3 i (by omega)).2
      · rw [sI_16, sI_16, sI_16, if_neg (by omega), if_neg (by omega), if_neg (by omega)]; exact a4 p hp
      · rw [sI_16, sI_16, sI_16, if_neg (by omega), if_neg (by omega), if_neg (by omega)]; exact a5 n hn
    · obtain ⟨σ1, e1, i1, i2, i3⟩ := I.call (k_touchf g hR hC h1 h8 hn hT)
      have h3 : nI (bT b) = 3 := by rw [show bT b = 3 by omega]; rfl
      rw [px_b e1, if_neg (show ¬ b01 (!false) = 0 by decide), q_T i2, if_pos h3]
      unfold f_L_law_570
      rw [if_pos rfl, if_neg (show ¬ b01 (!false) = 0 by decide), q_T i2, if_pos (by rw [h3]; decide)]
      unfold f_L_law_617
      exact t0 hN ht ⟨i1, i2, i3, I.2.2.2⟩
theorem hnL_bsd {b : Bd} {P N s : Nat} (hP : P < 64) (hs : s < 4) (h1 : 1 ≤ N) : hnL b P N s = decide (bsd b P s = N) := by
  unfold hnL bsd
  rcases (sp_nl_v P hP s hs).2 with e | ⟨n, hn, e⟩
  · rw [e]
    have : ¬ 0 = N := by omega
    simp [this]
  · rw [e]
    simp
theorem k_C (hN : Nx K t) (ht : t < 34) (I : LI t could b σ) {R C N : Nat} (hR : R < 8) (hC : C < 8) (h1 : 1 ≤ N) (h8 : N < 8) : ∃ τ, (wx_rI σ 16 3 64 (nI (8 * R + C)) (fun v452 => if v452 ≤ 0 then
          f_L_law_532 ad K could (nI t) x10 x11 x12 (nI R) (nI C) (nI (8 * R + C)) 0 (nI N) σ
         else
          wx_rI σ 16 3 64 (nI (8 * R + C)) (fun v460 => if v460 = (nI N) then
            f_L_law_532 ad K could (nI t) x10 x11 x12 (nI R) (nI C) (nI (8 * R + C)) 0 (nI N) σ
           else
            wx_o (f_L_touch (nI (8 * R + C)) σ) (fun v470 => if 0 ≤ v470 then
              f_L_law_532 ad K could (nI t) x10 x11 x12 (nI R) (nI C) (nI (8 * R + C)) 0 (nI N) σ
             else
              wx_o (f_L_beside (nI (8 * R + C)) 0 σ) (fun v481 => if v481 = (nI N) then
                f_L_law_528 ad K could (nI t) x10 x11 x12 (nI R) (nI C) (nI (8 * R + C)) 0 (nI N) σ
               else
                wx_o (f_L_beside (nI (8 * R + C)) 1 σ) (fun v494 => if v494 = (nI N) then
                  f_L_law_528 ad K could (nI t) x10 x11 x12 (nI R) (nI C) (nI (8 * R + C)) 0 (nI N) σ
                 else
                  wx_o (f_L_beside (nI (8 * R + C)) 2 σ) (fun v507 => if v507 = (nI N) then
                    f_L_law_528 ad K could (nI t) x10 x11 x12 (nI R) (nI C) (nI (8 * R + C)) 0 (nI N) σ
                   else
                    wx_o (f_L_beside (nI (8 * R + C)) 3 σ) (fun v520 => if v520 = (nI N) then
                      f_L_law_528 ad K could (nI t) x10 x11 x12 (nI R) (nI C) (nI (8 * R + C)) 0 (nI N) σ
                     else
                      f_L_law_532 ad K could (nI t) x10 x11 x12 (nI R) (nI C) (nI (8 * R + C)) 0 (nI N) σ)))))))) = some (1, τ) := by
  have g := I.1.good
  have gT := g.2.2.2.1
  have h := I.2.1
  have hP : 8 * R + C < 64 := by omega
  have gN := g.2.1 _ hP
  obtain ⟨τ, hτ⟩ := k_C2 (x10 := x10) (x11 := x11) (x12 := x12) (ad := ad) hN ht I hR hC h1 h8
  refine ⟨τ, ?_⟩
  have no : notJ b (8 * R + C) N = true → f_L_law_532 ad K could (nI t) x10 x11 x12 (nI R) (nI C) (nI (8 * R + C)) 0 (nI N) σ = some (1, τ) := by
    intro hn
    rw [hn] at hτ
    exact hτ
  have yes : notJ b (8 * R + C) N = false → f_L_law_528 ad K could (nI t) x10 x11 x12 (nI R) (nI C) (nI (8 * R + C)) 0 (nI N) σ = some (1, τ) := by
    intro hn
    rw [hn] at hτ
    exact hτ
  obtain ⟨r, r1, r2⟩ := ltouch_eq h g hP
  have r3 := r2.some g
  have b0 := beside_eq h hP (s := 0) (by decide)
  have b1 := beside_eq h hP (s := 1) (by decide)
  have b2 := beside_eq h hP (s := 2) (by decide)
  have b3 := beside_eq h hP (s := 3) (by decide)
  have l0 := bsd_lt g hP (s := 0) (by decide)
  have l1 := bsd_lt g hP (s := 1) (by decide)
  have l2 := bsd_lt g hP (s := 2) (by decide)
  have l3 := bsd_lt g hP (s := 3) (by decide)
  have enb : hnb b (8 * R + C) N = (decide (bsd b (8 * R + C) 0 = N) || decide (bsd b (8 * R + C) 1 = N) || decide (bsd b (8 * R + C) 2 = N) || decide (bsd b (8 * R + C) 3 = N)) := by
    unfold hnb
    rw [hnL_bsd hP (by decide) h1, hnL_bsd hP (by decide) h1, hnL_bsd hP (by decide) h1, hnL_bsd hP (by decide) h1]
  rw [q_b h hP, q_b h hP, px_o r1, show (0 : Int32) = nI 0 from rfl, show (1 : Int32) = nI 1 from rfl, show (2 : Int32) = nI 2 from rfl, show (3 : Int32) = nI 3 from rfl, px_o b0, px_o b1, px_o b2, px_o b3]
  have no : notJ b (8 * R + C) N = true → f_L_law_532 ad K could (nI t) x10 x11 x12 (nI R) (nI C) (nI (8 * R + C)) (nI 0) (nI N) σ = some (nI 1, τ) := no
  have yes : notJ b (8 * R + C) N = false → f_L_law_528 ad K could (nI t) x10 x11 x12 (nI R) (nI C) (nI (8 * R + C)) (nI 0) (nI N) σ = some (nI 1, τ) := yes
  have eJ : notJ b (8 * R + C) N = (decide (bN b (8 * R + C) = 0) || decide (bN b (8 * R + C) = N) || (List.range (bT b)).any (fun i => decide (bP b i = 8 * R + C)) || !hnb b (8 * R + C) N) := rfl
  by_cases c1 : bN b (8 * R + C) = 0
  · rw [if_pos (show nI (bN b (8 * R + C)) ≤ nI 0 from (nI_le0 _ gN).mpr c1)]
    exact no (by rw [eJ, decide_eq_true c1]; simp)
  · rw [if_neg (show ¬ nI (bN b (8 * R + C)) ≤ nI 0 from fun hh => c1 ((nI_le0 _ gN).mp hh))]
    by_cases c2 : bN b (8 * R + C) = N
    · rw [if_pos (by rw [c2])]
      exact no (by rw [eJ, decide_eq_true c2]; simp)
    · rw [if_neg (fun hh => c2 ((nI_eq (by omega) (by omega)).mp hh))]
      cases c3 : (List.range (bT b)).any (fun i => decide (bP b i = 8 * R + C)) with
      | true =>
        have hr : nI 0 ≤ r := by
          rcases r2 with ⟨i, hi, hp, hr⟩ | ⟨hno, hr⟩
          · rw [hr]; exact nI_le (Nat.zero_le _) (by omega)
          · rw [r3.mp hr] at c3; cases c3
        rw [if_pos hr]
        exact no (by rw [eJ, c3]; simp)
      | false =>
        rw [if_neg (show ¬ nI 0 ≤ r by rw [r3.mpr c3]; decide)]
        have eJ2 : notJ b (8 * R + C) N = !hnb b (8 * R + C) N := by
          rw [eJ, c3, decide_eq_false c1, decide_eq_false c2]
          simp
        rw [enb] at eJ2
        by_cases d0 : bsd b (8 * R + C) 0 = N
        · rw [if_pos (by rw [d0])]
          exact yes (by rw [eJ2, decide_eq_true d0]; simp)
        · rw [if_neg (fun hh => d0 ((nI_eq (by omega) (by omega)).mp hh))]
          by_cases d1 : bsd b (8 * R + C) 1 = N
          · rw [if_pos (by rw [d1])]
            exact yes (by rw [eJ2, decide_eq_true d1]; simp)
          · rw [if_neg (fun hh => d1 ((nI_eq (by omega) (by omega)).mp hh))]
            by_cases d2 : bsd b (8 * R + C) 2 = N
            · rw [if_pos (by rw [d2])]
              exact yes (by rw [eJ2, decide_eq_true d2]; simp)
            · rw [if_neg (fun hh => d2 ((nI_eq (by omega) (by omega)).mp hh))]
              by_cases d3 : bsd b (8 * R + C) 3 = N
              · rw [if_pos (by rw [d3])]
                exact yes (by rw [eJ2, decide_eq_true d3]; simp)
              · rw [if_neg (fun hh => d3 ((nI_eq (by omega) (by omega)).mp hh))]
                exact no (by rw [eJ2, decide_eq_false d0, decide_eq_false d1, decide_eq_false d2, decide_eq_false d3]; rfl)
end turn
