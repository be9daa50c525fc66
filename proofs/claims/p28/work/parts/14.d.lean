/-! TURNS OF THE LAW: a probe, and the whole loop -/
section turn
variable {ad : Nat → Nat → Nat} {K : Int64 → Int32 → wx_St → Option (Int32 × wx_St)} {t : Nat} {b : Bd} {x10 x11 x12 : Int32}
def PI (b : Bd) (P v : Nat) (c0 : Int64) (k : Nat) (could : Int64) : Prop := ∀ p, p < 64 → mk could p = (mk c0 p && (decide (k ≤ p) || !sus b p || nf b P v p))
theorem PI.next {b : Bd} {P v : Nat} {c0 could : Int64} {k : Nat} (h : PI b P v c0 k could) (hk : sus b k = false ∨ nf b P v k = true) : PI b P v c0 (k + 1) could := by
  intro p hp
  rw [h p hp]
  by_cases hpk : p = k
  · subst hpk
    rw [decide_eq_true (Nat.le_refl p), decide_eq_false (show ¬ p + 1 ≤ p by omega)]
    rcases hk with hk | hk
    · rw [hk]; simp
    · rw [hk]; simp
  · by_cases h1 : k ≤ p
    · rw [decide_eq_true h1, decide_eq_true (show k + 1 ≤ p by omega)]
    · rw [decide_eq_false h1, decide_eq_false (show ¬ k + 1 ≤ p by omega)]
theorem PI.clr {b : Bd} {P v : Nat} {c0 could : Int64} {k : Nat} (h : PI b P v c0 k could) (hk : k < 64) (h1 : sus b k = true) (h2 : nf b P v k = false) : PI b P v c0 (k + 1) (could &&& (((1 : Int64) <<< ((nI k).toInt64 &&& 63)) ^^^ (-1 : Int64))) := by
  intro p hp
  rw [mk_clr could hk hp, h p hp]
  by_cases hpk : p = k
  · subst hpk
    rw [decide_eq_true rfl, decide_eq_false (show ¬ p + 1 ≤ p by omega), h1, h2]
    simp
  · rw [decide_eq_false hpk, Bool.not_false, Bool.and_true]
    by_cases h1 : k ≤ p
    · rw [decide_eq_true h1, decide_eq_true (show k + 1 ≤ p by omega)]
    · rw [decide_eq_false h1, decide_eq_false (show ¬ k + 1 ≤ p by omega)]
theorem PI.co {b : Bd} {P v : Nat} {c0 could : Int64} (h : PI b P v c0 64 could) (co : CO c0 b) : CO could (bRead b P v) := by
  intro p hp
  rw [cb_read, co p hp, h p hp, decide_eq_false (show ¬ 64 ≤ p by omega)]
  show _ = (sus b p && _)
  cases sus b p <;> cases mk c0 p <;> cases nf b P v p <;> rfl
theorem rc_k : ∀ k, k < 64 → nI k / 8 = nI (k / 8) ∧ nI k - nI k / 8 * 8 = nI (k % 8) := by decide +kernel
theorem probe_loop (hN : Nx K t) (ht : t < 34) {R C v : Nat} {c0 : Int64} (g : good b) (co : CO c0 b) (hR : R < 8) (hC : C < 8) (hv : v < 2 ^ 31) (w3 : rdf (bWarm b (8 * R + C)) = nI v) :
    ∀ (n k m : Nat) (could : Int64) (σ : wx_St), k + n = 64 → n < m → IC (bRead b (8 * R + C) v) σ → LR (bRead b (8 * R + C) v) σ → TL t σ → PI b (8 * R + C) v c0 k could → ∃ τ, f_L_law_918 ad K m could (nI t) x10 x11 x12 (nI R) (nI C) (nI (8 * R + C)) 0 (nI v) (nI k) σ = some (1, τ) := by
  have hP : 8 * R + C < 64 := by omega
  have gK := g.2.2.2.2.2.2.1
  have gT := g.2.2.2.1
  have gS := g.1
  intro n
  induction n with
  | zero =>
    intro k m could σ hk hm i l tl pi
    obtain ⟨m, rfl⟩ : ∃ k, m = k + 1 := ⟨m - 1, by omega⟩
    have : k = 64 := by omega
    subst this
    rw [f_L_law_918, if_pos (by decide)]
    unfold f_L_law_1057
    exact t0 hN ht ⟨i, l, tl, pi.co co⟩
  | succ n ih =>
    intro k m could σ hk hm i l tl pi
    obtain ⟨m, rfl⟩ : ∃ k, m = k + 1 := ⟨m - 1, by omega⟩
    have hk64 : k < 64 := by omega
    have gb := i.good
    have es : sus (bRead b (8 * R + C) v) k = sus b k := rfl
    rw [f_L_law_918, if_neg (show ¬ (64 : Int32) ≤ nI k from nI_ge (a := k) (b := 64) hk64 (by decide)), px_o (lsus_eq l gb hk64), es]
    cases hs : sus b k with
    | false =>
      rw [if_pos (show b01 false = 0 from rfl)]
      unfold f_L_law_1051
      rw [nI_1]
      exact ih (k + 1) m could σ (by omega) (by omega) i l tl (pi.next (Or.inl hs))
    | true =>
      obtain ⟨k1, k2⟩ := rc_k k hk64
      have hkd : 8 * (k / 8) + k % 8 = k := by omega
      have hw := wouldRead5 (b := bRead b (8 * R + C) v) (R := R) (C := C) (R' := k / 8) (C' := k % 8) hR hC (by omega) (by omega) (by rw [hkd, es]; exact hs)
      obtain ⟨σ1, e1, i1, q1⟩ := hw σ i
      rw [hkd] at e1
      have l1 := l.of q1.1.1
      have tl1 : TL t σ1 := tl.of (fun j hj => (q1.2 j).2 hj)
      have ok : okW (rl b k (bK b) (8 * R + C)) := rd_ok g.set (by omega) hP
      obtain ⟨-, a, ha, ea⟩ := ok
      have ea' : rdf (rl (bRead b (8 * R + C) v) k (bK (bRead b (8 * R + C) v)) (8 * R + C)) = nI a := ea
      rw [ea'] at e1
      rw [if_neg (show ¬ b01 true = 0 by decide), k2, k1, px_b e1]
      have enf : nf b (8 * R + C) v k = decide (((a : Int) - (v : Int)).natAbs ≤ bS b 3) := by
        unfold nf
        rw [ea, nI_toInt ha]
      have hbc := by_c ha hv gS.2.2.2.2
      -- behind the two bounds
      have e1051 : ∀ c, PI b (8 * R + C) v c0 (k + 1) c → ∃ τ, f_L_law_1051 ad K (f_L_law_918 ad K m) c (nI t) x10 x11 x12 (nI R) (nI C) (nI (8 * R + C)) 0 (nI v) (nI k) σ1 = some (1, τ) := by
        intro c hc
        unfold f_L_law_1051
        rw [nI_1]
        exact ih (k + 1) m c σ1 (by omega) (by omega) i1 l1 tl1 hc
      have e993 : ∀ c, PI b (8 * R + C) v c0 (k + 1) c → ∃ τ, f_L_law_993 ad K (f_L_law_918 ad K m) c (nI t) x10 x11 x12 (nI R) (nI C) (nI (8 * R + C)) 0 (nI v) (nI k) (nI a - nI v) σ1 = some (1, τ) := by
        intro c hc
        obtain ⟨τ, hτ⟩ := e1051 c hc
        refine ⟨τ, ?_⟩
        unfold f_L_law_993
        have ell : cnt (live (bRead b (8 * R + C) v)) (bT (bRead b (8 * R + C) v)) = cnt (live b) (bT b) := rfl
        rw [px_o (llive_eq l1 gb), ell]
        by_cases hl : cnt (live b) (bT b) = 1
        · obtain ⟨r, r1, r2⟩ := ltouch_eq l1 gb hk64
          rw [if_pos (by rw [hl]; rfl), px_o r1]
          rcases ta_heat gb r2 with ⟨e, -⟩ | ⟨j, hj, hp, e, -⟩
          · rw [e, if_pos (by decide)]
            exact hτ
          · have hj : j < bT b := hj
            have hp : bP b j = k := hp
            obtain ⟨gP, gO1, gO, -⟩ := g.2.2.2.2.1 j hj
            have eO : bO (bRead b (8 * R + C) v) j = bO b j := rfl
            have eN : bN (bRead b (8 * R + C) v) k = bN b k := rfl
            have eF : bF (bRead b (8 * R + C) v) = bF b := rfl
            have el : live b j = (bF b (bN b k)).testBit (bO b j) := by unfold live; rw [hp]
            rw [e, if_neg (nI_pos (by omega)), q_b l1 hk64, q_O l1 gb hj, eO, eN, px_o (lfed_eq l1 gb (g.2.1 k hk64) gO), eF, ← el]
            cases hlj : live b j with
            | false =>
              rw [if_pos (show b01 false = 0 from rfl)]
              exact hτ
            | true =>
              have hav : a = v := by
                have hh := heat_one g hl hj hlj
                rw [hp] at hh
                have ew : bWarm b (8 * R + C) = rl b k (bK b) (8 * R + C) := by
                  unfold bWarm rl
                  exact runs_congr (fun q _ => hh q) (bK b) _ hP
                rw [ew, ea] at w3
                exact (nI_eq ha hv).mp w3
              rw [if_neg (show ¬ b01 true = 0 by decide), if_pos (by rw [hav, nI_sub (Nat.le_refl v), Nat.sub_self]; rfl)]
              exact hτ
        · have hc3 := cnt_le (live b) (bT b)
          rw [if_neg (show ¬ nI (cnt (live b) (bT b)) = 1 from fun hh => hl ((nI_eq (b := 1) (by omega) (by decide)).mp hh))]
          exact hτ
      have e980 : nf b (8 * R + C) v k = false → ∃ τ, f_L_law_980 ad K (f_L_law_918 ad K m) could (nI t) x10 x11 x12 (nI R) (nI C) (nI (8 * R + C)) 0 (nI v) (nI k) (nI a - nI v) σ1 = some (1, τ) := by
        intro h0
        unfold f_L_law_980
        exact e993 _ (pi.clr hk64 hs h0)
      unfold f_L_law_958
      have e3 : bS (bRead b (8 * R + C) v) 3 = bS b 3 := rfl
      rw [q_S3 l1, q_S3 l1, e3]
      by_cases h1 : nI (bS b 3) < nI a - nI v
      · rw [if_pos h1]
        exact e980 (by rw [enf]; exact decide_eq_false (fun hh => (hbc.mpr hh).1 h1))
      · rw [if_neg h1]
        by_cases h2 : -(nI a - nI v) ≤ nI (bS b 3)
        · rw [if_pos h2]
          exact e993 _ (pi.next (Or.inr (by rw [enf]; exact decide_eq_true (hbc.mp ⟨h1, h2⟩))))
        · rw [if_neg h2]
          exact e980 (by rw [enf]; exact decide_eq_false (fun hh => h2 (hbc.mpr hh).2))
variable {σ : wx_St} {could : Int64}
theorem k_F (hN : Nx K t) (ht : t < 34) (I : LI t could b σ) {R C : Nat} (hR : R < 8) (hC : C < 8) : ∃ τ, wx_b (f_X5_at (nI R) (nI C) 2 σ) (fun v826 σ826 => f_L_law_829 ad K could (nI t) x10 x11 x12 (nI R) (nI C) (nI (8 * R + C)) 0 v826 σ826) = some (1, τ) := by
  have g := I.1.good
  have gR := g.2.2.2.2.2.2.2.1
  have gK := g.2.2.2.2.2.2.1
  have hP : 8 * R + C < 64 := by omega
  obtain ⟨σ0, e0, j1, j2, j3⟩ := I.call (at5_2 (b := b) hR hC)
  have I0 : LI t could b σ0 := ⟨j1, j2, j3, I.2.2.2⟩
  obtain ⟨-, v, hv, w3⟩ := warm_ok g hP
  rw [px_b e0, w3]
  unfold f_L_law_829
  by_cases hr : bR b < 8
  · obtain ⟨σ1, e1, i1, i2, i3⟩ := I0.call (k_probe g hR hC hr hv w3)
    rw [px_b e1, q_R i2, if_neg (show ¬ nI (bR b) = 8 from fun hh => by have := (nI_eq (b := 8) (by omega) (by decide)).mp hh; omega)]
    unfold f_L_law_855
    have x1 := ex_16 σ1 2 (3 * bR b) (nI (8 * R + C))
    have x2 := ex_16 (wx_sI σ1 16 2 (3 * bR b) (nI (8 * R + C))) 2 (3 * bR b + 1) (nI v)
    have x3 := ex_16 (wx_sI (wx_sI σ1 16 2 (3 * bR b) (nI (8 * R + C))) 16 2 (3 * bR b + 1) (nI v)) 2 (3 * bR b + 2) (nI (bK b))
    have x4 := ex_16 (wx_sI (wx_sI (wx_sI σ1 16 2 (3 * bR b) (nI (8 * R + C))) 16 2 (3 * bR b + 1) (nI v)) 16 2 (3 * bR b + 2) (nI (bK b))) 0 6 (nI (bR b + 1))
    have q6 := i2.1.2.2.2
    have q4 := i2.1.2.1
    have a6 : (wx_sI σ1 16 2 (3 * bR b) (nI (8 * R + C))).1 16 0 6 = nI (bR b) := by rw [sI_16, if_neg (by omega)]; exact q6
    have b6 : (wx_sI (wx_sI σ1 16 2 (3 * bR b) (nI (8 * R + C))) 16 2 (3 * bR b + 1) (nI v)).1 16 0 6 = nI (bR b) := by rw [sI_16, if_neg (by omega)]; exact a6
    have b4 : (wx_sI (wx_sI σ1 16 2 (3 * bR b) (nI (8 * R + C))) 16 2 (3 * bR b + 1) (nI v)).1 16 0 4 = nI (bK b) := by rw [sI_16, if_neg (by omega), sI_16, if_neg (by omega)]; exact q4
    have c6 : (wx_sI (wx_sI (wx_sI σ1 16 2 (3 * bR b) (nI (8 * R + C))) 16 2 (3 * bR b + 1) (nI v)) 16 2 (3 * bR b + 2) (nI (bK b))).1 16 0 6 = nI (bR b) := by rw [sI_16, if_neg (by omega)]; exact b6
    have e32 : nI (3 * bR b) + 2 = nI (3 * bR b + 2) := nI_add _ 2
    rw [if_pos rfl, q_R i2, if_neg (show ¬ (8 : Int32) ≤ nI (bR b) from nI_ge (b := 8) hr (by decide)), q_R i2, nI_3, px_w (by omega) (by decide), nI_clamp (by omega), show (6 : Int32) = nI 6 from rfl, px_rI (by decide) (by decide), a6, nI_3, nI_1, px_w (by omega) (by decide), nI_clamp (by omega), px_rI (by decide) (by decide), b6, show (4 : Int32) = nI 4 from rfl, px_rI (by decide) (by decide), b4, nI_3, e32, px_w (by omega) (by decide), nI_clamp (by omega), px_rI (by decide) (by decide), c6, nI_1, px_w (by decide) (by decide), nI_clamp (by decide)]
    refine probe_loop hN ht g I.2.2.2 hR hC hv w3 64 0 2000 could _ (by decide) (by decide) ((((i1.r16 x1).r16 x2).r16 x3).r16 x4) ?_ ((((i3.ex x1).ex x2).ex x3).ex x4) (fun p hp => by rw [decide_eq_true (Nat.zero_le p)]; simp)
    obtain ⟨⟨a1, a2, a3, a4⟩, a5, a6, a7, a8⟩ := i2
    refine ⟨⟨fun i hi => ?_, ?_, ?_, ?_⟩, fun i hi => ⟨?_, ?_⟩, fun i hi => ?_, fun p hp => ?_, fun n hn => ?_⟩
    · rw [sI_16, sI_16, sI_16, sI_16, if_neg (by omega), if_neg (by omega), if_neg (by omega), if_neg (by omega)]; exact a1 i hi
    · rw [sI_16, sI_16, sI_16, sI_16, if_neg (by omega), if_neg (by omega), if_neg (by omega), if_neg (by omega)]; exact a2
    · rw [sI_16, sI_16, sI_16, sI_16, if_neg (by omega), if_neg (by omega), if_neg (by omega), if_neg (by omega)]; exact a3
    · rw [sI_16, if_pos ⟨rfl, rfl⟩]; rfl
    · rw [sI_16, sI_16, sI_16, sI_16, if_neg (by omega), if_neg (by omega), if_neg (by omega), if_neg (by omega)]; exact (a5 i hi).1
    · rw [sI_16, sI_16, sI_16, sI_16, if_neg (by omega), if_neg (by omega), if_neg (by omega), if_neg (by omega)]; exact (a5 i hi).2
    · have hi : i < bR b + 1 := hi
      refine ⟨?_, ?_, ?_⟩
      · rw [sI_16, if_neg (by omega), sI_16, if_neg (by omega), sI_16, if_neg (by omega), sI_16]
        show _ = nI (if i = bR b then 8 * R + C else bA b i)
        by_cases he : i = bR b
        · rw [if_pos ⟨rfl, by omega⟩, if_pos he]
        · rw [if_neg (show ¬ ((2 : Nat) = 2 ∧ 3 * i = 3 * bR b) by omega), if_neg he]
          exact (a6 i (by omega)).1
      · rw [sI_16, if_neg (by omega), sI_16, if_neg (by omega), sI_16]
        show _ = nI (if i = bR b then v else bB b i)
        by_cases he : i = bR b
        · rw [if_pos ⟨rfl, by omega⟩, if_pos he]
        · rw [if_neg (show ¬ ((2 : Nat) = 2 ∧ 3 * i + 1 = 3 * bR b + 1) by omega), sI_16, if_neg (by omega), if_neg he]
          exact (a6 i (by omega)).2.1
      · rw [sI_16, if_neg (by omega), sI_16]
        show _ = nI (if i = bR b then bK b else bC b i)
        by_cases he : i = bR b
        · rw [if_pos ⟨rfl, by omega⟩, if_pos he]
        · rw [if_neg (show ¬ ((2 : Nat) = 2 ∧ 3 * i + 2 = 3 * bR b + 2) by omega), sI_16, if_neg (by omega), sI_16, if_neg (by omega), if_neg he]
          exact (a6 i (by omega)).2.2
    · rw [sI_16, sI_16, sI_16, sI_16, if_neg (by omega), if_neg (by omega), if_neg (by omega), if_neg (by omega)]; exact a7 p hp
    · rw [sI_16, sI_16, sI_16, sI_16, if_neg (by omega), if_neg (by omega), if_neg (by omega), if_neg (by omega)]; exact a8 n hn
  · obtain ⟨σ1, e1, i1, i2, i3⟩ := I0.call (k_proben g hR hC hr)
    have h8 : nI (bR b) = 8 := by rw [show bR b = 8 by omega]; rfl
    rw [px_b e1, q_R i2, if_pos h8]
    unfold f_L_law_855
    rw [if_pos rfl, q_R i2, if_pos (by rw [h8]; decide)]
    unfold f_L_law_1057
    exact t0 hN ht ⟨i1, i2, i3, I.2.2.2⟩
/-! a turn -/
theorem turn_ok (hN : Nx K t) (ht : t < 34) (I : LI t could b σ) (y0 : Nat) (hy : y0 < 15) : ∃ τ, f_L_law_121 ad K could (nI t) x10 x11 (nI y0) σ = some (1, τ) := by
  have g := I.1.good
  have gT := g.2.2.2.1
  obtain ⟨R, hR, eR⟩ := low_ok x11 (n := 5) (by decide) (by decide)
  obtain ⟨C, hC, eC⟩ := low_ok (x11 >>> (4 &&& 31)) (n := 5) (by decide) (by decide)
  have e8 : (8 : Int32) * nI R + nI C = nI (8 * R + C) := by rw [mul8 R (by omega), nI_add]
  have e1 : ∀ k, (1 : Int32) + nI k = nI (1 + k) := fun k => nI_add 1 k
  unfold f_L_law_121
  rw [show (5 : Int32) = nI 5 from rfl, px_o eR, px_o eC, e8]
  by_cases c3 : 3 ≤ y0
  · rw [if_pos (show (3 : Int32) ≤ nI y0 from nI_le (a := 3) c3 (by omega))]
    by_cases c5 : 5 ≤ y0
    · rw [if_pos (show nI 5 ≤ nI y0 from nI_le c5 (by omega))]
      by_cases c7 : 7 ≤ y0
      · rw [if_pos (show (7 : Int32) ≤ nI y0 from nI_le (a := 7) c7 (by omega))]
        by_cases e7 : y0 = 7
        · obtain ⟨s, hs, es⟩ := low_ok x11 (n := 3) (by decide) (by decide)
          rw [if_pos (show nI y0 = 7 by rw [e7]; rfl), show (3 : Int32) = nI 3 from rfl, px_o es]
          exact k_D hN ht I hs
        · rw [if_neg (show ¬ nI y0 = 7 from fun hh => e7 ((nI_eq (b := 7) (by omega) (by decide)).mp hh))]
          by_cases c10 : 10 ≤ y0
          · rw [if_pos (show (10 : Int32) ≤ nI y0 from nI_le (a := 10) c10 (by omega))]
            by_cases c13 : 13 ≤ y0
            · rw [if_pos (show (13 : Int32) ≤ nI y0 from nI_le (a := 13) c13 (by omega))]
              by_cases e13 : y0 = 13
              · obtain ⟨s, hs, es⟩ := low_ok x11 (n := 4) (by decide) (by decide)
                obtain ⟨u, hu, eu⟩ := low_ok (x11 >>> (3 &&& 31)) (n := 3) (by decide) (by decide)
                obtain ⟨w25, h25, e25⟩ := low_ok (x11 >>> (nI 5 &&& 31)) (n := 25) (by decide) (by decide)
                obtain ⟨w51, h51, e51⟩ := low_ok (x11 >>> (nI 5 &&& 31)) (n := 51) (by decide) (by decide)
                obtain ⟨w99, h99, e99⟩ := low_ok (x11 >>> (nI 5 &&& 31)) (n := 99) (by decide) (by decide)
                obtain ⟨w20, h20, e20⟩ := low_ok (x11 >>> (nI 5 &&& 31)) (n := 20) (by decide) (by decide)
                rw [if_pos (show nI y0 = 13 by rw [e13]; rfl)]
                have es' : f_L_low x11 4 = some (nI s) := es
                have eu' : f_L_low (x11 >>> (3 &&& 31)) 3 = some (nI u) := eu
                have e25' : f_L_low (x11 >>> (nI 5 &&& 31)) 25 = some (nI w25) := e25
                have e51' : f_L_low (x11 >>> (nI 5 &&& 31)) 51 = some (nI w51) := e51
                have e99' : f_L_low (x11 >>> (nI 5 &&& 31)) 99 = some (nI w99) := e99
                have e20' : f_L_low (x11 >>> (nI 5 &&& 31)) 20 = some (nI w20) := e20
                rw [px_o es', px_o eu', px_o eu', px_o e25', px_o e51', px_o e99', px_o e20', e1 w99]
                by_cases s0 : s = 0
                · subst s0
                  rw [if_pos (show nI 0 = 0 from rfl)]
                  by_cases u0 : u = 0
                  · subst u0
                    rw [if_pos (show nI 0 = 0 from rfl)]
                    exact k_G (s := 0) (v := 0) hN ht I (by decide) (fun hh => absurd hh (by decide)) (by decide)
                  · rw [if_neg (nI_ne0 (Nat.pos_of_ne_zero u0) (by omega))]
                    exact k_G (s := 0) (v := w25) hN ht I (by decide) (fun hh => absurd hh (by decide)) (by rw [if_pos rfl]; omega)
                · rw [if_neg (nI_ne0 (Nat.pos_of_ne_zero s0) (by omega))]
                  by_cases s1 : s = 1
                  · subst s1
                    rw [if_pos (show nI 1 = 1 from rfl)]
                    by_cases u0 : u = 0
                    · subst u0
                      rw [if_pos (show nI 0 = 0 from rfl)]
                      exact k_G (s := 1) (v := 0) hN ht I (by decide) (fun hh => absurd hh (by decide)) (by decide)
                    · rw [if_neg (nI_ne0 (Nat.pos_of_ne_zero u0) (by omega))]
                      exact k_G (s := 1) (v := w51) hN ht I (by decide) (fun hh => absurd hh (by decide)) (by rw [if_neg (by decide), if_pos rfl]; omega)
                  · rw [if_neg (show ¬ nI s = 1 from fun hh => s1 ((nI_eq (b := 1) (by omega) (by decide)).mp hh))]
                    by_cases s2 : s = 2
                    · subst s2
                      rw [if_pos (show nI 2 = 2 from rfl)]
                      exact k_G (s := 2) (v := 1 + w99) hN ht I (by decide) (fun _ => by omega) (by rw [if_neg (by decide), if_neg (by decide)]; omega)
                    · rw [if_neg (show ¬ nI s = 2 from fun hh => s2 ((nI_eq (b := 2) (by omega) (by decide)).mp hh))]
                      exact k_G (s := s) (v := w20) hN ht I hs (fun hh => absurd hh s2) (by rw [if_neg s0, if_neg s1]; omega)
              · rw [if_neg (show ¬ nI y0 = 13 from fun hh => e13 ((nI_eq (b := 13) (by omega) (by decide)).mp hh))]
                exact k_H hN ht I
            · rw [if_neg (show ¬ (13 : Int32) ≤ nI y0 from nI_ge (a := y0) (b := 13) (by omega) (by decide))]
              exact k_F hN ht I (by omega) (by omega)
          · obtain ⟨n, hn, en⟩ := low_ok x11 (n := 12) (by decide) (by decide)
            rw [if_neg (show ¬ (10 : Int32) ≤ nI y0 from nI_ge (a := y0) (b := 10) (by omega) (by decide)), show (12 : Int32) = nI 12 from rfl, px_o en, e1 n]
            exact k_E hN ht I (by omega) (by omega)
      · obtain ⟨n, hn, en⟩ := low_ok (x11 >>> (9 &&& 31)) (n := 4) (by decide) (by decide)
        have en' : f_L_low (x11 >>> (9 &&& 31)) 4 = some (nI n) := en
        rw [if_neg (show ¬ (7 : Int32) ≤ nI y0 from nI_ge (a := y0) (b := 7) (by omega) (by decide)), px_o en', e1 n]
        exact k_C hN ht I (by omega) (by omega) (by omega) (by omega)
    · obtain ⟨n, hn, en⟩ := low_ok x11 (n := 4) (by decide) (by decide)
      obtain ⟨o, ho, eo⟩ := low_ok (x11 >>> (nI 5 &&& 31)) (n := 4) (by decide) (by decide)
      have en' : f_L_low x11 4 = some (nI n) := en
      have eo' : f_L_low (x11 >>> (nI 5 &&& 31)) 4 = some (nI o) := eo
      rw [if_neg (show ¬ nI 5 ≤ nI y0 from nI_ge (a := y0) (b := 5) (by omega) (by decide)), px_o en', px_o eo', e1 n, e1 o]
      exact k_B hN ht I (by omega) (by omega) (by omega) (by omega)
  · obtain ⟨n, hn, en⟩ := low_ok (x11 >>> (8 &&& 31)) (n := 5) (by decide) (by decide)
    rw [if_neg (show ¬ (3 : Int32) ≤ nI y0 from nI_ge (a := y0) (b := 3) (by omega) (by decide)), px_o en]
    exact k_A hN ht I (by omega) (by omega) (by omega)
end turn
theorem m4_c : ∀ t, t < 8 → (nI t - nI t / 4 * 4 = 3 ↔ t % 4 = 3) := by decide +kernel
theorem turns_ok {ad : Nat → Nat → Nat} (hL : ad 18 1 < 2 ^ 31) : ∀ (n t m : Nat), t + n = 34 → n < m → ∀ could b σ, LI t could b σ → ∃ τ, f_L_law_62 ad m could (nI t) σ = some (1, τ) := by
  intro n
  induction n with
  | zero =>
    intro t m ht hm could b σ I
    obtain ⟨m, rfl⟩ : ∃ k, m = k + 1 := ⟨m - 1, by omega⟩
    have : t = 34 := by omega
    subst this
    rw [f_L_law_62, if_pos (by decide)]
    exact ⟨σ, rfl⟩
  | succ n ih =>
    intro t m ht hm could b σ I
    obtain ⟨m, rfl⟩ : ∃ k, m = k + 1 := ⟨m - 1, by omega⟩
    have hN : Nx (f_L_law_62 ad m) t := fun c b σ I => ih (t + 1) m (by omega) (by omega) c b σ I
    obtain ⟨u, eu⟩ := cell_ok (ad := ad) (k := 2 * t) (by omega) hL
    obtain ⟨w, ew⟩ := cell_ok (ad := ad) (k := 2 * t + 1) (by omega) hL
    rw [f_L_law_62, if_neg (show ¬ (34 : Int32) ≤ nI t from nI_ge (a := t) (b := 34) (by omega) (by decide)), nI_2, px_o eu, nI_1, px_o ew]
    by_cases c8 : 8 ≤ t
    · obtain ⟨y, hy, ey⟩ := low_ok u (n := 15) (by decide) (by decide)
      rw [if_pos (show (8 : Int32) ≤ nI t from nI_le (a := 8) c8 (by omega)), show (15 : Int32) = nI 15 from rfl, px_o ey]
      exact turn_ok hN (by omega) I y hy
    · rw [if_neg (show ¬ (8 : Int32) ≤ nI t from nI_ge (a := t) (b := 8) (by omega) (by decide))]
      by_cases c4 : nI t - nI t / 4 * 4 = 3
      · rw [if_pos c4]
        exact turn_ok hN (by omega) I 3 (by decide)
      · rw [if_neg c4]
        exact turn_ok hN (by omega) I 0 (by decide)
