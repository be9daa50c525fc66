/-! TURNS OF THE LAW: the end of a turn; steps, settings, cooling, pairs -/
def Nx (K : Int64 → Int32 → wx_St → Option (Int32 × wx_St)) (t : Nat) : Prop := ∀ could b σ, LI (t + 1) could b σ → ∃ τ, K could (nI (t + 1)) σ = some (1, τ)
/-- what is left of the rows ahead of a new run -/
def LX (b : Bd) (σ : wx_St) : Prop := (∀ i, i < 4 → σ.1 16 0 i = nI (bS b i)) ∧ σ.1 16 0 5 = nI (bT b) ∧ (∀ i, i < bT b → σ.1 16 1 (2 * i) = nI (bP b i) ∧ σ.1 16 1 (2 * i + 1) = nI (bO b i)) ∧ (∀ p, p < 64 → σ.1 16 3 p = nI (bN b p)) ∧ (∀ n, n < 8 → σ.1 16 4 n = nI (bF b n))
theorem LR.X {b : Bd} {σ : wx_St} (h : LR b σ) : LX b σ := ⟨h.1.1, h.1.2.2.1, h.2.1, h.2.2.2.1, h.2.2.2.2⟩
theorem LX.of {b : Bd} {σ τ : wx_St} (h : LX b σ) (e : τ.1 16 = σ.1 16) : LX b τ := by
  unfold LX
  rw [e]
  exact h
theorem ex_16 (σ : wx_St) (k i : Nat) (v : Int32) : eqx 16 σ (wx_sI σ 16 k i v) := by
  refine ⟨fun x hx => ⟨?_, rfl, rfl⟩, rfl⟩
  funext y j
  show (if x = 16 ∧ y = k ∧ j = i then v else σ.1 x y j) = _
  rw [if_neg (fun hh => hx hh.1)]
theorem sI_16 (σ : wx_St) (k i : Nat) (v : Int32) (y j : Nat) : (wx_sI σ 16 k i v).1 16 y j = if y = k ∧ j = i then v else σ.1 16 y j := by
  show (if 16 = 16 ∧ y = k ∧ j = i then v else σ.1 16 y j) = _
  by_cases h : y = k ∧ j = i
  · rw [if_pos ⟨rfl, h⟩, if_pos h]
  · rw [if_neg (fun hh => h hh.2), if_neg h]
theorem TL.ex {t : Nat} {σ τ : wx_St} (h : TL t σ) (e : eqx 16 σ τ) : TL t τ := h.of (fun j _ => by rw [e.2])
theorem CO.new {b : Bd} (h : bR b = 0) : CO (-1) b := by
  intro p hp
  rw [mk_m1 p hp, Bool.and_true]
  unfold cb fitN
  rw [h]
  simp
section turn
variable {ad : Nat → Nat → Nat} {K : Int64 → Int32 → wx_St → Option (Int32 × wx_St)} {t : Nat} {b : Bd} {σ : wx_St} {could : Int64} {x10 x11 x12 x13 x14 x15 : Int32}
theorem t1265 (hN : Nx K t) (ht : t < 34) (I : LI t could b σ) {x16 : Int32} : ∃ τ, f_L_law_1265 ad K could (nI t) x10 x11 x12 x13 x14 x15 x16 σ = some (1, τ) := by
  obtain ⟨σ1, e1, I1⟩ := same_ok I ht
  obtain ⟨τ, e2⟩ := hN could b σ1 I1
  refine ⟨τ, ?_⟩
  unfold f_L_law_1265
  rw [px_b e1]
  unfold f_L_law_1279
  rw [if_neg (by decide), nI_1]
  exact e2
theorem t0 (hN : Nx K t) (ht : t < 34) (I : LI t could b σ) : ∃ τ, f_L_law_1246 ad K could (nI t) x10 x11 x12 x13 x14 x15 0 σ = some (1, τ) := by
  unfold f_L_law_1246
  rw [if_pos rfl]
  exact t1265 hN ht I
theorem t1 (hN : Nx K t) (ht : t < 34) (i : IC b σ) (x : LX b σ) (l : TL t σ) (hK : bK b = 0) (hR : bR b = 0) : ∃ τ, f_L_law_1246 ad K could (nI t) x10 x11 x12 x13 x14 x15 1 σ = some (1, τ) := by
  have ex1 := ex_16 σ 0 4 0
  have ex2 := ex_16 (wx_sI σ 16 0 4 0) 0 6 0
  have I : LI t (-1) b (wx_sI (wx_sI σ 16 0 4 0) 16 0 6 0) := by
    refine ⟨i.r16 (ex1.tr ex2), ?_, (l.ex ex1).ex ex2, CO.new hR⟩
    obtain ⟨a1, a2, a3, a4, a5⟩ := x
    refine ⟨⟨fun i hi => ?_, ?_, ?_, ?_⟩, fun i hi => ⟨?_, ?_⟩, fun i hi => absurd hi (by omega), fun p hp => ?_, fun n hn => ?_⟩
    · rw [sI_16, sI_16, if_neg (by omega), if_neg (by omega)]; exact a1 i hi
    · rw [sI_16, sI_16, if_neg (by omega), if_pos ⟨rfl, rfl⟩, hK]; rfl
    · rw [sI_16, sI_16, if_neg (by omega), if_neg (by omega)]; exact a2
    · rw [sI_16, if_pos ⟨rfl, rfl⟩, hR]; rfl
    · rw [sI_16, sI_16, if_neg (by omega), if_neg (by omega)]; exact (a3 i hi).1
    · rw [sI_16, sI_16, if_neg (by omega), if_neg (by omega)]; exact (a3 i hi).2
    · rw [sI_16, sI_16, if_neg (by omega), if_neg (by omega)]; exact a4 p hp
    · rw [sI_16, sI_16, if_neg (by omega), if_neg (by omega)]; exact a5 n hn
  unfold f_L_law_1246
  rw [if_neg (by decide), show (4 : Int32) = nI 4 from rfl, show (6 : Int32) = nI 6 from rfl, px_w (by decide) (by decide), px_w (by decide) (by decide), nI_clamp (by decide), nI_clamp (by decide)]
  exact t1265 hN ht I
/-! the class's calls beside the rows -/
theorem LI.call (I : LI t could b σ) {f : wx_St → Option (Int32 × wx_St)} {r : Int32} {b' : Bd} (H : Ch f b r b') : ∃ τ, f σ = some (r, τ) ∧ IC b' τ ∧ LR b τ ∧ TL t τ := by
  obtain ⟨i1, i2, i3, -⟩ := I
  obtain ⟨τ, t1, t2, t3⟩ := H σ i1
  exact ⟨τ, t1, t2, i2.of t3.1.1, i3.of (fun j hj => (t3.2 j).2 hj)⟩
/-- cooling -/
theorem k_H (hN : Nx K t) (ht : t < 34) (I : LI t could b σ) : ∃ τ, wx_b (f_X5_cool σ) (fun v1232 σ1232 => wx_rI σ1232 16 0 7 4 (fun v1237 => if v1232 = v1237 then f_L_law_1246 ad K could (nI t) x10 x11 x12 x13 x14 x15 1 σ1232 else some (0, σ1232))) = some (1, τ) := by
  obtain ⟨τ, e1, i1, i2, i3⟩ := I.call (k_cool I.1.good)
  rw [px_b e1, q_K i2, if_pos rfl]
  have x := i2.X
  exact t1 (b := bCool b) hN ht i1 ⟨x.1, x.2.1, x.2.2.1, x.2.2.2.1, x.2.2.2.2⟩ i3 rfl rfl
/-- settings -/
theorem k_G (hN : Nx K t) (ht : t < 34) (I : LI t could b σ) {s v : Nat} (hs : s < 4) (hv1 : s = 2 → 1 ≤ v) (hv2 : v ≤ (if s = 0 then 24 else if s = 1 then 50 else 99)) : ∃ τ, f_L_law_1169 ad K could (nI t) x10 x11 x12 x13 x14 x15 0 (nI s) (nI v) σ = some (1, τ) := by
  have g := I.1.good
  obtain ⟨σ1, e1, i1, i2, i3⟩ := I.call (k_set g hs hv1 hv2)
  have ex1 := ex_16 σ1 0 s (nI v)
  have x1 : LX (bSet b s v) (wx_sI σ1 16 0 s (nI v)) := by
    obtain ⟨a1, a2, a3, a4, a5⟩ := i2.X
    refine ⟨fun i hi => ?_, ?_, fun i hi => ⟨?_, ?_⟩, fun p hp => ?_, fun n hn => ?_⟩
    · rw [sI_16]
      show _ = nI (if i = s then v else bS b i)
      by_cases h : i = s
      · rw [if_pos ⟨rfl, h⟩, if_pos h]
      · rw [if_neg (fun hh => h hh.2), if_neg h]; exact a1 i hi
    · rw [sI_16, if_neg (by omega)]; exact a2
    · rw [sI_16, if_neg (by omega)]; exact (a3 i hi).1
    · rw [sI_16, if_neg (by omega)]; exact (a3 i hi).2
    · rw [sI_16, if_neg (by omega)]; exact a4 p hp
    · rw [sI_16, if_neg (by omega)]; exact a5 n hn
  have i1' := i1.r16 ex1
  have i3' := i3.ex ex1
  unfold f_L_law_1169
  rw [px_b e1, q_S i2 hs, if_pos rfl, px_w (by omega) (by decide), nI_clamp (by omega)]
  by_cases h3 : s = 3
  · subst h3
    rw [if_pos (by decide)]
    unfold f_L_law_1205
    rw [if_pos (by decide)]
    obtain ⟨σ2, e2, t2, t3⟩ := k_cool i1'.good _ i1'
    have x2 := x1.of t3.1.1
    have hk4 : σ2.1 16 0 4 = nI (bK b) := by
      rw [t3.1.1, sI_16, if_neg (by omega)]
      exact i2.1.2.1
    rw [px_b e2, show (4 : Int32) = nI 4 from rfl, px_rI (by decide) (by decide), hk4, if_pos (show nI (bK (bSet b 3 v)) = nI (bK b) from rfl)]
    unfold f_L_law_1228
    exact t1 (b := bCool (bSet b 3 v)) hN ht t2 ⟨x2.1, x2.2.1, x2.2.2.1, x2.2.2.2.1, x2.2.2.2.2⟩ (i3'.of (fun j hj => (t3.2 j).2 hj)) rfl rfl
  · rw [if_neg (show ¬ (3 : Int32) ≤ nI s from nI_ge (a := s) (b := 3) (by omega) (by decide))]
    unfold f_L_law_1205
    rw [if_neg (show ¬ nI s = 3 from fun hh => h3 ((nI_eq (b := 3) (by omega) (by decide)).mp hh))]
    unfold f_L_law_1228
    exact t1 (b := bSet b s v) hN ht i1' x1 i3' (if_neg h3) (if_neg h3)
/-- steps -/
theorem k_E (hN : Nx K t) (ht : t < 34) (I : LI t could b σ) {n : Nat} (h1 : 1 ≤ n) (h2 : n ≤ 12) : ∃ τ, (wx_rI σ 16 0 7 4 (fun v750 => if 100 < (v750 + nI n) then f_L_law_764 ad K could (nI t) x10 x11 x12 x13 x14 x15 0 (nI n) 0 σ else f_L_law_764 ad K could (nI t) x10 x11 x12 x13 x14 x15 0 (nI n) 1 σ)) = some (1, τ) := by
  have g := I.1.good
  have gK := g.2.2.2.2.2.2.1
  rw [q_K I.2.1, nI_add]
  by_cases hs : bK b + n ≤ 100
  · obtain ⟨σ1, e1, i1, i2, i3⟩ := I.call (k_warm g h1 (by omega) hs)
    rw [if_neg (show ¬ (100 : Int32) < nI (bK b + n) from nI_nlt (a := 100) hs (by decide))]
    unfold f_L_law_764
    rw [px_b e1, if_neg (show ¬ (1 : Int32) = 0 by decide), q_K i2, nI_add]
    unfold f_L_law_788
    rw [if_pos rfl, q_K i2, if_neg (show ¬ (1 : Int32) = 0 by decide)]
    unfold f_L_law_808
    rw [nI_add, show (4 : Int32) = nI 4 from rfl, px_w (by decide) (by decide), nI_clamp (by decide)]
    refine t0 (b := bStep b n) hN ht ⟨i1.r16 (ex_16 _ _ _ _), ?_, i3.ex (ex_16 _ _ _ _), fun p hp => I.2.2.2 p hp⟩
    obtain ⟨⟨a1, a2, a3, a4⟩, a5, a6, a7, a8⟩ := i2
    refine ⟨⟨fun i hi => ?_, ?_, ?_, ?_⟩, fun i hi => ⟨?_, ?_⟩, fun i hi => ⟨?_, ?_, ?_⟩, fun p hp => ?_, fun n hn => ?_⟩
    · rw [sI_16, if_neg (by omega)]; exact a1 i hi
    · rw [sI_16, if_pos ⟨rfl, rfl⟩]; rfl
    · rw [sI_16, if_neg (by omega)]; exact a3
    · rw [sI_16, if_neg (by omega)]; exact a4
    · rw [sI_16, if_neg (by omega)]; exact (a5 i hi).1
    · rw [sI_16, if_neg (by omega)]; exact (a5 i hi).2
    · rw [sI_16, if_neg (by omega)]; exact (a6 i hi).1
    · rw [sI_16, if_neg (by omega)]; exact (a6 i hi).2.1
    · rw [sI_16, if_neg (by omega)]; exact (a6 i hi).2.2
    · rw [sI_16, if_neg (by omega)]; exact a7 p hp
    · rw [sI_16, if_neg (by omega)]; exact a8 n hn
  · obtain ⟨σ1, e1, i1, i2, i3⟩ := I.call (k_warmn g h1 (by omega) hs)
    rw [if_pos (show (100 : Int32) < nI (bK b + n) from nI_lt (a := 100) (by omega) (by omega))]
    unfold f_L_law_764
    rw [px_b e1, if_pos rfl]
    unfold f_L_law_788
    rw [if_pos rfl, q_K i2, if_pos rfl]
    unfold f_L_law_808
    rw [show (0 : Int32) = nI 0 from rfl, nI_add, show (4 : Int32) = nI 4 from rfl, px_w (by decide) (by decide), nI_clamp (by decide)]
    refine t0 (b := b) hN ht ⟨i1.r16 (ex_16 _ _ _ _), ?_, i3.ex (ex_16 _ _ _ _), I.2.2.2⟩
    refine i2.of ?_
    funext y j
    rw [sI_16]
    by_cases h : y = 0 ∧ j = 4
    · rw [if_pos h, h.1, h.2, i2.1.2.1]
      rfl
    · rw [if_neg h]
/-- pairs -/
theorem turn_bit {b : Bd} (g : good b) {x y : Nat} (hx : x < 8) (hy : y < 8) (hxy : ¬ x = y) : (bF (bTurn b x y) x).testBit y = !(bF b x).testBit y := by
  have e : bF (bTurn b x y) x = if x = y then bF b y ^^^ 2 ^ x else if x = x then bF b x ^^^ 2 ^ y else bF b x := rfl
  rw [e, if_neg hxy, if_pos rfl, xor_b _ (g.2.2.1.2 x hx).1 y hy y hy, decide_eq_true rfl]
  cases (bF b x).testBit y <;> rfl
theorem k_B (hN : Nx K t) (ht : t < 34) (I : LI t could b σ) {x y : Nat} (hx1 : 1 ≤ x) (hx : x < 8) (hy1 : 1 ≤ y) (hy : y < 8) : ∃ τ, (wx_b (f_X5_feed (nI x) (nI y) σ) (fun v345 σ345 => if (nI x) = (nI y) then (if v345 = (-2) then f_L_law_391 ad K could (nI t) x10 x11 x12 x13 x14 x15 0 (nI x) (nI y) v345 σ345 else f_L_law_389 ad could (nI t) x10 x11 x12 x13 x14 x15 0 (nI x) (nI y) v345 σ345) else wx_o (f_L_fed (nI x) (nI y) σ345) (fun v375 => if v375 = 0 then f_L_law_386 ad K could (nI t) x10 x11 x12 x13 x14 x15 0 (nI x) (nI y) v345 v345 1 σ345 else f_L_law_386 ad K could (nI t) x10 x11 x12 x13 x14 x15 0 (nI x) (nI y) v345 v345 0 σ345))) = some (1, τ) := by
  have g := I.1.good
  by_cases hxy : x = y
  · subst hxy
    obtain ⟨σ1, e1, i1, i2, i3⟩ := I.call (k_feedn hx1 hx)
    rw [px_b e1, if_pos rfl, if_pos rfl]
    unfold f_L_law_391 f_L_law_425
    rw [if_pos rfl]
    exact t0 hN ht ⟨i1, i2, i3, I.2.2.2⟩
  · have hne : ¬ nI x = nI y := fun hh => hxy ((nI_eq (by omega) (by omega)).mp hh)
    have hF := g.2.2.1.2
    obtain ⟨σ1, e1, i1, i2, i3⟩ := I.call (k_feed g hx1 hx hy1 hy hxy)
    have gb := i1.good
    have xv := (xor_v _ (hF x hx).1 y hy).1
    have yv := (xor_v _ (hF y hy).1 x hx).1
    have e391 : ∃ τ, f_L_law_391 ad K could (nI t) x10 x11 x12 x13 x14 x15 0 (nI x) (nI y) (b01 ((bF (bTurn b x y) x).testBit y)) σ1 = some (1, τ) := by
      have ex1 := ex_16 σ1 4 x (nI (bF b x ^^^ 2 ^ y))
      have ex2 := ex_16 (wx_sI σ1 16 4 x (nI (bF b x ^^^ 2 ^ y))) 4 y (nI (bF b y ^^^ 2 ^ x))
      have e2 : (wx_sI σ1 16 4 x (nI (bF b x ^^^ 2 ^ y))).1 16 4 y = nI (bF b y) := by
        rw [sI_16, if_neg (by omega), i2.2.2.2.2 y hy]
      unfold f_L_law_391 f_L_law_425
      rw [if_neg hne, q_fed i2 hx, xv, px_w hx (by decide), nI_clamp (by omega), px_rI hy (by decide), e2, yv, px_w hy (by decide), nI_clamp (by omega)]
      refine t1 (b := bTurn b x y) hN ht ((i1.r16 ex1).r16 ex2) ?_ ((i3.ex ex1).ex ex2) rfl rfl
      obtain ⟨a1, a2, a3, a4, a5⟩ := i2.X
      refine ⟨fun i hi => ?_, ?_, fun i hi => ⟨?_, ?_⟩, fun p hp => ?_, fun n hn => ?_⟩
      · rw [sI_16, sI_16, if_neg (by omega), if_neg (by omega)]; exact a1 i hi
      · rw [sI_16, sI_16, if_neg (by omega), if_neg (by omega)]; exact a2
      · rw [sI_16, sI_16, if_neg (by omega), if_neg (by omega)]; exact (a3 i hi).1
      · rw [sI_16, sI_16, if_neg (by omega), if_neg (by omega)]; exact (a3 i hi).2
      · rw [sI_16, sI_16, if_neg (by omega), if_neg (by omega)]; exact a4 p hp
      · rw [sI_16, sI_16]
        show _ = nI (if n = y then bF b y ^^^ 2 ^ x else if n = x then bF b x ^^^ 2 ^ y else bF b n)
        by_cases h1 : n = y
        · rw [if_pos ⟨rfl, h1⟩, if_pos h1]
        · rw [if_neg (fun hh => h1 hh.2), if_neg h1]
          by_cases h2 : n = x
          · rw [if_pos ⟨rfl, h2⟩, if_pos h2]
          · rw [if_neg (fun hh => h2 hh.2), if_neg h2]; exact a5 n hn
    obtain ⟨τ, hτ⟩ := e391
    refine ⟨τ, ?_⟩
    rw [px_b e1, if_neg hne, px_o (lfed_eq i2 g hx hy)]
    have tb := turn_bit g hx hy hxy
    cases hb : (bF b x).testBit y with
    | false =>
      rw [hb] at tb
      rw [if_pos (show b01 false = 0 from rfl)]
      unfold f_L_law_386
      rw [if_pos (by rw [tb]; rfl)]
      exact hτ
    | true =>
      rw [hb] at tb
      rw [if_neg (show ¬ b01 true = 0 by decide)]
      unfold f_L_law_386
      rw [if_pos (by rw [tb]; rfl)]
      exact hτ
end turn
