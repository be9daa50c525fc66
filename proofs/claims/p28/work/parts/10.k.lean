/-! CALLS, on the class alone -/
theorem k_set {b : Bd} {s v : Nat} (g : good b) (hs : s < 4) (hv1 : s = 2 → 1 ≤ v) (hv2 : v ≤ (if s = 0 then 24 else if s = 1 then 50 else 99)) : Ch (f_X5_set (nI s) (nI v)) b (nI (bS b s)) (bSet b s v) :=
  chg5 (g5 := f_X0_change 7 (nI s) (nI v)) (fun σ => rfl) (nI_pos' (by
    have := g.1
    rcases (show s = 0 ∨ s = 1 ∨ s = 2 ∨ s = 3 by omega) with rfl | rfl | rfl | rfl <;> omega)) (bSet_good g hs hv1 hv2) (change5 g hs hv1 hv2)
theorem k_trackn {b : Bd} {R C N : Nat} (g : good b) (hR : R < 8) (hC : C < 8) (hN : N < 8) (hn : need b (8 * R + C) = true) : Ch (f_X5_track (nI R) (nI C) (nI N)) b (-5) b :=
  chg5n (g5 := f_X0_lay 7 (nI R) (nI C) (nI N)) (fun σ => rfl) (by decide) (lay5n g hR hC hN hn)
theorem k_track {b : Bd} {R C N : Nat} (g : good b) (hR : R < 8) (hC : C < 8) (hN : N < 8) (hn : need b (8 * R + C) = false) : Ch (f_X5_track (nI R) (nI C) (nI N)) b (nI (bN b (8 * R + C))) (bLay b (8 * R + C) N) := by
  have hP : 8 * R + C < 64 := by omega
  have gN := g.2.1 _ hP
  exact chg5 (g5 := f_X0_lay 7 (nI R) (nI C) (nI N)) (fun σ => rfl) (nI_pos' (by omega)) (bLay_good g hN hn) (lay5 g hR hC hN hn)
theorem k_touchn {b : Bd} {R C N : Nat} (g : good b) (hR : R < 8) (hC : C < 8) (h1 : 1 ≤ N) (h8 : N < 8) (hn : notJ b (8 * R + C) N = true) : Ch (f_X5_touch (nI R) (nI C) (nI N)) b (-5) b :=
  chg5n (g5 := f_X0_join 7 (nI R) (nI C) (nI N)) (fun σ => rfl) (by decide) (join5n g hR hC h1 h8 hn)
theorem k_touch {b : Bd} {R C N : Nat} (g : good b) (hR : R < 8) (hC : C < 8) (h1 : 1 ≤ N) (h8 : N < 8) (hn : notJ b (8 * R + C) N = false) (hT : bT b < 3) : Ch (f_X5_touch (nI R) (nI C) (nI N)) b (nI (bT b)) (bJoin b (8 * R + C) N) := by
  have hP : 8 * R + C < 64 := by omega
  exact chg5 (g5 := f_X0_join 7 (nI R) (nI C) (nI N)) (fun σ => rfl) (nI_pos' (by omega)) (bJoin_good g hP h1 h8 hT hn) (join5 g hR hC h1 h8 hn hT)
theorem k_touchf {b : Bd} {R C N : Nat} (g : good b) (hR : R < 8) (hC : C < 8) (h1 : 1 ≤ N) (h8 : N < 8) (hn : notJ b (8 * R + C) N = false) (hT : ¬ bT b < 3) : Ch (f_X5_touch (nI R) (nI C) (nI N)) b (-4) b :=
  chg5n (g5 := f_X0_join 7 (nI R) (nI C) (nI N)) (fun σ => rfl) (by decide) (join5f g hR hC h1 h8 hn hT)
theorem k_mend {b : Bd} {t : Nat} (g : good b) (ht : t < bT b) : Ch (f_X5_mend (nI t)) b (nI (bT b - 1)) (bPart b t) := by
  have gT := g.2.2.2.1
  exact chg5 (g5 := f_X0_part 7 (nI t)) (fun σ => rfl) (nI_pos' (by omega)) (bPart_good g ht) (part_cs g ht)
theorem k_mendn {b : Bd} {t : Nat} (g : good b) (ht : bT b ≤ t) (h : t < 2 ^ 31) : Ch (f_X5_mend (nI t)) b (-1) b :=
  chg5n (g5 := f_X0_part 7 (nI t)) (fun σ => rfl) (by decide) (part_no g (Or.inr (nI_le ht h)))
theorem k_feedn {b : Bd} {x : Nat} (hx1 : 1 ≤ x) (hx : x < 8) : Ch (f_X5_feed (nI x) (nI x)) b (-2) b :=
  chg5n (g5 := f_X0_turnPair 7 (nI x) (nI x)) (fun σ => rfl) (by decide) (turn5n hx1 hx)
theorem k_feed {b : Bd} {x y : Nat} (g : good b) (hx1 : 1 ≤ x) (hx : x < 8) (hy1 : 1 ≤ y) (hy : y < 8) (hxy : ¬ x = y) : Ch (f_X5_feed (nI x) (nI y)) b (b01 ((bF (bTurn b x y) x).testBit y)) (bTurn b x y) :=
  chg5 (g5 := f_X0_turnPair 7 (nI x) (nI y)) (fun σ => rfl) (by cases (bF (bTurn b x y) x).testBit y <;> decide) (bTurn_good g hx hy hx1 hy1 hxy) (turn5 g hx1 hx hy1 hy hxy)
theorem k_cool {b : Bd} (g : good b) : Ch f_X5_cool b (nI (bK b)) (bCool b) := by
  have gK := g.2.2.2.2.2.2.1
  exact chg5 (g5 := fun σ8 => wx_b (f_X0_beginRun 7 σ8) (fun _ σ23 => some (σ8.2.2.1 7 6, σ23))) (fun σ => by
    unfold f_X5_cool
    refine px_bc (fun _ σ8 => ?_)
    rw [beginRun_eq, px_bs, px_bs, px_bs]) (nI_pos' (by omega)) (bCool_good g) (cool5 g)
theorem k_warm {b : Bd} {k : Nat} (g : good b) (k1 : 1 ≤ k) (k2 : k ≤ 50) (hs : bK b + k ≤ 100) : Ch (f_X5_warm (nI k)) b (nI (bK b + k)) (bStep b k) :=
  chg5 (g5 := f_X0_letPass 7 (nI k)) (fun σ => rfl) (nI_pos' (by omega)) (bStep_good g hs) (pass5 g k1 k2 hs)
theorem k_warmn {b : Bd} {k : Nat} (g : good b) (k1 : 1 ≤ k) (k2 : k ≤ 50) (hs : ¬ bK b + k ≤ 100) : Ch (f_X5_warm (nI k)) b (-5) b :=
  chg5n (g5 := f_X0_letPass 7 (nI k)) (fun σ => rfl) (by decide) (pass5n g.2.2.2.2.2.2.1 k1 k2 hs)
theorem k_probe {b : Bd} {R C v : Nat} (g : good b) (hR : R < 8) (hC : C < 8) (hr : bR b < 8) (hv : v < 2 ^ 31) (w3 : rdf (bWarm b (8 * R + C)) = nI v) : Ch (f_X5_probe (nI R) (nI C)) b (nI v) (bRead b (8 * R + C) v) :=
  chg5 (g5 := f_X0_measure 7 (nI R) (nI C)) (fun σ => rfl) (nI_pos' hv) (bRead_good g (by omega) hv hr) (measure5 g hR hC hr w3)
theorem k_proben {b : Bd} {R C : Nat} (g : good b) (hR : R < 8) (hC : C < 8) (hr : ¬ bR b < 8) : Ch (f_X5_probe (nI R) (nI C)) b (-4) b :=
  chg5n (g5 := f_X0_measure 7 (nI R) (nI C)) (fun σ => rfl) (by decide) (measure5n g hR hC hr)
