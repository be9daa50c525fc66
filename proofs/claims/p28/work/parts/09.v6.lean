/-! turnPair and feeds; steps; readings -/
theorem xor_v : ∀ v, v < 256 → ∀ x, x < 8 → nI v ^^^ ((1 : Int32) <<< (nI x &&& 31)) = nI (v ^^^ 2 ^ x) ∧ v ^^^ 2 ^ x < 256 := by decide +kernel
theorem xor_b : ∀ v, v < 256 → ∀ x, x < 8 → ∀ y, y < 8 → (v ^^^ 2 ^ x).testBit y = (v.testBit y ^^ decide (x = y)) := by decide +kernel
def bTurn (b : Bd) (x y : Nat) : Bd := (bS b, bN b, fun n => if n = y then bF b y ^^^ 2 ^ x else if n = x then bF b x ^^^ 2 ^ y else bF b n, bT b, bP b, bO b, 0, 0, bA b, bB b, bC b)
theorem bTurn_good {b : Bd} (g : good b) {x y : Nat} (hx : x < 8) (hy : y < 8) (hx1 : 1 ≤ x) (hy1 : 1 ≤ y) (hxy : x ≠ y) : good (bTurn b x y) := by
  obtain ⟨gS, gN, gF, gT, gP, gA, gK, gR, gr⟩ := g
  refine ⟨gS, gN, ⟨?_, fun n hn => ?_⟩, gT, gP, gA, Nat.zero_le _, Nat.zero_le _, fun i hi => absurd hi (Nat.not_lt_zero _)⟩
  · show (if 0 = y then bF b y ^^^ 2 ^ x else if 0 = x then bF b x ^^^ 2 ^ y else bF b 0) = 0
    rw [if_neg (by omega), if_neg (by omega)]
    exact gF.1
  · have e : bF (bTurn b x y) n = if n = y then bF b y ^^^ 2 ^ x else if n = x then bF b x ^^^ 2 ^ y else bF b n := rfl
    rw [e]
    obtain ⟨f1, f2, f3⟩ := gF.2 n hn
    by_cases h1 : n = y
    · subst h1
      rw [if_pos rfl]
      refine ⟨(xor_v _ f1 x hx).2, ?_, ?_⟩
      · rw [xor_b _ f1 x hx 0 (by decide), f2, decide_eq_false (by omega)]
        rfl
      · rw [xor_b _ f1 x hx n hn, f3, decide_eq_false (by omega)]
        rfl
    · rw [if_neg h1]
      by_cases h2 : n = x
      · subst h2
        rw [if_pos rfl]
        refine ⟨(xor_v _ f1 y hy).2, ?_, ?_⟩
        · rw [xor_b _ f1 y hy 0 (by decide), f2, decide_eq_false (by omega)]
          rfl
        · rw [xor_b _ f1 y hy n hn, f3, decide_eq_false (by omega)]
          rfl
      · rw [if_neg h2]
        exact ⟨f1, f2, f3⟩
theorem turn5n {b : Bd} {x : Nat} (hx1 : 1 ≤ x) (hx : x < 8) : Cs (f_X0_turnPair 7 (nI x) (nI x)) b (-2) b := by
  have p1 := (net_yes x hx).1
  rw [decide_eq_true hx1] at p1
  refine Cs.no (fun σ hb => ?_)
  unfold f_X0_turnPair
  rw [px_o p1, if_neg (by decide), px_o p1, if_neg (by decide), if_pos rfl]
theorem turn5 {b : Bd} (g : good b) {x y : Nat} (hx1 : 1 ≤ x) (hx : x < 8) (hy1 : 1 ≤ y) (hy : y < 8) (hxy : ¬ x = y) : Cs (f_X0_turnPair 7 (nI x) (nI y)) b (b01 ((bF (bTurn b x y) x).testBit y)) (bTurn b x y) := by
  have p1 := (net_yes x hx).1
  rw [decide_eq_true hx1] at p1
  have q1 := (net_yes y hy).1
  rw [decide_eq_true hy1] at q1
  have hF := g.2.2.1.2
  have gb := bTurn_good g hx hy hx1 hy1 hxy
  have xv := (xor_v _ (hF x hx).1 y hy).1
  have yv := (xor_v _ (hF y hy).1 x hx).1
  have hne : ¬ nI x = nI y := fun h => hxy ((nI_eq (by omega) (by omega)).mp h)
  intro σ hb hw
  have hb0 := hb
  obtain ⟨b1, b2, b3, b4, b5, -⟩ := hb
  have hI : ∀ z k i, (wx_sI (wx_sI σ 7 2 x (nI (bF b x ^^^ 2 ^ y))) 7 2 y (nI (bF b y ^^^ 2 ^ x))).1 z k i = if z = 7 ∧ k = 2 ∧ i = y then nI (bF b y ^^^ 2 ^ x) else if z = 7 ∧ k = 2 ∧ i = x then nI (bF b x ^^^ 2 ^ y) else σ.1 z k i := fun _ _ _ => rfl
  have hst : st5 7 (bTurn b x y) (wx_sI (wx_sI σ 7 2 x (nI (bF b x ^^^ 2 ^ y))) 7 2 y (nI (bF b y ^^^ 2 ^ x))) := by
    refine ⟨fun i hi => ?_, fun p hp => ?_, fun n hn => ?_, b4, fun i hi => ?_⟩
    · rw [hI, if_neg (by omega), if_neg (by omega)]; exact b1 i hi
    · rw [hI, if_neg (by omega), if_neg (by omega)]; exact b2 p hp
    · rw [hI]
      show _ = nI (if n = y then bF b y ^^^ 2 ^ x else if n = x then bF b x ^^^ 2 ^ y else bF b n)
      by_cases h1 : n = y
      · rw [if_pos ⟨rfl, rfl, h1⟩, if_pos h1]
      · rw [if_neg (fun hh => h1 hh.2.2), if_neg h1]
        by_cases h2 : n = x
        · rw [if_pos ⟨rfl, rfl, h2⟩, if_pos h2]
        · rw [if_neg (fun hh => h2 hh.2.2), if_neg h2, b3 n hn]
    · rw [hI, if_neg (by omega), if_neg (by omega), hI, if_neg (by omega), if_neg (by omega)]
      exact b5 i hi
  have hex : eqx 7 σ (wx_sI (wx_sI σ 7 2 x (nI (bF b x ^^^ 2 ^ y))) 7 2 y (nI (bF b y ^^^ 2 ^ x))) := by
    refine ⟨fun z hz => ⟨?_, rfl, rfl⟩, rfl⟩
    funext k i
    rw [hI, if_neg (fun hh => hz hh.1), if_neg (fun hh => hz hh.1)]
  obtain ⟨k1, k2, k3⟩ := begin5 (b := bTurn b x y) rfl rfl hst
  unfold f_X0_turnPair f_X0_turnPair_74
  rw [px_o p1, if_neg (by decide), px_o q1, if_neg (by decide), if_neg hne, px_rI hx (by decide), b3 x hx, xv, px_w hx (by decide), nI_clamp (by omega), px_rI hy (by decide)]
  have e2 : (wx_sI σ 7 2 x (nI (bF b x ^^^ 2 ^ y))).1 7 2 y = nI (bF b y) := by
    show (if (7 : Nat) = 7 ∧ (2 : Nat) = 2 ∧ y = x then _ else σ.1 7 2 y) = _
    rw [if_neg (by omega), b3 y hy]
  rw [e2, yv, px_w hy (by decide), nI_clamp (by omega), px_b beginRun_eq, px_o (isFed5 k1 gb hx hy)]
  refine ⟨_, ?_, k1, k2, hex.tr k3⟩
  cases (bF (bTurn b x y) x).testBit y <;> rfl
/-! steps -/
def bStep (b : Bd) (k : Nat) : Bd := (bS b, bN b, bF b, bT b, bP b, bO b, bK b + k, bR b, bA b, bB b, bC b)
theorem bStep_good {b : Bd} (g : good b) {k : Nat} (h : bK b + k ≤ 100) : good (bStep b k) := by
  obtain ⟨gS, gN, gF, gT, gP, gA, gK, gR, gr⟩ := g
  refine ⟨gS, gN, gF, gT, gP, gA, h, gR, fun i hi => ?_⟩
  obtain ⟨r1, r2, r3⟩ := gr i hi
  exact ⟨r1, r2, Nat.le_trans r3 (Nat.le_add_right _ _)⟩
theorem lt1_iff {x : Int32} : x < 1 ↔ ¬ (1 : Int32) ≤ x := by
  rw [Int32.lt_iff_toInt_lt, Int32.le_iff_toInt_le]
  omega
theorem pass5 {b : Bd} (g : good b) {k : Nat} (k1 : 1 ≤ k) (k2 : k ≤ 50) (hs : bK b + k ≤ 100) : Cs (f_X0_letPass 7 (nI k)) b (nI (bK b + k)) (bStep b k) := by
  have gK := g.2.2.2.2.2.2.1
  have hx : (1 : Int32) ≤ nI k ∧ nI k ≤ 50 := ⟨nI_le (a := 1) k1 (by omega), nI_le (b := 50) k2 (by decide)⟩
  intro σ hb hw
  have h6 := hb.2.2.2.2.2.1
  obtain ⟨M, hM1, hM2⟩ := heated5 hb g
  obtain ⟨τ, t1, t2, t3, t4, t5, t6⟩ := letPass_loop g hM2 k2 k 0 2000 σ hb (by omega) (by omega) (fun p hp => hw p hp)
  have ht1 : f_X0_letPass_36 7 2000 (nI k) M 0 σ = some (nI (bK b + k), τ) := t1
  unfold f_X0_letPass
  rw [if_neg (fun hh => (lt1_iff.mp hh) hx.1), if_pos hx.2, h6, nI_add, if_pos (show nI (bK b + k) ≤ 100 from nI_le (b := 100) hs (by decide)), px_o hM1, ht1]
  refine ⟨τ, rfl, ?_, fun p hp => t5 p hp, fun x hxx => ⟨by rw [t2], ?_, ?_⟩, t4⟩
  · obtain ⟨b1, b2, b3, b4, b5, b6, b7, b8⟩ := hb
    unfold bdI
    rw [t2, t3, t3, t3]
    refine ⟨b1, b2, b3, ?_, b5, ?_, ?_, b8⟩
    · rw [if_neg (by omega)]; exact b4
    · rw [if_pos ⟨rfl, rfl⟩]; rfl
    · rw [if_neg (by omega)]; exact b7
  · funext y i
    exact t6 x y i (fun hh => hxx hh.1)
  · funext y
    rw [t3, if_neg (fun hh => hxx hh.1)]
theorem pass5n {b : Bd} {k : Nat} (gK : bK b ≤ 100) (k1 : 1 ≤ k) (k2 : k ≤ 50) (hs : ¬ bK b + k ≤ 100) : Cs (f_X0_letPass 7 (nI k)) b (-5) b := by
  have hx : (1 : Int32) ≤ nI k ∧ nI k ≤ 50 := ⟨nI_le (a := 1) k1 (by omega), nI_le (b := 50) k2 (by decide)⟩
  refine Cs.no (fun σ hb => ?_)
  unfold f_X0_letPass
  rw [if_neg (fun hh => (lt1_iff.mp hh) hx.1), if_pos hx.2, hb.2.2.2.2.2.1, nI_add, if_neg (show ¬ nI (bK b + k) ≤ 100 from nI_ge (a := 100) (by omega) (by omega))]
/-! readings -/
theorem rd_ok {S L P : Nat} {h : Nat → Bool} (hs : SetOK S L P) {k p : Nat} (hk : k ≤ 301) (hp : p < 64) : wx_nn (FP.fmul (runs S L P h k p) 1092616192) = true ∧ ∃ j, j < 2 ^ 31 ∧ rdf (runs S L P h k p) = nI j := by
  obtain ⟨z, hz⟩ := runs_low (h := h) hs hk
  obtain ⟨z1, z2, z3, -⟩ := hz p hp
  have := readOf_nn z1 z2 (by omega)
  refine ⟨this.1, ?_⟩
  have h0 : ¬ rdf (runs S L P h k p) < 0 := by
    intro hh
    rw [Int32.lt_iff_toInt_lt] at hh
    have e0 : (0 : Int32).toInt = 0 := rfl
    have h2 : 0 ≤ (rdf (runs S L P h k p)).toInt := this.2
    omega
  obtain ⟨j, hj, e⟩ := nI_of h0
  exact ⟨j, hj, e⟩
def bRead (b : Bd) (P v : Nat) : Bd := (bS b, bN b, bF b, bT b, bP b, bO b, bK b, bR b + 1, fun i => if i = bR b then P else bA b i, fun i => if i = bR b then v else bB b i, fun i => if i = bR b then bK b else bC b i)
theorem bRead_good {b : Bd} (g : good b) {P v : Nat} (hP : P < 64) (hv : v < 2 ^ 31) (hR : bR b < 8) : good (bRead b P v) := by
  obtain ⟨gS, gN, gF, gT, gP, gA, gK, gR, gr⟩ := g
  refine ⟨gS, gN, gF, gT, gP, gA, gK, ?_, fun i hi => ?_⟩
  · show bR b + 1 ≤ 8
    omega
  · have hi : i < bR b + 1 := hi
    show (if i = bR b then P else bA b i) < 64 ∧ (if i = bR b then v else bB b i) < 2 ^ 31 ∧ (if i = bR b then bK b else bC b i) ≤ bK b
    by_cases he : i = bR b
    · rw [if_pos he, if_pos he, if_pos he]
      exact ⟨hP, hv, Nat.le_refl _⟩
    · rw [if_neg he, if_neg he, if_neg he]
      exact gr i (by omega)

