/-! turnPair and feeds; steps; readings -/
theorem xor_v : ∀ v, v < 256 → ∀ x, x < 8 → nI v ^^^ ((1 : Int32) <<< (nI x &&& 31)) = nI (v ^^^ 2 ^ x) ∧ v ^^^ 2 ^ x < 256 := by decide +kernel
theorem xor_b : ∀ v, v < 256 → ∀ x, x < 8 → ∀ y, y < 8 → (v ^^^ 2 ^ x).testBit y = (v.testBit y ^^ decide (x = y)) := by decide +kernel
def bTurn (b : Bd) (x y : Nat) : Bd := (bS b, bN b, fun n => if n = y then bF b y ^^^ 2 ^ x else if n = x then bF b x ^^^ 2 ^ y else bF b n, bT b, bP b, bO b, 0, 0, bA b, bB b, bC b)
theorem bTurn_good {b : Bd} (g : good b) {x y : Nat} (hx : x < 8) (hy : y < 8) (hx1 : 1 ≤ x) (hy1 : 1 ≤ y) (hxy : x ≠ y) : good (bTurn b x y) := by
  obtain ⟨gS, gN, gF, gT, gP, gA, gK, gR, gr⟩ := g
  refine ⟨gS, gN, ⟨?_, fun n hn => ?_⟩, gT, gP, gA, Nat.zero_le _, Nat.zero_le _, fun i hi => absurd hi (Nat.not_lt_zero _)⟩
  · show (if 0 = y then bF b y ^^^ 2 ^ x else if 0 = x then bF b x ^^^ 2 ^ y else bF b 0) = 0
    rw [if_neg (by omega), if_neg (by omega)]
    exact gF.1
  · have e : bF (bTurn b x y) n = if n = y then bF b y ^^^ 2 ^ x else if n = x then bF b x ^^^ 2 ^ y else bF b n := rfl
    rw [e]
    obtain ⟨f1, f2, f3⟩ := gF.2 n hn
    by_cases h1 : n = y
    · subst h1
      rw [if_pos rfl]
      refine ⟨(xor_v _ f1 x hx).2, ?_, ?_⟩
      · rw [xor_b _ f1 x hx 0 (by decide), f2, decide_eq_false (by omega)]
        rfl
      · rw [xor_b _ f1 x hx n hn, f3, decide_eq_false (by omega)]
        rfl
    · rw [if_neg h1]
      by_cases h2 : n = x
      · subst h2
        rw [if_pos rfl]
        refine ⟨(xor_v _ f1 y hy).2, ?_, ?_⟩
        · rw [xor_b _ f1 y hy 0 (by decide), f2, decide_eq_false (by omega)]
          rfl
        · rw [xor_b _ f1 y hy n hn, f3, decide_eq_false (by omega)]
          rfl
      · rw [if_neg h2]
        exact ⟨f1, f2, f3⟩
theorem net1_cases (x : Int32) : (∃ N, 1 ≤ N ∧ N < 8 ∧ x = nI N ∧ f_X5_isNet x = some 1 ∧ f_X6_isNet x = some 1) ∨ (f_X5_isNet x = some 0 ∧ f_X6_isNet x = some 0) := by
  rcases in_cases x (n := 8) (by decide) with ⟨N, hN, rfl⟩ | hx
  · have := net_yes N hN
    by_cases h1 : 1 ≤ N
    · rw [decide_eq_true h1] at this
      exact Or.inl ⟨N, h1, hN, rfl, this.1, this.2.1⟩
    · rw [decide_eq_false h1] at this
      exact Or.inr ⟨this.1, this.2.1⟩
  · obtain ⟨n1, n2, -⟩ := net_no hx
    exact Or.inr ⟨n1, n2⟩
theorem feed_why {b : Bd} (g : good b) (x1 x2 : Int32) : Why (f_X0_turnPair 7 x1 x2) (fun _ => f_X6_whyNotFed x1 x2) (f_X6_feeds x1 x2) b := by
  rcases net1_cases x1 with ⟨x, hx1, hx, rfl, p1, p2⟩ | ⟨p1, p2⟩
  · rcases net1_cases x2 with ⟨y, hy1, hy, rfl, q1, q2⟩ | ⟨q1, q2⟩
    · by_cases hxy : x = y
      · left
        refine ⟨-2, by decide, Cs.no (fun σ hb => ?_), fun σ hb => ?_⟩
        · unfold f_X0_turnPair
          rw [px_o p1, if_neg (by decide), px_o q1, if_neg (by decide), if_pos (by rw [hxy])]
        · unfold f_X6_whyNotFed f_X6_whyNotFed_29
          rw [px_o p2, if_neg (by decide), px_o q2, if_neg (by decide), if_pos (by rw [hxy])]
      · right
        have hF := g.2.2.1.2
        have gb := bTurn_good g hx hy hx1 hy1 hxy
        have xv := (xor_v _ (hF x hx).1 y hy).1
        have yv := (xor_v _ (hF y hy).1 x hx).1
        have hne : ¬ nI x = nI y := fun h => hxy ((nI_eq (by omega) (by omega)).mp h)
        refine ⟨b01 ((bF (bTurn b x y) x).testBit y), bTurn b x y, by cases (bF (bTurn b x y) x).testBit y <;> decide, gb, ?_, ?_, ?_⟩
        · intro σ hb hw
          have hb0 := hb
          obtain ⟨b1, b2, b3, b4, b5, -⟩ := hb
          have hI : ∀ z k i, (wx_sI (wx_sI σ 7 2 x (nI (bF b x ^^^ 2 ^ y))) 7 2 y (nI (bF b y ^^^ 2 ^ x))).1 z k i = if z = 7 ∧ k = 2 ∧ i = y then nI (bF b y ^^^ 2 ^ x) else if z = 7 ∧ k = 2 ∧ i = x then nI (bF b x ^^^ 2 ^ y) else σ.1 z k i := fun _ _ _ => rfl
          have hst : st5 7 (bTurn b x y) (wx_sI (wx_sI σ 7 2 x (nI (bF b x ^^^ 2 ^ y))) 7 2 y (nI (bF b y ^^^ 2 ^ x))) := by
            refine ⟨fun i hi => ?_, fun p hp => ?_, fun n hn => ?_, b4, fun i hi => ?_⟩
            · rw [hI, if_neg (by omega), if_neg (by omega)]; exact b1 i hi
            · rw [hI, if_neg (by omega), if_neg (by omega)]; exact b2 p hp
            · rw [hI]
              show _ = nI (if n = y then bF b y ^^^ 2 ^ x else if n = x then bF b x ^^^ 2 ^ y else bF b n)
              by_cases h1 : n = y
              · rw [if_pos ⟨rfl, rfl, h1⟩, if_pos h1]
              · rw [if_neg (fun hh => h1 hh.2.2), if_neg h1]
                by_cases h2 : n = x
                · rw [if_pos ⟨rfl, rfl, h2⟩, if_pos h2]
                · rw [if_neg (fun hh => h2 hh.2.2), if_neg h2, b3 n hn]
            · rw [hI, if_neg (by omega), if_neg (by omega), hI, if_neg (by omega), if_neg (by omega)]
              exact b5 i hi
          have hex : eqx 7 σ (wx_sI (wx_sI σ 7 2 x (nI (bF b x ^^^ 2 ^ y))) 7 2 y (nI (bF b y ^^^ 2 ^ x))) := by
            refine ⟨fun z hz => ⟨?_, rfl, rfl⟩, rfl⟩
            funext k i
            rw [hI, if_neg (fun hh => hz hh.1), if_neg (fun hh => hz hh.1)]
          obtain ⟨k1, k2, k3⟩ := begin5 (b := bTurn b x y) rfl rfl hst
          unfold f_X0_turnPair f_X0_turnPair_74
          rw [px_o p1, if_neg (by decide), px_o q1, if_neg (by decide), if_neg hne, px_rI hx (by decide), b3 x hx, xv, px_w hx (by decide), nI_clamp (by omega), px_rI hy (by decide)]
          have e2 : (wx_sI σ 7 2 x (nI (bF b x ^^^ 2 ^ y))).1 7 2 y = nI (bF b y) := by
            show (if (7 : Nat) = 7 ∧ (2 : Nat) = 2 ∧ y = x then _ else σ.1 7 2 y) = _
            rw [if_neg (by omega), b3 y hy]
          rw [e2, yv, px_w hy (by decide), nI_clamp (by omega), px_b beginRun_eq, px_o (isFed5 k1 gb hx hy)]
          refine ⟨_, ?_, k1, k2, hex.tr k3⟩
          cases (bF (bTurn b x y) x).testBit y <;> rfl
        · intro σ hb
          simp only []
          unfold f_X6_whyNotFed f_X6_whyNotFed_29
          rw [px_o p2, if_neg (by decide), px_o q2, if_neg (by decide), if_neg hne]
        · intro σ hb hw
          obtain ⟨b1, b2, b3, b4, b5, b6, b7, b8⟩ := hb
          simp only [Nat.zero_add] at b1 b2 b3 b4 b5 b6 b7 b8
          have ex : (71 : Int32) + nI x = nI (71 + x) := nI_add 71 x
          have ey : (71 : Int32) + nI y = nI (71 + y) := nI_add 71 y
          have hT := g.2.2.2.1
          have hI : ∀ z k i, (wx_sI (wx_sI σ 16 0 (71 + x) (nI (bF b x ^^^ 2 ^ y))) 16 0 (71 + y) (nI (bF b y ^^^ 2 ^ x))).1 z k i = if z = 16 ∧ k = 0 ∧ i = 71 + y then nI (bF b y ^^^ 2 ^ x) else if z = 16 ∧ k = 0 ∧ i = 71 + x then nI (bF b x ^^^ 2 ^ y) else σ.1 z k i := fun _ _ _ => rfl
          have hst : st6 (bTurn b x y) (wx_sI (wx_sI σ 16 0 (71 + x) (nI (bF b x ^^^ 2 ^ y))) 16 0 (71 + y) (nI (bF b y ^^^ 2 ^ x))) := by
            refine ⟨fun i hi => ?_, fun p hp => ?_, fun n hn => ?_, ?_, fun i hi => ?_⟩
            · rw [hI, if_neg (by omega), if_neg (by omega)]; exact b1 i hi
            · rw [hI, if_neg (by omega), if_neg (by omega)]; exact b2 p hp
            · rw [hI]
              show _ = nI (if n = y then bF b y ^^^ 2 ^ x else if n = x then bF b x ^^^ 2 ^ y else bF b n)
              by_cases h1 : n = y
              · rw [if_pos ⟨rfl, rfl, by omega⟩, if_pos h1]
              · rw [if_neg (fun hh => h1 (by omega)), if_neg h1]
                by_cases h2 : n = x
                · rw [if_pos ⟨rfl, rfl, by omega⟩, if_pos h2]
                · rw [if_neg (fun hh => h2 (by omega)), if_neg h2, b3 n hn]
            · rw [hI, if_neg (by omega), if_neg (by omega)]; exact b4
            · have hi : i < bT b := hi
              rw [hI, if_neg (by omega), if_neg (by omega), hI, if_neg (by omega), if_neg (by omega)]
              exact b5 i hi
          have hex : eq6 σ (wx_sI (wx_sI σ 16 0 (71 + x) (nI (bF b x ^^^ 2 ^ y))) 16 0 (71 + y) (nI (bF b y ^^^ 2 ^ x))) := by
            refine ⟨⟨fun z hz => ⟨?_, rfl, rfl⟩, rfl⟩, fun k hk => ?_, fun _ _ _ _ => rfl, rfl⟩
            · funext k i
              rw [hI, if_neg (fun hh => hz hh.1), if_neg (fun hh => hz hh.1)]
            · funext i
              rw [hI, if_neg (fun hh => hk hh.2.1), if_neg (fun hh => hk hh.2.1)]
          obtain ⟨k1, k2, k3⟩ := begin6 (b := bTurn b x y) g.2.2.2.1 rfl rfl hst
          unfold f_X6_feeds f_X6_feeds_48
          rw [ex, ey, px_rI (by omega) (by decide), b3 x hx, xv, px_w (by omega) (by decide), nI_clamp (by omega), px_rI (by omega) (by decide)]
          have e2 : (wx_sI σ 16 0 (71 + x) (nI (bF b x ^^^ 2 ^ y))).1 16 0 (71 + y) = nI (bF b y) := by
            show (if (16 : Nat) = 16 ∧ (0 : Nat) = 0 ∧ 71 + y = 71 + x then _ else σ.1 16 0 (71 + y)) = _
            rw [if_neg (by omega), b3 y hy]
          rw [e2, yv, px_w (by omega) (by decide), nI_clamp (by omega), px_b beginsRun_eq, px_o (isFed6 k1 gb hx hy)]
          refine ⟨_, ?_, k1, k2, hex.tr k3⟩
          cases (bF (bTurn b x y) x).testBit y <;> rfl
    · left
      refine ⟨-1, by decide, Cs.no (fun σ hb => ?_), fun σ hb => ?_⟩
      · unfold f_X0_turnPair f_X0_turnPair_14
        rw [px_o p1, if_neg (by decide), px_o q1, if_pos rfl]
      · unfold f_X6_whyNotFed f_X6_whyNotFed_14 f_X6_whyNotFed_29
        rw [px_o p2, if_neg (by decide), px_o q2, if_pos rfl]
  · left
    refine ⟨-1, by decide, Cs.no (fun σ hb => ?_), fun σ hb => ?_⟩
    · unfold f_X0_turnPair f_X0_turnPair_14
      rw [px_o p1, if_pos rfl]
    · unfold f_X6_whyNotFed f_X6_whyNotFed_14 f_X6_whyNotFed_29
      rw [px_o p2, if_pos rfl]
/-! steps -/
def bStep (b : Bd) (k : Nat) : Bd := (bS b, bN b, bF b, bT b, bP b, bO b, bK b + k, bR b, bA b, bB b, bC b)
theorem bStep_good {b : Bd} (g : good b) {k : Nat} (h : bK b + k ≤ 100) : good (bStep b k) := by
  obtain ⟨gS, gN, gF, gT, gP, gA, gK, gR, gr⟩ := g
  refine ⟨gS, gN, gF, gT, gP, gA, h, gR, fun i hi => ?_⟩
  obtain ⟨r1, r2, r3⟩ := gr i hi
  exact ⟨r1, r2, Nat.le_trans r3 (Nat.le_add_right _ _)⟩
theorem lt1_iff {x : Int32} : x < 1 ↔ ¬ (1 : Int32) ≤ x := by
  rw [Int32.lt_iff_toInt_lt, Int32.le_iff_toInt_le]
  omega
theorem warm_why {b : Bd} (g : good b) (x1 : Int32) : Why (f_X0_letPass 7 x1) (f_X6_whyNotWarmed x1) (f_X6_warms x1) b := by
  have gK := g.2.2.2.2.2.2.1
  by_cases hx : (1 : Int32) ≤ x1 ∧ x1 ≤ 50
  · have hk : ∃ k, 1 ≤ k ∧ k ≤ 50 ∧ x1 = nI k := by
      obtain ⟨h1, h2⟩ := hx
      rw [Int32.le_iff_toInt_le] at h1
      have e1 : (1 : Int32).toInt = 1 := rfl
      have e0 : (0 : Int32).toInt = 0 := rfl
      have h0 : ¬ x1 < 0 := by
        rw [Int32.lt_iff_toInt_lt]
        omega
      obtain ⟨k, hk, rfl⟩ := nI_of h0
      rw [e1, nI_toInt hk] at h1
      exact ⟨k, by omega, (nI_leI hk (b := 50) (by decide)).mp h2, rfl⟩
    obtain ⟨k, k1, k2, rfl⟩ := hk
    have hw1 : f_X6_within (nI k) 1 50 = some 1 := within6_t hx.1 hx.2
    by_cases hs : bK b + k ≤ 100
    · right
      refine ⟨nI (bK b + k), bStep b k, nI_pos' (by omega), bStep_good g hs, ?_, ?_, ?_⟩
      · intro σ hb hw
        have h6 := hb.2.2.2.2.2.1
        obtain ⟨M, hM1, hM2⟩ := heated5 hb g
        obtain ⟨τ, t1, t2, t3, t4, t5, t6⟩ := letPass_loop g hM2 k2 k 0 2000 σ hb (by omega) (by omega) (fun p hp => hw p hp)
        have ht1 : f_X0_letPass_36 7 2000 (nI k) M 0 σ = some (nI (bK b + k), τ) := t1
        unfold f_X0_letPass
        rw [if_neg (fun hh => (lt1_iff.mp hh) hx.1), if_pos hx.2, h6, nI_add, if_pos (show nI (bK b + k) ≤ 100 from nI_le (b := 100) hs (by decide)), px_o hM1, ht1]
        refine ⟨τ, rfl, ?_, fun p hp => t5 p hp, fun x hxx => ⟨by rw [t2], ?_, ?_⟩, t4⟩
        · obtain ⟨b1, b2, b3, b4, b5, b6, b7, b8⟩ := hb
          unfold bdI
          rw [t2, t3, t3, t3]
          refine ⟨b1, b2, b3, ?_, b5, ?_, ?_, b8⟩
          · rw [if_neg (by omega)]; exact b4
          · rw [if_pos ⟨rfl, rfl⟩]; rfl
          · rw [if_neg (by omega)]; exact b7
        · funext y i
          exact t6 x y i (fun hh => hxx hh.1)
        · funext y
          rw [t3, if_neg (fun hh => hxx hh.1)]
      · intro σ hb
        have h4 : σ.1 16 0 4 = nI (bK b) := by have := hb.2.2.2.2.2.1; rw [Nat.zero_add] at this; exact this
        unfold f_X6_whyNotWarmed f_X6_whyNotWarmed_34
        rw [px_o hw1, if_neg (by decide), show wx_rI σ 16 0 109 4 = wx_rI σ 16 0 109 (nI 4) from rfl, px_rI (by decide) (by decide), h4, nI_add, if_pos (show nI (bK b + k) ≤ 100 from nI_le (b := 100) hs (by decide))]
      · intro σ hb hw
        have m1 : f_X6_movesWarmth 16 1 64 16 10 64 0 0 σ = some ((), wx_uF σ 16 10 0 64 (fun i => σ.2.1 16 1 (0 + i))) := st6_moves (o0 := 16) (k0 := 1) (n0 := 64) (o2 := 16) (k2 := 10) (n2 := 64) (a := 0) (b := 0) (by decide) (by decide) (by decide) (by decide) (by decide)
        obtain ⟨τ, t1, t2, t3, t4, t5⟩ := warms_loop g k2 hs k 0 2000 (wx_uF σ 16 10 0 64 (fun i => σ.2.1 16 1 (0 + i))) (hb.of rfl) (by omega) (by omega) (fun p hp => by
          show (if (16 : Nat) = 16 ∧ (10 : Nat) = 10 ∧ 0 ≤ p ∧ p < 0 + 64 then σ.2.1 16 1 (0 + (p - 0)) else σ.2.1 16 10 p) = _
          rw [if_pos ⟨rfl, rfl, by omega, by omega⟩, Nat.sub_zero]
          exact hw p hp)
        have ht1 : f_X6_warms_15 2000 (nI k) 0 (wx_uF σ 16 10 0 64 (fun i => σ.2.1 16 1 (0 + i))) = some (nI (bK b + k), τ) := t1
        unfold f_X6_warms
        rw [px_b m1, ht1]
        have hF : ∀ o' k' i, ¬ (o' = 16 ∧ (k' = 1 ∨ k' = 10 ∨ k' = 11)) → τ.2.1 o' k' i = σ.2.1 o' k' i := by
          intro o' k' i hne
          rw [t5 o' k' i hne]
          show (if o' = 16 ∧ k' = 10 ∧ _ then _ else σ.2.1 o' k' i) = _
          rw [if_neg (fun hh => hne ⟨hh.1, Or.inr (Or.inl hh.2.1)⟩)]
        have hI : ∀ x y i, τ.1 x y i = if x = 16 ∧ y = 0 ∧ i = 4 then nI (bK b + k) else σ.1 x y i := t2
        have hT := g.2.2.2.1
        have hR := g.2.2.2.2.2.2.2.1
        refine ⟨τ, rfl, ?_, fun p hp => by rw [Nat.zero_add]; exact t4 p hp, ⟨fun x hx => ⟨?_, ?_, ?_⟩, ?_⟩, fun y hy => ?_, fun y y1 y2 y3 => ?_, ?_⟩
        · obtain ⟨b1, b2, b3, b4, b5, b6, b7, b8⟩ := hb
          refine ⟨fun i hi => ?_, fun p hp => ?_, fun n hn => ?_, ?_, fun i hi => ?_, ?_, ?_, fun i hi => ?_⟩
          · rw [hI, if_neg (by omega)]; exact b1 i hi
          · rw [hI, if_neg (by omega)]; exact b2 p hp
          · rw [hI, if_neg (by omega)]; exact b3 n hn
          · rw [hI, if_neg (by omega)]; exact b4
          · rw [hI, if_neg (by omega), hI, if_neg (by omega)]; exact b5 i hi
          · rw [hI, if_pos ⟨rfl, rfl, rfl⟩]; rfl
          · rw [hI, if_neg (by omega)]; exact b7
          · rw [hI, if_neg (by omega), hI, if_neg (by omega), hI, if_neg (by omega)]; exact b8 i hi
        · funext y i
          rw [hI, if_neg (fun hh => hx hh.1)]
        · funext y i
          exact hF x y i (fun hh => hx hh.1)
        · rw [t3]; rfl
        · rw [t3]; rfl
        · funext i
          rw [hI, if_neg (fun hh => hy hh.2.1)]
        · funext i
          exact hF 16 y i (fun hh => by omega)
        · rw [t3]; rfl
    · left
      refine ⟨-5, by decide, Cs.no (fun σ hb => ?_), fun σ hb => ?_⟩
      · unfold f_X0_letPass
        rw [if_neg (fun hh => (lt1_iff.mp hh) hx.1), if_pos hx.2, hb.2.2.2.2.2.1, nI_add, if_neg (show ¬ nI (bK b + k) ≤ 100 from nI_ge (a := 100) (by omega) (by omega))]
      · have h4 : σ.1 16 0 4 = nI (bK b) := by have := hb.2.2.2.2.2.1; rw [Nat.zero_add] at this; exact this
        unfold f_X6_whyNotWarmed f_X6_whyNotWarmed_34
        rw [px_o hw1, if_neg (by decide), show wx_rI σ 16 0 109 4 = wx_rI σ 16 0 109 (nI 4) from rfl, px_rI (by decide) (by decide), h4, nI_add, if_neg (show ¬ nI (bK b + k) ≤ 100 from nI_ge (a := 100) (by omega) (by omega))]
  · left
    refine ⟨-2, by decide, Cs.no (fun σ hb => ?_), fun σ hb => ?_⟩
    · unfold f_X0_letPass f_X0_letPass_11
      by_cases h1 : x1 < 1
      · rw [if_pos h1]
      · rw [if_neg h1, if_neg (fun h2 => hx ⟨Classical.byContradiction (fun h3 => h1 (lt1_iff.mpr h3)), h2⟩)]
    · unfold f_X6_whyNotWarmed f_X6_whyNotWarmed_34
      rw [px_o (within6_f hx), if_pos rfl]
/-! readings -/
theorem rd_ok {S L P : Nat} {h : Nat → Bool} (hs : SetOK S L P) {k p : Nat} (hk : k ≤ 301) (hp : p < 64) : wx_nn (FP.fmul (runs S L P h k p) 1092616192) = true ∧ ∃ j, j < 2 ^ 31 ∧ rdf (runs S L P h k p) = nI j := by
  obtain ⟨z, hz⟩ := runs_low (h := h) hs hk
  obtain ⟨z1, z2, z3, -⟩ := hz p hp
  have := readOf_nn z1 z2 (by omega)
  refine ⟨this.1, ?_⟩
  have h0 : ¬ rdf (runs S L P h k p) < 0 := by
    intro hh
    rw [Int32.lt_iff_toInt_lt] at hh
    have e0 : (0 : Int32).toInt = 0 := rfl
    have h2 : 0 ≤ (rdf (runs S L P h k p)).toInt := this.2
    omega
  obtain ⟨j, hj, e⟩ := nI_of h0
  exact ⟨j, hj, e⟩
def bRead (b : Bd) (P v : Nat) : Bd := (bS b, bN b, bF b, bT b, bP b, bO b, bK b, bR b + 1, fun i => if i = bR b then P else bA b i, fun i => if i = bR b then v else bB b i, fun i => if i = bR b then bK b else bC b i)
theorem bRead_good {b : Bd} (g : good b) {P v : Nat} (hP : P < 64) (hv : v < 2 ^ 31) (hR : bR b < 8) : good (bRead b P v) := by
  obtain ⟨gS, gN, gF, gT, gP, gA, gK, gR, gr⟩ := g
  refine ⟨gS, gN, gF, gT, gP, gA, gK, ?_, fun i hi => ?_⟩
  · show bR b + 1 ≤ 8
    omega
  · have hi : i < bR b + 1 := hi
    show (if i = bR b then P else bA b i) < 64 ∧ (if i = bR b then v else bB b i) < 2 ^ 31 ∧ (if i = bR b then bK b else bC b i) ≤ bK b
    by_cases he : i = bR b
    · rw [if_pos he, if_pos he, if_pos he]
      exact ⟨hP, hv, Nat.le_refl _⟩
    · rw [if_neg he, if_neg he, if_neg he]
      exact gr i (by omega)
