/-! change, on both sides -/
theorem px_rT {α : Type} {t : List Int32} {n j : Nat} {F : Int32 → Option α} (h : j < n) (hn : n < 2 ^ 31) : wx_rT t n (nI j) F = F (t.getD j 0) := by
  unfold wx_rT
  rw [if_pos (wx_in_nI h hn), nI_clamp (by omega)]
/-- what a change says of both sides: refused, or done -/
def Two (g5 g6 : wx_St → Option (Int32 × wx_St)) (b : Bd) : Prop :=
  (∃ e, ¬ 0 ≤ e ∧ Cs g5 b e b ∧ ∀ σ, rfI 0 0 b σ → g6 σ = some (e, σ)) ∨
  (∃ r b' do6, 0 ≤ r ∧ good b' ∧ Cs g5 b r b' ∧ (∀ σ, rfI 0 0 b σ → g6 σ = wx_b (f_X6_record σ) (fun _ τ => do6 τ)) ∧ Rs do6 b r b')
theorem Cs.no {g5 : wx_St → Option (Int32 × wx_St)} {b : Bd} {e : Int32} (h : ∀ σ, bdI 7 b σ → g5 σ = some (e, σ)) : Cs g5 b e b := fun σ hb hw => ⟨σ, h σ hb, hb, hw, eqx.rf 7 σ⟩
def bSet (b : Bd) (s v : Nat) : Bd := (fun i => if i = s then v else bS b i, bN b, bF b, bT b, bP b, bO b, if s = 3 then bK b else 0, if s = 3 then bR b else 0, bA b, bB b, bC b)
theorem set_lo : ∀ s, s < 4 → f_X6_within (nI s) 0 3 = some 1 ∧ f_X6_most (nI s) = some (wx_v2.getD s 0) ∧ (nI s = 2 ↔ s = 2) ∧ (nI s = 3 ↔ s = 3) ∧ ¬ nI s < 0 ∧ nI s < 4 ∧ wx_v1.getD s 0 = (if s = 2 then 1 else 0) ∧ wx_v2.getD s 0 = nI (if s = 0 then 24 else if s = 1 then 50 else 99) := by decide +kernel
theorem bSet_good {b : Bd} (g : good b) {s v : Nat} (hs : s < 4) (h1 : s = 2 → 1 ≤ v) (h2 : v ≤ (if s = 0 then 24 else if s = 1 then 50 else 99)) : good (bSet b s v) := by
  obtain ⟨⟨g1, g2, g3, g4, g5⟩, gN, gF, gT, gP, gA, gK, gR, gr⟩ := g
  have hS : ∀ i, bS (bSet b s v) i = if i = s then v else bS b i := fun _ => rfl
  refine ⟨?_, gN, gF, gT, gP, gA, ?_, ?_, ?_⟩
  · rw [hS, hS, hS, hS]
    rcases (show s = 0 ∨ s = 1 ∨ s = 2 ∨ s = 3 by omega) with rfl | rfl | rfl | rfl
    · exact ⟨h2, g2, g3, g4, g5⟩
    · exact ⟨g1, h2, g3, g4, g5⟩
    · exact ⟨g1, g2, h1 rfl, h2, g5⟩
    · exact ⟨g1, g2, g3, g4, h2⟩
  · show (if s = 3 then bK b else 0) ≤ 100
    split <;> omega
  · show (if s = 3 then bR b else 0) ≤ 8
    split <;> omega
  · show ∀ i, i < (if s = 3 then bR b else 0) → bA b i < 64 ∧ bB b i < 2 ^ 31 ∧ bC b i ≤ (if s = 3 then bK b else 0)
    intro i hi
    by_cases h3 : s = 3
    · rw [if_pos h3] at hi ⊢
      exact gr i hi
    · rw [if_neg h3] at hi
      omega
theorem bSet_warm3 (b : Bd) (v : Nat) : bWarm (bSet b 3 v) = bWarm b := rfl
theorem change_two {b : Bd} (g : good b) (x1 x2 : Int32) : Two (f_X0_change 7 x1 x2) (f_X6_set x1 x2) b := by
  rcases in_cases x1 (n := 4) (by decide) with ⟨s, hs, rfl⟩ | hx
  · obtain ⟨w1, w2, w3, w4, w5, w6, w7, w8⟩ := set_lo s hs
    have h20 : ∀ σ, f_X6_set (nI s) x2 σ = f_X6_set_20 (nI s) x2 x2 (wx_v1.getD s 0) σ := by
      intro σ
      unfold f_X6_set
      rw [px_o w1, if_neg (by decide), w7]
      by_cases h2 : s = 2
      · rw [if_pos (w3.mpr h2), if_pos h2]
      · rw [if_neg (fun hh => h2 (w3.mp hh)), if_neg h2]
    by_cases hr : wx_v1.getD s 0 ≤ x2 ∧ x2 ≤ wx_v2.getD s 0
    · right
      have hv : ∃ v, x2 = nI v ∧ (s = 2 → 1 ≤ v) ∧ v ≤ (if s = 0 then 24 else if s = 1 then 50 else 99) := by
        obtain ⟨r1, r2⟩ := hr
        rw [w7, Int32.le_iff_toInt_le] at r1
        have h0 : ¬ x2 < 0 := by
          intro hh
          rw [Int32.lt_iff_toInt_lt] at hh
          have e0 : (0 : Int32).toInt = 0 := rfl
          have e1 : (1 : Int32).toInt = 1 := rfl
          rw [e0] at hh
          split at r1
          · rw [e1] at r1; omega
          · rw [e0] at r1; omega
        obtain ⟨v, hv, rfl⟩ := nI_of h0
        refine ⟨v, rfl, fun h2 => ?_, ?_⟩
        · rw [if_pos h2, nI_toInt (by omega)] at r1
          have e1 : (1 : Int32).toInt = 1 := rfl
          omega
        · rw [w8] at r2
          exact (nI_leI (by omega) (by split <;> (try split) <;> omega)).mp r2
      obtain ⟨v, rfl, hv1, hv2⟩ := hv
      refine ⟨nI (bS b s), bSet b s v, fun σ => wx_rI σ 16 0 109 (nI s) (fun v42 => wx_w (wx_sI σ 16 0 (Int32.toNatClampNeg (nI s)) (nI v)) 109 (nI s) (fun σ50 => if nI s = 3 then f_X6_set_60 (nI s) (nI v) v42 σ50 else wx_b (f_X6_beginsRun σ50) (fun v57 σ57 => f_X6_set_60 (nI s) (nI v) v42 σ57))), ?_, bSet_good g hs hv1 hv2, ?_, ?_, ?_⟩
      · refine nI_pos' ?_
        have := g.1
        rcases (show s = 0 ∨ s = 1 ∨ s = 2 ∨ s = 3 by omega) with rfl | rfl | rfl | rfl <;> omega
      · intro σ hb hw
        unfold f_X0_change f_X0_change_56
        rw [if_neg w5, if_pos w6, px_rT hs (by decide), if_neg (by
          intro hh
          have := hr.1
          rw [Int32.lt_iff_toInt_lt] at hh
          rw [Int32.le_iff_toInt_le] at this
          omega), px_rT hs (by decide), if_pos hr.2, px_rI hs (by decide), px_w hs (by decide), nI_clamp (by omega), hb.1 s hs]
        have hI : ∀ x y i, (wx_sI σ 7 0 s (nI v)).1 x y i = if x = 7 ∧ y = 0 ∧ i = s then nI v else σ.1 x y i := fun _ _ _ => rfl
        have hst : st5 7 (bSet b s v) (wx_sI σ 7 0 s (nI v)) := by
          obtain ⟨b1, b2, b3, b4, b5, -⟩ := hb
          refine ⟨fun i hi => ?_, fun p hp => ?_, fun n hn => ?_, b4, fun i hi => ⟨?_, ?_⟩⟩
          · rw [hI]
            show _ = nI (if i = s then v else bS b i)
            by_cases h : i = s
            · rw [if_pos ⟨rfl, rfl, h⟩, if_pos h]
            · rw [if_neg (fun hh => h hh.2.2), if_neg h, b1 i hi]
          · rw [hI, if_neg (by omega)]; exact b2 p hp
          · rw [hI, if_neg (by omega)]; exact b3 n hn
          · rw [hI, if_neg (by omega)]; exact (b5 i hi).1
          · rw [hI, if_neg (by omega)]; exact (b5 i hi).2
        have hex : eqx 7 σ (wx_sI σ 7 0 s (nI v)) := by
          refine ⟨fun x hx => ⟨?_, rfl, rfl⟩, rfl⟩
          funext y i
          rw [hI, if_neg (fun hh => hx hh.1)]
        by_cases h3 : s = 3
        · subst h3
          rw [if_pos (by decide)]
          refine ⟨_, rfl, ?_, fun p hp => hw p hp, hex⟩
          obtain ⟨c1, c2, c3, c4, c5⟩ := hst
          obtain ⟨-, -, -, -, -, b6, b7, b8⟩ := hb
          refine ⟨c1, c2, c3, c4, c5, b6, b7, fun i hi => ?_⟩
          rw [hI, hI, hI, if_neg (by omega), if_neg (by omega), if_neg (by omega)]
          exact b8 i hi
        · rw [if_neg (fun hh => h3 (w4.mp hh)), px_b beginRun_eq]
          have hK : bK (bSet b s v) = 0 := if_neg h3
          have hR : bR (bSet b s v) = 0 := if_neg h3
          obtain ⟨k1, k2, k3⟩ := begin5 hK hR hst
          exact ⟨_, rfl, k1, k2, hex.tr k3⟩
      · intro σ hσ
        rw [h20]
        unfold f_X6_set_20
        rw [px_o w2, px_o (within6_t hr.1 hr.2), if_neg (by decide)]
      · intro σ hb hw
        have hb0 := hb
        obtain ⟨b1, b2, b3, b4, b5, b6, b7, b8⟩ := hb
        simp only [Nat.zero_add] at b1 b2 b3 b4 b5 b6 b7 b8
        simp only []
        rw [px_rI (by omega) (by decide), px_w (by omega) (by decide), nI_clamp (by omega), b1 s hs]
        have hI : ∀ x y i, (wx_sI σ 16 0 s (nI v)).1 x y i = if x = 16 ∧ y = 0 ∧ i = s then nI v else σ.1 x y i := fun _ _ _ => rfl
        have hst : st6 (bSet b s v) (wx_sI σ 16 0 s (nI v)) := by
          refine ⟨fun i hi => ?_, fun p hp => ?_, fun n hn => ?_, ?_, fun i hi => ⟨?_, ?_⟩⟩
          · rw [hI]
            show _ = nI (if i = s then v else bS b i)
            by_cases h : i = s
            · rw [if_pos ⟨rfl, rfl, h⟩, if_pos h]
            · rw [if_neg (fun hh => h hh.2.2), if_neg h, b1 i hi]
          · rw [hI, if_neg (by omega)]; exact b2 p hp
          · rw [hI, if_neg (by omega)]; exact b3 n hn
          · rw [hI, if_neg (by omega)]; exact b4
          · rw [hI, if_neg (by omega)]; exact (b5 i hi).1
          · rw [hI, if_neg (by omega)]; exact (b5 i hi).2
        have hex : eq6 σ (wx_sI σ 16 0 s (nI v)) := by
          refine ⟨⟨fun x hx => ⟨?_, rfl, rfl⟩, rfl⟩, fun k hk => ?_, fun _ _ _ _ => rfl, rfl⟩
          · funext y i
            rw [hI, if_neg (fun hh => hx hh.1)]
          · funext i
            rw [hI, if_neg (fun hh => hk hh.2.1)]
        unfold f_X6_set_60
        by_cases h3 : s = 3
        · subst h3
          rw [if_pos (by decide)]
          refine ⟨_, rfl, ?_, fun p hp => hw p hp, hex⟩
          obtain ⟨c1, c2, c3, c4, c5⟩ := hst
          unfold rfI
          simp only [Nat.zero_add]
          refine ⟨c1, c2, c3, c4, c5, ?_, ?_, fun i hi => ?_⟩
          · rw [hI, if_neg (by omega)]; exact b6
          · rw [hI, if_neg (by omega)]; exact b7
          · rw [hI, hI, hI, if_neg (by omega), if_neg (by omega), if_neg (by omega)]
            exact b8 i hi
        · rw [if_neg (fun hh => h3 (w4.mp hh)), px_b beginsRun_eq]
          have hK : bK (bSet b s v) = 0 := if_neg h3
          have hR : bR (bSet b s v) = 0 := if_neg h3
          obtain ⟨k1, k2, k3⟩ := begin6 (b := bSet b s v) g.2.2.2.1 hK hR hst
          exact ⟨_, rfl, k1, k2, hex.tr k3⟩
    · left
      refine ⟨-2, by decide, Cs.no (fun σ hb => ?_), fun σ hb => ?_⟩
      · unfold f_X0_change f_X0_change_30
        rw [if_neg w5, if_pos w6, px_rT hs (by decide)]
        by_cases h1 : x2 < wx_v1.getD s 0
        · rw [if_pos h1]
        · rw [if_neg h1, px_rT hs (by decide), if_neg (fun h2 => hr ⟨by
            rw [Int32.lt_iff_toInt_lt] at h1
            rw [Int32.le_iff_toInt_le]
            omega, h2⟩)]
      · rw [h20]
        unfold f_X6_set_20 f_X6_set_30
        rw [px_o w2, px_o (within6_f hr), if_pos rfl]
  · left
    refine ⟨-2, by decide, Cs.no (fun σ hb => ?_), fun σ hb => ?_⟩
    · unfold f_X0_change f_X0_change_9
      rcases out_not hx with h | h
      · rw [if_pos h]
      · by_cases h2 : x1 < 0
        · rw [if_pos h2]
        · rw [if_neg h2, if_neg (show ¬ x1 < 4 from h)]
    · unfold f_X6_set f_X6_set_30
      rw [px_o (show f_X6_within x1 0 3 = some 0 from within6_o (n := 3) (by decide) hx), if_pos rfl]
