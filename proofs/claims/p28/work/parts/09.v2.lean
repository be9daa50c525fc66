/-! change, on both sides -/
theorem px_rT {α : Type} {t : List Int32} {n j : Nat} {F : Int32 → Option α} (h : j < n) (hn : n < 2 ^ 31) : wx_rT t n (nI j) F = F (t.getD j 0) := by
  unfold wx_rT
  rw [if_pos (wx_in_nI h hn), nI_clamp (by omega)]
theorem Cs.no {g5 : wx_St → Option (Int32 × wx_St)} {b : Bd} {e : Int32} (h : ∀ σ, bdI 7 b σ → g5 σ = some (e, σ)) : Cs g5 b e b := fun σ hb hw => ⟨σ, h σ hb, hb, hw, eqx.rf 7 σ⟩
def bSet (b : Bd) (s v : Nat) : Bd := (fun i => if i = s then v else bS b i, bN b, bF b, bT b, bP b, bO b, if s = 3 then bK b else 0, if s = 3 then bR b else 0, bA b, bB b, bC b)
theorem set_lo : ∀ s, s < 4 → (nI s = 2 ↔ s = 2) ∧ (nI s = 3 ↔ s = 3) ∧ ¬ nI s < 0 ∧ nI s < 4 ∧ wx_v1.getD s 0 = (if s = 2 then 1 else 0) ∧ wx_v2.getD s 0 = nI (if s = 0 then 24 else if s = 1 then 50 else 99) := by decide +kernel
theorem set_rg : ∀ s, s < 4 → ∀ v, v < 100 → (s = 2 → 1 ≤ v) → v ≤ (if s = 0 then 24 else if s = 1 then 50 else 99) → ¬ nI v < wx_v1.getD s 0 ∧ nI v ≤ wx_v2.getD s 0 := by decide +kernel
theorem bSet_good {b : Bd} (g : good b) {s v : Nat} (hs : s < 4) (h1 : s = 2 → 1 ≤ v) (h2 : v ≤ (if s = 0 then 24 else if s = 1 then 50 else 99)) : good (bSet b s v) := by
  obtain ⟨⟨g1, g2, g3, g4, g5⟩, gN, gF, gT, gP, gA, gK, gR, gr⟩ := g
  have hS : ∀ i, bS (bSet b s v) i = if i = s then v else bS b i := fun _ => rfl
  refine ⟨?_, gN, gF, gT, gP, gA, ?_, ?_, ?_⟩
  · rw [hS, hS, hS, hS]
    rcases (show s = 0 ∨ s = 1 ∨ s = 2 ∨ s = 3 by omega) with rfl | rfl | rfl | rfl
    · exact ⟨h2, g2, g3, g4, g5⟩
    · exact ⟨g1, h2, g3, g4, g5⟩
    · exact ⟨g1, g2, h1 rfl, h2, g5⟩
    · exact ⟨g1, g2, g3, g4, h2⟩
  · show (if s = 3 then bK b else 0) ≤ 100
    split <;> omega
  · show (if s = 3 then bR b else 0) ≤ 8
    split <;> omega
  · show ∀ i, i < (if s = 3 then bR b else 0) → bA b i < 64 ∧ bB b i < 2 ^ 31 ∧ bC b i ≤ (if s = 3 then bK b else 0)
    intro i hi
    by_cases h3 : s = 3
    · rw [if_pos h3] at hi ⊢
      exact gr i hi
    · rw [if_neg h3] at hi
      omega
theorem bSet_warm3 (b : Bd) (v : Nat) : bWarm (bSet b 3 v) = bWarm b := rfl
theorem change5 {b : Bd} (g : good b) {s v : Nat} (hs : s < 4) (hv1 : s = 2 → 1 ≤ v) (hv2 : v ≤ (if s = 0 then 24 else if s = 1 then 50 else 99)) : Cs (f_X0_change 7 (nI s) (nI v)) b (nI (bS b s)) (bSet b s v) := by
  obtain ⟨w3, w4, w5, w6, w7, w8⟩ := set_lo s hs
  have hv : v < 100 := by
    have : (if s = 0 then 24 else if s = 1 then 50 else 99) ≤ 99 := by split <;> (try split) <;> omega
    omega
  obtain ⟨c1, c2⟩ := set_rg s hs v hv hv1 hv2
  intro σ hb hw
  unfold f_X0_change f_X0_change_56
  rw [if_neg w5, if_pos w6, px_rT hs (by decide), if_neg c1, px_rT hs (by decide), if_pos c2, px_rI hs (by decide), px_w hs (by decide), nI_clamp (by omega), hb.1 s hs]
  have hI : ∀ x y i, (wx_sI σ 7 0 s (nI v)).1 x y i = if x = 7 ∧ y = 0 ∧ i = s then nI v else σ.1 x y i := fun _ _ _ => rfl
  have hst : st5 7 (bSet b s v) (wx_sI σ 7 0 s (nI v)) := by
    obtain ⟨b1, b2, b3, b4, b5, -⟩ := hb
    refine ⟨fun i hi => ?_, fun p hp => ?_, fun n hn => ?_, b4, fun i hi => ⟨?_, ?_⟩⟩
    · rw [hI]
      show _ = nI (if i = s then v else bS b i)
      by_cases h : i = s
      · rw [if_pos ⟨rfl, rfl, h⟩, if_pos h]
      · rw [if_neg (fun hh => h hh.2.2), if_neg h, b1 i hi]
    · rw [hI, if_neg (by omega)]; exact b2 p hp
    · rw [hI, if_neg (by omega)]; exact b3 n hn
    · rw [hI, if_neg (by omega)]; exact (b5 i hi).1
    · rw [hI, if_neg (by omega)]; exact (b5 i hi).2
  have hex : eqx 7 σ (wx_sI σ 7 0 s (nI v)) := by
    refine ⟨fun x hx => ⟨?_, rfl, rfl⟩, rfl⟩
    funext y i
    rw [hI, if_neg (fun hh => hx hh.1)]
  by_cases h3 : s = 3
  · subst h3
    rw [if_pos (by decide)]
    refine ⟨_, rfl, ?_, fun p hp => hw p hp, hex⟩
    obtain ⟨c1, c2, c3, c4, c5⟩ := hst
    obtain ⟨-, -, -, -, -, b6, b7, b8⟩ := hb
    refine ⟨c1, c2, c3, c4, c5, b6, b7, fun i hi => ?_⟩
    rw [hI, hI, hI, if_neg (by omega), if_neg (by omega), if_neg (by omega)]
    exact b8 i hi
  · rw [if_neg (fun hh => h3 (w4.mp hh)), px_b beginRun_eq]
    have hK : bK (bSet b s v) = 0 := if_neg h3
    have hR : bR (bSet b s v) = 0 := if_neg h3
    obtain ⟨k1, k2, k3⟩ := begin5 hK hR hst
    exact ⟨_, rfl, k1, k2, hex.tr k3⟩
