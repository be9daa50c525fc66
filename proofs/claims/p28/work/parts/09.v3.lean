/-! lay and tracks -/
def nbr (p q : Nat) : Bool := (sp_nl p 0).any (fun n => decide (n = q)) || (sp_nl p 1).any (fun n => decide (n = q)) || (sp_nl p 2).any (fun n => decide (n = q)) || (sp_nl p 3).any (fun n => decide (n = q))
theorem nbr_sym : ∀ p, p < 64 → ∀ q, q < 64 → nbr p q = nbr q p := by decide +kernel
theorem areN_side {P q s m : Nat} (hP : P < 64) (hq : q < 64) (hs : s < 4) : f_X5_areNeighbours_2 (m + 1) (nI P) (nI q) (nI s) = if (sp_nl P s).any (fun n => decide (n = q)) = true then some 1 else f_X5_areNeighbours_2 m (nI P) (nI q) (nI (s + 1)) := by
  rw [f_X5_areNeighbours_2, if_neg (p4_i s hs), px_o (nb5 P hP s hs)]
  rcases (sp_nl_v P hP s hs).2 with e | ⟨n, hn, e⟩
  · rw [e, if_neg (show ¬ (-6 : Int32) = nI q from fun h => p64_i q hq h.symm), nI_1]
    simp
  · rw [e]
    show (if nI n = nI q then _ else _) = _
    by_cases h : n = q
    · rw [if_pos (by rw [h])]
      simp [h]
    · rw [if_neg (fun hx => h ((nI_eq (by omega) (by omega)).mp hx)), nI_1]
      simp [h]
theorem areN_eq {P q : Nat} (hP : P < 64) (hq : q < 64) : f_X5_areNeighbours (nI P) (nI q) = some (b01 (nbr P q)) := by
  unfold f_X5_areNeighbours
  rw [show (0 : Int32) = nI 0 from rfl, areN_side hP hq (s := 0) (by decide), areN_side hP hq (s := 1) (by decide), areN_side hP hq (s := 2) (by decide), areN_side hP hq (s := 3) (by decide), f_X5_areNeighbours_2, if_pos (show (4 : Int32) ≤ nI (3 + 1) by decide)]
  unfold nbr
  cases (sp_nl P 0).any (fun n => decide (n = q)) <;> cases (sp_nl P 1).any (fun n => decide (n = q)) <;> cases (sp_nl P 2).any (fun n => decide (n = q)) <;> cases (sp_nl P 3).any (fun n => decide (n = q)) <;> rfl
def needI (b : Bd) (P i : Nat) : Bool := decide (bP b i = P) || (nbr (bP b i) P && decide (bO b i = bN b P))
def need (b : Bd) (P : Nat) : Bool := (List.range (bT b)).any (needI b P)
theorem needed_loop {b : Bd} {σ : wx_St} (h : bdI 7 b σ) (g : good b) {P : Nat} (hP : P < 64) : ∀ (n j m : Nat), j + n = bT b → n < m → (∀ i, i < j → needI b P i = false) → f_X0_isNeededByTouch_2 7 m (nI P) (nI j) σ = some (b01 (need b P)) := by
  have hT := g.2.2.2.1
  intro n
  induction n with
  | zero =>
    intro j m hj hm hn
    obtain ⟨m, rfl⟩ : ∃ k, m = k + 1 := ⟨m - 1, by omega⟩
    have hj : j = bT b := by omega
    subst hj
    rw [f_X0_isNeededByTouch_2, h.2.2.2.1, if_pos (nI_le (Nat.le_refl _) (by omega))]
    have : need b P = false := by
      unfold need
      rw [List.any_eq_false]
      intro i hi
      rw [hn i (List.mem_range.mp hi)]
      decide
    rw [this]
    rfl
  | succ n ih =>
    intro j m hj hm hn
    obtain ⟨m, rfl⟩ : ∃ k, m = k + 1 := ⟨m - 1, by omega⟩
    have hjT : j < bT b := by omega
    obtain ⟨g1, g2, g3, g4⟩ := g.2.2.2.2.1 j hjT
    have yes : needI b P j = true → need b P = true := fun hh => by
      unfold need
      rw [List.any_eq_true]
      exact ⟨j, List.mem_range.mpr hjT, hh⟩
    have no : needI b P j = false → f_X0_isNeededByTouch_2 7 m (nI P) (nI (j + 1)) σ = some (b01 (need b P)) := fun hh => ih (j + 1) m (by omega) (by omega) (fun i hi => by
      by_cases hij : i = j
      · rw [hij]; exact hh
      · exact hn i (by omega))
    rw [f_X0_isNeededByTouch_2, h.2.2.2.1, if_neg (nI_ge hjT (by omega)), px_rI (by omega) (by decide), (h.2.2.2.2.1 j hjT).1]
    by_cases he : bP b j = P
    · rw [if_pos (by rw [he]), yes (by unfold needI; simp [he])]
      rfl
    · rw [if_neg (fun hx => he ((nI_eq (by omega) (by omega)).mp hx)), px_rI (by omega) (by decide), (h.2.2.2.2.1 j hjT).1, px_o (areN_eq g1 hP)]
      unfold f_X0_isNeededByTouch_52
      cases hnb : nbr (bP b j) P with
      | false =>
        rw [if_pos (show b01 false = 0 from rfl), nI_1]
        exact no (by unfold needI; simp [he, hnb])
      | true =>
        rw [if_neg (show ¬ b01 true = 0 by decide), px_rI (by omega) (by decide), (h.2.2.2.2.1 j hjT).2, px_rI hP (by decide), h.2.1 P hP]
        have hN := g.2.1 P hP
        by_cases ho : bO b j = bN b P
        · rw [if_pos (by rw [ho]), yes (by unfold needI; simp [hnb, ho])]
          rfl
        · rw [if_neg (fun hx => ho ((nI_eq (by omega) (by omega)).mp hx)), nI_1]
          exact no (by unfold needI; simp [he, ho])
theorem needed5 {b : Bd} {σ : wx_St} (h : bdI 7 b σ) (g : good b) {P : Nat} (hP : P < 64) : f_X0_isNeededByTouch 7 (nI P) σ = some (b01 (need b P)) := by
  have hT := g.2.2.2.1
  exact needed_loop h g hP (bT b) 0 2000 (by omega) (by omega) (fun i hi => by omega)
def wnS (b : Bd) (P s : Nat) : Bool := (List.range (bT b)).any (fun i => decide (sp_nl P s = [bP b i]) && decide (bO b i = bN b P))
theorem need_wn {b : Bd} (g : good b) {P : Nat} (hP : P < 64) : need b P = ((List.range (bT b)).any (fun i => decide (bP b i = P)) || wnS b P 0 || wnS b P 1 || wnS b P 2 || wnS b P 3) := by
  have hn : ∀ i, i < bT b → (nbr (bP b i) P = true ↔ (sp_nl P 0 = [bP b i] ∨ sp_nl P 1 = [bP b i] ∨ sp_nl P 2 = [bP b i] ∨ sp_nl P 3 = [bP b i])) := by
    intro i hi
    have g1 := (g.2.2.2.2.1 i hi).1
    rw [nbr_sym _ g1 _ hP]
    unfold nbr
    have one : ∀ s, s < 4 → ((sp_nl P s).any (fun n => decide (n = bP b i)) = true ↔ sp_nl P s = [bP b i]) := by
      intro s hs
      rcases (sp_nl_v P hP s hs).2 with e | ⟨n, hn, e⟩
      · rw [e]; simp
      · rw [e]; simp
    rw [Bool.or_eq_true, Bool.or_eq_true, Bool.or_eq_true, one 0 (by decide), one 1 (by decide), one 2 (by decide), one 3 (by decide)]
    constructor
    · rintro (((h | h) | h) | h)
      · exact Or.inl h
      · exact Or.inr (Or.inl h)
      · exact Or.inr (Or.inr (Or.inl h))
      · exact Or.inr (Or.inr (Or.inr h))
    · rintro (h | h | h | h)
      · exact Or.inl (Or.inl (Or.inl h))
      · exact Or.inl (Or.inl (Or.inr h))
      · exact Or.inl (Or.inr h)
      · exact Or.inr h
  rw [Bool.eq_iff_iff]
  unfold need wnS needI
  simp only [Bool.or_eq_true, List.any_eq_true, List.mem_range, Bool.and_eq_true, decide_eq_true_eq]
  constructor
  · rintro ⟨i, hi, h | ⟨h1, h2⟩⟩
    · exact Or.inl (Or.inl (Or.inl (Or.inl ⟨i, hi, h⟩)))
    · rcases (hn i hi).mp h1 with h | h | h | h
      · exact Or.inl (Or.inl (Or.inl (Or.inr ⟨i, hi, h, h2⟩)))
      · exact Or.inl (Or.inl (Or.inr ⟨i, hi, h, h2⟩))
      · exact Or.inl (Or.inr ⟨i, hi, h, h2⟩)
      · exact Or.inr ⟨i, hi, h, h2⟩
  · rintro ((((⟨i, hi, h⟩ | ⟨i, hi, h, h2⟩) | ⟨i, hi, h, h2⟩) | ⟨i, hi, h, h2⟩) | ⟨i, hi, h, h2⟩)
    · exact ⟨i, hi, Or.inl h⟩
    · exact ⟨i, hi, Or.inr ⟨(hn i hi).mpr (Or.inl h), h2⟩⟩
    · exact ⟨i, hi, Or.inr ⟨(hn i hi).mpr (Or.inr (Or.inl h)), h2⟩⟩
    · exact ⟨i, hi, Or.inr ⟨(hn i hi).mpr (Or.inr (Or.inr (Or.inl h))), h2⟩⟩
    · exact ⟨i, hi, Or.inr ⟨(hn i hi).mpr (Or.inr (Or.inr (Or.inr h))), h2⟩⟩
/-- with a row for the letter's road: what refuses, what does -/
def Why (g5 : wx_St → Option (Int32 × wx_St)) (why6 : wx_St → Option Int32) (do6 : wx_St → Option (Int32 × wx_St)) (b : Bd) : Prop :=
  (∃ e, ¬ 0 ≤ e ∧ Cs g5 b e b ∧ ∀ σ, rfI 0 0 b σ → why6 σ = some e) ∨
  (∃ r b', 0 ≤ r ∧ good b' ∧ Cs g5 b r b' ∧ (∀ σ, rfI 0 0 b σ → why6 σ = some 0) ∧ Rs do6 b r b')
def bLay (b : Bd) (P v : Nat) : Bd := (bS b, fun p => if p = P then v else bN b p, bF b, bT b, bP b, bO b, 0, 0, bA b, bB b, bC b)
theorem bLay_good {b : Bd} (g : good b) {P v : Nat} (hv : v < 8) (hn : need b P = false) : good (bLay b P v) := by
  obtain ⟨gS, gN, gF, gT, gP, gA, gK, gR, gr⟩ := g
  have hN : ∀ p, bN (bLay b P v) p = if p = P then v else bN b p := fun _ => rfl
  refine ⟨gS, fun p hp => ?_, gF, gT, fun i hi => ?_, gA, Nat.zero_le _, Nat.zero_le _, fun i hi => absurd hi (Nat.not_lt_zero _)⟩
  · rw [hN]
    split
    · exact hv
    · exact gN p hp
  · obtain ⟨a1, a2, a3, a4⟩ := gP i hi
    refine ⟨a1, a2, a3, ?_⟩
    show (if bP b i = P then v else bN b (bP b i)) ≠ 0
    have : ¬ bP b i = P := by
      intro hh
      unfold need at hn
      rw [List.any_eq_false] at hn
      apply hn i (List.mem_range.mpr hi)
      unfold needI
      simp [hh]
    rw [if_neg this]
    exact a4
theorem lay5_28 {b : Bd} {R C N : Nat} (hR : R < 8) (hC : C < 8) (hN : N < 8) (σ : wx_St) : f_X0_lay 7 (nI R) (nI C) (nI N) σ = f_X0_lay_28 7 (nI R) (nI C) (nI N) (nI (8 * R + C)) σ := by
  unfold f_X0_lay
  rw [px_o (placeOf_yes R hR C hC).1, if_pos (nI_pos' (by omega))]
  by_cases h0 : N = 0
  · rw [h0, if_pos (show nI 0 = 0 from rfl)]
  · rw [if_neg (nI_ne0 (by omega) (by omega)), px_o (net_yes N hN).1, decide_eq_true (show 1 ≤ N by omega), if_neg (by decide)]
theorem lay5n {b : Bd} (g : good b) {R C N : Nat} (hR : R < 8) (hC : C < 8) (hN : N < 8) (hn : need b (8 * R + C) = true) : Cs (f_X0_lay 7 (nI R) (nI C) (nI N)) b (-5) b := by
  have hP : 8 * R + C < 64 := by omega
  refine Cs.no (fun σ hb => ?_)
  rw [lay5_28 (b := b) hR hC hN]
  unfold f_X0_lay_28
  rw [px_o (needed5 hb g hP), hn, if_neg (by decide)]
theorem lay5 {b : Bd} (g : good b) {R C N : Nat} (hR : R < 8) (hC : C < 8) (hN : N < 8) (hn : need b (8 * R + C) = false) : Cs (f_X0_lay 7 (nI R) (nI C) (nI N)) b (nI (bN b (8 * R + C))) (bLay b (8 * R + C) N) := by
  have hP : 8 * R + C < 64 := by omega
  have hbN := g.2.1 _ hP
  intro σ hb hw
  rw [lay5_28 (b := b) hR hC hN]
  unfold f_X0_lay_28
  rw [px_o (needed5 hb g hP), hn, if_pos (by decide), px_rI hP (by decide), px_w hP (by decide), nI_clamp (by omega), px_b beginRun_eq, hb.2.1 _ hP]
  have hI : ∀ x y i, (wx_sI σ 7 1 (8 * R + C) (nI N)).1 x y i = if x = 7 ∧ y = 1 ∧ i = 8 * R + C then nI N else σ.1 x y i := fun _ _ _ => rfl
  have hst : st5 7 (bLay b (8 * R + C) N) (wx_sI σ 7 1 (8 * R + C) (nI N)) := by
    obtain ⟨b1, b2, b3, b4, b5, -⟩ := hb
    refine ⟨fun i hi => ?_, fun p hp => ?_, fun n hn => ?_, b4, fun i hi => ⟨?_, ?_⟩⟩
    · rw [hI, if_neg (by omega)]; exact b1 i hi
    · rw [hI]
      show _ = nI (if p = 8 * R + C then N else bN b p)
      by_cases h : p = 8 * R + C
      · rw [if_pos ⟨rfl, rfl, h⟩, if_pos h]
      · rw [if_neg (fun hh => h hh.2.2), if_neg h, b2 p hp]
    · rw [hI, if_neg (by omega)]; exact b3 n hn
    · rw [hI, if_neg (by omega)]; exact (b5 i hi).1
    · rw [hI, if_neg (by omega)]; exact (b5 i hi).2
  have hex : eqx 7 σ (wx_sI σ 7 1 (8 * R + C) (nI N)) := by
    refine ⟨fun x hx => ⟨?_, rfl, rfl⟩, rfl⟩
    funext y i
    rw [hI, if_neg (fun hh => hx hh.1)]
  obtain ⟨k1, k2, k3⟩ := begin5 (b := bLay b (8 * R + C) N) rfl rfl hst
  exact ⟨_, rfl, k1, k2, hex.tr k3⟩
