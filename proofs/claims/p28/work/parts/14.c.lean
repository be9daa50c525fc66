/-! TURNS OF THE LAW: mending, probes -/
section turn
variable {ad : Nat → Nat → Nat} {K : Int64 → Int32 → wx_St → Option (Int32 × wx_St)} {t : Nat} {b : Bd} {σ : wx_St} {could : Int64} {x10 x11 x12 x13 x14 x15 : Int32}
/-- the row of touches while its end moves up: j ints are at their places -/
def MX (b : Bd) (s j : Nat) (σ τ : wx_St) : Prop := eqx 16 σ τ ∧ (∀ y, y ≠ 1 → τ.1 16 y = σ.1 16 y) ∧ ∀ i, τ.1 16 1 i = if 2 * s ≤ i ∧ i < j then σ.1 16 1 (i + 2) else σ.1 16 1 i
theorem c_2T : ∀ T, T ≤ 3 → ∀ j, j < 7 → (2 * nI T - 2 ≤ nI j ↔ 2 * T ≤ j + 2) := by decide +kernel
theorem mend_loop {s : Nat} (hT : bT b ≤ 3) {x18 : Int32} : ∀ (n j m : Nat) (τ : wx_St), n = 2 * bT b - 2 - j → n < m → 2 * s ≤ j → j ≤ 6 → σ.1 16 0 5 = nI (bT b) → MX b s j σ τ → ∃ ρ, MX b s (max j (2 * bT b - 2)) σ ρ ∧ f_L_law_656 ad K m could (nI t) x10 x11 x12 x13 x14 x15 0 (nI s) x18 (nI j) τ = (if x18 = 0 then f_L_law_698 ad K could (nI t) x10 x11 x12 x13 x14 x15 0 (nI s) x18 (nI (max j (2 * bT b - 2))) 5 (nI (bT b)) 0 ρ else f_L_law_698 ad K could (nI t) x10 x11 x12 x13 x14 x15 0 (nI s) x18 (nI (max j (2 * bT b - 2))) 5 (nI (bT b)) 1 ρ) := by
  intro n
  induction n with
  | zero =>
    intro j m τ hn hm hs hj6 h5 hM
    obtain ⟨m, rfl⟩ : ∃ k, m = k + 1 := ⟨m - 1, by omega⟩
    have e5 : τ.1 16 0 5 = nI (bT b) := by rw [hM.2.1 0 (by decide)]; exact h5
    have emax : max j (2 * bT b - 2) = j := by omega
    rw [emax]
    refine ⟨τ, hM, ?_⟩
    rw [f_L_law_656, show (5 : Int32) = nI 5 from rfl, px_rI (by decide) (by decide), e5, if_pos ((c_2T _ hT j (by omega)).mpr (by omega)), px_rI (by decide) (by decide), e5]
  | succ n ih =>
    intro j m τ hn hm hs hj6 h5 hM
    obtain ⟨m, rfl⟩ : ∃ k, m = k + 1 := ⟨m - 1, by omega⟩
    have e5 : τ.1 16 0 5 = nI (bT b) := by rw [hM.2.1 0 (by decide)]; exact h5
    have e2 : nI j + 2 = nI (j + 2) := nI_add j 2
    have hM' : MX b s (j + 1) σ (wx_sI τ 16 1 j (τ.1 16 1 (j + 2))) := by
      refine ⟨hM.1.tr (ex_16 _ _ _ _), fun y hy => ?_, fun i => ?_⟩
      · funext q
        rw [sI_16, if_neg (fun hh => hy hh.1), hM.2.1 y hy]
      · rw [sI_16, hM.2.2 i, hM.2.2 (j + 2), if_neg (show ¬ (2 * s ≤ j + 2 ∧ j + 2 < j) by omega)]
        by_cases hi : i = j
        · subst hi
          rw [if_pos ⟨rfl, rfl⟩, if_pos ⟨hs, by omega⟩]
        · rw [if_neg (fun hh => hi hh.2)]
          by_cases hc : 2 * s ≤ i ∧ i < j
          · rw [if_pos hc, if_pos ⟨hc.1, by omega⟩]
          · rw [if_neg hc, if_neg (by omega)]
    obtain ⟨ρ, h1, h2⟩ := ih (j + 1) m _ (by omega) (by omega) (by omega) (by omega) h5 hM'
    have emax : max (j + 1) (2 * bT b - 2) = max j (2 * bT b - 2) := by omega
    rw [emax] at h1 h2
    refine ⟨ρ, h1, ?_⟩
    rw [← h2, f_L_law_656, show (5 : Int32) = nI 5 from rfl, px_rI (by decide) (by decide), e5, if_neg (fun hh => by have := (c_2T _ hT j (by omega)).mp hh; omega), e2, px_rI (by omega) (by decide), px_w (by omega) (by decide), nI_clamp (by omega), nI_1]
theorem k_D (hN : Nx K t) (ht : t < 34) (I : LI t could b σ) {s : Nat} (hs : s < 3) : ∃ τ, (wx_rI σ 16 0 7 5 (fun v639 => if v639 ≤ (nI s) then
            f_L_law_648 ad K could (nI t) x10 x11 x12 x13 x14 x15 0 (nI s) 0 σ
           else
            f_L_law_648 ad K could (nI t) x10 x11 x12 x13 x14 x15 0 (nI s) 1 σ)) = some (1, τ) := by
  have g := I.1.good
  have gT := g.2.2.2.1
  have h := I.2.1
  have h5 := h.1.2.2.1
  have M0 : MX b s (2 * s) σ σ := ⟨eqx.rf 16 σ, fun _ _ => rfl, fun i => by rw [if_neg (by omega)]⟩
  rw [q_T h]
  by_cases hT : bT b ≤ s
  · rw [if_pos (nI_le hT (by omega))]
    obtain ⟨ρ, hM, e1⟩ := mend_loop (ad := ad) (K := K) (could := could) (t := t) (x10 := x10) (x11 := x11) (x12 := x12) (x13 := x13) (x14 := x14) (x15 := x15) (s := s) (x18 := 0) gT _ (2 * s) 2000 σ rfl (by omega) (Nat.le_refl _) (by omega) h5 M0
    have emax : max (2 * s) (2 * bT b - 2) = 2 * s := by omega
    rw [emax, if_pos rfl] at e1
    rw [emax] at hM
    unfold f_L_law_648
    rw [nI_2, e1]
    have hρ : ρ.1 16 1 = σ.1 16 1 := by
      funext i
      rw [hM.2.2 i, if_neg (by omega)]
    have hLρ : LR b (wx_sI ρ 16 0 5 (nI (bT b))) := by
      refine h.of ?_
      funext y j
      rw [sI_16]
      by_cases hh : y = 0 ∧ j = 5
      · rw [if_pos hh, hh.1, hh.2, h5]
      · rw [if_neg hh]
        by_cases hy : y = 1
        · rw [hy, hρ]
        · rw [hM.2.1 y hy]
    have i1 : IC b (wx_sI ρ 16 0 5 (nI (bT b))) := (I.1.r16 hM.1).r16 (ex_16 _ _ _ _)
    have i3 : TL t (wx_sI ρ 16 0 5 (nI (bT b))) := (I.2.2.1.ex hM.1).ex (ex_16 _ _ _ _)
    obtain ⟨σ1, f1, j1, j2, j3⟩ := LI.call (I := ⟨i1, hLρ, i3, I.2.2.2⟩) (k_mendn g hT (by omega))
    unfold f_L_law_698
    rw [show (0 : Int32) = nI 0 from rfl, nI_sub (Nat.zero_le _), Nat.sub_zero, show (5 : Int32) = nI 5 from rfl, px_w (by decide) (by decide), nI_clamp (by decide), px_b f1, if_pos rfl]
    unfold f_L_law_718
    rw [if_pos rfl]
    exact t0 hN ht ⟨j1, j2, j3, I.2.2.2⟩
  · have hT : s < bT b := by omega
    rw [if_neg (nI_ge hT (by omega))]
    obtain ⟨ρ, hM, e1⟩ := mend_loop (ad := ad) (K := K) (could := could) (t := t) (x10 := x10) (x11 := x11) (x12 := x12) (x13 := x13) (x14 := x14) (x15 := x15) (s := s) (x18 := 1) gT _ (2 * s) 2000 σ rfl (by omega) (Nat.le_refl _) (by omega) h5 M0
    have emax : max (2 * s) (2 * bT b - 2) = 2 * bT b - 2 := by omega
    rw [emax, if_neg (by decide)] at e1
    rw [emax] at hM
    unfold f_L_law_648
    rw [nI_2, e1]
    have i1 : IC b (wx_sI ρ 16 0 5 (nI (bT b - 1))) := (I.1.r16 hM.1).r16 (ex_16 _ _ _ _)
    have i3 : TL t (wx_sI ρ 16 0 5 (nI (bT b - 1))) := (I.2.2.1.ex hM.1).ex (ex_16 _ _ _ _)
    have x1 : LX (bPart b s) (wx_sI ρ 16 0 5 (nI (bT b - 1))) := by
      obtain ⟨a1, a2, a3, a4, a5⟩ := h.X
      refine ⟨fun i hi => ?_, ?_, fun i hi => ?_, fun p hp => ?_, fun n hn => ?_⟩
      · rw [sI_16, if_neg (by omega), hM.2.1 0 (by decide)]; exact a1 i hi
      · rw [sI_16, if_pos ⟨rfl, rfl⟩]; rfl
      · have hi : i < bT b - 1 := hi
        refine ⟨?_, ?_⟩
        · rw [sI_16, if_neg (by omega), hM.2.2]
          show _ = nI (if i < s then bP b i else bP b (i + 1))
          by_cases he : i < s
          · rw [if_pos he, if_neg (show ¬ (2 * s ≤ 2 * i ∧ 2 * i < 2 * bT b - 2) by omega)]
            exact (a3 i (by omega)).1
          · rw [if_neg he, if_pos (show 2 * s ≤ 2 * i ∧ 2 * i < 2 * bT b - 2 by omega)]
            exact (a3 (i + 1) (by omega)).1
        · rw [sI_16, if_neg (by omega), hM.2.2]
          show _ = nI (if i < s then bO b i else bO b (i + 1))
          by_cases he : i < s
          · rw [if_pos he, if_neg (show ¬ (2 * s ≤ 2 * i + 1 ∧ 2 * i + 1 < 2 * bT b - 2) by omega)]
            exact (a3 i (by omega)).2
          · rw [if_neg he, if_pos (show 2 * s ≤ 2 * i + 1 ∧ 2 * i + 1 < 2 * bT b - 2 by omega)]
            exact (a3 (i + 1) (by omega)).2
      · rw [sI_16, if_neg (by omega), hM.2.1 3 (by decide)]; exact a4 p hp
      · rw [sI_16, if_neg (by omega), hM.2.1 4 (by decide)]; exact a5 n hn
    obtain ⟨σ1, f1, j1, j2⟩ := k_mend g hT _ i1
    have x2 := x1.of j2.1.1
    have e5 : σ1.1 16 0 5 = nI (bT b - 1) := by
      rw [j2.1.1, sI_16, if_pos ⟨rfl, rfl⟩]
    have eT : nI (bT b) - 1 = nI (bT b - 1) := nI_sub (k := 1) (by omega)
    unfold f_L_law_698
    rw [eT, show (5 : Int32) = nI 5 from rfl, px_w (by decide) (by decide), nI_clamp (by decide), px_b f1, if_neg (show ¬ (1 : Int32) = 0 by decide), px_rI (by decide) (by decide), e5]
    unfold f_L_law_718
    rw [if_pos rfl]
    exact t1 (b := bPart b s) hN ht j1 x2 (i3.of (fun j hj => (j2.2 j).2 hj)) rfl rfl
/-! probes -/
theorem fitN_s (b : Bd) (P v : Nat) (w : Nat → UInt32) : fitN (bRead b P v) w = ((List.range (bR b)).all (fun i => fit1 (bRead b P v) i (w i)) && fit1 (bRead b P v) (bR b) (w (bR b))) := by
  unfold fitN
  have : bR (bRead b P v) = bR b + 1 := rfl
  rw [this, List.range_succ, List.all_append]
  simp
/-- what the new reading leaves -/
def nf (b : Bd) (P v p : Nat) : Bool := decide (((rdf (rl b p (bK b) P)).toInt - (v : Int)).natAbs ≤ bS b 3)
theorem cb_read (b : Bd) (P v p : Nat) : cb (bRead b P v) p = (cb b p && nf b P v p) := by
  have es : sus (bRead b P v) p = sus b p := rfl
  unfold cb
  rw [fitN_s, es]
  have e1 : (List.range (bR b)).all (fun i => fit1 (bRead b P v) i (lw (bRead b P v) p i)) = fitN b (lw b p) := by
    unfold fitN
    rw [Bool.eq_iff_iff, List.all_eq_true, List.all_eq_true]
    have hq : ∀ i, i < bR b → fit1 (bRead b P v) i (lw (bRead b P v) p i) = fit1 b i (lw b p i) := by
      intro i hi
      have ea : bA (bRead b P v) i = bA b i := if_neg (by omega)
      have eb : bB (bRead b P v) i = bB b i := if_neg (by omega)
      have ec : bC (bRead b P v) i = bC b i := if_neg (by omega)
      have e3 : bS (bRead b P v) 3 = bS b 3 := rfl
      have erl : ∀ k, rl (bRead b P v) p k = rl b p k := fun _ => rfl
      unfold fit1 lw
      rw [ea, eb, ec, e3, erl]
    constructor
    · intro h i hi
      rw [← hq i (List.mem_range.mp hi)]
      exact h i hi
    · intro h i hi
      rw [hq i (List.mem_range.mp hi)]
      exact h i hi
  have e2 : fit1 (bRead b P v) (bR b) (lw (bRead b P v) p (bR b)) = nf b P v p := by
    have ea : bA (bRead b P v) (bR b) = P := if_pos rfl
    have eb : bB (bRead b P v) (bR b) = v := if_pos rfl
    have ec : bC (bRead b P v) (bR b) = bK b := if_pos rfl
    have e3 : bS (bRead b P v) 3 = bS b 3 := rfl
    have erl : ∀ k, rl (bRead b P v) p k = rl b p k := fun _ => rfl
    unfold fit1 lw nf
    rw [ea, eb, ec, e3, erl]
  rw [e1, e2, Bool.and_assoc]
theorem by_c {a v d : Nat} (ha : a < 2 ^ 31) (hv : v < 2 ^ 31) (hd : d ≤ 99) : (¬ nI d < nI a - nI v ∧ -(nI a - nI v) ≤ nI d) ↔ ((a : Int) - (v : Int)).natAbs ≤ d := by
  have e1 : (nI a - nI v).toInt = (a : Int) - (v : Int) := by
    rw [Int32.toInt_sub, nI_toInt ha, nI_toInt hv, Int.bmod_eq_of_le] <;> omega
  have e2 : (-(nI a - nI v)).toInt = -((a : Int) - (v : Int)) := by
    rw [Int32.toInt_neg, e1, Int.bmod_eq_of_le] <;> omega
  rw [Int32.lt_iff_toInt_lt, Int32.le_iff_toInt_le, e1, e2, nI_toInt (by omega)]
  omega
theorem live_one {b : Bd} (g : good b) (hl : cnt (live b) (bT b) = 1) {i : Nat} (hi : i < bT b) (h : live b i = true) : ∀ j, j < bT b → live b j = true → j = i := by
  have gT := g.2.2.2.1
  intro j hj hlj
  apply Classical.byContradiction
  intro hne
  have two : ∀ n i j, i < n → j < n → i < j → live b i = true → live b j = true → 2 ≤ cnt (live b) n := by
    intro n
    induction n with
    | zero => intro i j hi; omega
    | succ n ih =>
      intro i j hi hj hij h1 h2
      have e : cnt (live b) (n + 1) = cnt (live b) n + (if live b n = true then 1 else 0) := rfl
      rw [e]
      by_cases hjn : j = n
      · subst hjn
        rw [h2, if_pos rfl]
        have one : ∀ n i, i < n → live b i = true → 1 ≤ cnt (live b) n := by
          intro n
          induction n with
          | zero => intro i hi; omega
          | succ n ih2 =>
            intro i hi h1
            have e : cnt (live b) (n + 1) = cnt (live b) n + (if live b n = true then 1 else 0) := rfl
            rw [e]
            by_cases hin : i = n
            · subst hin
              rw [h1, if_pos rfl]
              omega
            · have := ih2 i (by omega) h1
              omega
        have := one j i (by omega) h1
        omega
      · have := ih i j (by omega) (by omega) hij h1 h2
        omega
  rcases Nat.lt_or_ge i j with hc | hc
  · have := two _ i j hi hj hc h hlj; omega
  · have := two _ j i hj hi (by omega) hlj h; omega
theorem heat_one {b : Bd} (g : good b) (hl : cnt (live b) (bT b) = 1) {i : Nat} (hi : i < bT b) (h : live b i = true) (q : Nat) : heat b q = lone (bP b i) q := by
  unfold heat lone
  rw [Bool.eq_iff_iff, List.any_eq_true, decide_eq_true_eq]
  constructor
  · rintro ⟨j, hj, hh⟩
    rw [Bool.and_eq_true, decide_eq_true_eq] at hh
    have := live_one g hl hi h j (List.mem_range.mp hj) hh.2
    rw [← hh.1, this]
  · intro hq
    exact ⟨i, List.mem_range.mpr hi, by rw [decide_eq_true hq.symm, h]; rfl⟩
end turn
