/-! A ROW of a comparison -/
theorem colF_s (h : Nat → Bool) (R C : Nat) : colF h R (C + 1) = colF h R C ||| (b01 (h (8 * R + C)) <<< (nI C &&& 31)) := rfl
theorem sh_b : ∀ c : Bool, ∀ C, C < 8 → (b01 c <<< (nI C &&& 31)) = if c = true then (1 <<< (nI C &&& 31)) else 0 := by decide +kernel
theorem or_0 (x : Int32) : x ||| 0 = x := by
  rw [← Int32.toBitVec_inj, Int32.toBitVec_or]
  show x.toBitVec ||| 0#32 = _
  rw [BitVec.or_zero]
theorem cnt_s1 (h : Nat → Bool) (n : Nat) : nI (cnt h n) + b01 (h n) = nI (cnt h (n + 1)) := by
  have e : cnt h (n + 1) = cnt h n + (if h n = true then 1 else 0) := rfl
  rw [e]
  cases h n with
  | false => rw [if_neg (by decide), show b01 false = nI 0 from rfl, nI_add]
  | true => rw [if_pos rfl, show b01 true = nI 1 from rfl, nI_add]
section prow
variable {b : Bd} {σ : wx_St} {K30 : Int64 → Int32 → Int32 → Int32 → Int32 → Int32 → wx_St → Option (Int32 × wx_St)} {K49 : Int64 → Int32 → Int32 → Int32 → Int32 → Int32 → Int32 → Int32 → Int32 → Int32 → wx_St → Option (Int32 × wx_St)} {could : Int64} {x8 x9 x10 x14 x15 x16 : Int32} {R C t : Nat} {k : Nat → Nat}
theorem p98 (S : SM b t (many b (8 * R + C)) σ) (hR : R < 8) (hC : C < 8) {c : Bool} : ∃ τ, SM b t (many b (8 * R + C + 1)) τ ∧ f_L_same_98 K30 K49 could x8 x9 x10 (nI (cnt (live b) (bT b))) (nI R) (colF (trk b) R C) (colF (sus b) R C) x16 (nI C) (nI (8 * R + C)) (b01 (sus b (8 * R + C))) (b01 c) σ = K49 could (x8 + b01 (trk b (8 * R + C))) (x9 + b01 (sus b (8 * R + C))) (x10 + b01 c) (nI (cnt (live b) (bT b))) (nI R) (colF (trk b) R (C + 1)) (colF (sus b) R (C + 1)) (x16 ||| (b01 c <<< (nI C &&& 31))) (nI C + 1) τ := by
  have g := S.1.good
  have hP : 8 * R + C < 64 := by omega
  have gN := g.2.1 _ hP
  have S' : SM b t (many b (8 * R + C + 1)) (wx_sI σ 16 5 (bN b (8 * R + C)) (nI (many b (8 * R + C) (bN b (8 * R + C))) + 1)) := by
    obtain ⟨s1, s2, s3, s4⟩ := S
    have hI : ∀ x y i, (wx_sI σ 16 5 (bN b (8 * R + C)) (nI (many b (8 * R + C) (bN b (8 * R + C))) + 1)).1 x y i = if x = 16 ∧ y = 5 ∧ i = bN b (8 * R + C) then nI (many b (8 * R + C) (bN b (8 * R + C))) + 1 else σ.1 x y i := fun _ _ _ => rfl
    refine ⟨s1.r16 ⟨fun x hx => ⟨?_, rfl, rfl⟩, rfl⟩, ?_, s3.of (fun _ _ => rfl), fun n hn => ?_⟩
    · funext y i
      rw [hI, if_neg (fun hh => hx hh.1)]
    · obtain ⟨⟨a1, a2, a3, a4⟩, a5, a6, a7, a8⟩ := s2
      refine ⟨⟨fun i hi => ?_, ?_, ?_, ?_⟩, fun i hi => ⟨?_, ?_⟩, fun i hi => ⟨?_, ?_, ?_⟩, fun p hp => ?_, fun n hn => ?_⟩
      · rw [hI, if_neg (by omega)]; exact a1 i hi
      · rw [hI, if_neg (by omega)]; exact a2
      · rw [hI, if_neg (by omega)]; exact a3
      · rw [hI, if_neg (by omega)]; exact a4
      · rw [hI, if_neg (by omega)]; exact (a5 i hi).1
      · rw [hI, if_neg (by omega)]; exact (a5 i hi).2
      · rw [hI, if_neg (by omega)]; exact (a6 i hi).1
      · rw [hI, if_neg (by omega)]; exact (a6 i hi).2.1
      · rw [hI, if_neg (by omega)]; exact (a6 i hi).2.2
      · rw [hI, if_neg (by omega)]; exact a7 p hp
      · rw [hI, if_neg (by omega)]; exact a8 n hn
    · rw [hI]
      have e : many b (8 * R + C + 1) n = many b (8 * R + C) n + (if decide (bN b (8 * R + C) = n) = true then 1 else 0) := rfl
      rw [e]
      by_cases hh : n = bN b (8 * R + C)
      · subst hh
        rw [if_pos ⟨rfl, rfl, rfl⟩, decide_eq_true rfl, if_pos rfl, nI_1]
      · rw [if_neg (fun q => hh q.2.2), decide_eq_false (fun q => hh q.symm), if_neg (by decide)]
        exact s4 n hn
  obtain ⟨τ, S1, e1⟩ := p148 (K30 := K30) (K49 := K49) (x1 := could) (x8 := x8) (x9 := x9) (x10 := x10) (x14 := colF (trk b) R (C + 1)) (x15 := colF (sus b) R C) (x16 := x16) (y0 := colF (sus b) R C) (y1 := b01 (sus b (8 * R + C)) <<< (nI C &&& 31)) S' hR hC (c := c)
  refine ⟨τ, S1, ?_⟩
  rw [colF_s (sus b), ← e1]
  unfold f_L_same_98
  rw [q_b S.2.1 hP, px_rI gN (by decide), S.2.2.2 _ gN, px_w gN (by decide), nI_clamp (by omega), q_b S'.2.1 hP]
  have e130 : ∀ y1, y1 = b01 (trk b (8 * R + C)) <<< (nI C &&& 31) → f_L_same_130 K30 K49 could x8 x9 x10 (nI (cnt (live b) (bT b))) (nI R) (colF (trk b) R C) (colF (sus b) R C) x16 (nI C) (nI (8 * R + C)) (b01 (sus b (8 * R + C))) (b01 c) (colF (trk b) R C) y1 (wx_sI σ 16 5 (bN b (8 * R + C)) (nI (many b (8 * R + C) (bN b (8 * R + C))) + 1)) = f_L_same_148 K30 K49 could x8 x9 x10 (nI (cnt (live b) (bT b))) (nI R) (colF (trk b) R (C + 1)) (colF (sus b) R C) x16 (nI C) (nI (8 * R + C)) (b01 (sus b (8 * R + C))) (b01 c) (colF (sus b) R C) (b01 (sus b (8 * R + C)) <<< (nI C &&& 31)) (wx_sI σ 16 5 (bN b (8 * R + C)) (nI (many b (8 * R + C) (bN b (8 * R + C))) + 1)) := by
    intro y1 hy
    subst hy
    unfold f_L_same_130
    rw [← colF_s (trk b), sh_b (sus b (8 * R + C)) C hC]
    cases hs : sus b (8 * R + C) with
    | false => rw [if_pos (show b01 false = 0 from rfl), if_neg (by decide)]
    | true => rw [if_neg (show ¬ b01 true = 0 by decide), if_pos rfl]
  by_cases h0 : bN b (8 * R + C) = 0
  · rw [if_pos ((nI_le0 _ gN).mpr h0)]
    refine e130 0 ?_
    rw [sh_b _ C hC, if_neg]
    unfold trk
    rw [decide_eq_false (fun q => q h0)]
    decide
  · rw [if_neg (fun q => h0 ((nI_le0 _ gN).mp q))]
    refine e130 _ ?_
    rw [sh_b _ C hC, if_pos]
    unfold trk
    exact decide_eq_true h0
theorem place_ok (S : SM b t (many b (8 * R + C)) σ) (co : CO could b) (hR : R < 8) (hC : C < 8) (n : Nat) : ∃ τ, SM b t (many b (8 * R + C + 1)) τ ∧ f_L_same_49 K30 (n + 1) could (nI (cnt (trk b) (8 * R + C))) (nI (cnt (sus b) (8 * R + C))) (nI (cnt (cb b) (8 * R + C))) (nI (cnt (live b) (bT b))) (nI R) (colF (trk b) R C) (colF (sus b) R C) (colF (cb b) R C) (nI C) σ = f_L_same_49 K30 n could (nI (cnt (trk b) (8 * R + C + 1))) (nI (cnt (sus b) (8 * R + C + 1))) (nI (cnt (cb b) (8 * R + C + 1))) (nI (cnt (live b) (bT b))) (nI R) (colF (trk b) R (C + 1)) (colF (sus b) R (C + 1)) (colF (cb b) R (C + 1)) (nI (C + 1)) τ := by
  have g := S.1.good
  have hP : 8 * R + C < 64 := by omega
  obtain ⟨τ, S1, e1⟩ := p98 (K30 := K30) (K49 := f_L_same_49 K30 n) (could := could) (x8 := nI (cnt (trk b) (8 * R + C))) (x9 := nI (cnt (sus b) (8 * R + C))) (x10 := nI (cnt (cb b) (8 * R + C))) (x16 := colF (cb b) R C) S hR hC (c := cb b (8 * R + C))
  refine ⟨τ, S1, ?_⟩
  rw [cnt_s1, cnt_s1, cnt_s1, nI_1, ← colF_s (cb b)] at e1
  rw [← e1, f_L_same_49, if_neg (show ¬ (8 : Int32) ≤ nI C from nI_ge (a := C) (b := 8) hC (by decide)), mul8 R (by omega), nI_add, px_o (lsus_eq S.2.1 g hP)]
  have ec := co (8 * R + C) hP
  have e97 : cb b (8 * R + C) = false → f_L_same_97 K30 (f_L_same_49 K30 n) could (nI (cnt (trk b) (8 * R + C))) (nI (cnt (sus b) (8 * R + C))) (nI (cnt (cb b) (8 * R + C))) (nI (cnt (live b) (bT b))) (nI R) (colF (trk b) R C) (colF (sus b) R C) (colF (cb b) R C) (nI C) (nI (8 * R + C)) (b01 (sus b (8 * R + C))) σ = f_L_same_98 K30 (f_L_same_49 K30 n) could (nI (cnt (trk b) (8 * R + C))) (nI (cnt (sus b) (8 * R + C))) (nI (cnt (cb b) (8 * R + C))) (nI (cnt (live b) (bT b))) (nI R) (colF (trk b) R C) (colF (sus b) R C) (colF (cb b) R C) (nI C) (nI (8 * R + C)) (b01 (sus b (8 * R + C))) (b01 (cb b (8 * R + C))) σ := by
    intro hh
    rw [hh]
    rfl
  by_cases hs : b01 (sus b (8 * R + C)) = 0
  · have hs' : sus b (8 * R + C) = false := by
      cases hh : sus b (8 * R + C) with
      | false => rfl
      | true => rw [hh] at hs; exact absurd hs (by decide)
    rw [if_pos hs]
    exact e97 (by rw [ec, hs']; rfl)
  · have hs' : sus b (8 * R + C) = true := by
      cases hh : sus b (8 * R + C) with
      | false => rw [hh] at hs; exact absurd rfl hs
      | true => rfl
    rw [if_neg hs]
    by_cases hm : mk could (8 * R + C) = true
    · rw [if_pos ((lg_cmp1 _ _).mpr ((mk_bit could hP).mpr hm)), ec, hs', hm]
      rfl
    · rw [if_neg (fun q => hm ((mk_bit could hP).mp ((lg_cmp1 _ _).mp q)))]
      exact e97 (by rw [ec, hs']; simpa using hm)
theorem cols_ok (co : CO could b) (hR : R < 8) : ∀ (n C m : Nat) (σ : wx_St), SM b t (many b (8 * R + C)) σ → C + n = 8 → ∃ τ, SM b t (many b (8 * R + 8)) τ ∧ f_L_same_49 K30 (m + n) could (nI (cnt (trk b) (8 * R + C))) (nI (cnt (sus b) (8 * R + C))) (nI (cnt (cb b) (8 * R + C))) (nI (cnt (live b) (bT b))) (nI R) (colF (trk b) R C) (colF (sus b) R C) (colF (cb b) R C) (nI C) σ = f_L_same_49 K30 m could (nI (cnt (trk b) (8 * R + 8))) (nI (cnt (sus b) (8 * R + 8))) (nI (cnt (cb b) (8 * R + 8))) (nI (cnt (live b) (bT b))) (nI R) (colF (trk b) R 8) (colF (sus b) R 8) (colF (cb b) R 8) (nI 8) τ := by
  intro n
  induction n with
  | zero =>
    intro C m σ S hC
    have : C = 8 := by omega
    subst this
    exact ⟨σ, S, rfl⟩
  | succ n ih =>
    intro C m σ S hC
    obtain ⟨σ1, S1, e1⟩ := place_ok (K30 := K30) S co hR (by omega) (m + n)
    obtain ⟨τ, S2, e2⟩ := ih (C + 1) m σ1 S1 (by omega)
    exact ⟨τ, S2, e1.trans e2⟩
theorem row1_ok (S : SM b t k σ) {y8 y9 y10 : Int32} : ∀ (n C m : Nat) (σ : wx_St), SM b t k σ → C + n = 5 → n < m → ∃ τ, SM b t k τ ∧ f_L_same_438 K30 m could y8 y9 y10 (nI (cnt (live b) (bT b))) (nI 1) x14 x15 (colF (cb b) 1 8) (nI C) σ = K30 could y8 y9 y10 (nI (cnt (live b) (bT b))) (nI 2) τ := by
  intro n
  induction n with
  | zero =>
    intro C m σ S hC hm
    obtain ⟨m, rfl⟩ : ∃ k, m = k + 1 := ⟨m - 1, by omega⟩
    have : C = 5 := by omega
    subst this
    rw [f_L_same_438, if_pos (by decide)]
    exact ⟨σ, S, rfl⟩
  | succ n ih =>
    intro C m σ S hC hm
    obtain ⟨m, rfl⟩ : ∃ k, m = k + 1 := ⟨m - 1, by omega⟩
    obtain ⟨σ1, S1, e1⟩ := S.call (at5_4 (R := 1) (C := C) (by decide) (by omega))
    obtain ⟨τ, S2, e2⟩ := ih (C + 1) m σ1 S1 (by omega) (by omega)
    refine ⟨τ, S2, ?_⟩
    rw [f_L_same_438, if_neg (show ¬ (5 : Int32) ≤ nI C from nI_ge (a := C) (b := 5) (by omega) (by decide)), if_pos (show nI 1 = 1 from rfl), e1]
    unfold f_L_same_459
    rw [bit_of _ (by omega), colF_bit (cb b) 1 (by omega) 8 (by decide), decide_eq_true (show C < 8 by omega), Bool.true_and, if_pos rfl, nI_1]
    exact e2
theorem row_ok (S : SM b t (many b (8 * R)) σ) (co : CO could b) (hR : R < 8) : ∃ τ, SM b t (many b (8 * (R + 1))) τ ∧ f_L_same_49 K30 2000 could (nI (cnt (trk b) (8 * R))) (nI (cnt (sus b) (8 * R))) (nI (cnt (cb b) (8 * R))) (nI (cnt (live b) (bT b))) (nI R) 0 0 0 0 σ = K30 could (nI (cnt (trk b) (8 * (R + 1)))) (nI (cnt (sus b) (8 * (R + 1)))) (nI (cnt (cb b) (8 * (R + 1)))) (nI (cnt (live b) (bT b))) (nI (R + 1)) τ := by
  obtain ⟨σ1, S1, e1⟩ := cols_ok (K30 := K30) (t := t) co hR 8 0 1992 σ S (by decide)
  have e1' : f_L_same_49 K30 2000 could (nI (cnt (trk b) (8 * R))) (nI (cnt (sus b) (8 * R))) (nI (cnt (cb b) (8 * R))) (nI (cnt (live b) (bT b))) (nI R) 0 0 0 0 σ = _ := e1
  obtain ⟨σ2, S2, e2⟩ := S1.call (row5_0 hR)
  obtain ⟨σ3, S3, e3⟩ := S2.call (row5_1 hR)
  obtain ⟨σ4, S4, e4⟩ := S3.call (row5_2 hR)
  have e8 : 8 * R + 8 = 8 * (R + 1) := by omega
  rw [e8] at S4 e1'
  have e49 : f_L_same_49 K30 1992 could (nI (cnt (trk b) (8 * (R + 1)))) (nI (cnt (sus b) (8 * (R + 1)))) (nI (cnt (cb b) (8 * (R + 1)))) (nI (cnt (live b) (bT b))) (nI R) (colF (trk b) R 8) (colF (sus b) R 8) (colF (cb b) R 8) (nI 8) σ1 = f_L_same_438 K30 2000 could (nI (cnt (trk b) (8 * (R + 1)))) (nI (cnt (sus b) (8 * (R + 1)))) (nI (cnt (cb b) (8 * (R + 1)))) (nI (cnt (live b) (bT b))) (nI R) (colF (trk b) R 8) (colF (sus b) R 8) (colF (cb b) R 8) 0 σ4 := by
    rw [f_L_same_49, if_pos (show (8 : Int32) ≤ nI 8 by decide), e2]
    unfold f_L_same_404
    rw [if_pos (show colF (fun p => decide (bN b p ≠ 0)) R 8 = colF (trk b) R 8 from rfl), e3]
    unfold f_L_same_416
    rw [if_pos rfl, e4]
    unfold f_L_same_428
    rw [if_pos rfl]
  rw [e1', e49]
  by_cases h1 : R = 1
  · subst h1
    exact row1_ok S4 5 0 2000 σ4 S4 (by decide) (by decide)
  · refine ⟨σ4, S4, ?_⟩
    rw [f_L_same_438, if_neg (show ¬ (5 : Int32) ≤ 0 by decide), if_neg (show ¬ nI R = 1 from fun hh => h1 ((nI_eq (b := 1) (by omega) (by decide)).mp hh))]
    unfold f_L_same_477
    rw [nI_1]
end prow
