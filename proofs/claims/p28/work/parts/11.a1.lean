/-! LONE TOUCHES in the class: follow, warmthBy -/
def lone (P : Nat) : Nat → Bool := fun q => decide (q = P)
theorem mk_one : ∀ i, i < 64 → ∀ j, j < 64 → mk ((1 : Int64) <<< ((nI i).toInt64 &&& 63)) j = decide (j = i) := by
  unfold mk
  decide +kernel
/-- a row's warmth by lone touches, at readings -/
def rl (b : Bd) (P k : Nat) : Nat → UInt32 := runs (bS b 0) (100 - bS b 1) (bS b 2) (lone P) k
/-- what the class's lone rows may change -/
def eqL (σ τ : wx_St) : Prop := (∀ x, x ≠ 13 → agr x σ τ) ∧ τ.2.2.2.1 = σ.2.2.2.1 ∧ ∀ j, (σ.2.2.2.2 j = true → τ.2.2.2.2 j = true) ∧ (64 ≤ j → τ.2.2.2.2 j = σ.2.2.2.2 j)
theorem eqL.rf (σ : wx_St) : eqL σ σ := ⟨fun _ _ => ⟨rfl, rfl, rfl⟩, rfl, fun _ => ⟨fun h => h, fun _ => rfl⟩⟩
theorem eqL.tr {σ τ ρ : wx_St} (h : eqL σ τ) (h' : eqL τ ρ) : eqL σ ρ := ⟨fun x hx => ⟨(h'.1 x hx).1.trans (h.1 x hx).1, (h'.1 x hx).2.1.trans (h.1 x hx).2.1, (h'.1 x hx).2.2.trans (h.1 x hx).2.2⟩, h'.2.1.trans h.2.1, fun j => ⟨fun hj => (h'.2.2 j).1 ((h.2.2 j).1 hj), fun hj => ((h'.2.2 j).2 hj).trans ((h.2.2 j).2 hj)⟩⟩
theorem eqL.eqC {σ τ : wx_St} (h : eqL σ τ) : eqC σ τ := ⟨h.1 16 (by decide), h.2.2⟩
def zero13 (σ : wx_St) (P : Nat) : wx_St := wx_uI σ 13 2 0 P (fun _ => 0)
theorem follow_50 {o1 k1 : Nat} {σ : wx_St} : ∀ (m P : Nat), P ≤ 64 → 65 ≤ m + P → f_X1_follow_50 o1 k1 m (nI P) (wx_uI σ 13 2 0 P (fun _ => 0)) = some ((), wx_uI σ 13 2 0 64 (fun _ => 0)) := by
  intro m
  induction m with
  | zero => intro P h1 h2; omega
  | succ m ih =>
    intro P h1 h2
    rw [f_X1_follow_50]
    by_cases hP : P < 64
    · have e2 := wx_uI_s (σ := σ) (o := 13) (k := 2) (b := 0) (P := P) (g := fun _ => 0)
      rw [Nat.zero_add] at e2
      rw [if_neg (p64_c P hP).2.2.2.2, px_w hP (by decide), nI_clamp (by omega), e2, nI_1]
      exact ih (P + 1) (by omega) (by omega)
    · have : P = 64 := by omega
      subst this
      rw [if_pos (by decide)]
theorem follow_ok {b : Bd} {σ : wx_St} (g : good b) (hb : bdI 7 b σ) {S L P : Nat} {z : Nat → Nat} (hl : loneI S L P z σ) : ∃ τ z', f_X1_follow 7 0 σ = some ((), τ) ∧ loneI (bS b 0) (bS b 1) (bS b 2) z' τ ∧ eqL σ τ := by
  obtain ⟨g0, g1, g2, g3, -⟩ := g.1
  have hl0 := hl
  obtain ⟨⟨l1, l2, l3⟩, l4, l5, l6, l7⟩ := hl
  have r : ∀ (o k j : Nat) (F : Int32 → Option (Unit × wx_St)), j < 4 → wx_rI σ o k 4 (nI j) F = F (σ.1 o k j) := fun o k j F hj => px_rI hj (by decide)
  have e37 : ∃ τ z', f_X1_follow_37 7 0 σ = some ((), τ) ∧ loneI (bS b 0) (bS b 1) (bS b 2) z' τ ∧ eqL σ τ := by
    unfold f_X1_follow_37 wx_l
    have f50 := follow_50 (o1 := 7) (k1 := 0) (σ := wx_cI σ 7 0 0 13 0 0 4) 2000 0 (by decide) (by decide)
    rw [wx_uI_0] at f50
    have f50' : f_X1_follow_50 7 0 2000 0 (wx_cI σ 7 0 0 13 0 0 4) = some ((), wx_uI (wx_cI σ 7 0 0 13 0 0 4) 13 2 0 64 (fun _ => 0)) := f50
    have hI : ∀ x y i, (wx_uI (wx_cI σ 7 0 0 13 0 0 4) 13 2 0 64 (fun _ => 0)).1 x y i = if x = 13 ∧ y = 2 ∧ 0 ≤ i ∧ i < 0 + 64 then 0 else if x = 13 ∧ y = 0 then va_cpy (σ.1 7 0) (σ.1 13 0) 0 0 4 i else σ.1 x y i := by
      intro x y i
      rfl
    have hc : ∀ i, i < 4 → (wx_uI (wx_cI σ 7 0 0 13 0 0 4) 13 2 0 64 (fun _ => 0)).1 13 0 i = nI (bS b i) := by
      intro i hi
      rw [hI, if_neg (by omega), if_pos ⟨rfl, rfl⟩]
      unfold va_cpy
      rw [if_pos (by omega), Nat.zero_add, Nat.sub_zero]
      exact hb.1 i hi
    refine ⟨_, fun _ => 0, f50', ⟨⟨by omega, by omega, by omega⟩, hc 0 (by decide), hc 1 (by decide), hc 2 (by decide), fun j hj => ⟨Nat.zero_le _, ?_, fun _ => rfl, fun ha i hi p hp => ?_⟩⟩, fun x hx => ⟨?_, rfl, rfl⟩, rfl, fun j => ⟨fun hj => hj, fun _ => rfl⟩⟩
    · rw [hI, if_pos ⟨rfl, rfl, by omega, by omega⟩]
      rfl
    · have hi : i = 0 := Nat.le_zero.mp hi
      subst hi
      exact (l7 j hj).2.2.2 ha 0 (Nat.zero_le _) p hp
    · funext y i
      rw [hI, if_neg (fun hh => hx hh.1), if_neg (fun hh => hx hh.1)]
  unfold f_X1_follow
  rw [show (0 : Int32) = nI 0 from rfl, show (1 : Int32) = nI 1 from rfl, show (2 : Int32) = nI 2 from rfl, r 13 0 0 _ (by decide), r 7 0 0 _ (by decide), r 13 0 1 _ (by decide), r 7 0 1 _ (by decide), r 13 0 2 _ (by decide), r 7 0 2 _ (by decide), l4, l5, l6, hb.1 0 (by decide), hb.1 1 (by decide), hb.1 2 (by decide)]
  by_cases h0 : S = bS b 0
  · rw [if_pos (by rw [h0])]
    by_cases h1 : L = bS b 1
    · rw [if_pos (by rw [h1])]
      by_cases h2 : P = bS b 2
      · rw [if_pos (by rw [h2])]
        subst h0 h1 h2
        exact ⟨σ, z, rfl, hl0, eqL.rf σ⟩
      · rw [if_neg (fun hh => h2 ((nI_eq (by omega) (by omega)).mp hh))]
        exact e37
    · rw [if_neg (fun hh => h1 ((nI_eq (by omega) (by omega)).mp hh))]
      exact e37
  · rw [if_neg (fun hh => h0 ((nI_eq (by omega) (by omega)).mp hh))]
    exact e37
theorem warmthBy_36 {S L P : Nat} (hs : SetOK S (100 - L) P) {src k p : Nat} (hsrc : src < 64) (hk : k ≤ 100) (hp : p < 64) : ∀ (n m : Nat) (z : Nat → Nat) (σ : wx_St), loneI S L P z σ → σ.2.2.2.2 src = true → 100 - z src ≤ n → n < m →
    ∃ τ z', f_X1_warmthBy_36 m (nI src) (nI k) (nI p) (nI (z src)) σ = some (runs S (100 - L) P (lone src) k p, τ) ∧ loneI S L P z' τ ∧ eqL σ τ := by
  have h91 : ∀ (z : Nat → Nat) (σ : wx_St) x5, loneI S L P z σ → σ.2.2.2.2 src = true → k ≤ z src → f_X1_warmthBy_91 (nI src) (nI k) (nI p) x5 σ = some (runs S (100 - L) P (lone src) k p, σ) := by
    intro z σ x5 hl ha hkz
    unfold f_X1_warmthBy_91
    have e64 : nI k * 64 = nI (64 * k) := by
      have : ∀ n, n < 101 → nI n * 64 = nI (64 * n) := by decide
      exact this _ (by omega)
    rw [e64, nI_add, nI_clamp (by omega), px_rF (by omega) (by decide), (hl.2.2.2.2 src hsrc).2.2.2 ha k hkz p hp]
    rfl
  intro n
  induction n with
  | zero =>
    intro m z σ hl ha hn hm
    obtain ⟨m, rfl⟩ : ∃ k, m = k + 1 := ⟨m - 1, by omega⟩
    have hz := (hl.2.2.2.2 src hsrc).1
    rw [f_X1_warmthBy_36, if_pos (nI_le (by omega) (by omega)), h91 z σ _ hl ha (by omega)]
    exact ⟨σ, z, rfl, hl, eqL.rf σ⟩
  | succ n ih =>
    intro m z σ hl ha hn hm
    obtain ⟨m, rfl⟩ : ∃ k, m = k + 1 := ⟨m - 1, by omega⟩
    have hz := (hl.2.2.2.2 src hsrc).1
    rw [f_X1_warmthBy_36]
    by_cases hkz : k ≤ z src
    · rw [if_pos (nI_le hkz (by omega)), h91 z σ _ hl ha hkz]
      exact ⟨σ, z, rfl, hl, eqL.rf σ⟩
    · rw [if_neg (nI_ge (by omega) (by omega)), if_neg (show ¬ (100 : Int32) ≤ nI (z src) from nI_ge (a := z src) (b := 100) (by omega) (by decide))]
      have e64 : ∀ n, n < 102 → nI n * 64 = nI (64 * n) := by decide
      obtain ⟨⟨l1, l2, l3⟩, l4, l5, l6, l7⟩ := id hl
      have hrow := (l7 src hsrc).2.2.2 ha (z src) (Nat.le_refl _)
      have hok := runs_sok (h := lone src) hs (k := z src) (by omega) (f := fun q => σ.2.1 13 (100 + src) (64 * z src + q)) hrow
      have hL : (100 : Int32) - σ.1 13 0 1 = nI (100 - L) := by
        rw [l5]
        have := hs.2.1
        exact nI_sub (m := 100) (by omega)
      have est := st_step (o0 := 13) (k0 := 100 + src) (n0 := 6464) (o2 := 13) (k2 := 100 + src) (n2 := 6464) (o6 := 13) (k6 := 0) (a := 64 * z src) (b := 64 * (z src + 1)) (x4 := (1 : Int64) <<< ((nI src).toInt64 &&& 63)) (σ := σ) (h := lone src) (by omega) (by decide) (by omega) (by decide) (Or.inr (by omega)) (fun Q hQ => by rw [isIn_eq _ hQ, mk_one src hsrc Q hQ]; rfl) l4 hL l6 hok
      rw [nI_clamp (by omega), nI_1, e64 _ (by omega), e64 _ (by omega), px_b est, px_w hsrc (by decide)]
      generalize hu : wx_uF σ 13 (100 + src) (64 * (z src + 1)) 64 (sp_step (fun p => σ.2.1 13 (100 + src) (64 * z src + p)) (FP.i2f (nI S)) (FP.i2f (nI (100 - L))) (FP.i2f (nI P)) (lone src)) = ρ
      have hF : ∀ x y i, ρ.2.1 x y i = if x = 13 ∧ y = 100 + src ∧ 64 * (z src + 1) ≤ i ∧ i < 64 * (z src + 1) + 64 then sp_step (fun p => σ.2.1 13 (100 + src) (64 * z src + p)) (FP.i2f (nI S)) (FP.i2f (nI (100 - L))) (FP.i2f (nI P)) (lone src) (i - 64 * (z src + 1)) else σ.2.1 x y i := fun x y i => by rw [← hu]; rfl
      have hρ1 : ρ.1 = σ.1 := by rw [← hu]; rfl
      have hρ2 : ρ.2.2 = σ.2.2 := by rw [← hu]; rfl
      have hI : ∀ x y i, (wx_sI ρ 13 2 src (nI (z src + 1))).1 x y i = if x = 13 ∧ y = 2 ∧ i = src then nI (z src + 1) else σ.1 x y i := by
        intro x y i
        show (if x = 13 ∧ y = 2 ∧ i = src then nI (z src + 1) else ρ.1 x y i) = _
        rw [hρ1]
      have hl2 : loneI S L P (fun j => if j = src then z src + 1 else z j) (wx_sI ρ 13 2 src (nI (z src + 1))) := by
        refine ⟨⟨l1, l2, l3⟩, ?_, ?_, ?_, fun j hj => ?_⟩
        · rw [hI, if_neg (by omega)]; exact l4
        · rw [hI, if_neg (by omega)]; exact l5
        · rw [hI, if_neg (by omega)]; exact l6
        · obtain ⟨y1, y2, y3, y4⟩ := l7 j hj
          have hal : (wx_sI ρ 13 2 src (nI (z src + 1))).2.2.2.2 = σ.2.2.2.2 := by
            show ρ.2.2.2.2 = _
            rw [hρ2]
          have hf : (wx_sI ρ 13 2 src (nI (z src + 1))).2.1 = ρ.2.1 := rfl
          rw [hI, hal, hf]
          show (if j = src then z src + 1 else z j) ≤ 100 ∧ _ = nI (if j = src then z src + 1 else z j) ∧ (_ → (if j = src then z src + 1 else z j) = 0) ∧ (_ → ∀ i, i ≤ (if j = src then z src + 1 else z j) → _)
          by_cases he : j = src
          · subst he
            rw [if_pos rfl, if_pos ⟨rfl, rfl, rfl⟩]
            refine ⟨by omega, rfl, fun hh => (by rw [ha] at hh; cases hh), fun _ i hi q hq => ?_⟩
            rw [hF]
            by_cases hiz : i = z j + 1
            · subst hiz
              rw [if_pos ⟨rfl, rfl, by omega, by omega⟩, show 64 * (z j + 1) + q - 64 * (z j + 1) = q by omega]
              exact sp_step_congr (fun n hn => hrow n hn) (fun _ _ => rfl) hq
            · rw [if_neg (by omega)]
              exact y4 ha i (by omega) q hq
          · rw [if_neg he, if_neg (fun hh => he hh.2.2)]
            refine ⟨y1, y2, y3, fun hj2 i hi q hq => ?_⟩
            rw [hF, if_neg (by omega)]
            exact y4 hj2 i hi q hq
      have ex : eqL σ (wx_sI ρ 13 2 src (nI (z src + 1))) := by
        refine ⟨fun x hx => ⟨?_, ?_, ?_⟩, ?_, fun j => ⟨fun hj => ?_, fun hj => ?_⟩⟩
        · funext y i
          rw [hI, if_neg (fun hh => hx hh.1)]
        · funext y i
          show ρ.2.1 x y i = _
          rw [hF, if_neg (fun hh => hx hh.1)]
        · show ρ.2.2.1 x = _
          rw [hρ2]
        · show ρ.2.2.2.1 = _
          rw [hρ2]
        · show ρ.2.2.2.2 j = true
          rw [hρ2]; exact hj
        · show ρ.2.2.2.2 j = _
          rw [hρ2]
      have hz2 : (fun j => if j = src then z src + 1 else z j) src = z src + 1 := if_pos rfl
      obtain ⟨τ, z', t1, t2, t3⟩ := ih m (fun j => if j = src then z src + 1 else z j) (wx_sI ρ 13 2 src (nI (z src + 1))) hl2 ((ex.2.2 src).1 ha) (by rw [if_pos (rfl : src = src)]; omega) (by omega)
      rw [if_pos (rfl : src = src)] at t1
      exact ⟨τ, z', t1, t2, ex.tr t3⟩
theorem warmthBy_20 {S L P : Nat} (hs : SetOK S (100 - L) P) {src k p : Nat} (hsrc : src < 64) (hk : k ≤ 100) (hp : p < 64) {z : Nat → Nat} {σ : wx_St} (hl : loneI S L P z σ) (ha : σ.2.2.2.2 src = true) : ∃ τ z', f_X1_warmthBy_20 (nI src) (nI k) (nI p) σ = some (runs S (100 - L) P (lone src) k p, τ) ∧ loneI S L P z' τ ∧ eqL σ τ := by
  unfold f_X1_warmthBy_20
  rw [px_rA hsrc, if_pos ha, px_rI hsrc (by decide), (hl.2.2.2.2 src hsrc).2.1]
  exact warmthBy_36 hs hsrc hk hp 100 2000 z σ hl ha (by omega) (by omega)
theorem warmthBy_ok {S L P : Nat} (hs : SetOK S (100 - L) P) {src k p : Nat} (hsrc : src < 64) (hk : k ≤ 100) (hp : p < 64) {z : Nat → Nat} {σ : wx_St} (hl : loneI S L P z σ) : ∃ τ z', f_X1_warmthBy (nI src) (nI k) (nI p) σ = some (runs S (100 - L) P (lone src) k p, τ) ∧ loneI S L P z' τ ∧ eqL σ τ := by
  unfold f_X1_warmthBy
  rw [px_rA hsrc, nI_clamp (by omega)]
  cases ha : σ.2.2.2.2 src with
  | true =>
    rw [if_pos rfl]
    exact warmthBy_20 hs hsrc hk hp hl ha
  | false =>
    rw [if_neg (by decide), px_l]
    have hF : ∀ x y i, (wx_sA σ src).2.1 x y i = if x = 13 ∧ y = 100 + src then 0 else σ.2.1 x y i := fun _ _ _ => rfl
    have hA : ∀ j, (wx_sA σ src).2.2.2.2 j = if j = src then true else σ.2.2.2.2 j := fun _ => rfl
    have hl2 : loneI S L P z (wx_sA σ src) := by
      obtain ⟨l0, l4, l5, l6, l7⟩ := hl
      refine ⟨l0, l4, l5, l6, fun j hj => ?_⟩
      obtain ⟨y1, y2, y3, y4⟩ := l7 j hj
      refine ⟨y1, y2, ?_, ?_⟩
      · rw [hA]
        by_cases he : j = src
        · rw [if_pos he]
          intro hh
          cases hh
        · rw [if_neg he]
          exact y3
      · rw [hA]
        by_cases he : j = src
        · subst he
          intro _ i hi q hq
          have hz : z j = 0 := y3 ha
          have hi0 : i = 0 := by omega
          subst hi0
          rw [hF, if_pos ⟨rfl, rfl⟩]
          rfl
        · rw [if_neg he]
          intro hh i hi q hq
          rw [hF, if_neg (by omega)]
          exact y4 hh i hi q hq
    have ex : eqL σ (wx_sA σ src) := by
      refine ⟨fun x hx => ⟨rfl, ?_, rfl⟩, rfl, fun j => ⟨fun hj => ?_, fun hj => ?_⟩⟩
      · funext y i
        rw [hF, if_neg (fun hh => hx hh.1)]
      · rw [hA]
        by_cases he : j = src
        · rw [if_pos he]
        · rw [if_neg he]; exact hj
      · rw [hA, if_neg (by omega)]
    obtain ⟨τ, z', t1, t2, t3⟩ := warmthBy_20 hs hsrc hk hp hl2 (by rw [hA, if_pos rfl])
    exact ⟨τ, z', t1, t2, ex.tr t3⟩

