/-! WHAT HOLDS BETWEEN CALLS -/
def agr (x : Nat) (σ τ : wx_St) : Prop := τ.1 x = σ.1 x ∧ τ.2.1 x = σ.2.1 x ∧ τ.2.2.1 x = σ.2.2.1 x
def pastI (n : Nat) (h : Nat → Bd) (σ : wx_St) : Prop := σ.2.2.1 14 1 = nI n ∧ (∀ j, j < 7 → σ.2.2.2.1 j < 7) ∧ (∀ i j, i < 7 → j < 7 → σ.2.2.2.1 i = σ.2.2.2.1 j → i = j) ∧ ∀ j, j < n → bdI (σ.2.2.2.1 j) (h j) σ ∧ wm5 (σ.2.2.2.1 j) (h j) σ
def slotI (v : Nat → Bool) (sl : Nat → Bd) (σ : wx_St) : Prop := ∀ s, s < 2 → σ.1 11 6 s = b01 (v s) ∧ (v s = true → bdI (9 + s) (sl s) σ ∧ wm5 (9 + s) (sl s) σ)
def padI (len : Nat) (c : Nat → Int32) (σ : wx_St) : Prop := σ.2.2.1 15 1 = nI len ∧ ∀ j, j < len → σ.1 15 0 j = c j
/-- what is kept of lone touches: settings, steps, rows -/
def loneI (S L P : Nat) (z : Nat → Nat) (σ : wx_St) : Prop := (S < 100 ∧ L < 100 ∧ P < 100) ∧ σ.1 13 0 0 = nI S ∧ σ.1 13 0 1 = nI L ∧ σ.1 13 0 2 = nI P ∧ ∀ j, j < 64 → z j ≤ 100 ∧ σ.1 13 2 j = nI (z j) ∧ (σ.2.2.2.2 j = false → z j = 0) ∧ (σ.2.2.2.2 j = true → ∀ i, i ≤ z j → ∀ p, p < 64 → σ.2.1 13 (100 + j) (64 * i + p) = runs S (100 - L) P (fun q => decide (q = j)) i p)
def gA (b : Bd) (n : Nat) (h : Nat → Bd) (v : Nat → Bool) (sl : Nat → Bd) (len : Nat) (c : Nat → Int32) : Prop := good b ∧ n ≤ 6 ∧ (∀ j, j < n → good (h j)) ∧ (∀ s, s < 2 → v s = true → good (sl s)) ∧ len ≤ 80 ∧ (∀ j, j < len → c j = c j)
def invC (b : Bd) (n : Nat) (h : Nat → Bd) (v : Nat → Bool) (sl : Nat → Bd) (len : Nat) (c : Nat → Int32) (σ : wx_St) : Prop := (bdI 7 b σ ∧ wm5 7 b σ) ∧ pastI n h σ ∧ slotI v sl σ ∧ padI len c σ ∧ ∃ S L P z, loneI S L P z σ
def invR (b : Bd) (n : Nat) (h : Nat → Bd) (v : Nat → Bool) (sl : Nat → Bd) (len : Nat) (c : Nat → Int32) (σ : wx_St) : Prop := (rfI 0 0 b σ ∧ wm6 1 0 b σ) ∧ (σ.2.2.1 16 4 = nI n ∧ ∀ j, j < n → rfI 2 (109 * j) (h j) σ ∧ wm6 3 (64 * j) (h j) σ) ∧ (∀ s, s < 2 → σ.1 16 7 s = b01 (v s) ∧ (v s = true → rfI 5 (109 * s) (sl s) σ ∧ wm6 6 (64 * s) (sl s) σ)) ∧ (σ.2.2.1 16 9 = nI len ∧ ∀ j, j < len → σ.1 16 8 j = c j)
def Inv (σ : wx_St) : Prop := ∃ b n h v sl len c, gA b n h v sl len c ∧ invC b n h v sl len c σ ∧ invR b n h v sl len c σ
theorem wm5.agr {x : Nat} {b : Bd} {σ τ : wx_St} (h : wm5 x b σ) (a : agr x σ τ) : wm5 x b τ := fun p hp => by rw [a.2.1]; exact h p hp
theorem bdI.agr {x : Nat} {b : Bd} {σ τ : wx_St} (h : bdI x b σ) (a : agr x σ τ) : bdI x b τ := h.other (o := 0) a.1 a.2.2
theorem pastI.of {n : Nat} {h : Nat → Bd} {σ τ : wx_St} (hn : n ≤ 7) (i : pastI n h σ) (a : ∀ j, j < n → agr (σ.2.2.2.1 j) σ τ) (a14 : τ.2.2.1 14 = σ.2.2.1 14) (r : τ.2.2.2.1 = σ.2.2.2.1) : pastI n h τ := by
  obtain ⟨i1, i2, i3, i4⟩ := i
  unfold pastI
  rw [a14, r]
  exact ⟨i1, i2, i3, fun j hj => ⟨(i4 j hj).1.agr (a j hj), (i4 j hj).2.agr (a j hj)⟩⟩
theorem slotI.of {v : Nat → Bool} {sl : Nat → Bd} {σ τ : wx_St} (i : slotI v sl σ) (a : agr 9 σ τ) (a' : agr 10 σ τ) (a11 : τ.1 11 = σ.1 11) : slotI v sl τ := by
  intro s hs
  rw [a11]
  obtain ⟨i1, i2⟩ := i s hs
  refine ⟨i1, fun hv => ?_⟩
  have : agr (9 + s) σ τ := by
    rcases (show s = 0 ∨ s = 1 by omega) with rfl | rfl
    · exact a
    · exact a'
  exact ⟨(i2 hv).1.agr this, (i2 hv).2.agr this⟩
theorem padI.of {len : Nat} {c : Nat → Int32} {σ τ : wx_St} (i : padI len c σ) (a : agr 15 σ τ) : padI len c τ := by
  unfold padI
  rw [a.1, a.2.2]
  exact i
theorem loneI.of {S L P : Nat} {z : Nat → Nat} {σ τ : wx_St} (i : loneI S L P z σ) (a : agr 13 σ τ) (r : τ.2.2.2.2 = σ.2.2.2.2) : loneI S L P z τ := by
  unfold loneI
  rw [a.1, a.2.1, r]
  exact i
theorem invC.of {b n h v sl len c} {σ τ : wx_St} (hn : n ≤ 6) (i : invC b n h v sl len c σ) (e : eqx 16 σ τ) : invC b n h v sl len c τ := by
  obtain ⟨⟨i1, i2⟩, i3, i4, i5, S, L, P, z, i6⟩ := i
  have a : ∀ x, x ≠ 16 → agr x σ τ := fun x hx => e.1 x hx
  refine ⟨⟨i1.agr (a 7 (by decide)), i2.agr (a 7 (by decide))⟩, i3.of (by omega) (fun j hj => a _ ?_) (a 14 (by decide)).2.2 (by rw [e.2]), i4.of (a 9 (by decide)) (a 10 (by decide)) (a 11 (by decide)).1, i5.of (a 15 (by decide)), S, L, P, z, i6.of (a 13 (by decide)) (by rw [e.2])⟩
  have := i3.2.1 j (by omega)
  omega
theorem rfI.agr {k off : Nat} {b : Bd} {σ τ : wx_St} (h : rfI k off b σ) (e : τ.1 16 k = σ.1 16 k) : rfI k off b τ := by
  unfold rfI at h ⊢
  rw [e]
  exact h
theorem wm6.agr {k off : Nat} {b : Bd} {σ τ : wx_St} (h : wm6 k off b σ) (e : τ.2.1 16 k = σ.2.1 16 k) : wm6 k off b τ := by
  unfold wm6 at h ⊢
  rw [e]
  exact h
theorem invR.rows {b b' : Bd} {n h v sl len c} {σ τ : wx_St} (i : invR b n h v sl len c σ) (hb : rfI 0 0 b' τ) (hw : wm6 1 0 b' τ) (e1 : ∀ k, k = 2 ∨ k = 5 ∨ k = 7 ∨ k = 8 → τ.1 16 k = σ.1 16 k) (e2 : ∀ k, k = 3 ∨ k = 6 → τ.2.1 16 k = σ.2.1 16 k) (e4 : τ.2.2.1 16 4 = σ.2.2.1 16 4) (e9 : τ.2.2.1 16 9 = σ.2.2.1 16 9) : invR b' n h v sl len c τ := by
  obtain ⟨-, ⟨i3, i4⟩, i5, i6, i7⟩ := i
  refine ⟨⟨hb, hw⟩, ⟨e4.trans i3, fun j hj => ⟨(i4 j hj).1.agr (e1 2 (by decide)), (i4 j hj).2.agr (e2 3 (by decide))⟩⟩, fun s hs => ?_, e9.trans i6, fun j hj => ?_⟩
  · rw [e1 7 (by decide)]
    exact ⟨(i5 s hs).1, fun hv => ⟨((i5 s hs).2 hv).1.agr (e1 5 (by decide)), ((i5 s hs).2 hv).2.agr (e2 6 (by decide))⟩⟩
  · rw [e1 8 (by decide)]
    exact i7 j hj
theorem invR.of {b n h v sl len c} {σ τ : wx_St} (i : invR b n h v sl len c σ) (a : agr 16 σ τ) : invR b n h v sl len c τ :=
  i.rows (i.1.1.agr (by rw [a.1])) (i.1.2.agr (by rw [a.2.1])) (fun k _ => by rw [a.1]) (fun k _ => by rw [a.2.1]) (by rw [a.2.2]) (by rw [a.2.2])
theorem invR.eq6 {b b' : Bd} {n h v sl len c} {σ τ : wx_St} (i : invR b n h v sl len c σ) (hb : rfI 0 0 b' τ) (hw : wm6 1 0 b' τ) (e : eq6 σ τ) : invR b' n h v sl len c τ :=
  i.rows hb hw (fun k hk => e.2.1 k (by omega)) (fun k hk => e.2.2.1 k (by omega) (by omega) (by omega)) (by rw [e.2.2.2]) (by rw [e.2.2.2])
/-- what a function of the class may change, seen from the reference -/
def eqC (σ τ : wx_St) : Prop := agr 16 σ τ ∧ ∀ j, (σ.2.2.2.2 j = true → τ.2.2.2.2 j = true) ∧ (64 ≤ j → τ.2.2.2.2 j = σ.2.2.2.2 j)
theorem eqC.rf (σ : wx_St) : eqC σ σ := ⟨⟨rfl, rfl, rfl⟩, fun _ => ⟨fun h => h, fun _ => rfl⟩⟩
theorem eqC.tr {σ τ ρ : wx_St} (h : eqC σ τ) (h' : eqC τ ρ) : eqC σ ρ := ⟨⟨h'.1.1.trans h.1.1, h'.1.2.1.trans h.1.2.1, h'.1.2.2.trans h.1.2.2⟩, fun j => ⟨fun hj => (h'.2 j).1 ((h.2 j).1 hj), fun hj => ((h'.2 j).2 hj).trans ((h.2 j).2 hj)⟩⟩
theorem eqx.eqC {o : Nat} {σ τ : wx_St} (ho : o ≠ 16) (h : eqx o σ τ) : eqC σ τ := ⟨h.1 16 (fun e => ho e.symm), fun j => ⟨fun hj => by rw [h.2]; exact hj, fun _ => by rw [h.2]⟩⟩
def two {τ : Type} (f g : wx_St → Option (τ × wx_St)) : Prop := ∀ σ, Inv σ → ∃ r σ1 σ2, f σ = some (r, σ1) ∧ g σ1 = some (r, σ2) ∧ Inv σ2 ∧ wx_n σ.2.2.2.2 ≤ wx_n σ1.2.2.2.2 ∧ wx_n σ1.2.2.2.2 ≤ wx_n σ2.2.2.2.2
def pushN (n : Nat) : Nat := if n < 6 then n + 1 else 6
def pushH (n : Nat) (h : Nat → Bd) (b : Bd) : Nat → Bd := if n < 6 then fun j => if j = n then b else h j else fun j => if j = 5 then b else h (j + 1)
theorem push_good {n : Nat} {h : Nat → Bd} {b : Bd} (hn : n ≤ 6) (gb : good b) (gh : ∀ j, j < n → good (h j)) : pushN n ≤ 6 ∧ ∀ j, j < pushN n → good (pushH n h b j) := by
  unfold pushN pushH
  by_cases h6 : n < 6
  · rw [if_pos h6, if_pos h6]
    refine ⟨by omega, fun j hj => ?_⟩
    show good (if j = n then b else h j)
    by_cases he : j = n
    · rw [if_pos he]; exact gb
    · rw [if_neg he]; exact gh j (by omega)
  · rw [if_neg h6, if_neg h6]
    refine ⟨by omega, fun j hj => ?_⟩
    show good (if j = 5 then b else h (j + 1))
    by_cases he : j = 5
    · rw [if_pos he]; exact gb
    · rw [if_neg he]; exact gh (j + 1) (by omega)
/-- ready: the state ahead of a change is held in the spare -/
def spare (n : Nat) (b0 : Bd) (σ : wx_St) : Prop := bdI (σ.2.2.2.1 n) b0 σ ∧ wm5 (σ.2.2.2.1 n) b0 σ
theorem prepare_ok {b n h v sl len c} {σ : wx_St} (G : gA b n h v sl len c) (i : invC b n h v sl len c σ) : ∃ τ, f_X3_prepare 7 σ = some ((), τ) ∧ invC b n h v sl len c τ ∧ spare n b τ ∧ eqC σ τ := by
  obtain ⟨⟨i1, i2⟩, i3, i4, i5, S, L, P, z, i6⟩ := i
  obtain ⟨p1, p2, p3, p4⟩ := i3
  have hn : n ≤ 6 := G.2.1
  have hρ := p2 n (by omega)
  obtain ⟨τ, t1, t2, t3, t4, t5, t6, t7, t8⟩ := takeOver_eq (o := σ.2.2.2.1 n) (c := 7) (σ := σ) (by omega)
  rw [prepare_eq p1 (by omega) hρ]
  have a : ∀ x, x ≠ σ.2.2.2.1 n → agr x σ τ := fun x hx => ⟨t3 x hx, t7 x hx, t5 x hx⟩
  have r : τ.2.2.2.1 = σ.2.2.2.1 := by rw [t8]
  refine ⟨τ, t1, ⟨⟨i1.agr (a 7 (by omega)), i2.agr (a 7 (by omega))⟩, pastI.of (by omega) ⟨p1, p2, p3, p4⟩ (fun j hj => a _ (fun e => ?_)) (a 14 (by omega)).2.2 r, i4.of (a 9 (by omega)) (a 10 (by omega)) (a 11 (by omega)).1, i5.of (a 15 (by omega)), S, L, P, z, i6.of (a 13 (by omega)) (by rw [t8])⟩, ?_, a 16 (by omega), fun j => ⟨fun hj => by rw [t8]; exact hj, fun _ => by rw [t8]⟩⟩
  · have := p3 j n (by omega) (by omega) e
    omega
  · unfold spare
    rw [r]
    exact ⟨bdI.take G.1 i1 t2 t4, fun p hp => by rw [t6 p hp]; exact i2 p hp⟩
/-- the board alone changes -/
theorem invC.board {b b' : Bd} {n h v sl len c} {σ τ : wx_St} (hn : n ≤ 6) (i : invC b n h v sl len c σ) (e : eqx 7 σ τ) (h1 : bdI 7 b' τ) (h2 : wm5 7 b' τ) : invC b' n h v sl len c τ := by
  obtain ⟨-, i3, i4, i5, S, L, P, z, i6⟩ := i
  have a : ∀ x, x ≠ 7 → agr x σ τ := fun x hx => e.1 x hx
  refine ⟨⟨h1, h2⟩, i3.of (by omega) (fun j hj => a _ ?_) (a 14 (by decide)).2.2 (by rw [e.2]), i4.of (a 9 (by decide)) (a 10 (by decide)) (a 11 (by decide)).1, i5.of (a 15 (by decide)), S, L, P, z, i6.of (a 13 (by decide)) (by rw [e.2])⟩
  have := i3.2.1 j (by omega)
  omega
theorem spare.board {n : Nat} {b0 : Bd} {σ τ : wx_St} (s : spare n b0 σ) (hn : σ.2.2.2.1 n < 7) (e : eqx 7 σ τ) : spare n b0 τ := by
  have a : agr (σ.2.2.2.1 n) σ τ := e.1 _ (by omega)
  unfold spare
  rw [show τ.2.2.2.1 = σ.2.2.2.1 by rw [e.2]]
  exact ⟨s.1.agr a, s.2.agr a⟩
theorem kept_ok {b b0 : Bd} {n h v sl len c} {σ : wx_St} {x : Int32} (hn : n ≤ 6) (hx : 0 ≤ x) (i : invC b n h v sl len c σ) (s : spare n b0 σ) : ∃ τ, f_X3_kept x σ = some (x, τ) ∧ invC b (pushN n) (pushH n h b0) v sl len c τ ∧ eqC σ τ := by
  obtain ⟨⟨i1, i2⟩, ⟨p1, p2, p3, p4⟩, i4, i5, S, L, P, z, i6⟩ := i
  obtain ⟨s1, s2⟩ := s
  by_cases h6 : n < 6
  · rw [kept_lt hx p1 h6]
    have hS : ∀ x y, (wx_sS σ 14 1 (nI (n + 1))).2.2.1 x y = if x = 14 ∧ y = 1 then nI (n + 1) else σ.2.2.1 x y := fun _ _ => rfl
    have a : ∀ x, x ≠ 14 → agr x σ (wx_sS σ 14 1 (nI (n + 1))) := fun x hx => ⟨rfl, rfl, by funext y; rw [hS, if_neg (fun hh => hx hh.1)]⟩
    refine ⟨_, rfl, ⟨⟨i1.agr (a 7 (by omega)), i2.agr (a 7 (by omega))⟩, ⟨?_, p2, p3, fun j hj => ?_⟩, i4.of (a 9 (by omega)) (a 10 (by omega)) (a 11 (by omega)).1, i5.of (a 15 (by omega)), S, L, P, z, i6.of (a 13 (by omega)) rfl⟩, a 16 (by omega), fun j => ⟨fun hj => hj, fun _ => rfl⟩⟩
    · rw [hS, if_pos ⟨rfl, rfl⟩]
      unfold pushN
      rw [if_pos h6]
    · unfold pushN at hj
      rw [if_pos h6] at hj
      unfold pushH
      rw [if_pos h6]
      show bdI (σ.2.2.2.1 j) (if j = n then b0 else h j) _ ∧ wm5 (σ.2.2.2.1 j) (if j = n then b0 else h j) _
      have hρ := p2 j (by omega)
      by_cases he : j = n
      · subst he
        rw [if_pos rfl]
        exact ⟨s1.agr (a _ (by omega)), s2.agr (a _ (by omega))⟩
      · rw [if_neg he]
        exact ⟨(p4 j (by omega)).1.agr (a _ (by omega)), (p4 j (by omega)).2.agr (a _ (by omega))⟩
  · have h6' : n = 6 := by omega
    subst h6'
    rw [kept_6 hx p1 p2]
    generalize hr : (fun i => if i = 6 then σ.2.2.2.1 0 else if i < 6 then σ.2.2.2.1 (i + 1) else σ.2.2.2.1 i) = ρ'
    have hρ : ∀ i, ρ' i = if i = 6 then σ.2.2.2.1 0 else if i < 6 then σ.2.2.2.1 (i + 1) else σ.2.2.2.1 i := fun i => by rw [← hr]
    have a : ∀ x, agr x σ (wx_rho σ ρ') := fun x => ⟨rfl, rfl, rfl⟩
    refine ⟨_, rfl, ⟨⟨i1.agr (a 7), i2.agr (a 7)⟩, ⟨p1, fun j hj => ?_, fun i j hi hj hij => ?_, fun j hj => ?_⟩, i4.of (a 9) (a 10) (a 11).1, i5.of (a 15), S, L, P, z, i6.of (a 13) rfl⟩, a 16, fun j => ⟨fun hj => hj, fun _ => rfl⟩⟩
    · show ρ' j < 7
      rw [hρ]
      split
      · exact p2 0 (by omega)
      · split
        · exact p2 (j + 1) (by omega)
        · omega
    · have hij : ρ' i = ρ' j := hij
      rw [hρ, hρ] at hij
      by_cases h1 : i = 6
      · by_cases h2 : j = 6
        · omega
        · rw [if_pos h1, if_neg h2, if_pos (by omega)] at hij
          have := p3 0 (j + 1) (by omega) (by omega) hij
          omega
      · by_cases h2 : j = 6
        · rw [if_neg h1, if_pos (show i < 6 by omega), if_pos h2] at hij
          have := p3 (i + 1) 0 (by omega) (by omega) hij
          omega
        · rw [if_neg h1, if_pos (show i < 6 by omega), if_neg h2, if_pos (show j < 6 by omega)] at hij
          have := p3 (i + 1) (j + 1) (by omega) (by omega) hij
          omega
    · have hj : j < 6 := hj
      show bdI (ρ' j) (if j = 5 then b0 else h (j + 1)) _ ∧ wm5 (ρ' j) (if j = 5 then b0 else h (j + 1)) _
      rw [hρ, if_neg (by omega), if_pos hj]
      by_cases he : j = 5
      · subst he
        rw [if_pos rfl]
        exact ⟨s1.agr (a _), s2.agr (a _)⟩
      · rw [if_neg he]
        exact ⟨(p4 (j + 1) (by omega)).1.agr (a _), (p4 (j + 1) (by omega)).2.agr (a _)⟩

