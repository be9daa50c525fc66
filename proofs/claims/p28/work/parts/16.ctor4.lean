theorem gw_up_cl {ca : Nat → ClassId} {a : Nat → Nat → Nat} {S : Nat → Bool} {T : gw_W} {o k : Nat} {X : Nat × va_E} (ho : S o = false) : ∀ x y q, gw_cl ca a S (gw_up T o k X) x y = some q → gw_up (gw_cl ca a S T) o k X x y = some q := by
  intro x y q h
  unfold gw_cl at h
  by_cases hk : y = k ∧ x = o
  · obtain ⟨rfl, rfl⟩ := hk
    rw [if_neg (by simp [ho]), gw_same] at h
    rw [gw_same]; exact h
  · rw [gw_ne hk]
    unfold gw_cl
    by_cases hs : S x = true
    · rw [if_pos hs] at h ⊢; exact h
    · rw [if_neg hs, gw_ne hk] at h
      rw [if_neg hs]; exact h
theorem gw_cl_at {ca : Nat → ClassId} {a : Nat → Nat → Nat} {S : Nat → Bool} {T : gw_W} {x y : Nat} (h : S x = false) : gw_cl ca a S T x y = T x y := by
  unfold gw_cl
  rw [if_neg (by simp [h])]
/-- an object made upon closed ones, closed by its constructor -/
theorem gw_made {D : va_G} {A : Nat → Prop} {H : Heap} {ca : Nat → ClassId} {a b : Nat → Nat → Nat} {S S' : Nat → Bool} {T : gw_W} {o : Nat} {X : Nat × va_E} (Z : gw_Z D A (gw_cl ca b S' (gw_up (gw_cl ca a S T) o 99 X)) H) (ho : S' o = true) (hS : ∀ x, S' x = true → S x = false) (h12 : ∀ x, S x = true ∨ S' x = true → x ≠ 11 ∧ x ≠ 14) (h13 : (S 12 = true → S 13 = true) ∧ (S' 12 = true → S' 13 = true)) :
    gw_Z D A (gw_cl ca (fun x y => if S' x = true then b x y else a x y) (fun x => S x || S' x) T) H := by
  refine gw_sub Z (gw_cl_join hS h12 h13 (fun x y q h hf => ?_))
  rw [gw_ne (fun z => by rw [z.2, ho] at hf; cases hf)]
  exact h
theorem gw_madeP {D : va_G} {A : Nat → Prop} {H : Heap} {ca : Nat → ClassId} {a b : Nat → Nat → Nat} {S : Nat → Bool} {T : gw_W} {q14 q0 : Nat} {e : va_E} (Z : gw_Z D A (gw_pw ca (gw_up (gw_cl ca a S T) 14 99 (q14, e)) q14 q0 b 7) H) (hS : ∀ x, x < 7 → S x = false) (hS14 : S 14 = false) (h12 : ∀ x, S x = true → x ≠ 11 ∧ x ≠ 14) (h13 : S 12 = true → S 13 = true) :
    gw_Z D A (gw_cl ca (fun x y => if decide (x < 7) = true then b x y else a x y) (fun x => S x || decide (x < 7)) (gw_up (gw_up T 14 0 (q0, .inl (ca 3, 7, .inr (.inr (.inr (.inr (gw_pr b 7))))))) 14 99 (q14, .inr (3, [.ref q0, .int 0])))) H := by
  unfold gw_pw at Z
  refine gw_sub Z (gw_cl_join (S' := fun x => decide (x < 7)) (fun x hx => hS x (of_decide_eq_true hx)) (fun x hx => ?_) ⟨h13, fun h => absurd h (by decide)⟩ (fun x y q h hf => ?_))
  · rcases hx with hx | hx
    · exact h12 x hx
    · have := of_decide_eq_true hx
      omega
  · by_cases h14 : x = 14
    · subst h14
      rw [gw_cl_at hS14] at h
      by_cases h99 : y = 99
      · subst h99
        rw [gw_same] at h ⊢
        exact h
      · rw [gw_ne (by omega)] at h ⊢
        by_cases h0 : y = 0
        · subst h0
          rw [gw_same] at h ⊢
          exact h
        · rw [gw_ne (by omega)] at h ⊢
          rw [gw_ne (by omega), gw_cl_at hS14]
          exact h
    · rw [gw_ne (by omega), gw_ne (by omega), gw_ne (by omega)]
      unfold gw_cl at h ⊢
      by_cases hs : S x = true
      · rw [if_pos hs] at h ⊢; exact h
      · rw [if_neg hs, gw_ne (by omega), gw_ne (by omega)] at h
        rw [if_neg hs]; exact h
def gw_sr (a : Nat → Nat → Nat) (i : Nat) : Nat → Option Nat := fun j => if j < i then some (a (9 + j) 99) else none
/-- both boards of the slots -/
theorem gw_madeS {D : va_G} {A : Nat → Prop} {H : Heap} {ca : Nat → ClassId} {a b : Nat → Nat → Nat} {S : Nat → Bool} {T : gw_W} {i q5 qb h0 : Nat} {e : va_E} {X : Nat × va_E} {f : Nat → Option Nat} (hi : i < 2) (hS : ∀ x, S x = true → x < 9 ∨ x = 12 ∨ x = 13 ∨ x = 15) (h13 : S 12 = true → S 13 = true) (hb : b (9 + i) 99 = qb) (hf : f = va_up (gw_sr a i) i (some qb))
    (Z : gw_Z D A (gw_up (gw_cl ca b (fun x => decide (x = 9 + i)) (gw_up (gw_cl ca a (fun x => S x || decide (9 ≤ x ∧ x < 9 + i)) (gw_up (gw_up T 11 5 (q5, .inl (ca 3, 2, .inr (.inr (.inr (.inr (gw_sr a i))))))) 11 99 X)) (9 + i) 99 (qb, e))) 11 5 (q5, .inl (ca 3, 2, .inr (.inr (.inr (.inr f)))))) H) (hX : X.1 = h0) :
    gw_Z D A (gw_cl ca (fun x y => if decide (x = 9 + i) = true then b x y else a x y) (fun x => S x || decide (9 ≤ x ∧ x < 9 + (i + 1))) (gw_up (gw_up T 11 5 (q5, .inl (ca 3, 2, .inr (.inr (.inr (.inr (gw_sr (fun x y => if decide (x = 9 + i) = true then b x y else a x y) (i + 1)))))))) 11 99 X)) H := by
  have hS' : ∀ x, (S x || decide (9 ≤ x ∧ x < 9 + i)) = true → x ≠ 11 ∧ x ≠ 14 ∧ x ≠ 9 + i := by
    intro x hx
    rcases Bool.or_eq_true _ _ |>.mp hx with h | h
    · have := hS x h
      omega
    · have := of_decide_eq_true h
      omega
  have hS9 : S (9 + i) = false := by
    cases hz : S (9 + i) with
    | false => rfl
    | true => have := hS _ hz; omega
  have hS11 : S 11 = false := by
    cases hz : S 11 with
    | false => rfl
    | true => have := hS _ hz; omega
  have hsr : f = gw_sr (fun x y => if decide (x = 9 + i) = true then b x y else a x y) (i + 1) := by
    rw [hf]
    funext j
    unfold va_up gw_sr
    by_cases hj : j = i
    · subst hj
      rw [if_pos rfl, if_pos (show j < j + 1 by omega)]
      show some qb = some (if decide (9 + j = 9 + j) = true then b (9 + j) 99 else a (9 + j) 99)
      rw [if_pos (decide_eq_true rfl), hb]
    · rw [if_neg hj]
      by_cases hj2 : j < i
      · rw [if_pos hj2, if_pos (show j < i + 1 by omega)]
        show some (a (9 + j) 99) = some (if decide (9 + j = 9 + i) = true then b (9 + j) 99 else a (9 + j) 99)
        rw [if_neg (fun z => hj (by have := of_decide_eq_true z; omega))]
      · rw [if_neg hj2, if_neg (show ¬ j < i + 1 by omega)]
  rw [hsr] at Z
  refine gw_sub Z ?_
  intro x y q h
  by_cases h5 : y = 5 ∧ x = 11
  · obtain ⟨rfl, rfl⟩ := h5
    rw [gw_cl_at (show (S 11 || decide (9 ≤ 11 ∧ 11 < 9 + (i + 1))) = false by rw [hS11, Bool.false_or]; exact decide_eq_false (by omega)), gw_ne (by omega), gw_same] at h
    rw [gw_same]; exact h
  · rw [gw_ne h5]
    have key := gw_cl_join (ca := ca) (a := a) (b := b) (S := fun x => S x || decide (9 ≤ x ∧ x < 9 + i)) (S' := fun x => decide (x = 9 + i)) (w := gw_up (gw_up T 11 5 (q5, .inl (ca 3, 2, .inr (.inr (.inr (.inr (gw_sr a i))))))) 11 99 X) (v := gw_up (gw_cl ca a (fun x => S x || decide (9 ≤ x ∧ x < 9 + i)) (gw_up (gw_up T 11 5 (q5, .inl (ca 3, 2, .inr (.inr (.inr (.inr (gw_sr a i))))))) 11 99 X)) (9 + i) 99 (qb, e))
      (fun x hx => by have := of_decide_eq_true hx; subst this; simp [hS9])
      (fun x hx => by
        rcases hx with hx | hx
        · have := hS' x hx; exact ⟨this.1, this.2.1⟩
        · have := of_decide_eq_true hx; omega)
      ⟨fun h => by
        rcases Bool.or_eq_true _ _ |>.mp h with h | h
        · simp [h13 h]
        · have := of_decide_eq_true h; omega, fun h => by have := of_decide_eq_true h; omega⟩
      (fun x y q h hf => by rw [gw_ne (fun z => by rw [z.2] at hf; simp at hf)]; exact h) x y q
    apply key
    unfold gw_cl at h ⊢
    have e1 : (S x || decide (9 ≤ x ∧ x < 9 + (i + 1))) = ((S x || decide (9 ≤ x ∧ x < 9 + i)) || decide (x = 9 + i)) := by
      rw [Bool.or_assoc]
      congr 1
      rw [← Bool.decide_or]
      congr 1
      apply propext
      omega
    by_cases hs : ((S x || decide (9 ≤ x ∧ x < 9 + i)) || decide (x = 9 + i)) = true
    · rw [if_pos (e1.trans hs)] at h
      rw [if_pos hs]; exact h
    · rw [if_neg (fun z => hs (e1.symm.trans z))] at h
      rw [if_neg hs]
      by_cases h99 : y = 99 ∧ x = 11
      · obtain ⟨rfl, rfl⟩ := h99
        rw [gw_same] at h ⊢; exact h
      · rw [gw_ne h99, gw_ne h5] at h ⊢
        exact h
theorem gw_up_cl2 {ca : Nat → ClassId} {a : Nat → Nat → Nat} {S : Nat → Bool} {T : gw_W} {o k k2 : Nat} {X Y : Nat × va_E} (ho : S o = false) : ∀ x y q, gw_cl ca a S (gw_up (gw_up T o k X) o k2 Y) x y = some q → gw_up (gw_up (gw_cl ca a S T) o k X) o k2 Y x y = some q := by
  intro x y q h
  have h1 := gw_up_cl ho x y q h
  by_cases hk : y = k2 ∧ x = o
  · obtain ⟨rfl, rfl⟩ := hk
    rw [gw_same] at h1 ⊢; exact h1
  · rw [gw_ne hk] at h1 ⊢
    exact gw_up_cl ho x y q h1
