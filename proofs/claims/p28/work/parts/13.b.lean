/-! bits, drawn numbers, the marks of comparisons -/
theorem sl_eq : ∀ P, P < 64 → (((nI P).toInt64 &&& 63).toBitVec.smod 64).toNat = P := by decide +kernel
theorem ss0 {w : Nat} (x : BitVec w) {P : Nat} (hP : P < w) : (x.sshiftRight P).getLsbD 0 = x.getLsbD P := by
  rw [BitVec.getLsbD_sshiftRight, decide_eq_false (by omega), Nat.add_zero, if_pos hP]
  rfl
theorem and1 {w : Nat} (hw : 0 < w) (y : BitVec w) (c : Bool) (hy : y.getLsbD 0 = c) : y &&& BitVec.ofNat w 1 = if c = true then BitVec.ofNat w 1 else 0#w := by
  apply BitVec.eq_of_getLsbD_eq
  intro i hi
  rw [BitVec.getLsbD_and]
  by_cases h0 : i = 0
  · subst h0
    rw [hy]
    cases c <;> simp
  · have e0 : (BitVec.ofNat w 1).getLsbD i = false := by
      rw [show (BitVec.ofNat w 1).getLsbD i = (1#w).getLsbD i from rfl, BitVec.getLsbD_one]
      simp [h0]
    rw [e0]
    cases c <;> simp [e0]
theorem mk_bit (x : Int64) {P : Nat} (hP : P < 64) : ((x >>> ((nI P).toInt64 &&& 63)) &&& (1 : Int64)) = 1 ↔ mk x P = true := by
  have e : (x >>> ((nI P).toInt64 &&& 63)).toBitVec = x.toBitVec.sshiftRight P := by
    rw [Int64.toBitVec_shiftRight, BitVec.sshiftRight_eq', sl_eq P hP]
  rw [← Int64.toBitVec_inj, Int64.toBitVec_and, e]
  show (x.toBitVec.sshiftRight P) &&& BitVec.ofNat 64 1 = 1#64 ↔ x.toBitVec.getLsbD P = true
  rw [and1 (by decide) _ _ (ss0 x.toBitVec hP)]
  cases x.toBitVec.getLsbD P <;> decide
theorem lg_cmp1 (a b : Int64) : lg_cmp a b = 0 ↔ a = b := by
  constructor
  · intro h
    apply Classical.byContradiction
    intro h1
    revert h
    unfold lg_cmp
    split
    · decide
    · (try rw [if_neg h1]); decide
  · intro h
    subst h
    simp [lg_cmp]
theorem mk_clr (x : Int64) {k j : Nat} (hk : k < 64) (hj : j < 64) : mk (x &&& (((1 : Int64) <<< ((nI k).toInt64 &&& 63)) ^^^ (-1 : Int64))) j = (mk x j && !decide (j = k)) := by
  unfold mk
  rw [Int64.toBitVec_and, BitVec.getLsbD_and]
  congr 1
  have : ∀ k, k < 64 → ∀ j, j < 64 → (((1 : Int64) <<< ((nI k).toInt64 &&& 63)) ^^^ (-1 : Int64)).toBitVec.getLsbD j = !decide (j = k) := by decide +kernel
  exact this k hk j hj
theorem mk_m1 : ∀ j, j < 64 → mk (-1) j = true := by
  unfold mk
  decide +kernel
theorem s32_eq : ∀ i, i < 8 → (((nI i) &&& 31).toBitVec.smod 32).toNat = i := by decide +kernel
theorem bit_of (x : Int32) {i : Nat} (hi : i < 8) : ((x >>> (nI i &&& 31)) &&& 1) = b01 (x.toBitVec.getLsbD i) := by
  have e : (x >>> (nI i &&& 31)).toBitVec = x.toBitVec.sshiftRight i := by
    rw [Int32.toBitVec_shiftRight, BitVec.sshiftRight_eq', s32_eq i hi]
  rw [← Int32.toBitVec_inj, Int32.toBitVec_and, e]
  show (x.toBitVec.sshiftRight i) &&& BitVec.ofNat 32 1 = _
  rw [and1 (by decide) _ _ (ss0 x.toBitVec (by omega))]
  cases x.toBitVec.getLsbD i <;> rfl
theorem and_nn (x : Int32) : ∃ m, m < 2 ^ 31 ∧ x &&& 2147483647 = nI m := by
  refine ⟨(x.toBitVec &&& 2147483647#32).toNat, ?_, ?_⟩
  · rw [BitVec.toNat_and]
    have h := Nat.and_le_right (n := x.toBitVec.toNat) (m := (2147483647#32).toNat)
    have e : (2147483647#32).toNat = 2147483647 := rfl
    omega
  · rw [← Int32.toBitVec_inj, Int32.toBitVec_and]
    show _ = BitVec.ofNat 32 _
    rw [BitVec.ofNat_toNat, BitVec.setWidth_eq]
    rfl
theorem nI_div {m n : Nat} (hm : m < 2 ^ 31) (h0 : 0 < n) (hn : n < 2 ^ 31) : nI m / nI n = nI (m / n) := by
  have hd : m / n < 2 ^ 31 := Nat.lt_of_le_of_lt (Nat.div_le_self m n) hm
  apply Int32.toInt_inj.mp
  rw [Int32.toInt_div_of_ne_right _ _ (fun e => by
    have := congrArg Int32.toInt e
    rw [nI_toInt hn] at this
    have e1 : (-1 : Int32).toInt = -1 := rfl
    rw [e1] at this
    omega), nI_toInt hm, nI_toInt hn, nI_toInt hd]
  exact (Int.ofNat_tdiv m n).symm
theorem low_ok (x : Int32) {n : Nat} (h0 : 0 < n) (hn : n < 2 ^ 31) : ∃ k, k < n ∧ f_L_low x (nI n) = some (nI k) := by
  obtain ⟨m, hm, e⟩ := and_nn x
  have h1 : m / n * n ≤ m := Nat.div_mul_le_self m n
  refine ⟨m - m / n * n, ?_, ?_⟩
  · have h2 := Nat.div_add_mod m n
    have h3 := Nat.mod_lt m h0
    rw [Nat.mul_comm] at h2
    omega
  · unfold f_L_low wx_nz
    rw [if_neg (nI_ne0 (by omega) (by omega)), e, nI_div hm h0 hn, nI_mul, nI_sub h1]
theorem cell_ok {ad : Nat → Nat → Nat} {k : Nat} (hk : k < 2 ^ 31) (hL : ad 18 1 < 2 ^ 31) : ∃ v, f_L_cell ad (nI k) = some v := by
  unfold f_L_cell f_L_cell_21
  by_cases h : nI (ad 18 1) ≤ nI k
  · rw [if_pos h]
    exact ⟨_, rfl⟩
  · rw [if_neg h]
    unfold wx_rX
    rw [if_pos (wx_in_nI (Nat.lt_of_not_le (fun hh => h (nI_le hh hk))) hL)]
    exact ⟨_, rfl⟩
/-! the marks: how often a row of a comparison was made -/
def TL (t : Nat) (σ : wx_St) : Prop := ∀ i, i < 40 → σ.2.2.2.2 (64 + i) = decide (i < t)
theorem TL.of {t : Nat} {σ τ : wx_St} (h : TL t σ) (e : ∀ j, 64 ≤ j → τ.2.2.2.2 j = σ.2.2.2.2 j) : TL t τ := fun i hi => (e _ (by omega)).trans (h i hi)
theorem mt_c : ∀ t, t < 40 → (List.range 40).countP (fun i => decide (i < t)) = t := by decide +kernel
theorem TL.mt {t : Nat} {σ : wx_St} (h : TL t σ) (ht : t < 40) : wx_mt σ.2.2.2.2 = t := by
  unfold wx_mt
  rw [← mt_c t ht]
  rw [mt_c t ht]
  have e : (List.range 40).countP (fun i => σ.2.2.2.2 (64 + i)) = (List.range 40).countP (fun i => decide (i < t)) := by
    apply List.countP_congr
    intro i hi
    rw [h i (List.mem_range.mp hi)]
  rw [e, mt_c t ht]
theorem mk_ok {t : Nat} {σ : wx_St} (h : TL t σ) (ht : t < 34) {α : Type} (F : wx_St → Option α) : wx_mk σ F = F (wx_sM σ) := by
  unfold wx_mk
  rw [h.mt (by omega), if_pos ⟨by omega, by rw [h t (by omega)]; exact decide_eq_false (Nat.lt_irrefl t)⟩]
theorem TL.sM {t : Nat} {σ : wx_St} (h : TL t σ) (ht : t < 34) : TL (t + 1) (wx_sM σ) := by
  intro i hi
  show (if 64 + i = 64 + wx_mt σ.2.2.2.2 then true else σ.2.2.2.2 (64 + i)) = _
  rw [h.mt (by omega), h i hi]
  by_cases e : i = t
  · subst e
    rw [if_pos rfl, decide_eq_true (Nat.lt_succ_self i)]
  · rw [if_neg (by omega)]
    by_cases h1 : i < t
    · rw [decide_eq_true h1, decide_eq_true (show i < t + 1 by omega)]
    · rw [decide_eq_false h1, decide_eq_false (show ¬ i < t + 1 by omega)]
/-! what holds while the law compares -/
theorem IC.r16 {b : Bd} {σ τ : wx_St} (h : IC b σ) (e : eqx 16 σ τ) : IC b τ := by
  obtain ⟨n, hh, v, sl, len, c, G, iC⟩ := h
  exact ⟨n, hh, v, sl, len, c, G, iC.of G.2.1 e⟩
theorem sM_agr (σ : wx_St) {x : Nat} (hx : x ≠ 16) : agr x σ (wx_sM σ) := by
  refine ⟨?_, rfl, rfl⟩
  funext k i
  show (if x = 16 ∧ k = 5 then (0 : Int32) else σ.1 x k i) = _
  rw [if_neg (fun hh => hx hh.1)]
theorem IC.sM {b : Bd} {σ : wx_St} (h : IC b σ) : IC b (wx_sM σ) := by
  obtain ⟨n, hh, v, sl, len, c, G, ⟨i1, i2⟩, i3, i4, i5, S, L, P, z, l1, l2, l3, l4, l5⟩ := h
  have a : ∀ x, x ≠ 16 → agr x σ (wx_sM σ) := fun x hx => sM_agr σ hx
  have hn := G.2.1
  refine ⟨n, hh, v, sl, len, c, G, ⟨i1.agr (a 7 (by decide)), i2.agr (a 7 (by decide))⟩, i3.of (by omega) (fun j hj => a _ ?_) (a 14 (by decide)).2.2 rfl, i4.of (a 9 (by decide)) (a 10 (by decide)) (a 11 (by decide)).1, i5.of (a 15 (by decide)), S, L, P, z, l1, ?_, ?_, ?_, fun j hj => ?_⟩
  · have := i3.2.1 j (by omega)
    omega
  · rw [(a 13 (by decide)).1]; exact l2
  · rw [(a 13 (by decide)).1]; exact l3
  · rw [(a 13 (by decide)).1]; exact l4
  · have e : (wx_sM σ).2.2.2.2 j = σ.2.2.2.2 j := by
      show (if j = 64 + wx_mt σ.2.2.2.2 then true else σ.2.2.2.2 j) = _
      rw [if_neg (by omega)]
    rw [(a 13 (by decide)).1, e]
    exact l5 j hj
def SM (b : Bd) (t : Nat) (k : Nat → Nat) (σ : wx_St) : Prop := IC b σ ∧ LR b σ ∧ TL t σ ∧ ∀ n, n < 8 → σ.1 16 5 n = nI (k n)
theorem kM_eq {σ τ : wx_St} (e : τ.1 16 = σ.1 16) : wx_kM σ τ = τ := by
  have : (fun a b c => if a = 16 ∧ b = 5 then σ.1 a b c else τ.1 a b c) = τ.1 := by
    funext a b c
    by_cases h : a = 16 ∧ b = 5
    · rw [if_pos h, h.1, e]
    · rw [if_neg h]
  show ((fun a b c => if a = 16 ∧ b = 5 then σ.1 a b c else τ.1 a b c), τ.2.1, τ.2.2.1, τ.2.2.2.1, τ.2.2.2.2) = τ
  rw [this]
theorem SM.call {b : Bd} {t : Nat} {k : Nat → Nat} {σ : wx_St} (S : SM b t k σ) {f : wx_St → Option (Int32 × wx_St)} {r : Int32} (H : Ch f b r b) : ∃ τ, SM b t k τ ∧ ∀ F : Int32 → wx_St → Option (Int32 × wx_St), wx_bM σ (f σ) F = F r τ := by
  obtain ⟨s1, s2, s3, s4⟩ := S
  obtain ⟨τ, t1, t2, t3⟩ := H σ s1
  refine ⟨τ, ⟨t2, s2.of t3.1.1, s3.of (fun j hj => (t3.2 j).2 hj), fun n hn => by rw [t3.1.1]; exact s4 n hn⟩, fun F => ?_⟩
  rw [t1]
  show F r (wx_kM σ τ) = _
  rw [kM_eq t3.1.1]
