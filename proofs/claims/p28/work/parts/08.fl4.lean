/-! a place behind a step, but for what its touch gives -/
def sp_v (f : Nat → UInt32) (p : Nat) (sp le : UInt32) (ns : List Nat) : UInt32 := FP.fdiv (FP.fmul (FP.fadd (f p) (sp_t f p sp FP.fconst0 ns)) le) 1120403456
theorem zsum_nonneg {z : Nat → Int} : ∀ (ns : List Nat), (∀ n ∈ ns, 0 ≤ z n) → 0 ≤ zsum z ns
  | [], _ => Int.le_refl 0
  | n :: ns, h => by
    have h1 := h n List.mem_cons_self
    have h2 := zsum_nonneg ns (fun k hk => h k (List.mem_cons_of_mem _ hk))
    show 0 ≤ z n + zsum z ns
    omega
theorem zsum_ge {z : Nat → Int} : ∀ (ns : List Nat), (∀ n ∈ ns, 0 ≤ z n) → ∀ n ∈ ns, z n ≤ zsum z ns
  | k :: ns, h, n, hn => by
    have h1 := h k List.mem_cons_self
    have h2 := zsum_nonneg ns (fun k hk => h k (List.mem_cons_of_mem _ hk))
    show z n ≤ z k + zsum z ns
    rcases List.mem_cons.mp hn with rfl | hn
    · omega
    · have := zsum_ge ns (fun k hk => h k (List.mem_cons_of_mem _ hk)) n hn
      omega
theorem zsum_le {z : Nat → Int} {M : Int} : ∀ (ns : List Nat), (∀ n ∈ ns, z n ≤ M) → zsum z ns ≤ (ns.length : Int) * M
  | [], _ => by simp [zsum]
  | n :: ns, h => by
    have h1 := h n List.mem_cons_self
    have h2 := zsum_le ns (fun k hk => h k (List.mem_cons_of_mem _ hk))
    show z n + zsum z ns ≤ ((ns.length + 1 : Nat) : Int) * M
    rw [Int.natCast_add, Int.add_mul]
    omega
theorem fl_0 : fl FP.fconst0 false 0 := ⟨0, -149, by decide +kernel, by decide⟩
theorem fl_sg {st : Bool} {R : Int} (h : 0 ≤ R) : FP.Core.sumSign false st R = false := by
  unfold FP.Core.sumSign
  split
  · rfl
  · simp; omega
set_option maxRecDepth 20000 in
set_option maxHeartbeats 4000000 in
theorem fl_place {f : Nat → UInt32} {z : Nat → Int} {p S L : Nat} {sp le : UInt32} {ns : List Nat} {M : Int} (hp : fl (f p) false (z p)) (hp0 : 0 ≤ z p) (hp1 : z p ≤ M) (hM : M ≤ 2 ^ 166)
    (hns : ∀ n ∈ ns, fl (f n) false (z n) ∧ 0 ≤ z n ∧ z n ≤ M) (hk : ns.length ≤ 4) (hsp : flW sp S) (hS : S ≤ 24) (hle : flW le L) (hL1 : 50 ≤ L) (hL2 : L ≤ 100) (hlp : z p = 0 ∨ 2 ^ 36 ≤ z p) (hln : ∀ n ∈ ns, z n = 0 ∨ 2 ^ 36 ≤ z n) :
    ∃ x y V, sp_tok f p sp FP.fconst0 ns ∧ fl (FP.fadd (f p) (sp_t f p sp FP.fconst0 ns)) false x ∧ fl (FP.fmul (FP.fadd (f p) (sp_t f p sp FP.fconst0 ns)) le) false y ∧ fl (sp_v f p sp le ns) false V ∧ 0 ≤ V ∧ V ≤ M + 2 ^ 149 ∧
      (2 ^ 36 ≤ z p → z p ≤ 256 * V) ∧ (1 ≤ S → ∀ n ∈ ns, 2 ^ 36 ≤ z n → z n ≤ 256 * V) ∧ (z p = 0 → (S = 0 ∨ ∀ n ∈ ns, z n = 0) → V = 0) := by
  obtain ⟨st, T, E, A, t1, t2, t3, t4, t5, t6, t7, t8, t9, t10, t11⟩ := fl_sumt (f := f) (z := z) (p := p) (S := S) (sp := sp) hp hp0 (by omega) hsp hS ns FP.fconst0 false 0 0 0 0 (fun n hn => ⟨(hns n hn).1, (hns n hn).2.1, by have := (hns n hn).2.2; omega⟩) fl_0 (by omega) (by omega) (by omega) (by omega) (by omega) (by omega) (by omega)
  have hS' : (0 : Int) ≤ (S : Int) ∧ (S : Int) ≤ 24 := by omega
  have hU0 : 0 ≤ zsum z ns := zsum_nonneg ns (fun n hn => (hns n hn).2.1)
  have hU1 : zsum z ns ≤ (ns.length : Int) * M := zsum_le ns (fun n hn => (hns n hn).2.2)
  have hk' : (0 : Int) ≤ (ns.length : Int) ∧ (ns.length : Int) ≤ 4 := by omega
  have hC : (0 : Int) ≤ (S : Int) * (ns.length : Int) ∧ (S : Int) * (ns.length : Int) ≤ 96 := by
    constructor
    · exact Int.mul_nonneg hS'.1 hk'.1
    · have h1 : (S : Int) * (ns.length : Int) ≤ 24 * (ns.length : Int) := Int.mul_le_mul_of_nonneg_right hS'.2 hk'.1
      omega
  have hP1 : 0 ≤ (S : Int) * zsum z ns := Int.mul_nonneg hS'.1 hU0
  have hP1b : (S : Int) * zsum z ns ≤ (S : Int) * (ns.length : Int) * M := by
    rw [Int.mul_assoc]
    exact Int.mul_le_mul_of_nonneg_left hU1 hS'.1
  have hP2 : 0 ≤ (S : Int) * ((ns.length : Int) * z p) := Int.mul_nonneg hS'.1 (Int.mul_nonneg hk'.1 hp0)
  have hP2e : (S : Int) * ((ns.length : Int) * z p) = (S : Int) * (ns.length : Int) * z p := (Int.mul_assoc _ _ _).symm
  have hP2b : (S : Int) * (ns.length : Int) * z p ≤ 96 * z p := Int.mul_le_mul_of_nonneg_right hC.2 hp0
  have hE96 : (S : Int) * (ns.length : Int) * M - (S : Int) * (ns.length : Int) * z p ≤ 96 * (M - z p) := by
    rw [← Int.mul_sub]
    exact Int.mul_le_mul_of_nonneg_right hC.2 (by omega)
  have hPM : (S : Int) * (ns.length : Int) * M ≤ 96 * M := Int.mul_le_mul_of_nonneg_right hC.2 (by omega)
  have t3' : E = (S : Int) * zsum z ns - (S : Int) * ((ns.length : Int) * z p) := by rw [t3, Int.mul_sub]; omega
  have t4' : A = (S : Int) * zsum z ns + (S : Int) * ((ns.length : Int) * z p) := by rw [t4, Int.mul_add]; omega
  have hge : 1 ≤ S → ∀ n ∈ ns, z n ≤ (S : Int) * zsum z ns := by
    intro h1 n hn
    have g1 := zsum_ge ns (fun n hn => (hns n hn).2.1) n hn
    have g2 : 1 * zsum z ns ≤ (S : Int) * zsum z ns := Int.mul_le_mul_of_nonneg_right (by omega) hU0
    omega
  rw [hP2e] at t3' t4' hP2
  generalize hQ1 : (S : Int) * zsum z ns = P1 at *
  generalize hQ2 : (S : Int) * (ns.length : Int) * z p = P2 at *
  generalize hQ3 : (S : Int) * (ns.length : Int) * M = P3 at *
  -- the two cases
  have hcase : T = 0 ∨ (1 ≤ S ∧ 2 ^ 36 ≤ 4 * z p + P1) := by
    by_cases h0 : S = 0
    · left
      exact t11 rfl (fun n _ => by rw [h0]; simp)
    · by_cases hz : z p = 0 ∧ ∀ n ∈ ns, z n = 0
      · left
        exact t11 rfl (fun n hn => by rw [hz.1, hz.2 n hn]; simp)
      · right
        refine ⟨by omega, ?_⟩
        rcases hlp with h | h
        · have : ∃ n, n ∈ ns ∧ z n ≠ 0 := Classical.byContradiction fun hc => hz ⟨h, fun n hn => Classical.byContradiction fun hne => hc ⟨n, hn, hne⟩⟩
          obtain ⟨n, hn, hne⟩ := this
          have g1 := hge (by omega) n hn
          have g2 := (hln n hn).resolve_left hne
          omega
        · omega
  have hR : 0 ≤ z p + T := by
    rcases hcase with h | h
    · omega
    · omega
  have hRu : 100 * (z p + T) ≤ 100 * M + 2 ^ 155 := by omega
  have p200 : (2 : Nat) ^ 200 = 1606938044258990275541962092341162602522202993782792835301376 := by decide
  obtain ⟨x, hx, ex⟩ := fl_add hp t1 (by rw [p200]; omega)
  rw [fl_sg hR] at hx
  have ex' := ex
  unfold Er at ex
  have hx0 : 0 ≤ x := by omega
  have hxL1 : x * 50 ≤ x * (L : Int) := Int.mul_le_mul_of_nonneg_left (by omega) hx0
  have hxL2 : x * (L : Int) ≤ x * 100 := Int.mul_le_mul_of_nonneg_left (by omega) hx0
  obtain ⟨y, hy, ey⟩ := fl_mul hx hle (by rw [p200]; omega)
  have ey' := ey
  unfold Er at ey
  have hy0 : 0 ≤ y := by omega
  obtain ⟨V, hV, eV⟩ := fl_div hy (by rw [p200]; omega)
  have eV' := eV
  unfold Er at eV
  generalize hQ4 : x * (L : Int) = Q at *
  refine ⟨x, y, V, t2, hx, hy, hV, by omega, by omega, ?_, ?_, ?_⟩
  · intro h37
    rcases hcase with h | h
    · omega
    · omega
  · intro h1 n hn h37
    have g1 := hge h1 n hn
    rcases hcase with h | h
    · -- T = 0, and something flows: not both
      have hE0 : 2 ^ 21 * (E - 100 * T) ≤ 5 * A + 4 * 2 ^ 28 := t10
      omega
    · omega
  · intro h0 hz
    have hT : T = 0 := t11 rfl (fun n hn => by
      rcases hz with h | h
      · rw [h]; simp
      · rw [h0, h n hn]; simp)
    rw [h0, hT] at ex'
    have hx00 : x = 0 := Er.zero (by decide) ex'
    rw [hx00] at hQ4
    rw [Int.zero_mul] at hQ4
    rw [← hQ4] at ey'
    have hy00 : y = 0 := Er.zero (by decide) ey'
    rw [hy00] at eV'
    exact Er.zero (by decide) eV'

