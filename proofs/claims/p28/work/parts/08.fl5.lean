/-! RUNS: what holds behind k steps from nothing -/
def sp_nb (p : Nat) : List Nat := (if 8 ≤ p then [p - 8] else []) ++ ((if p < 56 then [p + 8] else []) ++ ((if 0 < p % 8 then [p - 1] else []) ++ (if p % 8 < 7 then [p + 1] else [])))
def sp_md (q p : Nat) : Nat := (q / 8 - p / 8) + (p / 8 - q / 8) + (q % 8 - p % 8) + (p % 8 - q % 8)
def sp_d (S q p : Nat) : Nat := if S = 0 then (if q = p then 0 else 1000) else sp_md q p
def sp_pw (d : Nat) : Int := 2 ^ (148 - 8 * d)
theorem sp_nb_lt : ∀ p, p < 64 → (sp_nb p).length ≤ 4 ∧ ∀ n ∈ sp_nb p, n < 64 := by decide +kernel
theorem sp_md_le : ∀ q, q < 64 → ∀ p, p < 64 → sp_md q p ≤ 14 ∧ (∀ n ∈ sp_nb p, sp_md q p ≤ sp_md q n + 1) ∧ (q ≠ p → ∃ n ∈ sp_nb p, sp_md q n + 1 = sp_md q p) := by decide +kernel
theorem sp_md_self : ∀ q, q < 64 → sp_md q q = 0 := by decide +kernel
theorem sp_pw_lo : ∀ d, d < 15 → (2 : Int) ^ 36 ≤ sp_pw d ∧ sp_pw d ≤ 2 ^ 148 := by decide +kernel
theorem sp_pw_st : ∀ d, d < 14 → sp_pw d = 256 * sp_pw (d + 1) := by decide +kernel
def Rn (S : Nat) (h : Nat → Bool) (k : Nat) (f : Nat → UInt32) : Prop := ∃ z : Nat → Int, ∀ p, p < 64 → fl (f p) false (z p) ∧ 0 ≤ z p ∧ z p ≤ (k : Int) * 2 ^ 156 ∧ (∀ q, q < 64 → h q = true → sp_d S q p < k → sp_pw (sp_d S q p) ≤ z p) ∧ ((∀ q, q < 64 → h q = true → k ≤ sp_d S q p) → z p = 0)
def sp_step (f : Nat → UInt32) (sp le pw : UInt32) (h : Nat → Bool) : Nat → UInt32 := fun p => if h p = true then FP.fadd (sp_v f p sp le (sp_nb p)) pw else sp_v f p sp le (sp_nb p)
def sp_sok (f : Nat → UInt32) (sp le pw : UInt32) (h : Nat → Bool) : Prop := ∀ p, p < 64 → sp_tok f p sp FP.fconst0 (sp_nb p) ∧ wx_nn (FP.fadd (f p) (sp_t f p sp FP.fconst0 (sp_nb p))) = true ∧ wx_nn (FP.fmul (FP.fadd (f p) (sp_t f p sp FP.fconst0 (sp_nb p))) le) = true ∧ wx_nn (sp_v f p sp le (sp_nb p)) = true ∧ (h p = true → wx_nn (FP.fadd (sp_v f p sp le (sp_nb p)) pw) = true)
theorem sp_d_lt {S q p k : Nat} (hq : q < 64) (hp : p < 64) (hk : k ≤ 301) (h : sp_d S q p < k) : sp_d S q p < 15 := by
  unfold sp_d at h ⊢
  by_cases h0 : S = 0
  · rw [if_pos h0] at h ⊢
    by_cases h1 : q = p
    · rw [if_pos h1]; omega
    · rw [if_neg h1] at h; omega
  · rw [if_neg h0]
    have := (sp_md_le q hq p hp).1
    omega
set_option maxRecDepth 20000 in
set_option maxHeartbeats 4000000 in
theorem Rn.step {S L P k : Nat} {sp le pw : UInt32} {h : Nat → Bool} {f : Nat → UInt32} (R : Rn S h k f) (hk : k ≤ 300) (hsp : flW sp S) (hS : S ≤ 24) (hle : flW le L) (hL1 : 50 ≤ L) (hL2 : L ≤ 100) (hpw : fl pw false ((P : Int) * 2 ^ 149)) (hP1 : 1 ≤ P) (hP2 : P ≤ 99) :
    sp_sok f sp le pw h ∧ Rn S h (k + 1) (sp_step f sp le pw h) := by
  obtain ⟨z, hz⟩ := R
  have hlow : ∀ p, p < 64 → z p = 0 ∨ 2 ^ 36 ≤ z p := by
    intro p hp
    obtain ⟨-, -, -, g1, g2⟩ := hz p hp
    by_cases hc : ∀ q, q < 64 → h q = true → k ≤ sp_d S q p
    · exact Or.inl (g2 hc)
    · right
      have : ∃ q, q < 64 ∧ h q = true ∧ sp_d S q p < k := Classical.byContradiction fun hn => hc fun q hq hh => Nat.le_of_not_lt fun hlt => hn ⟨q, hq, hh, hlt⟩
      obtain ⟨q, hq, hh, hlt⟩ := this
      have e1 := g1 q hq hh hlt
      have e2 := (sp_pw_lo _ (sp_d_lt hq hp (by omega) hlt)).1
      omega
  have hM : (k : Int) * 2 ^ 156 ≤ 2 ^ 165 := by omega
  have hM0 : 0 ≤ (k : Int) * 2 ^ 156 := by omega
  have main : ∀ p, p < 64 → (sp_tok f p sp FP.fconst0 (sp_nb p) ∧ wx_nn (FP.fadd (f p) (sp_t f p sp FP.fconst0 (sp_nb p))) = true ∧ wx_nn (FP.fmul (FP.fadd (f p) (sp_t f p sp FP.fconst0 (sp_nb p))) le) = true ∧ wx_nn (sp_v f p sp le (sp_nb p)) = true ∧ (h p = true → wx_nn (FP.fadd (sp_v f p sp le (sp_nb p)) pw) = true)) ∧ ∃ v : Int, fl (sp_step f sp le pw h p) false v ∧ 0 ≤ v ∧ v ≤ ((k + 1 : Nat) : Int) * 2 ^ 156 ∧ (∀ q, q < 64 → h q = true → sp_d S q p < k + 1 → sp_pw (sp_d S q p) ≤ v) ∧ ((∀ q, q < 64 → h q = true → k + 1 ≤ sp_d S q p) → v = 0) := by
    intro p hp
    obtain ⟨p1, p2, p3, p4, p5⟩ := hz p hp
    have hnb := sp_nb_lt p hp
    obtain ⟨x, y, V, t1, t2, t3, t4, t5, t6, t7, t8, t9⟩ := fl_place (M := (k : Int) * 2 ^ 156) (ns := sp_nb p) (z := z) p1 p2 p3 (by omega) (fun n hn => ⟨(hz n (hnb.2 n hn)).1, (hz n (hnb.2 n hn)).2.1, (hz n (hnb.2 n hn)).2.2.1⟩) hnb.1 hsp hS hle hL1 hL2 (hlow p hp) (fun n hn => hlow n (hnb.2 n hn))
    have hP : (1 : Int) ≤ (P : Int) ∧ (P : Int) ≤ 99 := by omega
    have p200 : (2 : Nat) ^ 200 = 1606938044258990275541962092341162602522202993782792835301376 := by decide
    obtain ⟨V', a1, a2⟩ := fl_add t4 hpw (by rw [p200]; omega)
    rw [fl_sg (by omega)] at a1
    unfold Er at a2
    have hV'lo : 2 ^ 148 ≤ V' := by omega
    have hV'hi : V' ≤ ((k + 1 : Nat) : Int) * 2 ^ 156 := by omega
    have hself : sp_d S p p = 0 := by
      unfold sp_d
      by_cases h0 : S = 0
      · rw [if_pos h0, if_pos rfl]
      · rw [if_neg h0]; exact sp_md_self p hp
    refine ⟨⟨t1, fl_nn t2, fl_nn t3, fl_nn t4, fun _ => fl_nn a1⟩, ?_⟩
    unfold sp_step
    by_cases hh : h p = true
    · rw [if_pos hh]
      refine ⟨V', a1, by omega, hV'hi, fun q hq hqh hd => ?_, fun hall => ?_⟩
      · have := (sp_pw_lo _ (sp_d_lt hq hp (by omega) hd)).2
        omega
      · have := hall p hp hh
        omega
    · rw [if_neg hh]
      refine ⟨V, t4, t5, by omega, fun q hq hqh hd => ?_, fun hall => ?_⟩
      · have hne : q ≠ p := fun e => hh (e ▸ hqh)
        have hS0 : S ≠ 0 := by
          intro h0
          unfold sp_d at hd
          rw [if_pos h0, if_neg hne] at hd
          omega
        have ed : ∀ n, sp_d S q n = sp_md q n := fun n => by unfold sp_d; rw [if_neg hS0]
        rw [ed] at hd ⊢
        obtain ⟨m1, m2, m3⟩ := sp_md_le q hq p hp
        obtain ⟨n, hn, e⟩ := m3 hne
        have hn64 := hnb.2 n hn
        have g1 := (hz n hn64).2.2.2.1 q hq hqh (by rw [ed]; omega)
        rw [ed] at g1
        have g2 := sp_pw_st (sp_md q n) (by omega)
        rw [e] at g2
        have g3 := (sp_pw_lo (sp_md q n) (by omega)).1
        have g4 := t8 (by omega) n hn (by omega)
        omega
      · have hzp : z p = 0 := p5 (fun q hq hqh => by have := hall q hq hqh; omega)
        refine t9 hzp ?_
        by_cases h0 : S = 0
        · exact Or.inl h0
        · right
          intro n hn
          have hn64 := hnb.2 n hn
          refine (hz n hn64).2.2.2.2 (fun q hq hqh => ?_)
          have g1 := hall q hq hqh
          have ed : ∀ n, sp_d S q n = sp_md q n := fun n => by unfold sp_d; rw [if_neg h0]
          rw [ed] at g1 ⊢
          have g2 := (sp_md_le q hq p hp).2.1 n hn
          omega
  refine ⟨fun p hp => (main p hp).1, ?_⟩
  have hv : ∀ p, ∃ v : Int, p < 64 → fl (sp_step f sp le pw h p) false v ∧ 0 ≤ v ∧ v ≤ ((k + 1 : Nat) : Int) * 2 ^ 156 ∧ (∀ q, q < 64 → h q = true → sp_d S q p < k + 1 → sp_pw (sp_d S q p) ≤ v) ∧ ((∀ q, q < 64 → h q = true → k + 1 ≤ sp_d S q p) → v = 0) := by
    intro p
    by_cases hp : p < 64
    · obtain ⟨v, hv⟩ := (main p hp).2
      exact ⟨v, fun _ => hv⟩
    · exact ⟨0, fun h => absurd h hp⟩
  obtain ⟨z', hz'⟩ := Classical.axiomOfChoice hv
  exact ⟨z', hz'⟩
theorem Rn.start {S : Nat} {h : Nat → Bool} {f : Nat → UInt32} (hf : ∀ p, p < 64 → f p = 0) : Rn S h 0 f :=
  ⟨fun _ => 0, fun p hp => ⟨by rw [hf p hp]; exact fl_0, Int.le_refl 0, by show (0 : Int) ≤ _; omega, fun q _ _ hd => absurd hd (by omega), fun _ => rfl⟩⟩

