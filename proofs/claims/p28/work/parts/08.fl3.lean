/-! the sum over the neighbours -/
def sp_q (f : Nat → UInt32) (p : Nat) (sp : UInt32) (n : Nat) : UInt32 := FP.fdiv (FP.fmul (FP.fsub (f n) (f p)) sp) 1120403456
def sp_t (f : Nat → UInt32) (p : Nat) (sp : UInt32) : UInt32 → List Nat → UInt32
  | t, [] => t
  | t, n :: ns => sp_t f p sp (FP.fadd t (sp_q f p sp n)) ns
def sp_tok (f : Nat → UInt32) (p : Nat) (sp : UInt32) : UInt32 → List Nat → Prop
  | _, [] => True
  | t, n :: ns => (wx_nn (FP.fsub (f n) (f p)) = true ∧ wx_nn (FP.fmul (FP.fsub (f n) (f p)) sp) = true ∧ wx_nn (sp_q f p sp n) = true ∧ wx_nn (FP.fadd t (sp_q f p sp n)) = true) ∧ sp_tok f p sp (FP.fadd t (sp_q f p sp n)) ns
def zsum (z : Nat → Int) : List Nat → Int
  | [] => 0
  | n :: ns => z n + zsum z ns
set_option maxRecDepth 20000 in
theorem fl_sumt {f : Nat → UInt32} {z : Nat → Int} {p S : Nat} {sp : UInt32} (hp : fl (f p) false (z p)) (hp0 : 0 ≤ z p) (hp1 : z p ≤ 2 ^ 170) (hsp : flW sp S) (hS : S ≤ 24) : ∀ (ns : List Nat) (t : UInt32) (st : Bool) (T E A : Int) (j : Nat),
    (∀ n ∈ ns, fl (f n) false (z n) ∧ 0 ≤ z n ∧ z n ≤ 2 ^ 170) → fl t st T → 0 ≤ A → A ≤ j * 2 ^ 176 → -A ≤ E → E ≤ A → 2 ^ 21 * (100 * T - E) ≤ (j + 1) * A + j * 2 ^ 28 → 2 ^ 21 * (E - 100 * T) ≤ (j + 1) * A + j * 2 ^ 28 → j + ns.length ≤ 4 →
    ∃ st' T' E' A', fl (sp_t f p sp t ns) st' T' ∧ sp_tok f p sp t ns ∧ E' = E + (S : Int) * (zsum z ns - ns.length * z p) ∧ A' = A + (S : Int) * (zsum z ns + ns.length * z p) ∧ 0 ≤ A' ∧ A' ≤ 4 * 2 ^ 176 ∧ -A' ≤ E' ∧ E' ≤ A' ∧ 2 ^ 21 * (100 * T' - E') ≤ 5 * A' + 4 * 2 ^ 28 ∧ 2 ^ 21 * (E' - 100 * T') ≤ 5 * A' + 4 * 2 ^ 28 ∧ (T = 0 → (∀ n ∈ ns, (S : Int) * (z n - z p) = 0) → T' = 0) := by
  intro ns
  induction ns with
  | nil =>
    intro t st T E A j _ ht hA hA2 hE1 hE2 h1 h2 hj
    have hj5 : j ≤ 4 := by simpa using hj
    have hj4 : j = 0 ∨ j = 1 ∨ j = 2 ∨ j = 3 ∨ j = 4 := by omega
    clear hj hj5
    refine ⟨st, T, E, A, ht, trivial, ?_, ?_, hA, ?_, hE1, hE2, ?_, ?_, fun h _ => h⟩
    · simp [zsum]
    · simp [zsum]
    · rcases hj4 with rfl | rfl | rfl | rfl | rfl <;> omega
    · rcases hj4 with rfl | rfl | rfl | rfl | rfl <;> omega
    · rcases hj4 with rfl | rfl | rfl | rfl | rfl <;> omega
  | cons n ns ih0 =>
    intro t st T E A j hns ht hA hA2 hE1 hE2 h1 h2 hj
    obtain ⟨hn, hn0, hn1⟩ := hns n List.mem_cons_self
    obtain ⟨s0, d, s1, m, q, g1, g2, g3, g4, g5, g6⟩ := fl_part hn hp hn0 hp0 (by omega) (by omega) hsp hS
    have hS' : (0 : Int) ≤ (S : Int) ∧ (S : Int) ≤ 24 := by omega
    have fa : 0 ≤ (S : Int) * (z n + z p) := Int.mul_nonneg hS'.1 (by omega)
    have fb : (S : Int) * (z n + z p) ≤ 2 ^ 176 := by
      have : (S : Int) * (z n + z p) ≤ 24 * (z n + z p) := Int.mul_le_mul_of_nonneg_right hS'.2 (by omega)
      omega
    have f3 : (S : Int) * (z n - z p) ≤ (S : Int) * (z n + z p) := Int.mul_le_mul_of_nonneg_left (by omega) hS'.1
    have f4 : -((S : Int) * (z n - z p)) ≤ (S : Int) * (z n + z p) := by
      rw [← Int.mul_neg]
      exact Int.mul_le_mul_of_nonneg_left (by omega) hS'.1
    have hlen : (n :: ns).length = ns.length + 1 := rfl
    rw [hlen] at hj
    have hj4 : j = 0 ∨ j = 1 ∨ j = 2 ∨ j = 3 := by omega
    have e1 : E + (S : Int) * (zsum z (n :: ns) - ((n :: ns).length : Int) * z p) = E + (S : Int) * (z n - z p) + (S : Int) * (zsum z ns - (ns.length : Int) * z p) := by
      have : zsum z (n :: ns) - ((n :: ns).length : Int) * z p = (z n - z p) + (zsum z ns - (ns.length : Int) * z p) := by
        rw [hlen]
        show z n + zsum z ns - ((ns.length + 1 : Nat) : Int) * z p = _
        rw [Int.natCast_add, Int.add_mul]
        omega
      rw [this, Int.mul_add]
      omega
    have e2 : A + (S : Int) * (zsum z (n :: ns) + ((n :: ns).length : Int) * z p) = A + (S : Int) * (z n + z p) + (S : Int) * (zsum z ns + (ns.length : Int) * z p) := by
      have : zsum z (n :: ns) + ((n :: ns).length : Int) * z p = (z n + z p) + (zsum z ns + (ns.length : Int) * z p) := by
        rw [hlen]
        show z n + zsum z ns + ((ns.length + 1 : Nat) : Int) * z p = _
        rw [Int.natCast_add, Int.add_mul]
        omega
      rw [this, Int.mul_add]
      omega
    obtain ⟨T1, hT1, eT1⟩ := fl_add ht g3 (by
      have p200 : (2 : Nat) ^ 200 = 1606938044258990275541962092341162602522202993782792835301376 := by decide
      rw [p200]
      generalize (S : Int) * (z n - z p) = X at *
      generalize (S : Int) * (z n + z p) = Y at *
      rcases hj4 with rfl | rfl | rfl | rfl <;> omega)
    have eT1' := eT1
    unfold Er at eT1
    have ih := ih0 (FP.fadd t (sp_q f p sp n)) _ T1 (E + (S : Int) * (z n - z p)) (A + (S : Int) * (z n + z p)) (j + 1) (fun k hk => hns k (List.mem_cons_of_mem _ hk)) hT1
      (by omega)
      (by generalize (S : Int) * (z n + z p) = Y at *; rcases hj4 with rfl | rfl | rfl | rfl <;> omega)
      (by omega) (by omega)
      (by
        generalize (S : Int) * (z n - z p) = X at *
        generalize (S : Int) * (z n + z p) = Y at *
        rcases hj4 with rfl | rfl | rfl | rfl <;> omega)
      (by
        generalize (S : Int) * (z n - z p) = X at *
        generalize (S : Int) * (z n + z p) = Y at *
        rcases hj4 with rfl | rfl | rfl | rfl <;> omega)
      (by omega)
    obtain ⟨st', T', E', A', k1, k2, k3, k4, k5, k6, k7, k8, k9, k10, k11⟩ := ih
    refine ⟨st', T', E', A', k1, ⟨⟨fl_nn g1, fl_nn g2, fl_nn g3, fl_nn hT1⟩, k2⟩, by rw [e1]; exact k3, by rw [e2]; exact k4, k5, k6, k7, k8, k9, k10, fun h0 hz => k11 ?_ (fun k hk => hz k (List.mem_cons_of_mem _ hk))⟩
    have hq0 := g6 (hz n List.mem_cons_self)
    rw [h0, hq0] at eT1'
    exact Er.zero (by decide) eT1'

