variable {p : Program} {l : Launch} {e : Env} {s : State} {m : MethodId} {args : Array Value} {below : List Frame} {meth : Method} {c : Code} {D : va_G} {ad : Nat → Nat → Nat} {rd : Nat → Nat} {ca : Nat → ClassId} {A : Nat → Prop}
set_option maxRecDepth 20000 in
set_option maxHeartbeats 4000000 in
theorem m_X0_beginRun_12 {o : Nat}  {σ' : wx_St}  :
    ∀ {n : Nat} {x1 : Int32} {σ : wx_St} (h : f_X0_beginRun_12 o n x1 σ = some ((), σ')), σ'.2.2.2.2 = σ.2.2.2.2 := by
  intro n
  induction n with
  | zero => intro x1 σ h; exact wx_no h
  | succ n ih =>
    intro x1 σ h
    rw [f_X0_beginRun_12] at h
    by_cases c15 : 64 ≤ x1
    · replace h := wx_ift c15 h
      obtain ⟨-, rfl⟩ := wx_ret_ok h
      rfl
    · replace h := wx_iff c15 h
      obtain ⟨σ24, e24, i24, h⟩ := wx_w_ok h
      refine Eq.trans ?_ (show σ24.2.2.2.2 = σ.2.2.2.2 from (congrArg (fun z : wx_St => z.2.2.2.2) e24).trans rfl)
      exact ih h
set_option maxRecDepth 20000 in
set_option maxHeartbeats 4000000 in
theorem m_X0_beginRun_0 {o : Nat}  {σ' : wx_St}   {σ : wx_St} (h : f_X0_beginRun o σ = some ((), σ')) : σ'.2.2.2.2 = σ.2.2.2.2 := by
  unfold f_X0_beginRun at h
  obtain ⟨σ2, e2, h⟩ := wx_l_ok h
  refine Eq.trans ?_ (show σ2.2.2.2.2 = σ.2.2.2.2 from (congrArg (fun z : wx_St => z.2.2.2.2) e2).trans rfl)
  obtain ⟨σ7, e7, h⟩ := wx_l_ok h
  refine Eq.trans ?_ (show σ7.2.2.2.2 = σ2.2.2.2.2 from (congrArg (fun z : wx_St => z.2.2.2.2) e7).trans rfl)
  exact m_X0_beginRun_12 h
set_option maxRecDepth 20000 in
set_option maxHeartbeats 4000000 in
theorem m_X0_change_9 {o : Nat} {r : Int32} {σ' : wx_St}  {x1 : Int32} {x2 : Int32} {σ : wx_St} (h : f_X0_change_9 o x1 x2 σ = some (r, σ')) : σ'.2.2.2.2 = σ.2.2.2.2 := by
  unfold f_X0_change_9 at h
  obtain ⟨rfl, rfl⟩ := wx_ret_ok h
  rfl
set_option maxRecDepth 20000 in
set_option maxHeartbeats 4000000 in
theorem m_X0_change_30 {o : Nat} {r : Int32} {σ' : wx_St}  {x1 : Int32} {x2 : Int32} {σ : wx_St} (h : f_X0_change_30 o x1 x2 σ = some (r, σ')) : σ'.2.2.2.2 = σ.2.2.2.2 := by
  unfold f_X0_change_30 at h
  obtain ⟨rfl, rfl⟩ := wx_ret_ok h
  rfl
set_option maxRecDepth 20000 in
set_option maxHeartbeats 4000000 in
theorem m_X0_change_56 {o : Nat} {r : Int32} {σ' : wx_St}  {x1 : Int32} {x2 : Int32} {x3 : Int32} {σ : wx_St} (h : f_X0_change_56 o x1 x2 x3 σ = some (r, σ')) : σ'.2.2.2.2 = σ.2.2.2.2 := by
  unfold f_X0_change_56 at h
  obtain ⟨rfl, rfl⟩ := wx_ret_ok h
  rfl
set_option maxRecDepth 20000 in
set_option maxHeartbeats 4000000 in
theorem m_X0_change_0 {o : Nat} {r : Int32} {σ' : wx_St}  {x1 : Int32} {x2 : Int32} {σ : wx_St} (h : f_X0_change o x1 x2 σ = some (r, σ')) : σ'.2.2.2.2 = σ.2.2.2.2 := by
  unfold f_X0_change at h
  by_cases c1 : x1 < 0
  · replace h := wx_ift c1 h
    exact m_X0_change_9 h
  · replace h := wx_iff c1 h
    by_cases c6 : x1 < 4
    · replace h := wx_ift c6 h
      obtain ⟨v17, ev17, iv17, h⟩ := wx_rT_ok h
      by_cases c18 : x2 < v17
      · replace h := wx_ift c18 h
        exact m_X0_change_30 h
      · replace h := wx_iff c18 h
        obtain ⟨v26, ev26, iv26, h⟩ := wx_rT_ok h
        by_cases c27 : x2 ≤ v26
        · replace h := wx_ift c27 h
          obtain ⟨v38, ev38, iv38, h⟩ := wx_rI_ok h
          obtain ⟨σ46, e46, i46, h⟩ := wx_w_ok h
          refine Eq.trans ?_ (show σ46.2.2.2.2 = σ.2.2.2.2 from (congrArg (fun z : wx_St => z.2.2.2.2) e46).trans rfl)
          by_cases c49 : x1 = 3
          · replace h := wx_ift c49 h
            exact m_X0_change_56 h
          · replace h := wx_iff c49 h
            obtain ⟨v53, σ53, hc53, h⟩ := wx_b_ok h
            refine Eq.trans ?_ (show σ53.2.2.2.2 = σ46.2.2.2.2 from m_X0_beginRun_0 hc53)
            exact m_X0_change_56 h
        · replace h := wx_iff c27 h
          exact m_X0_change_30 h
    · replace h := wx_iff c6 h
      exact m_X0_change_9 h
set_option maxRecDepth 20000 in
set_option maxHeartbeats 4000000 in
theorem m_X0_join_66 {o : Nat} {r : Int32} {σ' : wx_St}  {x1 : Int32} {x2 : Int32} {x3 : Int32} {x4 : Int32} {σ : wx_St} (h : f_X0_join_66 o x1 x2 x3 x4 σ = some (r, σ')) : σ'.2.2.2.2 = σ.2.2.2.2 := by
  unfold f_X0_join_66 at h
  obtain ⟨rfl, rfl⟩ := wx_ret_ok h
  rfl
set_option maxRecDepth 20000 in
set_option maxHeartbeats 4000000 in
theorem m_X0_join_0 {o : Nat} {r : Int32} {σ' : wx_St}  {x1 : Int32} {x2 : Int32} {x3 : Int32} {σ : wx_St} (h : f_X0_join o x1 x2 x3 σ = some (r, σ')) : σ'.2.2.2.2 = σ.2.2.2.2 := by
  unfold f_X0_join at h
  obtain ⟨v2, hc2, h⟩ := wx_o_ok h
  by_cases c9 : 0 ≤ v2
  · replace h := wx_ift c9 h
    obtain ⟨v15, hc15, h⟩ := wx_o_ok h
    by_cases c18 : v15 = 0
    · replace h := wx_ift c18 h
      obtain ⟨rfl, rfl⟩ := wx_ret_ok h
      rfl
    · replace h := wx_iff c18 h
      obtain ⟨v30, ev30, iv30, h⟩ := wx_rI_ok h
      by_cases c31 : v30 = 0
      · replace h := wx_ift c31 h
        exact m_X0_join_66 h
      · replace h := wx_iff c31 h
        obtain ⟨v40, ev40, iv40, h⟩ := wx_rI_ok h
        by_cases c42 : v40 = x3
        · replace h := wx_ift c42 h
          exact m_X0_join_66 h
        · replace h := wx_iff c42 h
          obtain ⟨v48, hc48, h⟩ := wx_o_ok h
          by_cases c53 : v48 = (-6)
          · replace h := wx_ift c53 h
            obtain ⟨v60, hc60, h⟩ := wx_o_ok h
            by_cases c63 : v60 = 0
            · replace h := wx_ift c63 h
              exact m_X0_join_66 h
            · replace h := wx_iff c63 h
              by_cases c74 : (σ.2.2.1 o 3) < 3
              · replace h := wx_ift c74 h
                obtain ⟨σ90, e90, i90, h⟩ := wx_w_ok h
                refine Eq.trans ?_ (show σ90.2.2.2.2 = σ.2.2.2.2 from (congrArg (fun z : wx_St => z.2.2.2.2) e90).trans rfl)
                obtain ⟨σ100, e100, i100, h⟩ := wx_w_ok h
                refine Eq.trans ?_ (show σ100.2.2.2.2 = σ90.2.2.2.2 from (congrArg (fun z : wx_St => z.2.2.2.2) e100).trans rfl)
                obtain ⟨σ108, e108, h⟩ := wx_l_ok h
                refine Eq.trans ?_ (show σ108.2.2.2.2 = σ100.2.2.2.2 from (congrArg (fun z : wx_St => z.2.2.2.2) e108).trans rfl)
                obtain ⟨v112, σ112, hc112, h⟩ := wx_b_ok h
                refine Eq.trans ?_ (show σ112.2.2.2.2 = σ108.2.2.2.2 from m_X0_beginRun_0 hc112)
                obtain ⟨rfl, rfl⟩ := wx_ret_ok h
                rfl
              · replace h := wx_iff c74 h
                obtain ⟨rfl, rfl⟩ := wx_ret_ok h
                rfl
          · replace h := wx_iff c53 h
            exact m_X0_join_66 h
  · replace h := wx_iff c9 h
    obtain ⟨rfl, rfl⟩ := wx_ret_ok h
    rfl
set_option maxRecDepth 20000 in
set_option maxHeartbeats 4000000 in
theorem m_X0_lay_28 {o : Nat} {r : Int32} {σ' : wx_St}  {x1 : Int32} {x2 : Int32} {x3 : Int32} {x4 : Int32} {σ : wx_St} (h : f_X0_lay_28 o x1 x2 x3 x4 σ = some (r, σ')) : σ'.2.2.2.2 = σ.2.2.2.2 := by
  unfold f_X0_lay_28 at h
  obtain ⟨v31, hc31, h⟩ := wx_o_ok h
  by_cases c34 : v31 = 0
  · replace h := wx_ift c34 h
    obtain ⟨v46, ev46, iv46, h⟩ := wx_rI_ok h
    obtain ⟨σ56, e56, i56, h⟩ := wx_w_ok h
    refine Eq.trans ?_ (show σ56.2.2.2.2 = σ.2.2.2.2 from (congrArg (fun z : wx_St => z.2.2.2.2) e56).trans rfl)
    obtain ⟨v58, σ58, hc58, h⟩ := wx_b_ok h
    refine Eq.trans ?_ (show σ58.2.2.2.2 = σ56.2.2.2.2 from m_X0_beginRun_0 hc58)
    obtain ⟨rfl, rfl⟩ := wx_ret_ok h
    rfl
  · replace h := wx_iff c34 h
    obtain ⟨rfl, rfl⟩ := wx_ret_ok h
    rfl
set_option maxRecDepth 20000 in
set_option maxHeartbeats 4000000 in
theorem m_X0_lay_0 {o : Nat} {r : Int32} {σ' : wx_St}  {x1 : Int32} {x2 : Int32} {x3 : Int32} {σ : wx_St} (h : f_X0_lay o x1 x2 x3 σ = some (r, σ')) : σ'.2.2.2.2 = σ.2.2.2.2 := by
  unfold f_X0_lay at h
  obtain ⟨v2, hc2, h⟩ := wx_o_ok h
  by_cases c9 : 0 ≤ v2
  · replace h := wx_ift c9 h
    by_cases c15 : x3 = 0
    · replace h := wx_ift c15 h
      exact m_X0_lay_28 h
    · replace h := wx_iff c15 h
      obtain ⟨v19, hc19, h⟩ := wx_o_ok h
      by_cases c22 : v19 = 0
      · replace h := wx_ift c22 h
        obtain ⟨rfl, rfl⟩ := wx_ret_ok h
        rfl
      · replace h := wx_iff c22 h
        exact m_X0_lay_28 h
  · replace h := wx_iff c9 h
    obtain ⟨rfl, rfl⟩ := wx_ret_ok h
    rfl
set_option maxRecDepth 20000 in
set_option maxHeartbeats 4000000 in
theorem m_X0_passOne_0 {o : Nat}  {σ' : wx_St}  {x1 : Int64} {σ : wx_St} (h : f_X0_passOne o x1 σ = some ((), σ')) : σ'.2.2.2.2 = σ.2.2.2.2 := by
  unfold f_X0_passOne at h
  obtain ⟨v15, σ15, hc15, h⟩ := wx_b_ok h
  refine Eq.trans ?_ (show σ15.2.2.2.2 = σ.2.2.2.2 from m_X5_step_0 hc15)
  obtain ⟨σ30, e30, h⟩ := wx_l_ok h
  refine Eq.trans ?_ (show σ30.2.2.2.2 = σ15.2.2.2.2 from (congrArg (fun z : wx_St => z.2.2.2.2) e30).trans rfl)
  obtain ⟨-, rfl⟩ := wx_ret_ok h
  rfl
set_option maxRecDepth 20000 in
set_option maxHeartbeats 4000000 in
theorem m_X0_letPass_11 {o : Nat} {r : Int32} {σ' : wx_St}  {x1 : Int32} {σ : wx_St} (h : f_X0_letPass_11 o x1 σ = some (r, σ')) : σ'.2.2.2.2 = σ.2.2.2.2 := by
  unfold f_X0_letPass_11 at h
  obtain ⟨rfl, rfl⟩ := wx_ret_ok h
  rfl
set_option maxRecDepth 20000 in
set_option maxHeartbeats 4000000 in
theorem m_X0_letPass_36 {o : Nat} {r : Int32} {σ' : wx_St}  :
    ∀ {n : Nat} {x1 : Int32} {x2 : Int64} {x4 : Int32} {σ : wx_St} (h : f_X0_letPass_36 o n x1 x2 x4 σ = some (r, σ')), σ'.2.2.2.2 = σ.2.2.2.2 := by
  intro n
  induction n with
  | zero => intro x1 x2 x4 σ h; exact wx_no h
  | succ n ih =>
    intro x1 x2 x4 σ h
    rw [f_X0_letPass_36] at h
    by_cases c39 : x1 ≤ x4
    · replace h := wx_ift c39 h
      obtain ⟨σ60, e60, h⟩ := wx_l_ok h
      refine Eq.trans ?_ (show σ60.2.2.2.2 = σ.2.2.2.2 from (congrArg (fun z : wx_St => z.2.2.2.2) e60).trans rfl)
      obtain ⟨rfl, rfl⟩ := wx_ret_ok h
      rfl
    · replace h := wx_iff c39 h
      obtain ⟨v44, σ44, hc44, h⟩ := wx_b_ok h
      refine Eq.trans ?_ (show σ44.2.2.2.2 = σ.2.2.2.2 from m_X0_passOne_0 hc44)
      exact ih h
set_option maxRecDepth 20000 in
set_option maxHeartbeats 4000000 in
theorem m_X0_letPass_0 {o : Nat} {r : Int32} {σ' : wx_St}  {x1 : Int32} {σ : wx_St} (h : f_X0_letPass o x1 σ = some (r, σ')) : σ'.2.2.2.2 = σ.2.2.2.2 := by
  unfold f_X0_letPass at h
  by_cases c2 : x1 < 1
  · replace h := wx_ift c2 h
    exact m_X0_letPass_11 h
  · replace h := wx_iff c2 h
    by_cases c8 : x1 ≤ 50
    · replace h := wx_ift c8 h
      by_cases c22 : ((σ.2.2.1 o 6) + x1) ≤ 100
      · replace h := wx_ift c22 h
        obtain ⟨v29, hc29, h⟩ := wx_o_ok h
        exact m_X0_letPass_36 h
      · replace h := wx_iff c22 h
        obtain ⟨rfl, rfl⟩ := wx_ret_ok h
        rfl
    · replace h := wx_iff c8 h
      exact m_X0_letPass_11 h
set_option maxRecDepth 20000 in
set_option maxHeartbeats 4000000 in
theorem m_X0_measure_0 {o : Nat} {r : Int32} {σ' : wx_St}  {x1 : Int32} {x2 : Int32} {σ : wx_St} (h : f_X0_measure o x1 x2 σ = some (r, σ')) : σ'.2.2.2.2 = σ.2.2.2.2 := by
  unfold f_X0_measure at h
  obtain ⟨v2, hc2, h⟩ := wx_o_ok h
  by_cases c7 : 0 ≤ v2
  · replace h := wx_ift c7 h
    by_cases c18 : (σ.2.2.1 o 9) < 8
    · replace h := wx_ift c18 h
      obtain ⟨v29, ev29, iv29, h⟩ := wx_rF_ok h
      obtain ⟨v30, hc30, h⟩ := wx_o_ok h
      obtain ⟨σ44, e44, i44, h⟩ := wx_w_ok h
      refine Eq.trans ?_ (show σ44.2.2.2.2 = σ.2.2.2.2 from (congrArg (fun z : wx_St => z.2.2.2.2) e44).trans rfl)
      obtain ⟨σ55, e55, i55, h⟩ := wx_w_ok h
      refine Eq.trans ?_ (show σ55.2.2.2.2 = σ44.2.2.2.2 from (congrArg (fun z : wx_St => z.2.2.2.2) e55).trans rfl)
      obtain ⟨σ68, e68, i68, h⟩ := wx_w_ok h
      refine Eq.trans ?_ (show σ68.2.2.2.2 = σ55.2.2.2.2 from (congrArg (fun z : wx_St => z.2.2.2.2) e68).trans rfl)
      obtain ⟨σ76, e76, h⟩ := wx_l_ok h
      refine Eq.trans ?_ (show σ76.2.2.2.2 = σ68.2.2.2.2 from (congrArg (fun z : wx_St => z.2.2.2.2) e76).trans rfl)
      obtain ⟨rfl, rfl⟩ := wx_ret_ok h
      rfl
    · replace h := wx_iff c18 h
      obtain ⟨rfl, rfl⟩ := wx_ret_ok h
      rfl
  · replace h := wx_iff c7 h
    obtain ⟨rfl, rfl⟩ := wx_ret_ok h
    rfl
set_option maxRecDepth 20000 in
set_option maxHeartbeats 4000000 in
theorem m_X0_part_12 {o : Nat} {r : Int32} {σ' : wx_St}  {x1 : Int32} {σ : wx_St} (h : f_X0_part_12 o x1 σ = some (r, σ')) : σ'.2.2.2.2 = σ.2.2.2.2 := by
  unfold f_X0_part_12 at h
  obtain ⟨rfl, rfl⟩ := wx_ret_ok h
  rfl
set_option maxRecDepth 20000 in
set_option maxHeartbeats 4000000 in
theorem m_X0_part_16 {o : Nat} {r : Int32} {σ' : wx_St}  :
    ∀ {n : Nat} {x1 : Int32} {x2 : Int32} {σ : wx_St} (h : f_X0_part_16 o n x1 x2 σ = some (r, σ')), σ'.2.2.2.2 = σ.2.2.2.2 := by
  intro n
  induction n with
  | zero => intro x1 x2 σ h; exact wx_no h
  | succ n ih =>
    intro x1 x2 σ h
    rw [f_X0_part_16] at h
    by_cases c23 : ((σ.2.2.1 o 3) - 1) ≤ x2
    · replace h := wx_ift c23 h
      obtain ⟨σ67, e67, h⟩ := wx_l_ok h
      refine Eq.trans ?_ (show σ67.2.2.2.2 = σ.2.2.2.2 from (congrArg (fun z : wx_St => z.2.2.2.2) e67).trans rfl)
      obtain ⟨v71, σ71, hc71, h⟩ := wx_b_ok h
      refine Eq.trans ?_ (show σ71.2.2.2.2 = σ67.2.2.2.2 from m_X0_beginRun_0 hc71)
      obtain ⟨rfl, rfl⟩ := wx_ret_ok h
      rfl
    · replace h := wx_iff c23 h
      obtain ⟨v38, ev38, iv38, h⟩ := wx_rI_ok h
      obtain ⟨σ39, e39, i39, h⟩ := wx_w_ok h
      refine Eq.trans ?_ (show σ39.2.2.2.2 = σ.2.2.2.2 from (congrArg (fun z : wx_St => z.2.2.2.2) e39).trans rfl)
      obtain ⟨v52, ev52, iv52, h⟩ := wx_rI_ok h
      obtain ⟨σ53, e53, i53, h⟩ := wx_w_ok h
      refine Eq.trans ?_ (show σ53.2.2.2.2 = σ39.2.2.2.2 from (congrArg (fun z : wx_St => z.2.2.2.2) e53).trans rfl)
      exact ih h
set_option maxRecDepth 20000 in
set_option maxHeartbeats 4000000 in
theorem m_X0_part_0 {o : Nat} {r : Int32} {σ' : wx_St}  {x1 : Int32} {σ : wx_St} (h : f_X0_part o x1 σ = some (r, σ')) : σ'.2.2.2.2 = σ.2.2.2.2 := by
  unfold f_X0_part at h
  by_cases c1 : x1 < 0
  · replace h := wx_ift c1 h
    exact m_X0_part_12 h
  · replace h := wx_iff c1 h
    by_cases c9 : x1 < (σ.2.2.1 o 3)
    · replace h := wx_ift c9 h
      exact m_X0_part_16 h
    · replace h := wx_iff c9 h
      exact m_X0_part_12 h
set_option maxRecDepth 20000 in
set_option maxHeartbeats 4000000 in
theorem m_X0_takeOver_0 {o : Nat} {b1 : Nat}  {σ' : wx_St}   {σ : wx_St} (h : f_X0_takeOver o b1 σ = some ((), σ')) : σ'.2.2.2.2 = σ.2.2.2.2 := by
  unfold f_X0_takeOver at h
  obtain ⟨σ11, e11, h⟩ := wx_l_ok h
  refine Eq.trans ?_ (show σ11.2.2.2.2 = σ.2.2.2.2 from (congrArg (fun z : wx_St => z.2.2.2.2) e11).trans rfl)
  obtain ⟨σ26, e26, h⟩ := wx_l_ok h
  refine Eq.trans ?_ (show σ26.2.2.2.2 = σ11.2.2.2.2 from (congrArg (fun z : wx_St => z.2.2.2.2) e26).trans rfl)
  obtain ⟨σ41, e41, h⟩ := wx_l_ok h
  refine Eq.trans ?_ (show σ41.2.2.2.2 = σ26.2.2.2.2 from (congrArg (fun z : wx_St => z.2.2.2.2) e41).trans rfl)
  obtain ⟨σ49, e49, h⟩ := wx_l_ok h
  refine Eq.trans ?_ (show σ49.2.2.2.2 = σ41.2.2.2.2 from (congrArg (fun z : wx_St => z.2.2.2.2) e49).trans rfl)
  obtain ⟨σ63, e63, h⟩ := wx_l_ok h
  refine Eq.trans ?_ (show σ63.2.2.2.2 = σ49.2.2.2.2 from (congrArg (fun z : wx_St => z.2.2.2.2) e63).trans rfl)
  obtain ⟨σ77, e77, h⟩ := wx_l_ok h
  refine Eq.trans ?_ (show σ77.2.2.2.2 = σ63.2.2.2.2 from (congrArg (fun z : wx_St => z.2.2.2.2) e77).trans rfl)
  obtain ⟨σ85, e85, h⟩ := wx_l_ok h
  refine Eq.trans ?_ (show σ85.2.2.2.2 = σ77.2.2.2.2 from (congrArg (fun z : wx_St => z.2.2.2.2) e85).trans rfl)
  obtain ⟨σ100, e100, h⟩ := wx_l_ok h
  refine Eq.trans ?_ (show σ100.2.2.2.2 = σ85.2.2.2.2 from (congrArg (fun z : wx_St => z.2.2.2.2) e100).trans rfl)
  obtain ⟨σ108, e108, h⟩ := wx_l_ok h
  refine Eq.trans ?_ (show σ108.2.2.2.2 = σ100.2.2.2.2 from (congrArg (fun z : wx_St => z.2.2.2.2) e108).trans rfl)
  obtain ⟨σ123, e123, h⟩ := wx_l_ok h
  refine Eq.trans ?_ (show σ123.2.2.2.2 = σ108.2.2.2.2 from (congrArg (fun z : wx_St => z.2.2.2.2) e123).trans rfl)
  obtain ⟨σ138, e138, h⟩ := wx_l_ok h
  refine Eq.trans ?_ (show σ138.2.2.2.2 = σ123.2.2.2.2 from (congrArg (fun z : wx_St => z.2.2.2.2) e138).trans rfl)
  obtain ⟨σ153, e153, h⟩ := wx_l_ok h
  refine Eq.trans ?_ (show σ153.2.2.2.2 = σ138.2.2.2.2 from (congrArg (fun z : wx_St => z.2.2.2.2) e153).trans rfl)
  obtain ⟨-, rfl⟩ := wx_ret_ok h
  rfl
set_option maxRecDepth 20000 in
set_option maxHeartbeats 4000000 in
theorem m_X0_turnPair_14 {o : Nat} {r : Int32} {σ' : wx_St}  {x1 : Int32} {x2 : Int32} {σ : wx_St} (h : f_X0_turnPair_14 o x1 x2 σ = some (r, σ')) : σ'.2.2.2.2 = σ.2.2.2.2 := by
  unfold f_X0_turnPair_14 at h
  obtain ⟨rfl, rfl⟩ := wx_ret_ok h
  rfl
set_option maxRecDepth 20000 in
set_option maxHeartbeats 4000000 in
theorem m_X0_turnPair_74 {o : Nat} {r : Int32} {σ' : wx_St}  {x1 : Int32} {x2 : Int32} {y0 : Int32} {σ : wx_St} (h : f_X0_turnPair_74 o x1 x2 y0 σ = some (r, σ')) : σ'.2.2.2.2 = σ.2.2.2.2 := by
  unfold f_X0_turnPair_74 at h
  obtain ⟨rfl, rfl⟩ := wx_ret_ok h
  rfl
set_option maxRecDepth 20000 in
set_option maxHeartbeats 4000000 in
theorem m_X0_turnPair_0 {o : Nat} {r : Int32} {σ' : wx_St}  {x1 : Int32} {x2 : Int32} {σ : wx_St} (h : f_X0_turnPair o x1 x2 σ = some (r, σ')) : σ'.2.2.2.2 = σ.2.2.2.2 := by
  unfold f_X0_turnPair at h
  obtain ⟨v1, hc1, h⟩ := wx_o_ok h
  by_cases c4 : v1 = 0
  · replace h := wx_ift c4 h
    exact m_X0_turnPair_14 h
  · replace h := wx_iff c4 h
    obtain ⟨v8, hc8, h⟩ := wx_o_ok h
    by_cases c11 : v8 = 0
    · replace h := wx_ift c11 h
      exact m_X0_turnPair_14 h
    · replace h := wx_iff c11 h
      by_cases c18 : x1 = x2
      · replace h := wx_ift c18 h
        obtain ⟨rfl, rfl⟩ := wx_ret_ok h
        rfl
      · replace h := wx_iff c18 h
        obtain ⟨v34, ev34, iv34, h⟩ := wx_rI_ok h
        obtain ⟨σ39, e39, i39, h⟩ := wx_w_ok h
        refine Eq.trans ?_ (show σ39.2.2.2.2 = σ.2.2.2.2 from (congrArg (fun z : wx_St => z.2.2.2.2) e39).trans rfl)
        obtain ⟨v50, ev50, iv50, h⟩ := wx_rI_ok h
        obtain ⟨σ55, e55, i55, h⟩ := wx_w_ok h
        refine Eq.trans ?_ (show σ55.2.2.2.2 = σ39.2.2.2.2 from (congrArg (fun z : wx_St => z.2.2.2.2) e55).trans rfl)
        obtain ⟨v57, σ57, hc57, h⟩ := wx_b_ok h
        refine Eq.trans ?_ (show σ57.2.2.2.2 = σ55.2.2.2.2 from m_X0_beginRun_0 hc57)
        obtain ⟨v63, hc63, h⟩ := wx_o_ok h
        by_cases c66 : v63 = 0
        · replace h := wx_ift c66 h
          exact m_X0_turnPair_74 h
        · replace h := wx_iff c66 h
          exact m_X0_turnPair_74 h
set_option maxRecDepth 20000 in
set_option maxHeartbeats 4000000 in
theorem m_X3_kept_36  {r : Int32} {σ' : wx_St}  :
    ∀ {n : Nat} {x1 : Int32} {z2 : Nat} {x3 : Int32} {σ : wx_St} (h : f_X3_kept_36 n x1 z2 x3 σ = some (r, σ')), σ'.2.2.2.2 = σ.2.2.2.2 := by
  intro n
  induction n with
  | zero => intro x1 z2 x3 σ h; exact wx_no h
  | succ n ih =>
    intro x1 z2 x3 σ h
    rw [f_X3_kept_36] at h
    by_cases c39 : 6 ≤ x3
    · replace h := wx_ift c39 h
      obtain ⟨σ69, e69, i69, h⟩ := wx_w_ok h
      refine Eq.trans ?_ (show σ69.2.2.2.2 = σ.2.2.2.2 from (congrArg (fun z : wx_St => z.2.2.2.2) e69).trans rfl)
      obtain ⟨rfl, rfl⟩ := wx_ret_ok h
      rfl
    · replace h := wx_iff c39 h
      obtain ⟨z54, ez54, hz54, iz54, h⟩ := wx_rR_ok h
      obtain ⟨σ55, e55, i55, h⟩ := wx_w_ok h
      refine Eq.trans ?_ (show σ55.2.2.2.2 = σ.2.2.2.2 from (congrArg (fun z : wx_St => z.2.2.2.2) e55).trans rfl)
      exact ih h
set_option maxRecDepth 20000 in
set_option maxHeartbeats 4000000 in
theorem m_X3_kept_0  {r : Int32} {σ' : wx_St}  {x1 : Int32} {σ : wx_St} (h : f_X3_kept x1 σ = some (r, σ')) : σ'.2.2.2.2 = σ.2.2.2.2 := by
  unfold f_X3_kept at h
  by_cases c1 : 0 ≤ x1
  · replace h := wx_ift c1 h
    by_cases c12 : 6 ≤ (σ.2.2.1 14 1)
    · replace h := wx_ift c12 h
      obtain ⟨z32, ez32, hz32, iz32, h⟩ := wx_rR_ok h
      exact m_X3_kept_36 h
    · replace h := wx_iff c12 h
      obtain ⟨σ22, e22, h⟩ := wx_l_ok h
      refine Eq.trans ?_ (show σ22.2.2.2.2 = σ.2.2.2.2 from (congrArg (fun z : wx_St => z.2.2.2.2) e22).trans rfl)
      obtain ⟨rfl, rfl⟩ := wx_ret_ok h
      rfl
  · replace h := wx_iff c1 h
    obtain ⟨rfl, rfl⟩ := wx_ret_ok h
    rfl
set_option maxRecDepth 20000 in
set_option maxHeartbeats 4000000 in
theorem m_X3_prepare_0 {b1 : Nat}  {σ' : wx_St}   {σ : wx_St} (h : f_X3_prepare b1 σ = some ((), σ')) : σ'.2.2.2.2 = σ.2.2.2.2 := by
  unfold f_X3_prepare at h
  obtain ⟨z8, ez8, hz8, iz8, h⟩ := wx_rR_ok h
  obtain ⟨v10, σ10, hc10, h⟩ := wx_b_ok h
  refine Eq.trans ?_ (show σ10.2.2.2.2 = σ.2.2.2.2 from m_X0_takeOver_0 hc10)
  obtain ⟨-, rfl⟩ := wx_ret_ok h
  rfl
set_option maxRecDepth 20000 in
set_option maxHeartbeats 4000000 in
theorem m_X5_cool_0  {r : Int32} {σ' : wx_St}   {σ : wx_St} (h : f_X5_cool σ = some (r, σ')) : σ'.2.2.2.2 = σ.2.2.2.2 := by
  unfold f_X5_cool at h
  obtain ⟨v8, σ8, hc8, h⟩ := wx_b_ok h
  refine Eq.trans ?_ (show σ8.2.2.2.2 = σ.2.2.2.2 from m_X3_prepare_0 hc8)
  obtain ⟨v23, σ23, hc23, h⟩ := wx_b_ok h
  refine Eq.trans ?_ (show σ23.2.2.2.2 = σ8.2.2.2.2 from m_X0_beginRun_0 hc23)
  obtain ⟨v31, σ31, hc31, h⟩ := wx_b_ok h
  refine Eq.trans ?_ (show σ31.2.2.2.2 = σ23.2.2.2.2 from m_X3_kept_0 hc31)
  obtain ⟨rfl, rfl⟩ := wx_ret_ok h
  rfl
set_option maxRecDepth 20000 in
set_option maxHeartbeats 4000000 in
theorem m_X5_feed_0  {r : Int32} {σ' : wx_St}  {x1 : Int32} {x2 : Int32} {σ : wx_St} (h : f_X5_feed x1 x2 σ = some (r, σ')) : σ'.2.2.2.2 = σ.2.2.2.2 := by
  unfold f_X5_feed at h
  obtain ⟨v8, σ8, hc8, h⟩ := wx_b_ok h
  refine Eq.trans ?_ (show σ8.2.2.2.2 = σ.2.2.2.2 from m_X3_prepare_0 hc8)
  obtain ⟨v21, σ21, hc21, h⟩ := wx_b_ok h
  refine Eq.trans ?_ (show σ21.2.2.2.2 = σ8.2.2.2.2 from m_X0_turnPair_0 hc21)
  obtain ⟨v24, σ24, hc24, h⟩ := wx_b_ok h
  refine Eq.trans ?_ (show σ24.2.2.2.2 = σ21.2.2.2.2 from m_X3_kept_0 hc24)
  obtain ⟨rfl, rfl⟩ := wx_ret_ok h
  rfl
set_option maxRecDepth 20000 in
set_option maxHeartbeats 4000000 in
theorem m_X5_mend_0  {r : Int32} {σ' : wx_St}  {x1 : Int32} {σ : wx_St} (h : f_X5_mend x1 σ = some (r, σ')) : σ'.2.2.2.2 = σ.2.2.2.2 := by
  unfold f_X5_mend at h
  obtain ⟨v8, σ8, hc8, h⟩ := wx_b_ok h
  refine Eq.trans ?_ (show σ8.2.2.2.2 = σ.2.2.2.2 from m_X3_prepare_0 hc8)
  obtain ⟨v20, σ20, hc20, h⟩ := wx_b_ok h
  refine Eq.trans ?_ (show σ20.2.2.2.2 = σ8.2.2.2.2 from m_X0_part_0 hc20)
  obtain ⟨v23, σ23, hc23, h⟩ := wx_b_ok h
  refine Eq.trans ?_ (show σ23.2.2.2.2 = σ20.2.2.2.2 from m_X3_kept_0 hc23)
  obtain ⟨rfl, rfl⟩ := wx_ret_ok h
  rfl
set_option maxRecDepth 20000 in
set_option maxHeartbeats 4000000 in
theorem m_X5_probe_0  {r : Int32} {σ' : wx_St}  {x1 : Int32} {x2 : Int32} {σ : wx_St} (h : f_X5_probe x1 x2 σ = some (r, σ')) : σ'.2.2.2.2 = σ.2.2.2.2 := by
  unfold f_X5_probe at h
  obtain ⟨v8, σ8, hc8, h⟩ := wx_b_ok h
  refine Eq.trans ?_ (show σ8.2.2.2.2 = σ.2.2.2.2 from m_X3_prepare_0 hc8)
  obtain ⟨v21, σ21, hc21, h⟩ := wx_b_ok h
  refine Eq.trans ?_ (show σ21.2.2.2.2 = σ8.2.2.2.2 from m_X0_measure_0 hc21)
  obtain ⟨v24, σ24, hc24, h⟩ := wx_b_ok h
  refine Eq.trans ?_ (show σ24.2.2.2.2 = σ21.2.2.2.2 from m_X3_kept_0 hc24)
  obtain ⟨rfl, rfl⟩ := wx_ret_ok h
  rfl
set_option maxRecDepth 20000 in
set_option maxHeartbeats 4000000 in
theorem m_X5_set_0  {r : Int32} {σ' : wx_St}  {x1 : Int32} {x2 : Int32} {σ : wx_St} (h : f_X5_set x1 x2 σ = some (r, σ')) : σ'.2.2.2.2 = σ.2.2.2.2 := by
  unfold f_X5_set at h
  obtain ⟨v8, σ8, hc8, h⟩ := wx_b_ok h
  refine Eq.trans ?_ (show σ8.2.2.2.2 = σ.2.2.2.2 from m_X3_prepare_0 hc8)
  obtain ⟨v21, σ21, hc21, h⟩ := wx_b_ok h
  refine Eq.trans ?_ (show σ21.2.2.2.2 = σ8.2.2.2.2 from m_X0_change_0 hc21)
  obtain ⟨v24, σ24, hc24, h⟩ := wx_b_ok h
  refine Eq.trans ?_ (show σ24.2.2.2.2 = σ21.2.2.2.2 from m_X3_kept_0 hc24)
  obtain ⟨rfl, rfl⟩ := wx_ret_ok h
  rfl
set_option maxRecDepth 20000 in
set_option maxHeartbeats 4000000 in
theorem m_X5_touch_0  {r : Int32} {σ' : wx_St}  {x1 : Int32} {x2 : Int32} {x3 : Int32} {σ : wx_St} (h : f_X5_touch x1 x2 x3 σ = some (r, σ')) : σ'.2.2.2.2 = σ.2.2.2.2 := by
  unfold f_X5_touch at h
  obtain ⟨v8, σ8, hc8, h⟩ := wx_b_ok h
  refine Eq.trans ?_ (show σ8.2.2.2.2 = σ.2.2.2.2 from m_X3_prepare_0 hc8)
  obtain ⟨v22, σ22, hc22, h⟩ := wx_b_ok h
  refine Eq.trans ?_ (show σ22.2.2.2.2 = σ8.2.2.2.2 from m_X0_join_0 hc22)
  obtain ⟨v25, σ25, hc25, h⟩ := wx_b_ok h
  refine Eq.trans ?_ (show σ25.2.2.2.2 = σ22.2.2.2.2 from m_X3_kept_0 hc25)
  obtain ⟨rfl, rfl⟩ := wx_ret_ok h
  rfl
set_option maxRecDepth 20000 in
set_option maxHeartbeats 4000000 in
theorem m_X5_track_0  {r : Int32} {σ' : wx_St}  {x1 : Int32} {x2 : Int32} {x3 : Int32} {σ : wx_St} (h : f_X5_track x1 x2 x3 σ = some (r, σ')) : σ'.2.2.2.2 = σ.2.2.2.2 := by
  unfold f_X5_track at h
  obtain ⟨v8, σ8, hc8, h⟩ := wx_b_ok h
  refine Eq.trans ?_ (show σ8.2.2.2.2 = σ.2.2.2.2 from m_X3_prepare_0 hc8)
  obtain ⟨v22, σ22, hc22, h⟩ := wx_b_ok h
  refine Eq.trans ?_ (show σ22.2.2.2.2 = σ8.2.2.2.2 from m_X0_lay_0 hc22)
  obtain ⟨v25, σ25, hc25, h⟩ := wx_b_ok h
  refine Eq.trans ?_ (show σ25.2.2.2.2 = σ22.2.2.2.2 from m_X3_kept_0 hc25)
  obtain ⟨rfl, rfl⟩ := wx_ret_ok h
  rfl
set_option maxRecDepth 20000 in
set_option maxHeartbeats 4000000 in
theorem m_X5_warm_0  {r : Int32} {σ' : wx_St}  {x1 : Int32} {σ : wx_St} (h : f_X5_warm x1 σ = some (r, σ')) : σ'.2.2.2.2 = σ.2.2.2.2 := by
  unfold f_X5_warm at h
  obtain ⟨v8, σ8, hc8, h⟩ := wx_b_ok h
  refine Eq.trans ?_ (show σ8.2.2.2.2 = σ.2.2.2.2 from m_X3_prepare_0 hc8)
  obtain ⟨v20, σ20, hc20, h⟩ := wx_b_ok h
  refine Eq.trans ?_ (show σ20.2.2.2.2 = σ8.2.2.2.2 from m_X0_letPass_0 hc20)
  obtain ⟨v23, σ23, hc23, h⟩ := wx_b_ok h
  refine Eq.trans ?_ (show σ23.2.2.2.2 = σ20.2.2.2.2 from m_X3_kept_0 hc23)
  obtain ⟨rfl, rfl⟩ := wx_ret_ok h
  rfl
