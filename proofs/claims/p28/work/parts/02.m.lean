/-! THE LAW'S OWN METHODS: the script, the row of a comparison (made anew each time, kept beside the world) -/
def wx_nz {α : Type} (x : Int32) (f : Option α) : Option α := if x = 0 then none else f
theorem wx_nz_ok {α : Type} {x : Int32} {f : Option α} {r : α} (h : wx_nz x f = some r) : ¬ x = 0 ∧ f = some r := by
  unfold wx_nz at h; split at h
  · exact absurd h (by simp)
  · exact ⟨by assumption, h⟩
def wx_rX {α : Type} (ad : Nat → Nat → Nat) (i : Int32) (f : Int32 → Option α) : Option α := if wx_in i (ad 18 1) = true then f (nI (ad 19 i.toNatClampNeg)) else none
theorem wx_rX_ok {α : Type} {ad : Nat → Nat → Nat} {i : Int32} {f : Int32 → Option α} {r : α} (h : wx_rX ad i f = some r) : ∃ v : Int32, v = nI (ad 19 i.toNatClampNeg) ∧ wx_in i (ad 18 1) = true ∧ f v = some r := by
  unfold wx_rX at h; split at h
  · exact ⟨_, rfl, by assumption, h⟩
  · exact absurd h (by simp)
def wx_Am (A : Nat → Prop) (m : Nat) : Nat → Prop := fun q => A q ∧ q ≠ m
def wx_mt (al : Nat → Bool) : Nat := (List.range 40).countP (fun i => al (64 + i))
def wx_sM (σ : wx_St) : wx_St := (fun a b c => if a = 16 ∧ b = 5 then 0 else σ.1 a b c, σ.2.1, σ.2.2.1, σ.2.2.2.1, fun j => if j = 64 + wx_mt σ.2.2.2.2 then true else σ.2.2.2.2 j)
def wx_mk {α : Type} (σ : wx_St) (f : wx_St → Option α) : Option α := if wx_mt σ.2.2.2.2 < 40 ∧ σ.2.2.2.2 (64 + wx_mt σ.2.2.2.2) = false then f (wx_sM σ) else none
theorem wx_mk_ok {α : Type} {σ : wx_St} {f : wx_St → Option α} {r : α} (h : wx_mk σ f = some r) : ∃ z : wx_St, z = wx_sM σ ∧ (wx_mt σ.2.2.2.2 < 40 ∧ σ.2.2.2.2 (64 + wx_mt σ.2.2.2.2) = false) ∧ f z = some r := by
  unfold wx_mk at h; split at h
  · exact ⟨_, rfl, by assumption, h⟩
  · exact absurd h (by simp)
theorem wx_nM {σ z : wx_St} (q : wx_mt σ.2.2.2.2 < 40 ∧ σ.2.2.2.2 (64 + wx_mt σ.2.2.2.2) = false) (e : z = wx_sM σ) : wx_n z.2.2.2.2 = wx_n σ.2.2.2.2 + 1 := by
  subst e
  unfold wx_n
  rw [wx_countP_add (al := σ.2.2.2.2) (j := 64 + wx_mt σ.2.2.2.2) (by rw [q.2]; decide) (by show (if 64 + wx_mt σ.2.2.2.2 = 64 + wx_mt σ.2.2.2.2 then true else _) = true; rw [if_pos rfl]) (fun k hk => by show (if k = 64 + wx_mt σ.2.2.2.2 then true else _) = _; rw [if_neg hk]) 104, if_pos (by omega)]
def wx_kM (ρ τ : wx_St) : wx_St := (fun a b c => if a = 16 ∧ b = 5 then ρ.1 a b c else τ.1 a b c, τ.2.1, τ.2.2.1, τ.2.2.2.1, τ.2.2.2.2)
theorem wx_kMal {σ τ z : wx_St} (h : z = wx_kM σ τ) : z.2.2.2.2 = τ.2.2.2.2 := by rw [h]; rfl
def wx_bM {α β : Type} (σ : wx_St) (m : Option (α × wx_St)) (f : α → wx_St → Option β) : Option β := match m with
  | none => none
  | some r => f r.1 (wx_kM σ r.2)
theorem wx_bM_ok {α β : Type} {σ : wx_St} {m : Option (α × wx_St)} {f : α → wx_St → Option β} {r : β} (h : wx_bM σ m f = some r) : ∃ (a : α) (τ z : wx_St), m = some (a, τ) ∧ z = wx_kM σ τ ∧ f a z = some r := by
  cases m with
  | none => exact absurd h (by simp [wx_bM])
  | some q => exact ⟨q.1, q.2, _, rfl, rfl, h⟩
theorem wx_refs {D : va_G} {cl : List vw_C} {q n : Nat} {c : ClassId} {f g : Nat → Option Nat} {H : Heap} (h : ∀ j, j < n → f j = g j) (hq : va_at D cl (q, .inl (c, n, .inr (.inr (.inr (.inr f))))) H) : va_at D cl (q, .inl (c, n, .inr (.inr (.inr (.inr g))))) H := by
  have h1 : H[q]? = some (arrV c n (fun j => va_rf (f j))) := hq
  show H[q]? = some (arrV c n (fun j => va_rf (g j)))
  have e : (Array.ofFn (n := n) fun j => va_rf (f j.val)) = Array.ofFn (n := n) fun j => va_rf (g j.val) := by
    congr 1
    funext j
    rw [h j.val j.isLt]
  have e2 : arrV c n (fun j => va_rf (f j)) = arrV c n (fun j => va_rf (g j)) := by
    unfold arrV
    rw [e]
  rw [h1, e2]
theorem wx_fl_like {ad : Nat → Nat → Nat} {σ τ : wx_St} (h : τ.2.2.1 = σ.2.2.1) (o : Nat) : ∀ (cs : List Nat) (j : Nat), wx_fl ad τ o j cs = wx_fl ad σ o j cs
  | [], _ => rfl
  | c :: cs, j => by
    simp only [wx_fl]
    rw [wx_fl_like h o cs (j + 1)]
    unfold wx_fv
    rw [h]
theorem wx_sh_like {al al' : Nat → Bool} (h : ∀ j, j < 64 → al' j = al j) : wx_sh al' = wx_sh al := by
  funext o k
  unfold wx_sh
  by_cases h1 : o < 11
  · rw [if_pos h1, if_pos h1]
  · rw [if_neg h1, if_neg h1]
    by_cases h2 : 100 ≤ k ∧ o = 13
    · rw [if_pos h2, if_pos h2]
      by_cases h3 : k < 164
      · rw [h (k - 100) (by omega)]
      · rw [if_neg (fun hh => h3 hh.1), if_neg (fun hh => h3 hh.1)]
    · rw [if_neg h2, if_neg h2]
theorem wx_Z.like {D : va_G} {ad : Nat → Nat → Nat} {rd : Nat → Nat} {ca : Nat → ClassId} {A : Nat → Prop} {σ τ : wx_St} {H : Heap} (Z : wx_Z D ad rd ca A σ H) (h1 : ∀ o k, ¬ (o = 16 ∧ k = 5) → τ.1 o k = σ.1 o k) (h2 : τ.2.1 = σ.2.1) (h3 : τ.2.2.1 = σ.2.2.1) (h4 : τ.2.2.2.1 = σ.2.2.2.1) (h5 : ∀ j, j < 64 → τ.2.2.2.2 j = σ.2.2.2.2 j) : wx_Z D ad rd ca A τ H := by
  have hsh := wx_sh_like h5
  obtain ⟨ZP, ZJ, ZO⟩ := Z
  refine ⟨fun o k e he => ?_, fun o k o' k' a b c => ?_, fun o k a => ?_⟩
  · rw [hsh] at he
    by_cases hk : o = 16 ∧ k = 5
    · obtain ⟨rfl, rfl⟩ := hk
      exact absurd he (by
        show ¬ (none : Option va_E) = some e
        simp)
    · by_cases h6 : (wx_sh σ.2.2.2.2 o k).1 = 6
      · obtain ⟨rfl, rfl⟩ := wx_sh6 h6
        have hx8 : e = Sum.inl (ca 4, 64, Sum.inr (Sum.inr (Sum.inr (Sum.inr (fun i => if τ.2.2.2.2 i = true then some (rd i) else none))))) := (Option.some.inj he).symm
        subst hx8
        have h9 := ZP 13 1 (Sum.inl (ca 4, 64, Sum.inr (Sum.inr (Sum.inr (Sum.inr (fun i => if σ.2.2.2.2 i = true then some (rd i) else none)))))) rfl
        exact wx_refs (fun j hj => by rw [h5 j hj]) h9
      · refine ZP o k e ?_
        rw [← he]
        unfold wx_ek
        rw [wx_fl_like h3, h1 o k hk, h2]
        simp only [if_neg h6]
        unfold wx_ro
        rw [h4]
  · rw [hsh] at a b
    exact ZJ o k o' k' a b c
  · rw [hsh] at a
    exact ZO o k a
theorem wx_Z.mono {D : va_G} {ad : Nat → Nat → Nat} {rd : Nat → Nat} {ca : Nat → ClassId} {A A' : Nat → Prop} {σ : wx_St} {H : Heap} (Z : wx_Z D ad rd ca A σ H) (h : ∀ q, A q → A' q) : wx_Z D ad rd ca A' σ H := ⟨Z.1, Z.2.1, fun o k a => h _ (Z.2.2 o k a)⟩
theorem wx_T.mono {ad : Nat → Nat → Nat} {A A' : Nat → Prop} {U : State} {H : Heap} (h : wx_T ad A U H) (hq : ∀ q, A' q → A q) : wx_T ad A' U H := by
  have z : ∀ {C n d : String} {v : Value}, va_Z C n d v A U H → va_Z C n d v A' U H := by
    rintro C n d v ⟨cf, kf, fi, f, a, cell, h1, h2, h3, h4, h5, h6, h7, h8⟩
    exact ⟨cf, kf, fi, f, a, cell, h1, h2, h3, h4, h5, h6, h7, fun hh => h8 (hq _ hh)⟩
  have t : ∀ {ty : FieldType} {t N : Nat} {f : Nat → Value}, va_T ty t N f A U H → va_T ty t N f A' U H := by
    rintro ty t N f ⟨cell, h1, h2, h3, h4, h5, h6, h7⟩
    exact ⟨cell, h1, h2, h3, h4, h5, h6, fun hh => h7 (hq _ hh)⟩
  exact ⟨⟨z h.1.1, z h.1.2.1, z h.1.2.2⟩, ⟨t h.2.1.1, t h.2.1.2.1, t h.2.1.2.2⟩, ⟨h.2.2.1, h.2.2.2.1, fun hh => h.2.2.2.2 (hq _ hh)⟩⟩
theorem wx_C.mono {D : va_G} {ad : Nat → Nat → Nat} {ca : Nat → ClassId} {A A' : Nat → Prop} {U : State} {H : Heap} (h : wx_C D ad ca A U H) (hq : ∀ q, A' q → A q) : wx_C D ad ca A' U H := ⟨h.1, h.2.1.mono hq, trivial⟩
/-- the world beside the row of a comparison -/
def wx_ZM (D : va_G) (ad : Nat → Nat → Nat) (rd : Nat → Nat) (ca : Nat → ClassId) (A : Nat → Prop) (h0 mm : Nat) (σ : wx_St) (H : Heap) : Prop := wx_Z D ad rd ca (wx_Am A mm) σ H ∧ va_at D vwCl (mm, .inl (ca 0, 8, .inl (σ.1 16 5))) H ∧ h0 ≤ mm
theorem wx_ZM.out {D : va_G} {ad : Nat → Nat → Nat} {rd : Nat → Nat} {ca : Nat → ClassId} {A : Nat → Prop} {h0 mm : Nat} {σ : wx_St} {H : Heap} (Z : wx_ZM D ad rd ca A h0 mm σ H) : wx_Z D ad rd ca A σ H := Z.1.mono (fun _ h => h.1)
section wxmrows
variable {p : Program} {l : Launch} {e : Env} {R : Room} {s : State} {m : MethodId} {args : Array Value} {below : List Frame} {meth : Method} {c : Code} {H : Heap} {locs : List Loc} {cells slots : Nat} {Q : State → Prop}
variable {cc : ByteArray} {pc : Nat} {ls : Array Slot} {rest : List Value} {D : va_G} {ad : Nat → Nat → Nat} {rd : Nat → Nat} {ca : Nat → ClassId} {A : Nat → Prop} {σ : wx_St} {H0 : Heap}
theorem wx_newM (hx : p.tables.exec = Jvm.exec) (hb : c.code = cc) (hK : wx_K D ca s) (Z : wx_Z D ad rd ca A σ H) (hS : va_S A s.heap H locs) (hA : ∀ q : Nat, s.heap.size ≤ q → A q) (hw : (Cond.arrayClass .int).before args s = true) (hcells : cells + 1 ≤ R.cells) (hslots : slots + 8 ≤ R.slots)
    (hdg : decode cc pc = .ok (.newarray .int, 2)) {τ : wx_St} (hv : τ = wx_sM σ)
    (kk : ∀ (mm : Nat) (H1 : Heap), wx_ZM D ad rd ca A s.heap.size mm τ H1 → va_S A s.heap H1 locs → W p l e R s m args below meth c H1 locs (cells + 1) (slots + 8) Q (F0 m (pc + 2) ls (.ref mm :: rest))) : W p l e R s m args below meth c H locs cells slots Q (F0 m pc ls (.int 8 :: rest)) := by
  subst hv
  refine va_newaK (atype := .int) hx hb hw rfl hdg (n := 8) (N := 8) rfl (by decide) (by decide) (by decide) hcells hslots rfl fun H1 cA e1 z1 o1 hAr hNm => ?_
  have hcA : cA = ca 0 := Option.some.inj (hNm.symm.trans ((hK.1.2 0 _ rfl).2))
  subst hcA
  have Z1 : wx_Z D ad rd ca (wx_Am A H.size) σ H1 := by
    refine ⟨fun o k x hx => va_at.kept (Z.1 o k x hx) (o1 _ (Z.1 o k x hx).lt), Z.2.1, fun o k h0 => ⟨Z.2.2 o k h0, ?_⟩⟩
    have hex : ∃ e', wx_ek ad rd ca σ o k (wx_sh σ.2.2.2.2 o k) = some e' := by
      have hkd : (wx_sh σ.2.2.2.2 o k).1 ≤ 6 := wx_sh_le
      unfold wx_ek
      split
      · exact ⟨_, rfl⟩
      · split
        · exact ⟨_, rfl⟩
        · split
          · exact ⟨_, rfl⟩
          · split
            · exact ⟨_, rfl⟩
            · split
              · exact ⟨_, rfl⟩
              · split
                · exact ⟨_, rfl⟩
                · omega
    obtain ⟨e', he'⟩ := hex
    have := (Z.1 o k e' he').lt
    exact Nat.ne_of_lt this
  refine kk H.size H1 ⟨Z1.like (fun o k h => ?_) rfl rfl rfl (fun j hj => ?_), ?_, hS.1⟩ ⟨Nat.le_trans hS.1 (by omega), fun q h1 h2 => ?_, hS.2.2⟩
  · funext j
    show (if o = 16 ∧ k = 5 then (0 : Int32) else σ.1 o k j) = _
    rw [if_neg h]
  · show (if j = 64 + wx_mt σ.2.2.2.2 then true else σ.2.2.2.2 j) = _
    rw [if_neg (by omega)]
  · show H1[H.size]? = some (arrV (ca 0) 8 (fun j => Value.int ((wx_sM σ).1 16 5 j)))
    have : (wx_sM σ).1 16 5 = fun _ => 0 := by
      funext q
      show (if (16 : Nat) = 16 ∧ (5 : Nat) = 5 then (0 : Int32) else σ.1 16 5 q) = 0
      exact if_pos ⟨rfl, rfl⟩
    rw [this, e1]
    rfl
  · rw [o1 q (Nat.lt_of_lt_of_le h1 hS.1)]
    exact hS.2.1 q h1 h2
variable {mm h0 : Nat}
theorem wx_ialdM (hx : p.tables.exec = Jvm.exec) (hb : c.code = cc) (hK : wx_K D ca s) (Z : wx_ZM D ad rd ca A h0 mm σ H) {i : Int32} (hin : wx_in i 8 = true) (hdg : decode cc pc = .ok (.iaload, 1))
    {v : Int32} (hv : v = σ.1 16 5 i.toNatClampNeg) (kk : W p l e R s m args below meth c H locs cells slots Q (F0 m (pc + 1) ls (.int v :: rest))) : W p l e R s m args below meth c H locs cells slots Q (F0 m pc ls (.int i :: .ref mm :: rest)) := by
  subst hv
  exact va_iald hx hb hK.1 (wx_single Z.2.1) 0 0 rfl rfl (wx_in_vp hin) hdg kk
theorem wx_iastM (hx : p.tables.exec = Jvm.exec) (hb : c.code = cc) (hK : wx_K D ca s) (Z : wx_ZM D ad rd ca A s.heap.size mm σ H) (hS : va_S A s.heap H locs) (hA : ∀ q : Nat, s.heap.size ≤ q → A q) {i x : Int32} (hin : wx_in i 8 = true) (hdg : decode cc pc = .ok (.iastore, 1))
    {τ : wx_St} (hv : τ = wx_sI σ 16 5 i.toNatClampNeg x) (kk : ∀ (H1 : Heap) (locs1 : List Loc), wx_ZM D ad rd ca A s.heap.size mm τ H1 → va_S A s.heap H1 locs1 → W p l e R s m args below meth c H1 locs1 cells slots Q (F0 m (pc + 1) ls rest)) : W p l e R s m args below meth c H locs cells slots Q (F0 m pc ls (.int x :: .int i :: .ref mm :: rest)) := by
  subst hv
  obtain ⟨Z1, Z2, Z3⟩ := Z
  obtain ⟨L, hLP, hD0, hLat⟩ : ∃ L : va_W, va_P D vwCl L H ∧ va_D (wx_Am A mm) L ∧ ∀ (o k : Nat) (x : va_E), wx_ek ad rd ca σ o k (wx_sh σ.2.2.2.2 o k) = some x → ∃ q : Nat, L[q]? = some (wx_ad ad rd o k, x) := ⟨wx_ls ad rd ca σ, wx_ls_P Z1.1, wx_ls_D Z1.2.1 Z1.2.2, fun o k x hx => wx_ls_at hx⟩
  have hP : va_P D vwCl ((mm, .inl (ca 0, 8, .inl (σ.1 16 5))) :: L) H := by
    intro k q hq
    cases k with
    | zero => cases hq; exact Z2
    | succ k => rw [List.getElem?_cons_succ] at hq; exact hLP k q hq
  have hD : va_D A ((mm, .inl (ca 0, 8, .inl (σ.1 16 5))) :: L) := by
    refine ⟨fun i j p q hi hj hpq => ?_, fun k q hq => ?_⟩
    · cases i with
      | zero =>
        cases j with
        | zero => rfl
        | succ j =>
          cases hi
          rw [List.getElem?_cons_succ] at hj
          exact absurd hpq.symm (hD0.2 j q hj).2
      | succ i =>
        rw [List.getElem?_cons_succ] at hi
        cases j with
        | zero =>
          cases hj
          exact absurd hpq (hD0.2 i p hi).2
        | succ j =>
          rw [List.getElem?_cons_succ] at hj
          exact congrArg (· + 1) (hD0.1 i j p q hi hj hpq)
    · cases k with
      | zero => cases hq; exact hA mm Z3
      | succ k => rw [List.getElem?_cons_succ] at hq; exact (hD0.2 k q hq).1
  refine va_iast hx hb hK.1 hP hD hS 0 0 rfl rfl (wx_in_vp hin) hdg fun H1 locs1 hP hD hS => ?_
  rw [List.set_cons_zero] at hP
  have Z1' : wx_Z D ad rd ca (wx_Am A mm) σ H1 := by
    refine ⟨fun o k x hx => ?_, Z1.2⟩
    obtain ⟨q, hq⟩ := hLat o k x hx
    exact hP (q + 1) _ (by rw [List.getElem?_cons_succ]; exact hq)
  refine kk H1 locs1 ⟨Z1'.like (fun o k h => ?_) rfl rfl rfl (fun _ _ => rfl), ?_, Z3⟩ hS
  · funext j
    show (if o = 16 ∧ k = 5 ∧ j = i.toNatClampNeg then x else σ.1 o k j) = _
    rw [if_neg (fun hh => h ⟨hh.1, hh.2.1⟩)]
  · have h8 := hP 0 _ rfl
    have e : (wx_sI σ 16 5 i.toNatClampNeg x).1 16 5 = upd (σ.1 16 5) i.toNatClampNeg x := by
      funext j
      show (if 16 = 16 ∧ 5 = 5 ∧ j = i.toNatClampNeg then x else σ.1 16 5 j) = upd (σ.1 16 5) i.toNatClampNeg x j
      simp [upd]
    rw [e]
    exact h8
variable {mc ms : Nat} {st0 : List Value} {a : Array Value} {ov : Option Value} {σ' : wx_St}
theorem wx_callM (hr : va_Run p l e R s m args below meth c H locs cells slots 0 0 (F0 m pc ls st0) rest (wx_Q D ad rd ca (wx_Am A mm) ov σ a) (wx_Am A mm)) (Z : wx_ZM D ad rd ca A h0 mm σ H) (hS : va_S A H0 H locs)
    (kk : ∀ (H1 : Heap) (locs1 : List Loc), wx_ZM D ad rd ca A h0 mm σ H1 → va_S A H0 H1 locs1 → W p l e R s m args below meth c H1 locs1 cells slots Q (F0 m (pc + 3) ls (ov.toList ++ rest))) : W p l e R s m args below meth c H locs cells slots Q (F0 m pc ls st0) := by
  intro T hT X
  obtain ⟨v, st₀, t, T', L, h0', X', hL, e1, e2, ⟨hv, hZ, hz, hk⟩, st⟩ := hr T hT X
  cases hv
  rw [h0'] at hz hk
  obtain ⟨t2, a1, b1⟩ := kk T'.heap (locs ++ L) (by rw [e1]; exact ⟨hZ, va_at.kept Z.2.1 (hk mm Z.2.1.lt (fun hh => hh.2 rfl)), Z.2.2⟩)
    ⟨Nat.le_trans hS.1 (by rw [e1]; exact hz), fun q h1 h2 => by rw [e1, hk q (Nat.lt_of_lt_of_le h1 hS.1) (fun hh => h2 hh.1)]; exact hS.2.1 q h1 h2, fun q hq => by
      rcases List.mem_append.mp hq with h | h
      · exact hS.2.2 q h
      · exact (hL q h).1⟩ T' rfl X'
  exact ⟨t2, st t2 a1, b1⟩
theorem wx_callAM (hr : va_Run p l e R s m args below meth c H locs cells slots mc ms (F0 m pc ls st0) rest (wx_QA D ad ca (wx_Am A mm) ov σ' a) (wx_Am A mm)) (Z : wx_ZM D ad rd ca A h0 mm σ H) (hS : va_S A H0 H locs) {z : wx_St} (ez : z = wx_kM σ σ')
    (kk : ∀ (rd' : Nat → Nat) (H1 : Heap) (locs1 : List Loc), wx_ZM D ad rd' ca A h0 mm z H1 → va_S A H0 H1 locs1 → W p l e R s m args below meth c H1 locs1 (cells + mc) (slots + ms) Q (F0 m (pc + 3) ls (ov.toList ++ rest))) : W p l e R s m args below meth c H locs cells slots Q (F0 m pc ls st0) := by
  subst ez
  intro T hT X
  obtain ⟨v, st₀, t, T', L, h0', X', hL, e1, e2, ⟨hv, ⟨rd', hZ⟩, hz, hk⟩, st⟩ := hr T hT X
  cases hv
  rw [h0'] at hz hk
  have hZ' : wx_ZM D ad rd' ca A h0 mm (wx_kM σ σ') T'.heap := by
    rw [e1]
    refine ⟨hZ.like (fun o k h => ?_) rfl rfl rfl (fun _ _ => rfl), ?_, Z.2.2⟩
    · funext j
      show (if o = 16 ∧ k = 5 then σ.1 o k j else σ'.1 o k j) = _
      rw [if_neg h]
    · have e : (wx_kM σ σ').1 16 5 = σ.1 16 5 := by
        funext j
        show (if 16 = 16 ∧ 5 = 5 then σ.1 16 5 j else σ'.1 16 5 j) = _
        rw [if_pos ⟨rfl, rfl⟩]
      rw [e]
      exact va_at.kept Z.2.1 (hk mm Z.2.1.lt (fun hh => hh.2 rfl))
  obtain ⟨t2, a1, b1⟩ := kk rd' T'.heap (locs ++ L) hZ'
    ⟨Nat.le_trans hS.1 (by rw [e1]; exact hz), fun q h1 h2 => by rw [e1, hk q (Nat.lt_of_lt_of_le h1 hS.1) (fun hh => h2 hh.1)]; exact hS.2.1 q h1 h2, fun q hq => by
      rcases List.mem_append.mp hq with h | h
      · exact hS.2.2 q h
      · exact (hL q h).1⟩ T' rfl X'
  exact ⟨t2, st t2 a1, b1⟩
theorem wx_preSM {As : List Value} (hC : wx_C D ad ca A s s.heap) (hA : ∀ q : Nat, s.heap.size ≤ q → A q) (Z : wx_ZM D ad rd ca A s.heap.size mm σ H) (hS : va_S A s.heap H locs) : PreS s H (va_Pc As (wx_U D ad rd ca (wx_Am A mm) σ)) As :=
  ⟨wx_blind, fun U hU hW => ⟨rfl, (wx_C.next hC hS hU hW).mono (fun _ h => h.1), by rw [hU]; exact Z.1, fun q hq => by
    rw [hU] at hq
    exact ⟨hA q (Nat.le_trans hS.1 hq), fun e => by have := Z.2.1.lt; have h2 : mm < H.size := this; omega⟩⟩⟩
theorem wx_preVM {As : List Value} (hC : wx_C D ad ca A s s.heap) (hA : ∀ q : Nat, s.heap.size ≤ q → A q) (Z : wx_ZM D ad rd ca A s.heap.size mm σ H) (hS : va_S A s.heap H locs) {o ci N : Nat} {C : String} {T : u_T} (hsh : wx_sh σ.2.2.2.2 o 99 = (5, ci)) (hc : vwCl[ci]? = some (C, T, N)) : PreV s H C (ad o 99) (va_Pc (.ref (ad o 99) :: As) (wx_U D ad rd ca (wx_Am A mm) σ)) As := by
  have h1 := wx_single (Z.1.1 o 99 (.inr (ci, wx_fl ad σ o 0 (wx_fc ci))) (by rw [hsh]; rfl))
  rw [wx_st (by decide)] at h1
  exact ⟨wx_blind, va_recv hC.1.1 h1 hc (q0 := 0) rfl, (wx_preSM hC hA Z hS).2⟩
end wxmrows
