/-! WHILE OBJECTS ARE MADE: a world is a map from object number and slot to an address and what is there -/
abbrev gw_W : Type := Nat → Nat → Option (Nat × va_E)
def gw_up (w : gw_W) (o k : Nat) (q : Nat × va_E) : gw_W := fun a b => if b = k ∧ a = o then some q else w a b
theorem gw_same {w : gw_W} {o k : Nat} {q : Nat × va_E} : gw_up w o k q o k = some q := if_pos ⟨rfl, rfl⟩
theorem gw_ne {w : gw_W} {o k a b : Nat} {q : Nat × va_E} (h : ¬ (b = k ∧ a = o)) : gw_up w o k q a b = w a b := if_neg h
def gw_Z (D : va_G) (A : Nat → Prop) (w : gw_W) (H : Heap) : Prop :=
  (∀ o k q, w o k = some q → va_at D vwCl q H) ∧ (∀ o k o' k' q q', w o k = some q → w o' k' = some q' → q.1 = q'.1 → o = o' ∧ k = k') ∧ ∀ o k q, w o k = some q → A q.1 ∧ o < 17 ∧ k < 164
def gw_ls (w : gw_W) : va_W := (List.range 2788).filterMap (fun n => w (n / 164) (n % 164))
theorem gw_at {D : va_G} {A : Nat → Prop} {w : gw_W} {H : Heap} (Z : gw_Z D A w H) {o k : Nat} {q : Nat × va_E} (h : w o k = some q) : ∃ p : Nat, (gw_ls w)[p]? = some q := by
  have hlt := Z.2.2 o k q h
  refine List.getElem?_of_mem (List.mem_filterMap.mpr ⟨164 * o + k, List.mem_range.mpr (by omega), ?_⟩)
  rw [show (164 * o + k) / 164 = o by omega, show (164 * o + k) % 164 = k by omega, h]
theorem gw_lsP {D : va_G} {A : Nat → Prop} {w : gw_W} {H : Heap} (Z : gw_Z D A w H) : va_P D vwCl (gw_ls w) H := by
  intro k q hq
  obtain ⟨n, -, hn⟩ := List.mem_filterMap.mp (List.mem_of_getElem? hq)
  exact Z.1 _ _ _ hn
theorem gw_lsD {D : va_G} {A : Nat → Prop} {w : gw_W} {H : Heap} (Z : gw_Z D A w H) : va_D A (gw_ls w) := by
  have hpw : List.Pairwise (fun p q : Nat × va_E => p.1 ≠ q.1) (gw_ls w) := by
    unfold gw_ls
    rw [List.pairwise_filterMap]
    refine List.Pairwise.imp ?_ (List.nodup_range (n := 2788))
    intro a b hab x hx y hy hxy
    have h5 := Z.2.1 _ _ _ _ _ _ hx hy hxy
    apply hab
    omega
  refine ⟨fun i j p q hi hj hpq => ?_, fun k q hq => ?_⟩
  · obtain ⟨hil, hie⟩ := List.getElem?_eq_some_iff.mp hi
    obtain ⟨hjl, hje⟩ := List.getElem?_eq_some_iff.mp hj
    rcases Nat.lt_trichotomy i j with h | h | h
    · exact absurd hpq (by rw [← hie, ← hje]; exact List.pairwise_iff_getElem.mp hpw i j hil hjl h)
    · exact h
    · exact absurd hpq.symm (by rw [← hie, ← hje]; exact List.pairwise_iff_getElem.mp hpw j i hjl hil h)
  · obtain ⟨n, -, hn⟩ := List.mem_filterMap.mp (List.mem_of_getElem? hq)
    exact (Z.2.2 _ _ _ hn).1
theorem gw_lt {D : va_G} {A : Nat → Prop} {w : gw_W} {H : Heap} (Z : gw_Z D A w H) {o k : Nat} {q : Nat × va_E} (h : w o k = some q) : q.1 < H.size := (Z.1 o k q h).lt
/-- one cell written -/
theorem gw_set {D : va_G} {A : Nat → Prop} {w : gw_W} {H H1 : Heap} (Z : gw_Z D A w H) {o k p a : Nat} {e e' : va_E} (h : w o k = some (a, e)) (hp : (gw_ls w)[p]? = some (a, e)) (hP : va_P D vwCl ((gw_ls w).set p (a, e')) H1) : gw_Z D A (gw_up w o k (a, e')) H1 := by
  have hpl : p < (gw_ls w).length := (List.getElem?_eq_some_iff.mp hp).1
  have hp1 : ∀ x y q, gw_up w o k (a, e') x y = some q → ∃ e0, w x y = some (q.1, e0) := by
    intro x y q hq
    by_cases hk : y = k ∧ x = o
    · obtain ⟨rfl, rfl⟩ := hk
      rw [gw_same] at hq
      cases hq
      exact ⟨e, h⟩
    · rw [gw_ne hk] at hq
      exact ⟨q.2, hq⟩
  refine ⟨fun x y q hq => ?_, fun x y x' y' q q' hq hq' hqq => ?_, fun x y q hq => ?_⟩
  · by_cases hk : y = k ∧ x = o
    · obtain ⟨rfl, rfl⟩ := hk
      rw [gw_same] at hq
      cases hq
      exact hP p _ (by rw [List.getElem?_set_self hpl])
    · rw [gw_ne hk] at hq
      obtain ⟨p', hp'⟩ := gw_at Z hq
      have hne : p ≠ p' := by
        intro z
        subst z
        have h1 := Option.some.inj (hp.symm.trans hp')
        have h3 := Z.2.1 _ _ _ _ _ _ h hq (by rw [← h1])
        exact hk ⟨h3.2.symm, h3.1.symm⟩
      exact hP p' _ (by rw [List.getElem?_set_ne hne]; exact hp')
  · obtain ⟨e0, h0⟩ := hp1 x y q hq
    obtain ⟨e1, h1⟩ := hp1 x' y' q' hq'
    exact Z.2.1 _ _ _ _ _ _ h0 h1 hqq
  · obtain ⟨e0, h0⟩ := hp1 x y q hq
    exact Z.2.2 x y (q.1, e0) h0
/-- one cell made -/
theorem gw_new {D : va_G} {A : Nat → Prop} {w : gw_W} {H1 : Heap} {o k a : Nat} {e : va_E} (Z2 : ∀ o k q, w o k = some q → A q.1 ∧ o < 17 ∧ k < 164) (ZJ : ∀ o k o' k' q q', w o k = some q → w o' k' = some q' → q.1 = q'.1 → o = o' ∧ k = k') (ZA : ∀ {o k : Nat} {q : Nat × va_E}, w o k = some q → ∃ p : Nat, (gw_ls w)[p]? = some q) (h : w o k = none) (ho : o < 17 ∧ k < 164) (hP : va_P D vwCl (gw_ls w ++ [(a, e)]) H1) (hD : va_D A (gw_ls w ++ [(a, e)])) : gw_Z D A (gw_up w o k (a, e)) H1 := by
  have hlast : (gw_ls w ++ [(a, e)])[(gw_ls w).length]? = some (a, e) := by simp
  have hold : ∀ x y q, w x y = some q → ∃ p : Nat, p < (gw_ls w).length ∧ (gw_ls w ++ [(a, e)])[p]? = some q := by
    intro x y q hq
    obtain ⟨p, hp⟩ := ZA hq
    have hl := (List.getElem?_eq_some_iff.mp hp).1
    exact ⟨p, hl, by rw [List.getElem?_append_left hl]; exact hp⟩
  have hnew : ∀ x y q, w x y = some q → q.1 ≠ a := by
    intro x y q hq z
    obtain ⟨p, hl, hp⟩ := hold x y q hq
    have := hD.1 _ _ _ _ hp hlast z
    omega
  refine ⟨fun x y q hq => ?_, fun x y x' y' q q' hq hq' hqq => ?_, fun x y q hq => ?_⟩
  · by_cases hk : y = k ∧ x = o
    · obtain ⟨rfl, rfl⟩ := hk
      rw [gw_same] at hq
      cases hq
      exact hP _ _ hlast
    · rw [gw_ne hk] at hq
      obtain ⟨p, -, hp⟩ := hold x y q hq
      exact hP _ _ hp
  · by_cases hk : y = k ∧ x = o
    · obtain ⟨rfl, rfl⟩ := hk
      rw [gw_same] at hq
      cases hq
      by_cases hk' : y' = y ∧ x' = x
      · exact ⟨hk'.2.symm, hk'.1.symm⟩
      · rw [gw_ne hk'] at hq'
        exact absurd hqq.symm (hnew _ _ _ hq')
    · rw [gw_ne hk] at hq
      by_cases hk' : y' = k ∧ x' = o
      · obtain ⟨rfl, rfl⟩ := hk'
        rw [gw_same] at hq'
        cases hq'
        exact absurd hqq (hnew _ _ _ hq)
      · rw [gw_ne hk'] at hq'
        exact ZJ _ _ _ _ _ _ hq hq' hqq
  · by_cases hk : y = k ∧ x = o
    · obtain ⟨rfl, rfl⟩ := hk
      rw [gw_same] at hq
      cases hq
      exact ⟨hD.2 _ _ hlast, ho⟩
    · rw [gw_ne hk] at hq
      exact Z2 _ _ _ hq
def gw_AO (U : State) : Prop := (Cond.arrayOver (.object RX0)).before #[] U = true ∧ (Cond.arrayOver (.array .float)).before #[] U = true
theorem gw_AO.moved {u U : State} (hvm : u.vm.Alike U.vm) (h : gw_AO u) : gw_AO U := ⟨va_AO.moved hvm h.1, over_moved hvm h.2⟩
def gw_U (D : va_G) (ad : Nat → Nat → Nat) (ca : Nat → ClassId) (A : Nat → Prop) (w : gw_W) (U : State) : Prop :=
  wx_C D ad ca A U U.heap ∧ gw_Z D A w U.heap ∧ (∀ q : Nat, U.heap.size ≤ q → A q) ∧ gw_AO U
def gw_Q (D : va_G) (A : Nat → Prop) (w' : (Nat → Nat) → gw_W) : Array Value → State → Outcome → State → Prop := fun _ st oc t =>
  oc = .returned none ∧ (∃ a : Nat → Nat, gw_Z D A (w' a) t.heap) ∧ va_F A st t
/-- a constructor's contract: from the world w; behind it w' of some addresses -/
abbrev gw_M (l : Launch) (y : MethodName) (ws : List Cond) (fr mc ms lo : Nat) (D : va_G) (ad : Nat → Nat → Nat) (ca : Nat → ClassId) (A : Nat → Prop) (vs : List Value) (w : gw_W) (w' : (Nat → Nat) → gw_W) : Prop :=
  Met l y ws ({ frames := fr, cells := mc, slots := ms, locals := lo } : Room) (va_Pc vs (gw_U D ad ca A w)) (gw_Q D A w') mc ms A
section gwrows
variable {p : Program} {l : Launch} {e : Env} {R : Room} {s : State} {m : MethodId} {args : Array Value} {below : List Frame} {meth : Method} {c : Code} {H : Heap} {locs : List Loc} {cells slots : Nat} {Q : State → Prop}
variable {cc : ByteArray} {pc : Nat} {ls : Array Slot} {rest : List Value} {D : va_G} {ad : Nat → Nat → Nat} {ca : Nat → ClassId} {A : Nat → Prop} {w : gw_W} {H0 : Heap}
theorem gw_blind {vs : List Value} : FrameBlind (va_Pc vs (gw_U D ad ca A w)) := by
  intro a U g mk h
  obtain ⟨h1, h2, h3, h4, h5⟩ := h
  exact ⟨h1, wx_C.same (u := U) (U := U.calling g mk a) rfl rfl h2, h3, h4, gw_AO.moved (u := U) (U := U.calling g mk a) (Vm.Alike.refl U.vm) h5⟩
theorem gw_preS {As : List Value} (hC : wx_C D ad ca A s s.heap) (hAO : gw_AO s) (Z : gw_Z D A w H) (hS : va_S A s.heap H locs) (hA : ∀ q : Nat, s.heap.size ≤ q → A q) : PreS s H (va_Pc As (gw_U D ad ca A w)) As :=
  ⟨gw_blind, fun U hU hW => ⟨rfl, wx_C.next hC hS hU hW, by rw [hU]; exact Z, fun q hq => hA q (Nat.le_trans hS.1 (by rw [← hU]; exact hq)), gw_AO.moved hW.alike hAO⟩⟩
theorem gw_call {mc ms : Nat} {st0 : List Value} {a : Array Value} {w' : (Nat → Nat) → gw_W} (hr : va_Run p l e R s m args below meth c H locs cells slots mc ms (F0 m pc ls st0) rest (gw_Q D A w' a) A) (hS : va_S A H0 H locs)
    (kk : ∀ (b : Nat → Nat) (H1 : Heap) (locs1 : List Loc), gw_Z D A (w' b) H1 → va_S A H0 H1 locs1 → W p l e R s m args below meth c H1 locs1 (cells + mc) (slots + ms) Q (F0 m (pc + 3) ls rest)) : W p l e R s m args below meth c H locs cells slots Q (F0 m pc ls st0) := by
  intro T hT X
  obtain ⟨v, st₀, t, T', L, h0, X', hL, e1, e2, ⟨hv, ⟨b, hZ⟩, hz, hk⟩, st⟩ := hr T hT X
  cases hv
  rw [h0] at hz hk
  obtain ⟨t2, a1, b1⟩ := kk b T'.heap (locs ++ L) (by rw [e1]; exact hZ)
    ⟨Nat.le_trans hS.1 (by rw [e1]; exact hz), fun q h1 h2 => by rw [e1, hk q (Nat.lt_of_lt_of_le h1 hS.1) h2]; exact hS.2.1 q h1 h2, fun q hq => by
      rcases List.mem_append.mp hq with h | h
      · exact hS.2.2 q h
      · exact hL q h⟩ T' rfl X'
  exact ⟨t2, st t2 a1, b1⟩
/-- a new object, its fields as they begin -/
theorem gw_obj (hx : p.tables.exec = Jvm.exec) (hb : c.code = cc) {own C : String} {T : u_T} {N ci index : Nat} {Ts : List Cond} (hts : ∀ w ∈ Ts, w.before args s = true) (hin : ∀ w ∈ u_ws C T N, w ∈ Ts) (ty : Nat → FieldType) (hty : ∀ k, k < N → parseFieldDescriptor (T k).2.2.1 = some (ty k)) (hown : s.vm.findClass own = some m.cls) (hcl : (Cond.classLink own index C).before args s = true) (hinst : (Cond.instantiable C N).before args s = true) (hini : (Cond.initialized C).before args s = true)
    (hK : wx_K D ca s) (Z : gw_Z D A w H) (hS : va_S A H0 H locs) (hA : ∀ q, H0.size ≤ q → A q) (hc : vwCl[ci]? = some (C, T, N)) (o : Nat) (ho : o < 17) (hw : w o 99 = none) {fs : List Value} (hfs : ∀ j, j < N → defaultValue (ty j) = vp_V fs j) (hcells : cells + 1 ≤ R.cells) (hslots : slots + N ≤ R.slots) (hdg : decode cc pc = .ok (.new index, 3))
    (kk : ∀ (q : Nat) (H1 : Heap), gw_Z D A (gw_up w o 99 (q, .inr (ci, fs))) H1 → va_S A H0 H1 locs → W p l e R s m args below meth c H1 locs (cells + 1) (slots + N) Q (F0 m (pc + 3) ls (.ref q :: rest))) : W p l e R s m args below meth c H locs cells slots Q (F0 m pc ls rest) :=
  va_new hx hb hts hin ty hty hown hcl hinst hini hK.1 (gw_lsP Z) (gw_lsD Z) hS hA hc hfs hcells hslots hdg (fun q H1 hP hD hS => kk q H1 (gw_new Z.2.2 Z.2.1 (fun h => gw_at Z h) hw ⟨ho, by decide⟩ hP hD) hS)
/-- this.f = new t[n], f final: five instructions' worth behind the number -/
theorem gw_arr (hx : p.tables.exec = Jvm.exec) (hb : c.code = cc) {atype : ArrayType} {t0 : Nat} {ty : FieldType} (hw : (Cond.arrayClass (newarray.typeOf atype)).before args s = true) (hty : newarray.typeOf atype = ty) (ht : (wx_tys ca)[t0]? = some (ca t0, ty)) (hfc : ∀ cA, s.vm.findClass ("[" ++ ty.toString) = some cA → cA = ca t0)
    {own ref C : String} {T : u_T} {N ci index : Nat} {Ts : List Cond} (hts : ∀ w ∈ Ts, w.before args s = true) (hin : ∀ w ∈ u_ws C T N, w ∈ Ts) (ty0 : Nat → FieldType) (hty0 : ∀ k, k < N → parseFieldDescriptor (T k).2.2.1 = some (ty0 k)) (hnm : ∀ a, a < N → ∀ b, b < N → a ≠ b → (T a).2.1 ≠ (T b).2.1) (hown : s.vm.findClass own = some m.cls) (hK : wx_K D ca s) (Z : gw_Z D A w H) (hS : va_S A H0 H locs) (hA : ∀ q, H0.size ≤ q → A q) {o h0 : Nat} {fs : List Value} (ho : o < 17) (he : w o 99 = some (h0, .inr (ci, fs))) (hc : vwCl[ci]? = some (C, T, N)) (k : Nat) (hk : k < N) (hk164 : k < 99) (hwk : w o k = none) (hlink : (Cond.fieldLink own index ref (T k).2.1 (T k).2.2.1).before args s = true) (hsame : ∀ x, s.fieldFound? (T k).1 (T k).2.1 (T k).2.2.1 = some x → s.fieldFound? ref (T k).2.1 (T k).2.2.1 = some x) (hfin : (T k).2.2.2 = true) (hin2 : meth.name = "<init>") (hdecl : (T k).1 = own) {tyf : FieldType} (hd : parseFieldDescriptor (T k).2.2.1 = some tyf) (hn : ∀ q : Nat, narrow tyf (.ref q) = .ref q) (hfit : ∀ q : Nat, fits tyf (.ref q) = true) (hl : k < fs.length)
    {n : Int32} {N' : Nat} {a0 : vp_A} (ha : ∀ cA : ClassId, vp_cell cA a0 = arrV cA N' (fun _ => defaultValue ty)) (hn0 : ¬ n < 0) (hN : n.toNatClampNeg = N') (hbytes : N' * componentBytes ty ≤ 536870912) (hcells : cells + 1 ≤ R.cells) (hslots : slots + N' ≤ R.slots)
    (hdg : decode cc pc = .ok (.newarray atype, 2)) (hdg2 : decode cc (pc + 2) = .ok (.putfield index, 3))
    (kk : ∀ (q : Nat) (H1 : Heap) (locs1 : List Loc), gw_Z D A (gw_up (gw_up w o k (q, .inl (ca t0, a0))) o 99 (h0, .inr (ci, fs.set k (.ref q)))) H1 → va_S A H0 H1 locs1 → W p l e R s m args below meth c H1 locs1 (cells + 1) (slots + N') Q (F0 m (pc + 5) ls rest)) : W p l e R s m args below meth c H locs cells slots Q (F0 m pc ls (.int n :: .ref h0 :: rest)) := by
  refine va_newa hx hb hw hty hK.1 (gw_lsP Z) (gw_lsD Z) hS hA ha hn0 hN hbytes hcells hslots hdg fun q cA H1 hK2 hP hD hS => ?_
  have hcA : cA = ca t0 := hfc cA (by
    have h2 := (hK2.2 5 (cA, ty) (by simp [wx_tys])).2
    cases atype <;> (cases hty; exact h2))
  subst hcA
  have Z1 := gw_new (k := k) Z.2.2 Z.2.1 (fun h => gw_at Z h) hwk ⟨ho, by omega⟩ hP hD
  have he1 : gw_up w o k (q, .inl (ca t0, a0)) o 99 = some (h0, .inr (ci, fs)) := by rw [gw_ne (fun z => by omega)]; exact he
  obtain ⟨p1, hp1⟩ := gw_at Z1 he1
  refine va_putF hx hb hts hin ty0 hty0 hnm hown hK.1 (gw_lsP Z1) (gw_lsD Z1) hS p1 hp1 hc k hk hlink hsame hfin hin2 hdecl hd (hn q) (hfit q) hl hdg2 fun H2 locs2 hP2 hD2 hS2 => ?_
  exact kk q H2 locs2 (gw_set Z1 he1 hp1 hP2) hS2
/-- this.f = an object that was made, f final -/
theorem gw_putF (hx : p.tables.exec = Jvm.exec) (hb : c.code = cc) {own ref C : String} {T : u_T} {N ci index : Nat} {Ts : List Cond} (hts : ∀ w ∈ Ts, w.before args s = true) (hin : ∀ w ∈ u_ws C T N, w ∈ Ts) (ty0 : Nat → FieldType) (hty0 : ∀ k, k < N → parseFieldDescriptor (T k).2.2.1 = some (ty0 k)) (hnm : ∀ a, a < N → ∀ b, b < N → a ≠ b → (T a).2.1 ≠ (T b).2.1) (hown : s.vm.findClass own = some m.cls) (hK : wx_K D ca s) (Z : gw_Z D A w H) (hS : va_S A H0 H locs) {o h0 q : Nat} {fs : List Value} (he : w o 99 = some (h0, .inr (ci, fs))) (hc : vwCl[ci]? = some (C, T, N)) (k : Nat) (hk : k < N) (hlink : (Cond.fieldLink own index ref (T k).2.1 (T k).2.2.1).before args s = true) (hsame : ∀ x, s.fieldFound? (T k).1 (T k).2.1 (T k).2.2.1 = some x → s.fieldFound? ref (T k).2.1 (T k).2.2.1 = some x) (hfin : (T k).2.2.2 = true) (hin2 : meth.name = "<init>") (hdecl : (T k).1 = own) {tyf : FieldType} (hd : parseFieldDescriptor (T k).2.2.1 = some tyf) (hn : narrow tyf (.ref q) = .ref q) (hfit : fits tyf (.ref q) = true) (hl : k < fs.length) (hdg : decode cc pc = .ok (.putfield index, 3))
    (kk : ∀ (H1 : Heap) (locs1 : List Loc), gw_Z D A (gw_up w o 99 (h0, .inr (ci, fs.set k (.ref q)))) H1 → va_S A H0 H1 locs1 → W p l e R s m args below meth c H1 locs1 cells slots Q (F0 m (pc + 3) ls rest)) : W p l e R s m args below meth c H locs cells slots Q (F0 m pc ls (.ref q :: .ref h0 :: rest)) := by
  obtain ⟨p1, hp1⟩ := gw_at Z he
  exact va_putF hx hb hts hin ty0 hty0 hnm hown hK.1 (gw_lsP Z) (gw_lsD Z) hS p1 hp1 hc k hk hlink hsame hfin hin2 hdecl hd hn hfit hl hdg fun H2 locs2 hP2 hD2 hS2 => kk H2 locs2 (gw_set Z he hp1 hP2) hS2
theorem gw_putI (hx : p.tables.exec = Jvm.exec) (hb : c.code = cc) {own ref C : String} {T : u_T} {N ci index : Nat} {Ts : List Cond} (hts : ∀ w ∈ Ts, w.before args s = true) (hin : ∀ w ∈ u_ws C T N, w ∈ Ts) (ty0 : Nat → FieldType) (hty0 : ∀ k, k < N → parseFieldDescriptor (T k).2.2.1 = some (ty0 k)) (hnm : ∀ a, a < N → ∀ b, b < N → a ≠ b → (T a).2.1 ≠ (T b).2.1) (hown : s.vm.findClass own = some m.cls) (hK : wx_K D ca s) (Z : gw_Z D A w H) (hS : va_S A H0 H locs) {o h0 : Nat} {x : Int32} {fs : List Value} (he : w o 99 = some (h0, .inr (ci, fs))) (hc : vwCl[ci]? = some (C, T, N)) (k : Nat) (hk : k < N) (hlink : (Cond.fieldLink own index ref (T k).2.1 (T k).2.2.1).before args s = true) (hsame : ∀ x, s.fieldFound? (T k).1 (T k).2.1 (T k).2.2.1 = some x → s.fieldFound? ref (T k).2.1 (T k).2.2.1 = some x) (hfin : (T k).2.2.2 = false) (hd : parseFieldDescriptor (T k).2.2.1 = some .int) (hl : k < fs.length) (hdg : decode cc pc = .ok (.putfield index, 3))
    (kk : ∀ (H1 : Heap) (locs1 : List Loc), gw_Z D A (gw_up w o 99 (h0, .inr (ci, fs.set k (.int x)))) H1 → va_S A H0 H1 locs1 → W p l e R s m args below meth c H1 locs1 cells slots Q (F0 m (pc + 3) ls rest)) : W p l e R s m args below meth c H locs cells slots Q (F0 m pc ls (.int x :: .ref h0 :: rest)) := by
  obtain ⟨p1, hp1⟩ := gw_at Z he
  exact va_put hx hb hts hin ty0 hty0 hnm hown hK.1 (gw_lsP Z) (gw_lsD Z) hS p1 hp1 hc k hk hlink hsame hfin hd rfl rfl hl hdg fun H2 locs2 hP2 hD2 hS2 => kk H2 locs2 (gw_set Z he hp1 hP2) hS2
theorem gw_get (hx : p.tables.exec = Jvm.exec) (hb : c.code = cc) {own ref C : String} {T : u_T} {N ci index : Nat} {Ts : List Cond} (hts : ∀ w ∈ Ts, w.before args s = true) (hin : ∀ w ∈ u_ws C T N, w ∈ Ts) (hown : s.vm.findClass own = some m.cls) (hK : wx_K D ca s) (Z : gw_Z D A w H) {o h0 : Nat} {fs : List Value} (he : w o 99 = some (h0, .inr (ci, fs))) (hc : vwCl[ci]? = some (C, T, N)) (k : Nat) (hk : k < N) (hlink : (Cond.fieldLink own index ref (T k).2.1 (T k).2.2.1).before args s = true) (hsame : ∀ x, s.fieldFound? (T k).1 (T k).2.1 (T k).2.2.1 = some x → s.fieldFound? ref (T k).2.1 (T k).2.2.1 = some x) {v : Value} (hv : fs[k]? = some v) (hdg : decode cc pc = .ok (.getfield index, 3))
    (kk : W p l e R s m args below meth c H locs cells slots Q (F0 m (pc + 3) ls (v :: rest))) : W p l e R s m args below meth c H locs cells slots Q (F0 m pc ls (.ref h0 :: rest)) :=
  va_get hx hb hts hin hown hK.1 (wx_single (Z.1 o 99 _ he)) 0 rfl hc k hk hlink hsame hv hdg kk
theorem gw_iast (hx : p.tables.exec = Jvm.exec) (hb : c.code = cc) (hK : wx_K D ca s) (Z : gw_Z D A w H) (hS : va_S A H0 H locs) {o k n a : Nat} {f : Nat → Int32} (he : w o k = some (a, .inl (ca 0, n, .inl f))) {i x : Int32} (hin : wx_in i n = true) (hdg : decode cc pc = .ok (.iastore, 1))
    (kk : ∀ (H1 : Heap) (locs1 : List Loc), gw_Z D A (gw_up w o k (a, .inl (ca 0, n, .inl (upd f i.toNatClampNeg x)))) H1 → va_S A H0 H1 locs1 → W p l e R s m args below meth c H1 locs1 cells slots Q (F0 m (pc + 1) ls rest)) : W p l e R s m args below meth c H locs cells slots Q (F0 m pc ls (.int x :: .int i :: .ref a :: rest)) := by
  obtain ⟨p1, hp1⟩ := gw_at Z he
  exact va_iast hx hb hK.1 (gw_lsP Z) (gw_lsD Z) hS p1 0 hp1 rfl (wx_in_vp hin) hdg fun H2 locs2 hP2 hD2 hS2 => kk H2 locs2 (gw_set Z he hp1 hP2) hS2
end gwrows
/-- how both systems begin -/
def wx_0 : wx_St := (fun o k i => if k = 0 ∧ (o < 11 ∨ o = 16) then wx_v0.getD i 0 else 0, fun _ _ _ => 0, fun _ _ => 0, fun i => i, fun _ => false)
/-- the objects of S as they begin, at the addresses a; else w -/
def gw_cl (ca : Nat → ClassId) (a : Nat → Nat → Nat) (S : Nat → Bool) (w : gw_W) : gw_W := fun x y => if S x = true then (wx_ek a (fun _ => 0) ca wx_0 x y (wx_sh (fun _ => false) x y)).map (fun e => (a x y, e)) else w x y
theorem gw_sub {D : va_G} {A : Nat → Prop} {w w' : gw_W} {H : Heap} (Z : gw_Z D A w H) (h : ∀ x y q, w' x y = some q → w x y = some q) : gw_Z D A w' H :=
  ⟨fun o k q hq => Z.1 o k q (h _ _ _ hq), fun o k o' k' q q' h1 h2 h3 => Z.2.1 _ _ _ _ _ _ (h _ _ _ h1) (h _ _ _ h2) h3, fun o k q hq => Z.2.2 _ _ _ (h _ _ _ hq)⟩
def gw_Qc (D : va_G) (A : Nat → Prop) (w' : (Nat → Nat → Nat) → gw_W) (P : (Nat → Nat → Nat) → Prop) : Array Value → State → Outcome → State → Prop := fun _ st oc t =>
  oc = .returned none ∧ (∃ a : Nat → Nat → Nat, P a ∧ gw_Z D A (w' a) t.heap) ∧ va_F A st t
/-- a constructor's contract: behind it the world w' of some addresses a, of which P holds -/
abbrev gw_Mc (l : Launch) (y : MethodName) (ws : List Cond) (fr mc ms lo : Nat) (D : va_G) (ad : Nat → Nat → Nat) (ca : Nat → ClassId) (A : Nat → Prop) (vs : List Value) (w : gw_W) (w' : (Nat → Nat → Nat) → gw_W) (P : (Nat → Nat → Nat) → Prop) : Prop :=
  Met l y ws ({ frames := fr, cells := mc, slots := ms, locals := lo } : Room) (va_Pc vs (gw_U D ad ca A w)) (gw_Qc D A w' P) mc ms A
section gwrows2
variable {p : Program} {l : Launch} {e : Env} {R : Room} {s : State} {m : MethodId} {args : Array Value} {below : List Frame} {meth : Method} {c : Code} {H : Heap} {locs : List Loc} {cells slots : Nat} {Q : State → Prop}
variable {cc : ByteArray} {pc : Nat} {ls : Array Slot} {rest : List Value} {D : va_G} {ad : Nat → Nat → Nat} {ca : Nat → ClassId} {A : Nat → Prop} {w : gw_W} {H0 : Heap}
theorem gw_preI {b : Nat} {As : List Value} (hC : wx_C D ad ca A s s.heap) (hAO : gw_AO s) (Z : gw_Z D A w H) (hS : va_S A s.heap H locs) (hA : ∀ q : Nat, s.heap.size ≤ q → A q) : PreS s H (va_Pc (.ref b :: As) (gw_U D ad ca A w)) (.ref b :: As) := gw_preS hC hAO Z hS hA
theorem gw_callc {mc ms : Nat} {st0 : List Value} {a : Array Value} {w' : (Nat → Nat → Nat) → gw_W} {P : (Nat → Nat → Nat) → Prop} (hr : va_Run p l e R s m args below meth c H locs cells slots mc ms (F0 m pc ls st0) rest (gw_Qc D A w' P a) A) (hS : va_S A H0 H locs)
    (kk : ∀ (b : Nat → Nat → Nat) (H1 : Heap) (locs1 : List Loc), P b → gw_Z D A (w' b) H1 → va_S A H0 H1 locs1 → W p l e R s m args below meth c H1 locs1 (cells + mc) (slots + ms) Q (F0 m (pc + 3) ls rest)) : W p l e R s m args below meth c H locs cells slots Q (F0 m pc ls st0) := by
  intro T hT X
  obtain ⟨v, st₀, t, T', L, h0, X', hL, e1, e2, ⟨hv, ⟨b, hPb, hZ⟩, hz, hk⟩, st⟩ := hr T hT X
  cases hv
  rw [h0] at hz hk
  obtain ⟨t2, a1, b1⟩ := kk b T'.heap (locs ++ L) hPb (by rw [e1]; exact hZ)
    ⟨Nat.le_trans hS.1 (by rw [e1]; exact hz), fun q h1 h2 => by rw [e1, hk q (Nat.lt_of_lt_of_le h1 hS.1) h2]; exact hS.2.1 q h1 h2, fun q hq => by
      rcases List.mem_append.mp hq with h | h
      · exact hS.2.2 q h
      · exact hL q h⟩ T' rfl X'
  exact ⟨t2, st t2 a1, b1⟩
/-- the first settings, copied out of their table -/
theorem gw_copyT (hx : p.tables.exec = Jvm.exec) (hb : c.code = cc) (hml : c.maxLocals = ls.size) {own : String} {index : Nat} (hown : s.vm.findClass own = some m.cls) (hlink : (Cond.methodLink own index arraycopyName).before args s = true) (hnat : (Cond.native arraycopyName).before args s = true) (hstat : (Cond.static arraycopyName).before args s = true) (hini : (Cond.initialized "java/lang/System").before args s = true)
    (hK : wx_K D ca s) (Z : gw_Z D A w H) (hS : va_S A s.heap H locs) {t : Nat} {f g g' : Nat → Int32} (hT : va_T .int t 4 (fun j => .int (f j)) A s s.heap) {o k a : Nat} (he : w o k = some (a, .inl (ca 0, 4, .inl g))) (hg : va_cpy f g 0 0 4 = g')
    (hframes : 1 ≤ R.frames) (hlocals : (rest.map fun v => v.category).sum + (nativeFrameWords "java/lang/System" "arraycopy" 5 + 11) ≤ R.locals) (hdg : decode cc pc = .ok (.invokestatic index, 3))
    (kk : ∀ (H1 : Heap) (locs1 : List Loc), gw_Z D A (gw_up w o k (a, .inl (ca 0, 4, .inl g'))) H1 → va_S A s.heap H1 locs1 → W p l e R s m args below meth c H1 locs1 cells slots Q (F0 m (pc + 3) ls rest)) : W p l e R s m args below meth c H locs cells slots Q (F0 m pc ls (.int 4 :: .int 0 :: .ref a :: .int 0 :: .ref t :: rest)) := by
  subst hg
  obtain ⟨p1, hp1⟩ := gw_at Z he
  obtain ⟨src, hs1, hs2, hs3, hs4, -, hs5, hs7⟩ := hT
  intro T hT X
  have hc0 : H[t]? = some src := by rw [hS.2.1 t (Array.getElem?_eq_some_iff.mp hs1).1 hs7]; exact hs1
  have hc1 : H[a]? = some (arrV (ca 0) 4 (fun j => .int (g j))) := Z.1 o k _ he
  obtain ⟨hs6, k0, hk0, cm0, hkk0⟩ := hs2
  obtain ⟨-, k1, hk1, cm1, hkk1⟩ := (hK.1.2 0 _ rfl).1 4 (fun j => .int (g j))
  obtain ⟨vm', X', step⟩ := X.arraycopy hx hown hlink hnat hstat hini (src := t) (dst := a) (cs := src) (cd := arrV (ca 0) 4 (fun j => .int (g j))) (srcPos := 0) (destPos := 0) (n := 4) (by rw [hT]; exact hc0) (by rw [hT]; exact hc1)
    hs6 (fun _ h => by cases h) hs3 (fun h => by cases h) hk0 hk1 hkk0 hkk1 (by simp [refKind]) (by decide) (by decide) (by decide)
    (by show ¬ (0 + 4 : Int) > (src.slots.size : Int); omega)
    (by show ¬ (0 + 4 : Int) > ((arrV (ca 0) 4 (fun j => .int (g j))).slots.size : Int); rw [arrV_size]; omega)
    (fun vm₁ _ i hi => by
      have hi4 : i < 4 := hi
      have e9 : src.slots.getD ((0 : Int32).toNatClampNeg + i) .null = .int (f i) := by
        rw [show (0 : Int32).toNatClampNeg + i = i from Nat.zero_add i, Array.getD_eq_getD_getElem?, hs5 i hi4]
        rfl
      rw [e9]
      exact ⟨rfl, trivial⟩)
    (g := F0 m pc ls (.int 4 :: .int 0 :: .ref a :: .int 0 :: .ref t :: rest)) rfl (by rw [hml]) (rest := rest) rfl (by rw [hb]; exact hdg) hframes (by show 2 * 0 + _ + _ ≤ _; omega)
  have e1 : copied src (arrV (ca 0) 4 (fun j => .int (g j))) 0 0 4 = arrV (ca 0) 4 (fun j => .int (va_cpy f g 0 0 4 j)) := va_copiedX (sp := 0) (dp := 0) (n := 4) (fun z => .int z) src (ca 0) f g hs5 (by decide)
  rw [e1] at X' step
  have hl : a < H.size := (Array.getElem?_eq_some_iff.mp hc1).1
  have hheap : ((T.setVm vm').setCell a (arrV (ca 0) 4 (fun j => .int (va_cpy f g 0 0 4 j)))).heap = H.setIfInBounds a (arrV (ca 0) 4 (fun j => .int (va_cpy f g 0 0 4 j))) := by rw [← hT]; rfl
  have oq : ∀ q : Nat, q ≠ a → (H.setIfInBounds a (arrV (ca 0) 4 (fun j => .int (va_cpy f g 0 0 4 j))))[q]? = H[q]? := fun q hq => by simp [Array.getElem?_setIfInBounds, Ne.symm hq]
  have hAa : A a := (Z.2.2 o k _ he).1
  obtain ⟨t2, a1, b1⟩ := kk _ _ (gw_set Z he hp1 ((gw_lsP Z).set (gw_lsD Z) hp1 (show (H.setIfInBounds a _)[a]? = some _ by simp [Array.getElem?_setIfInBounds, hl]; rfl) oq)) ⟨by simp; exact hS.1, fun q g1 g2 => by
      rw [oq q (fun e => g2 (by rw [e]; exact hAa))]
      exact hS.2.1 q g1 g2, fun q hq => by
      rcases List.mem_append.mp hq with h | h
      · exact hS.2.2 q h
      · obtain ⟨z, -, hz⟩ := List.mem_map.mp h
        rw [← hz]
        exact hAa⟩ _ hheap X'
  exact ⟨t2, step t2 a1, b1⟩
/-- an array of references, as it begins, put into a final field -/
theorem gw_arrR (hx : p.tables.exec = Jvm.exec) (hb : c.code = cc) {own ref C : String} {T : u_T} {N ci index : Nat} {Ts : List Cond} (hts : ∀ w ∈ Ts, w.before args s = true) (hin : ∀ w ∈ u_ws C T N, w ∈ Ts) (ty0 : Nat → FieldType) (hty0 : ∀ k, k < N → parseFieldDescriptor (T k).2.2.1 = some (ty0 k)) (hnm : ∀ a, a < N → ∀ b, b < N → a ≠ b → (T a).2.1 ≠ (T b).2.1) (hown : s.vm.findClass own = some m.cls) (hK : wx_K D ca s) (Z : gw_Z D A w H) (hS : va_S A H0 H locs) (hA : ∀ q, H0.size ≤ q → A q) {o h0 : Nat} {fs : List Value} (ho : o < 17) (he : w o 99 = some (h0, .inr (ci, fs))) (hc : vwCl[ci]? = some (C, T, N)) (k : Nat) (hk : k < N) (hk164 : k < 99) (hwk : w o k = none) (hlink : (Cond.fieldLink own index ref (T k).2.1 (T k).2.2.1).before args s = true) (hsame : ∀ x, s.fieldFound? (T k).1 (T k).2.1 (T k).2.2.1 = some x → s.fieldFound? ref (T k).2.1 (T k).2.2.1 = some x) (hfin : (T k).2.2.2 = true) (hin2 : meth.name = "<init>") (hdecl : (T k).1 = own) {tyf : FieldType} (hd : parseFieldDescriptor (T k).2.2.1 = some tyf) (hn : ∀ q : Nat, narrow tyf (.ref q) = .ref q) (hfit : ∀ q : Nat, fits tyf (.ref q) = true) (hl : k < fs.length)
    {cA : ClassId} {N' : Nat} {H' : Heap} (hH' : H' = H.push { cls := cA, slots := Array.replicate N' .null, vm := .none })
    (hdg2 : decode cc pc = .ok (.putfield index, 3))
    (kk : ∀ (q : Nat) (H1 : Heap) (locs1 : List Loc), gw_Z D A (gw_up (gw_up w o k (q, .inl (cA, N', .inr (.inr (.inr (.inr (fun _ => none))))))) o 99 (h0, .inr (ci, fs.set k (.ref q)))) H1 → va_S A H0 H1 locs1 → W p l e R s m args below meth c H1 locs1 cells slots Q (F0 m (pc + 3) ls rest)) : W p l e R s m args below meth c H' locs cells slots Q (F0 m pc ls (.ref H.size :: .ref h0 :: rest)) := by
  subst hH'
  generalize hH1 : H.push ({ cls := cA, slots := Array.replicate N' .null, vm := .none } : Cell) = H1
  have z1 : H1.size = H.size + 1 := by rw [← hH1, Array.size_push]
  have e1 : H1[H.size]? = some (arrV cA N' (fun _ => .null)) := by rw [← hH1, Array.getElem?_push_size, ← arrV_new]
  have o1 : ∀ q : Nat, q < H.size → H1[q]? = H[q]? := fun q hq => by rw [← hH1, Array.getElem?_push, if_neg (Nat.ne_of_lt hq)]
  have hP0 := gw_lsP Z
  have hP1 : va_P D vwCl (gw_ls w ++ [(H.size, .inl (cA, N', .inr (.inr (.inr (.inr (fun _ => none))))))]) H1 :=
    (hP0.kept (fun k x hx => o1 x.1 ((hP0 k x hx).lt))).app (wx_single (by
      show H1[H.size]? = some (vp_cell _ _)
      rw [e1]
      rfl))
  have hD1 := (gw_lsD Z).push (e := .inl (cA, N', .inr (.inr (.inr (.inr (fun _ => none)))))) hP0 rfl (hA _ hS.1)
  have hS1 : va_S A H0 H1 locs := ⟨Nat.le_trans hS.1 (by omega), fun x h1 h2 => (o1 x (Nat.lt_of_lt_of_le h1 hS.1)).trans (hS.2.1 x h1 h2), hS.2.2⟩
  have Z1 := gw_new (k := k) Z.2.2 Z.2.1 (fun h => gw_at Z h) hwk ⟨ho, by omega⟩ hP1 hD1
  have he1 : gw_up w o k (H.size, .inl (cA, N', .inr (.inr (.inr (.inr (fun _ => none)))))) o 99 = some (h0, .inr (ci, fs)) := by rw [gw_ne (fun z => by omega)]; exact he
  obtain ⟨p1, hp1⟩ := gw_at Z1 he1
  refine va_putF hx hb hts hin ty0 hty0 hnm hown hK.1 (gw_lsP Z1) (gw_lsD Z1) hS1 p1 hp1 hc k hk hlink hsame hfin hin2 hdecl hd (hn _) (hfit _) hl hdg2 fun H2 locs2 hP2 hD2 hS2 => ?_
  exact kk _ H2 locs2 (gw_set Z1 he1 hp1 hP2) hS2
theorem gw_anB (hx : p.tables.exec = Jvm.exec) (hb : c.code = cc) {own : String} {index : Nat} (hown : s.vm.findClass own = some m.cls) (hcl : (Cond.classLink own index RX0).before args s = true) (hAO : gw_AO s) (hK : wx_K D ca s) {n : Int32} (hn : ¬ n < 0) (hbytes : n.toNatClampNeg * 4 ≤ 536870912) (hcells : cells + 1 ≤ R.cells) (hslots : slots + n.toNatClampNeg ≤ R.slots) (hdg : decode cc pc = .ok (.anewarray index, 3))
    (kk : ∀ H' : Heap, H' = H.push { cls := ca 3, slots := Array.replicate n.toNatClampNeg .null, vm := .none } → W p l e R s m args below meth c H' locs (cells + 1) (slots + n.toNatClampNeg) Q (F0 m (pc + 3) ls (.ref H.size :: rest))) : W p l e R s m args below meth c H locs cells slots Q (F0 m pc ls (.int n :: rest)) := by
  refine W.anew hx hb hown hcl (va_AO.use hAO.1) rfl hdg rfl hn hbytes hcells hslots fun cA kA comp f1 f2 f3 f4 => ?_
  obtain ⟨kB, cB, g1, g2, g3, g4⟩ := (hK.1.2 3 _ rfl).2
  have hcA : cA = ca 3 := Option.some.inj (f1.symm.trans g4)
  subst hcA
  exact kk _ rfl
theorem gw_anF (hx : p.tables.exec = Jvm.exec) (hb : c.code = cc) {own : String} {index : Nat} (hown : s.vm.findClass own = some m.cls) (hcl : (Cond.classLink own index "[F").before args s = true) (hAO : gw_AO s) (hK : wx_K D ca s) {n : Int32} (hn : ¬ n < 0) (hbytes : n.toNatClampNeg * 4 ≤ 536870912) (hcells : cells + 1 ≤ R.cells) (hslots : slots + n.toNatClampNeg ≤ R.slots) (hdg : decode cc pc = .ok (.anewarray index, 3))
    (kk : ∀ H' : Heap, H' = H.push { cls := ca 4, slots := Array.replicate n.toNatClampNeg .null, vm := .none } → W p l e R s m args below meth c H' locs (cells + 1) (slots + n.toNatClampNeg) Q (F0 m (pc + 3) ls (.ref H.size :: rest))) : W p l e R s m args below meth c H locs cells slots Q (F0 m pc ls (.int n :: rest)) := by
  refine W.anewA (t := .float) hx hb hown hcl (hAO.2) rfl hdg rfl hn hbytes hcells hslots fun cA kA comp f1 f2 f3 f4 => ?_
  have hcA : cA = ca 4 := Option.some.inj (f1.symm.trans (hK.1.2 4 _ rfl).2)
  subst hcA
  exact kk _ rfl
/-- a board put into a row of boards -/
theorem gw_aast (hx : p.tables.exec = Jvm.exec) (hb : c.code = cc) (hK : wx_K D ca s) (Z : gw_Z D A w H) (hS : va_S A H0 H locs) {o k a n o2 v : Nat} {vs : List Value} {f : Nat → Option Nat} (he : w o k = some (a, .inl (ca 3, n, .inr (.inr (.inr (.inr f)))))) (he2 : w o2 99 = some (v, .inr (0, vs))) {i : Int32} (hin : wx_in i n = true) (hdg : decode cc pc = .ok (.aastore, 1))
    (kk : ∀ (H1 : Heap) (locs1 : List Loc), gw_Z D A (gw_up w o k (a, .inl (ca 3, n, .inr (.inr (.inr (.inr (va_up f i.toNatClampNeg (some v)))))))) H1 → va_S A H0 H1 locs1 → W p l e R s m args below meth c H1 locs1 cells slots Q (F0 m (pc + 1) ls rest)) : W p l e R s m args below meth c H locs cells slots Q (F0 m pc ls (.ref v :: .int i :: .ref a :: rest)) := by
  obtain ⟨p1, hp1⟩ := gw_at Z he
  obtain ⟨p2, hp2⟩ := gw_at Z he2
  exact va_astq hx hb hK.1 (gw_lsP Z) (gw_lsD Z) hS p1 3 p2 0 (r := (RX0, TX0, 13)) hp1 rfl hp2 rfl (wx_in_vp hin) hdg fun H2 locs2 hP2 hD2 hS2 => kk H2 locs2 (gw_set Z he hp1 hP2) hS2
end gwrows2
/-! what an object's parts hang on -/
theorem gw_fl_congr {a a' : Nat → Nat → Nat} {σ : wx_St} {o : Nat} (h : ∀ j, a o j = a' o j) : ∀ (cs : List Nat) (i : Nat), cs.all (fun c => decide (c < 2)) = true → wx_fl a σ o i cs = wx_fl a' σ o i cs
  | [], _, _ => rfl
  | c :: cs, i, hc => by
    simp only [List.all_cons, Bool.and_eq_true, decide_eq_true_eq] at hc
    simp only [wx_fl]
    rw [gw_fl_congr h cs (i + 1) hc.2]
    congr 1
    unfold wx_fv
    rw [h i]
    by_cases h0 : c = 0
    · rw [if_pos h0, if_pos h0]
    · rw [if_neg h0, if_neg h0, if_pos (by omega), if_pos (by omega)]
theorem gw_cod : ∀ x : Nat, x < 17 → ∀ y : Nat, y < 164 → x ≠ 11 ∧ x ≠ 12 ∧ x ≠ 14 → (wx_sh (fun _ => false) x y).1 ≠ 4 ∧ ((wx_sh (fun _ => false) x y).1 = 5 → (wx_fc (wx_sh (fun _ => false) x y).2).all (fun c => decide (c < 2)) = true) := by decide +kernel
theorem gw_ek_congr {a a' : Nat → Nat → Nat} {rd : Nat → Nat} {ca : Nat → ClassId} {σ : wx_St} {x y : Nat} (h : ∀ j, a x j = a' x j) (hx : x ≠ 11 ∧ x ≠ 12 ∧ x ≠ 14) : wx_ek a rd ca σ x y (wx_sh (fun _ => false) x y) = wx_ek a' rd ca σ x y (wx_sh (fun _ => false) x y) := by
  by_cases h0 : (wx_sh (fun _ => false) x y).1 = 0
  · unfold wx_ek
    simp [h0]
  · have hl := wx_sh_lt h0
    have hc := gw_cod x hl.1 y hl.2 hx
    unfold wx_ek
    rw [if_neg hc.1, if_neg hc.1]
    by_cases h5 : (wx_sh (fun _ => false) x y).1 = 5
    · rw [gw_fl_congr h _ 0 (hc.2 h5)]
    · rw [if_neg h5, if_neg h5]
theorem gw_ek_12 {a a' : Nat → Nat → Nat} {rd : Nat → Nat} {ca : Nat → ClassId} {σ : wx_St} {y : Nat} (h : a 12 = a' 12) (h13 : a 13 99 = a' 13 99) : wx_ek a rd ca σ 12 y (wx_sh (fun _ => false) 12 y) = wx_ek a' rd ca σ 12 y (wx_sh (fun _ => false) 12 y) := by
  have hs : wx_sh (fun _ => false) 12 y = if y = 1 then (1, 64) else if y = 99 then (5, 4) else (0, 0) := by
    unfold wx_sh wx_sx
    rw [if_neg (by decide), if_neg (fun z => absurd z.2 (by decide))]
    simp
  rw [hs]
  by_cases h1 : y = 1
  · rw [if_pos h1]; rfl
  · rw [if_neg h1]
    by_cases h99 : y = 99
    · rw [if_pos h99]
      show some (Sum.inr (4, [wx_fv a σ 12 0 113, wx_fv a σ 12 1 0])) = some (Sum.inr (4, [wx_fv a' σ 12 0 113, wx_fv a' σ 12 1 0]))
      have e1 : wx_fv a σ 12 0 113 = wx_fv a' σ 12 0 113 := by show Value.ref (a 13 99) = Value.ref (a' 13 99); rw [h13]
      have e2 : wx_fv a σ 12 1 0 = wx_fv a' σ 12 1 0 := by show Value.ref (a 12 1) = Value.ref (a' 12 1); rw [h]
      rw [e1, e2]
    · rw [if_neg h99]; rfl
theorem gw_sub2 {D : va_G} {A : Nat → Prop} {w w' : gw_W} {H : Heap} (Z : gw_Z D A w H) (h : ∀ x y q, w' x y = some q → ∃ e, w x y = some (q.1, e) ∧ (va_at D vwCl (q.1, e) H → va_at D vwCl q H)) : gw_Z D A w' H := by
  refine ⟨fun o k q hq => ?_, fun o k o' k' q q' h1 h2 h3 => ?_, fun o k q hq => ?_⟩
  · obtain ⟨e, he, hi⟩ := h _ _ _ hq
    exact hi (Z.1 o k _ he)
  · obtain ⟨e, he, -⟩ := h _ _ _ h1
    obtain ⟨e', he', -⟩ := h _ _ _ h2
    exact Z.2.1 _ _ _ _ _ _ he he' h3
  · obtain ⟨e, he, -⟩ := h _ _ _ hq
    exact Z.2.2 o k (q.1, e) he
/-- two maps of closed objects, one upon the other -/
theorem gw_cl_join {ca : Nat → ClassId} {a b : Nat → Nat → Nat} {S S' : Nat → Bool} {w v : gw_W} (hS : ∀ x, S' x = true → S x = false) (h12 : ∀ x, S x = true ∨ S' x = true → x ≠ 11 ∧ x ≠ 14) (h13 : (S 12 = true → S 13 = true) ∧ (S' 12 = true → S' 13 = true))
    (hv : ∀ x y q, gw_cl ca a S w x y = some q → S' x = false → v x y = some q) :
    ∀ x y q, gw_cl ca (fun x y => if S' x = true then b x y else a x y) (fun x => S x || S' x) w x y = some q → gw_cl ca b S' v x y = some q := by
  intro x y q h
  unfold gw_cl at h ⊢
  by_cases h' : S' x = true
  · rw [if_pos h']
    rw [if_pos (by simp [h'])] at h
    have e : wx_ek (fun x y => if S' x = true then b x y else a x y) (fun _ => 0) ca wx_0 x y (wx_sh (fun _ => false) x y) = wx_ek b (fun _ => 0) ca wx_0 x y (wx_sh (fun _ => false) x y) := by
      by_cases hx : x = 12
      · subst hx
        exact gw_ek_12 (by funext j; simp [h']) (by simp [h13.2 h'])
      · exact gw_ek_congr (fun j => by simp [h']) ⟨(h12 x (Or.inr h')).1, hx, (h12 x (Or.inr h')).2⟩
    rw [e] at h
    simp only [if_pos h'] at h
    exact h
  · have hf : S' x = false := by simpa using h'
    rw [if_neg h']
    refine hv x y q ?_ hf
    unfold gw_cl
    by_cases hs : S x = true
    · rw [if_pos hs]
      rw [if_pos (by simp [hs])] at h
      have e : wx_ek (fun x y => if S' x = true then b x y else a x y) (fun _ => 0) ca wx_0 x y (wx_sh (fun _ => false) x y) = wx_ek a (fun _ => 0) ca wx_0 x y (wx_sh (fun _ => false) x y) := by
        by_cases hx : x = 12
        · subst hx
          have h3 := h13.1 hs
          exact gw_ek_12 (by funext j; simp [h']) (by
            have : S' 13 = false := by
              cases hz : S' 13 with
              | false => rfl
              | true => rw [hS 13 hz] at h3; cases h3
            simp [this])
        · exact gw_ek_congr (fun j => by simp [h']) ⟨(h12 x (Or.inl hs)).1, hx, (h12 x (Or.inl hs)).2⟩
      rw [e] at h
      simp only [if_neg h'] at h
      exact h
    · rw [if_neg hs]
      rw [if_neg (by simp [hs, hf])] at h
      exact h
