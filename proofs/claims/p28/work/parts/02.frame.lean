/-! THE STATE of both systems, by object number and slot. Objects: 0..6 the past's boards, 7 the board, 8 ahead, 9 and 10 the slots' boards, 11 the class, 12 suspicion, 13 lone, 14 past, 15 pad, 16 the rows of the law (settings with steps, touches, readings; touches; readings; nets; pairs; 5: the row of a comparison). Parts: I ints of arrays, F floats of arrays, S int fields, the past's order, which rows of lone are made. -/
abbrev wx_St : Type := (Nat → Nat → Nat → Int32) × (Nat → Nat → Nat → UInt32) × (Nat → Nat → Int32) × (Nat → Nat) × (Nat → Bool)
def wx_sI (σ : wx_St) (o k i : Nat) (x : Int32) : wx_St := (fun a b c => if a = o ∧ b = k ∧ c = i then x else σ.1 a b c, σ.2.1, σ.2.2.1, σ.2.2.2.1, σ.2.2.2.2)
def wx_sF (σ : wx_St) (o k i : Nat) (x : UInt32) : wx_St := (σ.1, fun a b c => if a = o ∧ b = k ∧ c = i then x else σ.2.1 a b c, σ.2.2.1, σ.2.2.2.1, σ.2.2.2.2)
def wx_sS (σ : wx_St) (o j : Nat) (x : Int32) : wx_St := (σ.1, σ.2.1, fun a b => if a = o ∧ b = j then x else σ.2.2.1 a b, σ.2.2.2.1, σ.2.2.2.2)
def wx_sR (σ : wx_St) (i b : Nat) : wx_St := (σ.1, σ.2.1, σ.2.2.1, fun j => if j = i then b else σ.2.2.2.1 j, σ.2.2.2.2)
/-- n ints copied from (o, k) at p to (o', k') at p' -/
def wx_cI (σ : wx_St) (o k p o' k' p' n : Nat) : wx_St := (fun a b c => if a = o' ∧ b = k' then va_cpy (σ.1 o k) (σ.1 o' k') p p' n c else σ.1 a b c, σ.2.1, σ.2.2.1, σ.2.2.2.1, σ.2.2.2.2)
def wx_cF (σ : wx_St) (o k p o' k' p' n : Nat) : wx_St := (σ.1, fun a b c => if a = o' ∧ b = k' then va_cpy (σ.2.1 o k) (σ.2.1 o' k') p p' n c else σ.2.1 a b c, σ.2.2.1, σ.2.2.2.1, σ.2.2.2.2)
/-- row j of lone is made, with zeros -/
def wx_sA (σ : wx_St) (j : Nat) : wx_St := (σ.1, fun a b c => if a = 13 ∧ b = 100 + j then 0 else σ.2.1 a b c, σ.2.2.1, σ.2.2.2.1, fun i => if i = j then true else σ.2.2.2.2 i)
/-- a board's parts: kind 1 ints, 2 floats, 3 booleans, 4 boards, 5 an object of that class, 6 rows of floats -/
def wx_sb (k : Nat) : Nat × Nat :=
  if k = 0 then (1, 4) else if k = 1 then (1, 64) else if k = 2 then (1, 8) else if k = 4 then (1, 3) else if k = 5 then (1, 3) else if k = 7 then (2, 64) else if k = 8 then (2, 64) else if k = 10 then (1, 8) else if k = 11 then (1, 8) else if k = 12 then (1, 8) else if k = 99 then (5, 0) else (0, 0)
def wx_sm (k : Nat) : Nat × Nat :=
  if k = 0 then (1, 7) else if k = 1 then (1, 6) else if k = 2 then (1, 24) else if k = 3 then (1, 64) else if k = 4 then (1, 8) else (0, 0)
def wx_sx (o k : Nat) : Nat × Nat :=
  if o = 16 then wx_sm k
  else if o = 11 then (if k = 5 then (4, 2) else if k = 6 then (3, 2) else if k = 99 then (5, 5) else (0, 0))
  else if o = 12 then (if k = 1 then (1, 64) else if k = 99 then (5, 4) else (0, 0))
  else if o = 13 then (if k = 0 then (1, 4) else if k = 1 then (6, 64) else if k = 2 then (1, 64) else if k = 99 then (5, 1) else (0, 0))
  else if o = 14 then (if k = 0 then (4, 7) else if k = 99 then (5, 3) else (0, 0))
  else if o = 15 then (if k = 0 then (1, 80) else if k = 99 then (5, 2) else (0, 0))
  else (0, 0)
def wx_sh (al : Nat → Bool) (o k : Nat) : Nat × Nat :=
  if o < 11 then wx_sb k else if 100 ≤ k ∧ o = 13 then (if k < 164 ∧ al (k - 100) = true then (2, 6464) else (0, 0)) else wx_sx o k
def wx_ad (ad : Nat → Nat → Nat) (rd : Nat → Nat) (o k : Nat) : Nat := if 100 ≤ k ∧ o = 13 then rd (k - 100) else ad o k
/-- a class's fields: 0 an array of its own, 1 an int, 100 + o the object o -/
def wx_fc (c : Nat) : List Nat :=
  if c = 0 then [0, 0, 0, 1, 0, 0, 1, 0, 0, 1, 0, 0, 0] else if c = 1 then [0, 0, 0] else if c = 2 then [0, 1] else if c = 3 then [0, 1] else if c = 4 then [113, 0] else if c = 5 then [107, 108, 112, 114, 115, 0, 0] else []
def wx_fv (ad : Nat → Nat → Nat) (σ : wx_St) (o j c : Nat) : Value := if c = 0 then .ref (ad o j) else if c = 1 then .int (σ.2.2.1 o j) else .ref (ad (c - 100) 99)
def wx_fl (ad : Nat → Nat → Nat) (σ : wx_St) (o : Nat) : Nat → List Nat → List Value
  | _, [] => []
  | j, c :: cs => wx_fv ad σ o j c :: wx_fl ad σ o (j + 1) cs
theorem wx_fl_get {ad : Nat → Nat → Nat} {σ : wx_St} {o : Nat} : ∀ (cs : List Nat) (i j : Nat), (wx_fl ad σ o i cs)[j]? = (cs[j]?).map (fun c => wx_fv ad σ o (i + j) c)
  | [], i, j => by simp [wx_fl]
  | c :: cs, i, 0 => by simp [wx_fl]
  | c :: cs, i, j + 1 => by
    simp only [wx_fl, List.getElem?_cons_succ]
    rw [wx_fl_get cs (i + 1) j, show i + 1 + j = i + (j + 1) by omega]
theorem wx_fl_len {ad : Nat → Nat → Nat} {σ : wx_St} {o : Nat} : ∀ (cs : List Nat) (i : Nat), (wx_fl ad σ o i cs).length = cs.length
  | [], i => rfl
  | c :: cs, i => by simp [wx_fl, wx_fl_len cs (i + 1)]
def wx_ro (σ : wx_St) (o i : Nat) : Nat := if o = 14 then σ.2.2.2.1 i else 9 + i
def wx_ek (ad : Nat → Nat → Nat) (rd : Nat → Nat) (ca : Nat → ClassId) (σ : wx_St) (o k : Nat) (s : Nat × Nat) : Option va_E :=
  if s.1 = 1 then some (.inl (ca 0, s.2, .inl (σ.1 o k)))
  else if s.1 = 2 then some (.inl (ca 1, s.2, .inr (.inr (.inl (σ.2.1 o k)))))
  else if s.1 = 3 then some (.inl (ca 2, s.2, .inl (σ.1 o k)))
  else if s.1 = 4 then some (.inl (ca 3, s.2, .inr (.inr (.inr (.inr (fun i => some (ad (wx_ro σ o i) 99)))))))
  else if s.1 = 5 then some (.inr (s.2, wx_fl ad σ o 0 (wx_fc s.2)))
  else if s.1 = 6 then some (.inl (ca 4, s.2, .inr (.inr (.inr (.inr (fun i => if σ.2.2.2.2 i = true then some (rd i) else none))))))
  else none
def wx_P (D : va_G) (ad : Nat → Nat → Nat) (rd : Nat → Nat) (ca : Nat → ClassId) (σ : wx_St) (H : Heap) : Prop :=
  ∀ (o k : Nat) (e : va_E), wx_ek ad rd ca σ o k (wx_sh σ.2.2.2.2 o k) = some e → va_at D vwCl (wx_ad ad rd o k, e) H
/-- what is there, is there once -/
def wx_J (ad : Nat → Nat → Nat) (rd : Nat → Nat) (al : Nat → Bool) : Prop :=
  ∀ o k o' k' : Nat, (wx_sh al o k).1 ≠ 0 → (wx_sh al o' k').1 ≠ 0 → wx_ad ad rd o k = wx_ad ad rd o' k' → o = o' ∧ k = k'
def wx_O (A : Nat → Prop) (ad : Nat → Nat → Nat) (rd : Nat → Nat) (al : Nat → Bool) : Prop :=
  ∀ o k : Nat, (wx_sh al o k).1 ≠ 0 → A (wx_ad ad rd o k)
def wx_Z (D : va_G) (ad : Nat → Nat → Nat) (rd : Nat → Nat) (ca : Nat → ClassId) (A : Nat → Prop) (σ : wx_St) (H : Heap) : Prop :=
  wx_P D ad rd ca σ H ∧ wx_J ad rd σ.2.2.2.2 ∧ wx_O A ad rd σ.2.2.2.2
theorem wx_P.set {D : va_G} {ad : Nat → Nat → Nat} {rd : Nat → Nat} {ca : Nat → ClassId} {σ σ' : wx_St} {H H1 : Heap} {o k : Nat} (hP : wx_P D ad rd ca σ H) (hJ : wx_J ad rd σ.2.2.2.2) (hpr : (wx_sh σ.2.2.2.2 o k).1 ≠ 0) (hal : σ'.2.2.2.2 = σ.2.2.2.2)
    (hot : ∀ o' k' : Nat, ¬ (o' = o ∧ k' = k) → wx_ek ad rd ca σ' o' k' (wx_sh σ.2.2.2.2 o' k') = wx_ek ad rd ca σ o' k' (wx_sh σ.2.2.2.2 o' k'))
    (he : ∀ e, wx_ek ad rd ca σ' o k (wx_sh σ.2.2.2.2 o k) = some e → va_at D vwCl (wx_ad ad rd o k, e) H1) (oq : ∀ q : Nat, q ≠ wx_ad ad rd o k → H1[q]? = H[q]?) : wx_P D ad rd ca σ' H1 := by
  intro o' k' e h
  rw [hal] at h
  by_cases hk : o' = o ∧ k' = k
  · obtain ⟨rfl, rfl⟩ := hk
    exact he e h
  · rw [hot o' k' hk] at h
    have h1 := hP o' k' e h
    refine va_at.kept h1 (oq _ (fun hq => hk ?_))
    have hpr' : (wx_sh σ.2.2.2.2 o' k').1 ≠ 0 := by
      intro z
      simp [wx_ek, z] at h
    exact hJ o' k' o k hpr' hpr hq
def wx_in (i : Int32) (n : Nat) : Bool := decide (0 ≤ i.toInt) && decide (i.toInt < (n : Int))
theorem wx_in_vp {i : Int32} {n : Nat} (h : wx_in i n = true) : vp_in i n := by
  simp only [wx_in, Bool.and_eq_true, decide_eq_true_eq] at h
  exact vp_in_iff.mpr h
theorem wx_in_nI {j n : Nat} (h : j < n) (hn : n < 2 ^ 31) : wx_in (nI j) n = true := by
  have e := nI_toInt (Nat.lt_trans h hn)
  simp only [wx_in, Bool.and_eq_true, decide_eq_true_eq, e]
  omega
def wx_nn (r : UInt32) : Bool := decide (r &&& 0x7fffffff ≤ 0x7f800000)
def wx_nd (r : UInt64) : Bool := decide (r &&& 0x7fffffffffffffff ≤ 0x7ff0000000000000)
theorem wx_nn_vf {r : UInt32} (h : wx_nn r = true) : vf_n32 r := by
  unfold wx_nn at h
  unfold vf_n32
  exact of_decide_eq_true h
theorem wx_nd_vf {r : UInt64} (h : wx_nd r = true) : vf_n64 r := by
  unfold wx_nd at h
  unfold vf_n64
  exact of_decide_eq_true h
/-! the functions that the methods are: each asks what its instruction needs, and goes on -/
def wx_rI {α : Type} (σ : wx_St) (o k n : Nat) (i : Int32) (f : Int32 → Option α) : Option α := if wx_in i n = true then f (σ.1 o k i.toNatClampNeg) else none
def wx_rT {α : Type} (t : List Int32) (n : Nat) (i : Int32) (f : Int32 → Option α) : Option α := if wx_in i n = true then f (t.getD i.toNatClampNeg 0) else none
def wx_rF {α : Type} (σ : wx_St) (o k n : Nat) (i : Int32) (f : UInt32 → Option α) : Option α := if wx_in i n = true then f (σ.2.1 o k i.toNatClampNeg) else none
def wx_rR {α : Type} (σ : wx_St) (o n : Nat) (i : Int32) (f : Nat → Option α) : Option α := if wx_in i n = true then (if wx_ro σ o i.toNatClampNeg < 11 then f (wx_ro σ o i.toNatClampNeg) else none) else none
def wx_w {α : Type} (τ : wx_St) (n : Nat) (i : Int32) (f : wx_St → Option α) : Option α := if wx_in i n = true then f τ else none
def wx_l {α β : Type} (a : β) (f : β → Option α) : Option α := f a
def wx_f {α : Type} (x : UInt32) (f : UInt32 → Option α) : Option α := if wx_nn x = true then f x else none
def wx_d {α : Type} (x : UInt64) (f : UInt64 → Option α) : Option α := if wx_nd x = true then f x else none
def wx_z {α : Type} (x : Int32) (f : Option α) : Option α := if x = 0 ∨ x = 1 then f else none
def wx_o {α β : Type} (m : Option α) (f : α → Option β) : Option β := match m with
  | none => none
  | some a => f a
def wx_b {α β : Type} (m : Option (α × wx_St)) (f : α → wx_St → Option β) : Option β := match m with
  | none => none
  | some r => f r.1 r.2
theorem wx_rI_ok {α : Type} {σ : wx_St} {o k n : Nat} {i : Int32} {f : Int32 → Option α} {r : α} (h : wx_rI σ o k n i f = some r) : ∃ v : Int32, v = σ.1 o k i.toNatClampNeg ∧ wx_in i n = true ∧ f v = some r := by
  unfold wx_rI at h; split at h
  · exact ⟨_, rfl, by assumption, h⟩
  · exact absurd h (by simp)
theorem wx_rT_ok {α : Type} {t : List Int32} {n : Nat} {i : Int32} {f : Int32 → Option α} {r : α} (h : wx_rT t n i f = some r) : ∃ v : Int32, v = t.getD i.toNatClampNeg 0 ∧ wx_in i n = true ∧ f v = some r := by
  unfold wx_rT at h; split at h
  · exact ⟨_, rfl, by assumption, h⟩
  · exact absurd h (by simp)
theorem wx_rF_ok {α : Type} {σ : wx_St} {o k n : Nat} {i : Int32} {f : UInt32 → Option α} {r : α} (h : wx_rF σ o k n i f = some r) : ∃ v : UInt32, v = σ.2.1 o k i.toNatClampNeg ∧ wx_in i n = true ∧ f v = some r := by
  unfold wx_rF at h; split at h
  · exact ⟨_, rfl, by assumption, h⟩
  · exact absurd h (by simp)
theorem wx_rR_ok {α : Type} {σ : wx_St} {o n : Nat} {i : Int32} {f : Nat → Option α} {r : α} (h : wx_rR σ o n i f = some r) : ∃ b : Nat, b = wx_ro σ o i.toNatClampNeg ∧ b < 11 ∧ wx_in i n = true ∧ f b = some r := by
  unfold wx_rR at h; split at h
  · split at h
    · exact ⟨_, rfl, by assumption, by assumption, h⟩
    · exact absurd h (by simp)
  · exact absurd h (by simp)
theorem wx_w_ok {α : Type} {τ : wx_St} {n : Nat} {i : Int32} {f : wx_St → Option α} {r : α} (h : wx_w τ n i f = some r) : ∃ z : wx_St, z = τ ∧ wx_in i n = true ∧ f z = some r := by
  unfold wx_w at h; split at h
  · exact ⟨_, rfl, by assumption, h⟩
  · exact absurd h (by simp)
theorem wx_l_ok {α β : Type} {a : β} {f : β → Option α} {r : α} (h : wx_l a f = some r) : ∃ z : β, z = a ∧ f z = some r := ⟨a, rfl, h⟩
theorem wx_f_ok {α : Type} {x : UInt32} {f : UInt32 → Option α} {r : α} (h : wx_f x f = some r) : ∃ z : UInt32, z = x ∧ vf_n32 x ∧ f z = some r := by
  unfold wx_f at h; split at h
  · exact ⟨_, rfl, wx_nn_vf (by assumption), h⟩
  · exact absurd h (by simp)
theorem wx_d_ok {α : Type} {x : UInt64} {f : UInt64 → Option α} {r : α} (h : wx_d x f = some r) : ∃ z : UInt64, z = x ∧ vf_n64 x ∧ f z = some r := by
  unfold wx_d at h; split at h
  · exact ⟨_, rfl, wx_nd_vf (by assumption), h⟩
  · exact absurd h (by simp)
theorem wx_z_ok {α : Type} {x : Int32} {f : Option α} {r : α} (h : wx_z x f = some r) : (x = 0 ∨ x = 1) ∧ f = some r := by
  unfold wx_z at h; split at h
  · exact ⟨by assumption, h⟩
  · exact absurd h (by simp)
def wx_zt {α : Type} (ty : FieldType) (x : Int32) (f : Option α) : Option α := if vp_nar ty x = x then f else none
theorem wx_zt_ok {α : Type} {ty : FieldType} {x : Int32} {f : Option α} {r : α} (h : wx_zt ty x f = some r) : vp_nar ty x = x ∧ f = some r := by
  unfold wx_zt at h; split at h
  · exact ⟨by assumption, h⟩
  · exact absurd h (by simp)
theorem wx_ntC {x : Int32} (h : vp_nar .char x = x) : narrow .char (.int x) = .int x := (show narrow .char (.int x) = .int (vp_nar .char x) from rfl).trans (by rw [h])
theorem wx_ntB {x : Int32} (h : vp_nar .byte x = x) : narrow .byte (.int x) = .int x := (show narrow .byte (.int x) = .int (vp_nar .byte x) from rfl).trans (by rw [h])
theorem wx_o_ok {α β : Type} {m : Option α} {f : α → Option β} {r : β} (h : wx_o m f = some r) : ∃ a : α, m = some a ∧ f a = some r := by
  cases m with
  | none => exact absurd h (by simp [wx_o])
  | some q => exact ⟨q, rfl, h⟩
theorem wx_b_ok {α β : Type} {m : Option (α × wx_St)} {f : α → wx_St → Option β} {r : β} (h : wx_b m f = some r) : ∃ (a : α) (σ : wx_St), m = some (a, σ) ∧ f a σ = some r := by
  cases m with
  | none => exact absurd h (by simp [wx_b])
  | some q => exact ⟨q.1, q.2, rfl, h⟩
theorem wx_ret_ok {α : Type} {a a' : α} {σ σ' : wx_St} (h : some (a, σ) = some (a', σ')) : a = a' ∧ σ = σ' := by
  cases h; exact ⟨rfl, rfl⟩
theorem wx_ift {α : Type} {q : Prop} {d : Decidable q} {a b r : Option α} (hq : q) (h : (@ite _ q d a b) = r) : a = r := by rwa [if_pos hq] at h
theorem wx_iff {α : Type} {q : Prop} {d : Decidable q} {a b r : Option α} (hq : ¬ q) (h : (@ite _ q d a b) = r) : b = r := by rwa [if_neg hq] at h
theorem wx_no {α : Type} {r : α} {P : Prop} (h : (none : Option α) = some r) : P := absurd h (by simp)
theorem wx_ni {x v : Int32} (h : ¬ x = v) : x.toInt ≠ v.toInt := fun e => h (Int32.toInt_inj.mp e)
theorem wx_hal {al al' : Nat → Bool} {o k : Nat} {t : Nat × Nat} (h : al' = al) (hs : wx_sh al o k = t) : wx_sh al' o k = t := by rw [h]; exact hs
theorem wx_sbo {al : Nat → Bool} {o : Nat} (ho : o < 11) (k : Nat) : wx_sh al o k = wx_sb k := if_pos ho
def wx_tys (ca : Nat → ClassId) : List (ClassId × FieldType) := [(ca 0, .int), (ca 1, .float), (ca 2, .boolean), (ca 3, .object RX0), (ca 4, .array .float)]
/-- whose links go to a nest mate -/
def wx_isN (w : Cond) : Bool := match w with
  | .fieldLinkNest _ _ _ _ _ _ => true
  | .methodLinkNest _ _ _ _ => true
  | _ => false
def wx_nest : List Cond := [
  Cond.methodLinkNest "WarmProbes" 9 ⟨"WarmProbes$Board", "<init>", "()V"⟩ "WarmProbes",
  Cond.fieldLinkNest "WarmProbes$Board" 53 "WarmProbes" "FIRST_VALUES" "[I" "WarmProbes",
  Cond.fieldLinkNest "WarmProbes$Suspicion" 53 "WarmProbes$Board" "settings" "[I" "WarmProbes",
  Cond.fieldLinkNest "WarmProbes" 187 "WarmProbes$Board" "settings" "[I" "WarmProbes",
  Cond.fieldLinkNest "WarmProbes" 89 "WarmProbes$Board" "nets" "[I" "WarmProbes",
  Cond.fieldLinkNest "WarmProbes" 163 "WarmProbes$Board" "fed" "[I" "WarmProbes",
  Cond.fieldLinkNest "WarmProbes" 133 "WarmProbes$Board" "touches" "I" "WarmProbes",
  Cond.fieldLinkNest "WarmProbes" 136 "WarmProbes$Board" "touchPlaces" "[I" "WarmProbes",
  Cond.fieldLinkNest "WarmProbes" 139 "WarmProbes$Board" "touchOthers" "[I" "WarmProbes",
  Cond.fieldLinkNest "WarmProbes" 73 "WarmProbes$Board" "steps" "I" "WarmProbes",
  Cond.fieldLinkNest "WarmProbes$Suspicion" 85 "WarmProbes$Board" "steps" "I" "WarmProbes",
  Cond.fieldLinkNest "WarmProbes" 93 "WarmProbes$Board" "warmth" "[F" "WarmProbes",
  Cond.fieldLinkNest "WarmProbes$Suspicion" 60 "WarmProbes$Board" "readings" "I" "WarmProbes",
  Cond.fieldLinkNest "WarmProbes" 145 "WarmProbes$Board" "readings" "I" "WarmProbes",
  Cond.fieldLinkNest "WarmProbes$Suspicion" 67 "WarmProbes$Board" "readingPlaces" "[I" "WarmProbes",
  Cond.fieldLinkNest "WarmProbes" 148 "WarmProbes$Board" "readingPlaces" "[I" "WarmProbes",
  Cond.fieldLinkNest "WarmProbes$Suspicion" 78 "WarmProbes$Board" "readingReads" "[I" "WarmProbes",
  Cond.fieldLinkNest "WarmProbes" 151 "WarmProbes$Board" "readingReads" "[I" "WarmProbes",
  Cond.fieldLinkNest "WarmProbes$Suspicion" 64 "WarmProbes$Board" "readingSteps" "[I" "WarmProbes",
  Cond.fieldLinkNest "WarmProbes" 154 "WarmProbes$Board" "readingSteps" "[I" "WarmProbes",
  Cond.methodLinkNest "WarmProbes" 21 ⟨"WarmProbes$Suspicion", "<init>", "()V"⟩ "WarmProbes",
  Cond.methodLinkNest "WarmProbes$Suspicion" 11 ⟨"WarmProbes$Lone", "<init>", "()V"⟩ "WarmProbes",
  Cond.methodLinkNest "WarmProbes" 28 ⟨"WarmProbes$Past", "<init>", "()V"⟩ "WarmProbes",
  Cond.methodLinkNest "WarmProbes$Past" 21 ⟨"WarmProbes$Board", "<init>", "()V"⟩ "WarmProbes",
  Cond.fieldLinkNest "WarmProbes" 193 "WarmProbes$Past" "size" "I" "WarmProbes",
  Cond.methodLinkNest "WarmProbes" 35 ⟨"WarmProbes$Pad", "<init>", "()V"⟩ "WarmProbes",
  Cond.fieldLinkNest "WarmProbes" 190 "WarmProbes$Pad" "length" "I" "WarmProbes",
  Cond.methodLinkNest "WarmProbes" 48 ⟨"WarmProbes$Past", "prepare", "(LWarmProbes$Board;)V"⟩ "WarmProbes",
  Cond.methodLinkNest "WarmProbes$Past" 22 ⟨"WarmProbes$Board", "takeOver", "(LWarmProbes$Board;)V"⟩ "WarmProbes",
  Cond.methodLinkNest "WarmProbes" 52 ⟨"WarmProbes$Board", "change", "(II)I"⟩ "WarmProbes",
  Cond.fieldLinkNest "WarmProbes$Board" 62 "WarmProbes" "LEAST_VALUES" "[I" "WarmProbes",
  Cond.fieldLinkNest "WarmProbes$Board" 65 "WarmProbes" "MOST_VALUES" "[I" "WarmProbes",
  Cond.methodLinkNest "WarmProbes" 56 ⟨"WarmProbes$Past", "kept", "(I)I"⟩ "WarmProbes",
  Cond.methodLinkNest "WarmProbes" 60 ⟨"WarmProbes$Board", "lay", "(III)I"⟩ "WarmProbes",
  Cond.methodLinkNest "WarmProbes$Board" 71 ⟨"WarmProbes", "placeOf", "(II)I"⟩ "WarmProbes",
  Cond.methodLinkNest "WarmProbes$Board" 75 ⟨"WarmProbes", "isNet", "(I)Z"⟩ "WarmProbes",
  Cond.methodLinkNest "WarmProbes$Board" 82 ⟨"WarmProbes", "areNeighbours", "(II)Z"⟩ "WarmProbes",
  Cond.methodLinkNest "WarmProbes" 64 ⟨"WarmProbes$Board", "join", "(III)I"⟩ "WarmProbes",
  Cond.methodLinkNest "WarmProbes$Board" 93 ⟨"WarmProbes", "neighbourOf", "(II)I"⟩ "WarmProbes",
  Cond.methodLinkNest "WarmProbes" 67 ⟨"WarmProbes$Board", "part", "(I)I"⟩ "WarmProbes",
  Cond.methodLinkNest "WarmProbes" 70 ⟨"WarmProbes$Board", "turnPair", "(II)I"⟩ "WarmProbes",
  Cond.methodLinkNest "WarmProbes" 77 ⟨"WarmProbes$Board", "beginRun", "()V"⟩ "WarmProbes",
  Cond.methodLinkNest "WarmProbes" 80 ⟨"WarmProbes$Board", "letPass", "(I)I"⟩ "WarmProbes",
  Cond.methodLinkNest "WarmProbes$Board" 107 ⟨"WarmProbes", "step", "([FI[FIJ[I)V"⟩ "WarmProbes",
  Cond.methodLinkNest "WarmProbes" 83 ⟨"WarmProbes$Board", "measure", "(II)I"⟩ "WarmProbes",
  Cond.methodLinkNest "WarmProbes$Board" 111 ⟨"WarmProbes", "readOf", "(F)I"⟩ "WarmProbes",
  Cond.methodLinkNest "WarmProbes" 104 ⟨"WarmProbes$Board", "isSuspect", "(I)Z"⟩ "WarmProbes",
  Cond.methodLinkNest "WarmProbes" 108 ⟨"WarmProbes$Suspicion", "couldBe", "(LWarmProbes$Board;I)Z"⟩ "WarmProbes",
  Cond.methodLinkNest "WarmProbes$Suspicion" 22 ⟨"WarmProbes$Board", "isSuspect", "(I)Z"⟩ "WarmProbes",
  Cond.methodLinkNest "WarmProbes$Suspicion" 56 ⟨"WarmProbes$Lone", "follow", "([I)V"⟩ "WarmProbes",
  Cond.methodLinkNest "WarmProbes$Suspicion" 70 ⟨"WarmProbes$Lone", "warmthBy", "(III)F"⟩ "WarmProbes",
  Cond.methodLinkNest "WarmProbes$Lone" 30 ⟨"WarmProbes", "step", "([FI[FIJ[I)V"⟩ "WarmProbes",
  Cond.methodLinkNest "WarmProbes$Suspicion" 74 ⟨"WarmProbes", "readOf", "(F)I"⟩ "WarmProbes",
  Cond.methodLinkNest "WarmProbes" 112 ⟨"WarmProbes$Suspicion", "couldBeOneOfTwo", "(LWarmProbes$Board;I)Z"⟩ "WarmProbes",
  Cond.methodLinkNest "WarmProbes" 115 ⟨"WarmProbes$Board", "touchAt", "(I)I"⟩ "WarmProbes",
  Cond.methodLinkNest "WarmProbes" 118 ⟨"WarmProbes$Board", "tracked", "()J"⟩ "WarmProbes",
  Cond.methodLinkNest "WarmProbes" 126 ⟨"WarmProbes$Board", "suspects", "()J"⟩ "WarmProbes",
  Cond.methodLinkNest "WarmProbes" 129 ⟨"WarmProbes$Suspicion", "fitting", "(LWarmProbes$Board;)J"⟩ "WarmProbes",
  Cond.methodLinkNest "WarmProbes" 142 ⟨"WarmProbes$Board", "isLive", "(I)Z"⟩ "WarmProbes",
  Cond.methodLinkNest "WarmProbes" 160 ⟨"WarmProbes$Board", "placesOf", "(I)I"⟩ "WarmProbes",
  Cond.methodLinkNest "WarmProbes" 166 ⟨"WarmProbes$Board", "warmthOf", "(I)F"⟩ "WarmProbes",
  Cond.methodLinkNest "WarmProbes" 170 ⟨"WarmProbes$Board", "heated", "()J"⟩ "WarmProbes",
  Cond.methodLinkNest "WarmProbes" 179 ⟨"WarmProbes$Suspicion", "pairs", "(LWarmProbes$Board;)I"⟩ "WarmProbes",
  Cond.methodLinkNest "WarmProbes$Suspicion" 36 ⟨"WarmProbes$Board", "suspects", "()J"⟩ "WarmProbes",
  Cond.methodLinkNest "WarmProbes$Suspicion" 40 ⟨"WarmProbes", "isIn", "(JI)Z"⟩ "WarmProbes",
  Cond.methodLinkNest "WarmProbes" 183 ⟨"WarmProbes$Board", "warmest", "()I"⟩ "WarmProbes",
  Cond.methodLinkNest "WarmProbes" 213 ⟨"WarmProbes$Suspicion", "readBy", "(LWarmProbes$Board;II)I"⟩ "WarmProbes"]
theorem wx_nest_ok : wx_nest.all wx_isN = true := by decide +kernel
def wx_K (D : va_G) (ca : Nat → ClassId) (U : State) : Prop := va_K D vwCl (wx_tys ca) U ∧ (∀ w ∈ wx_nest, va_Nw w U) ∧ ∃ kF : Class, U.vm.classes[ca 4]? = some kF ∧ kF.kind = .array (ca 1) (.array .float)
theorem wx_N_warm {w : Cond} {s U : State} (hw : wx_isN w = true) (hW : s.WarmedH U.vm) (h : va_Nw w s) : va_Nw w U := by
  cases w with
  | fieldLinkNest a i b n d x => exact va_Nw.warmF hW h
  | methodLinkNest a i x y => exact va_Nw.warmM hW h
  | _ => exact absurd hw (by simp [wx_isN])
theorem wx_N_same {w : Cond} {u U : State} (hw : wx_isN w = true) (hv : u.vm = U.vm) (h : va_Nw w u) : va_Nw w U := by
  cases w with
  | fieldLinkNest a i b n d x => exact va_Nw.same rfl hv h
  | methodLinkNest a i x y => exact va_Nw.same rfl hv h
  | _ => exact absurd hw (by simp [wx_isN])
theorem wx_K.warm {D : va_G} {ca : Nat → ClassId} {s U : State} (hW : s.WarmedH U.vm) (h : wx_K D ca s) : wx_K D ca U :=
  ⟨va_K.moved hW.alike h.1, fun w hw => wx_N_warm (List.all_eq_true.mp wx_nest_ok w hw) hW (h.2.1 w hw), by
    obtain ⟨kF, h1, h2⟩ := h.2.2
    obtain ⟨k', hk', he⟩ := hW.alike.2.2 _ _ h1
    exact ⟨k', hk', by rw [he]; exact h2⟩⟩
theorem wx_K.same {D : va_G} {ca : Nat → ClassId} {u U : State} (hv : u.vm = U.vm) (h : wx_K D ca u) : wx_K D ca U :=
  ⟨va_K.moved (hv ▸ Vm.Alike.refl u.vm) h.1, fun w hw => wx_N_same (List.all_eq_true.mp wx_nest_ok w hw) hv (h.2.1 w hw), by rw [← hv]; exact h.2.2⟩
def wx_v0 : List Int32 := [15, 5, 20, 3]
def wx_v1 : List Int32 := [0, 0, 1, 0]
def wx_v2 : List Int32 := [24, 50, 99, 99]
/-- what nobody writes: the tables of settings, the forms, the JDK's own -/
def wx_T (ad : Nat → Nat → Nat) (A : Nat → Prop) (U : State) (H : Heap) : Prop :=
  (va_Z "WarmProbes" "FIRST_VALUES" "[I" (.ref (ad 17 0)) A U H ∧ va_Z "WarmProbes" "LEAST_VALUES" "[I" (.ref (ad 17 1)) A U H ∧ va_Z "WarmProbes" "MOST_VALUES" "[I" (.ref (ad 17 2)) A U H) ∧
  (va_T .int (ad 17 0) 4 (fun j => .int (wx_v0.getD j 0)) A U H ∧ va_T .int (ad 17 1) 4 (fun j => .int (wx_v1.getD j 0)) A U H ∧ va_T .int (ad 17 2) 4 (fun j => .int (wx_v2.getD j 0)) A U H) ∧
  (va_X (ad 18 0) (ad 18 1) (fun j => nI (ad 19 j)) U H ∧ ad 18 0 < H.size ∧ ¬ A (ad 18 0))
theorem wx_T.moved {ad : Nat → Nat → Nat} {A : Nat → Prop} {u U : State} {H : Heap} (hvm : u.vm.Alike U.vm) (h : wx_T ad A u H) : wx_T ad A U H :=
  ⟨⟨h.1.1.moved hvm, h.1.2.1.moved hvm, h.1.2.2.moved hvm⟩, ⟨h.2.1.1.moved hvm, h.2.1.2.1.moved hvm, h.2.1.2.2.moved hvm⟩, ⟨h.2.2.1.moved hvm, h.2.2.2⟩⟩
theorem wx_T.kept {ad : Nat → Nat → Nat} {A : Nat → Prop} {U : State} {H H1 : Heap} (h : wx_T ad A U H) (hq : ∀ a : Nat, a < H.size → ¬ A a → H1[a]? = H[a]?) : wx_T ad A U H1 := by
  have e := hq _ h.2.2.2.1 h.2.2.2.2
  refine ⟨⟨h.1.1.kept hq, h.1.2.1.kept hq, h.1.2.2.kept hq⟩, ⟨h.2.1.1.kept hq, h.2.1.2.1.kept hq, h.2.1.2.2.kept hq⟩, ⟨h.2.2.1.kept e, ?_, h.2.2.2.2⟩⟩
  obtain ⟨scr, h1, -⟩ := h.2.2.1
  exact (Array.getElem?_eq_some_iff.mp (e.trans h1)).1
def wx_C (D : va_G) (ad : Nat → Nat → Nat) (ca : Nat → ClassId) (A : Nat → Prop) (U : State) (H : Heap) : Prop := wx_K D ca U ∧ wx_T ad A U H ∧ True
theorem wx_C.next {D : va_G} {ad : Nat → Nat → Nat} {ca : Nat → ClassId} {A : Nat → Prop} {s U : State} {H : Heap} {locs : List Loc} (h : wx_C D ad ca A s s.heap) (hS : va_S A s.heap H locs) (hU : U.heap = H) (hW : s.WarmedH U.vm) : wx_C D ad ca A U U.heap := by
  subst hU
  exact ⟨h.1.warm hW, (h.2.1.kept hS.2.1).moved hW.alike, trivial⟩
theorem wx_C.same {D : va_G} {ad : Nat → Nat → Nat} {ca : Nat → ClassId} {A : Nat → Prop} {u U : State} (hv : u.vm = U.vm) (hh : u.heap = U.heap) (h : wx_C D ad ca A u u.heap) : wx_C D ad ca A U U.heap := by
  rw [← hh]
  exact ⟨h.1.same hv, h.2.1.moved (hv ▸ Vm.Alike.refl u.vm), trivial⟩
def wx_U (D : va_G) (ad : Nat → Nat → Nat) (rd : Nat → Nat) (ca : Nat → ClassId) (A : Nat → Prop) (σ : wx_St) (U : State) : Prop :=
  wx_C D ad ca A U U.heap ∧ wx_Z D ad rd ca A σ U.heap ∧ ∀ q : Nat, U.heap.size ≤ q → A q
def wx_Q (D : va_G) (ad : Nat → Nat → Nat) (rd : Nat → Nat) (ca : Nat → ClassId) (A : Nat → Prop) (ov : Option Value) (σ' : wx_St) : Array Value → State → Outcome → State → Prop := fun _ st oc t =>
  oc = .returned ov ∧ wx_Z D ad rd ca A σ' t.heap ∧ va_F A st t
/-- a contract of a method that makes nothing: from σ it answers ov, with σ' behind it -/
abbrev wx_M (l : Launch) (y : MethodName) (ws : List Cond) (fr lo : Nat) (D : va_G) (ad : Nat → Nat → Nat) (rd : Nat → Nat) (ca : Nat → ClassId) (A : Nat → Prop) (vs : List Value) (σ : wx_St) (ov : Option Value) (σ' : wx_St) : Prop :=
  Met l y ws ({ frames := fr, cells := 0, slots := 0, locals := lo } : Room) (va_Pc vs (wx_U D ad rd ca A σ)) (wx_Q D ad rd ca A ov σ') 0 0 A
theorem wx_st {ad : Nat → Nat → Nat} {rd : Nat → Nat} {o k : Nat} (hk : k < 100) : wx_ad ad rd o k = ad o k := if_neg (fun h => by omega)
/-! the world as a list of the kit's -/
def wx_id (ad : Nat → Nat → Nat) (rd : Nat → Nat) (ca : Nat → ClassId) (σ : wx_St) (n : Nat) : Option (Nat × va_E) := (wx_ek ad rd ca σ (n / 164) (n % 164) (wx_sh σ.2.2.2.2 (n / 164) (n % 164))).map (fun e => (wx_ad ad rd (n / 164) (n % 164), e))
def wx_ls (ad : Nat → Nat → Nat) (rd : Nat → Nat) (ca : Nat → ClassId) (σ : wx_St) : va_W := (List.range 2788).filterMap (wx_id ad rd ca σ)
theorem wx_pr {ad : Nat → Nat → Nat} {rd : Nat → Nat} {ca : Nat → ClassId} {σ : wx_St} {o k : Nat} {s : Nat × Nat} {e : va_E} (h : wx_ek ad rd ca σ o k s = some e) : s.1 ≠ 0 := by
  intro z
  simp [wx_ek, z] at h
theorem wx_sh_lt {al : Nat → Bool} {o k : Nat} (h : (wx_sh al o k).1 ≠ 0) : o < 17 ∧ k < 164 := by
  unfold wx_sh at h
  split at h
  · refine ⟨by omega, ?_⟩
    by_cases hk : k < 164
    · exact hk
    · exfalso; apply h; unfold wx_sb; repeat rw [if_neg (by omega)]
  · split at h
    · split at h
      · exact ⟨by omega, by omega⟩
      · exact absurd rfl h
    · have h1 : o < 17 := by
        by_cases ho : o < 17
        · exact ho
        · exfalso; apply h; unfold wx_sx; repeat rw [if_neg (by omega)]
      refine ⟨h1, ?_⟩
      by_cases hk : k < 164
      · exact hk
      · exfalso; apply h; unfold wx_sx wx_sm
        have hn : ∀ n : Nat, n < 164 → ¬ k = n := fun n h => by omega
        simp [hn 0 (by decide), hn 1 (by decide), hn 2 (by decide), hn 3 (by decide), hn 4 (by decide), hn 5 (by decide), hn 6 (by decide), hn 7 (by decide), hn 8 (by decide), hn 10 (by decide), hn 11 (by decide), hn 12 (by decide), hn 13 (by decide), hn 14 (by decide), hn 15 (by decide), hn 17 (by decide), hn 99 (by decide)]
theorem wx_ls_at {ad : Nat → Nat → Nat} {rd : Nat → Nat} {ca : Nat → ClassId} {σ : wx_St} {o k : Nat} {e : va_E} (h : wx_ek ad rd ca σ o k (wx_sh σ.2.2.2.2 o k) = some e) : ∃ p : Nat, (wx_ls ad rd ca σ)[p]? = some (wx_ad ad rd o k, e) := by
  have hlt := wx_sh_lt (wx_pr h)
  refine List.getElem?_of_mem (List.mem_filterMap.mpr ⟨164 * o + k, List.mem_range.mpr (by omega), ?_⟩)
  unfold wx_id
  rw [show (164 * o + k) / 164 = o by omega, show (164 * o + k) % 164 = k by omega, h]
  rfl
theorem wx_ls_P {D : va_G} {ad : Nat → Nat → Nat} {rd : Nat → Nat} {ca : Nat → ClassId} {σ : wx_St} {H : Heap} (h : wx_P D ad rd ca σ H) : va_P D vwCl (wx_ls ad rd ca σ) H := by
  intro k q hq
  obtain ⟨n, -, hn⟩ := List.mem_filterMap.mp (List.mem_of_getElem? hq)
  unfold wx_id at hn
  cases he : wx_ek ad rd ca σ (n / 164) (n % 164) (wx_sh σ.2.2.2.2 (n / 164) (n % 164)) with
  | none => rw [he] at hn; exact absurd hn (by simp)
  | some e =>
    rw [he] at hn
    cases hn
    exact h _ _ e he
theorem wx_ls_D {A : Nat → Prop} {ad : Nat → Nat → Nat} {rd : Nat → Nat} {ca : Nat → ClassId} {σ : wx_St} (hJ : wx_J ad rd σ.2.2.2.2) (hO : wx_O A ad rd σ.2.2.2.2) : va_D A (wx_ls ad rd ca σ) := by
  have key : ∀ n q, wx_id ad rd ca σ n = some q → (wx_sh σ.2.2.2.2 (n / 164) (n % 164)).1 ≠ 0 ∧ q.1 = wx_ad ad rd (n / 164) (n % 164) := by
    intro n q hn
    unfold wx_id at hn
    cases he : wx_ek ad rd ca σ (n / 164) (n % 164) (wx_sh σ.2.2.2.2 (n / 164) (n % 164)) with
    | none => rw [he] at hn; exact absurd hn (by simp)
    | some e =>
      rw [he] at hn
      cases hn
      exact ⟨wx_pr he, rfl⟩
  have hpw : List.Pairwise (fun p q : Nat × va_E => p.1 ≠ q.1) (wx_ls ad rd ca σ) := by
    unfold wx_ls
    rw [List.pairwise_filterMap]
    refine List.Pairwise.imp ?_ (List.nodup_range (n := 2788))
    intro a b hab x hx y hy hxy
    obtain ⟨h1, h2⟩ := key a x hx
    obtain ⟨h3, h4⟩ := key b y hy
    have h5 := hJ _ _ _ _ h1 h3 (by rw [← h2, ← h4]; exact hxy)
    apply hab
    omega
  refine ⟨fun i j p q hi hj hpq => ?_, fun k q hq => ?_⟩
  · obtain ⟨hil, hie⟩ := List.getElem?_eq_some_iff.mp hi
    obtain ⟨hjl, hje⟩ := List.getElem?_eq_some_iff.mp hj
    rcases Nat.lt_trichotomy i j with h | h | h
    · exact absurd hpq (by rw [← hie, ← hje]; exact List.pairwise_iff_getElem.mp hpw i j hil hjl h)
    · exact h
    · exact absurd hpq.symm (by rw [← hie, ← hje]; exact List.pairwise_iff_getElem.mp hpw j i hjl hil h)
  · obtain ⟨n, -, hn⟩ := List.mem_filterMap.mp (List.mem_of_getElem? hq)
    obtain ⟨h1, h2⟩ := key n q hn
    rw [h2]
    exact hO _ _ h1
/-- back from the list to the world, behind a row that wrote one cell -/
theorem wx_back {D : va_G} {ad : Nat → Nat → Nat} {rd : Nat → Nat} {ca : Nat → ClassId} {A : Nat → Prop} {σ σ' : wx_St} {H H1 : Heap} {o k p : Nat} {e e' : va_E} (Z : wx_Z D ad rd ca A σ H) (he : wx_ek ad rd ca σ o k (wx_sh σ.2.2.2.2 o k) = some e) (hp : (wx_ls ad rd ca σ)[p]? = some (wx_ad ad rd o k, e))
    (hP1 : va_P D vwCl ((wx_ls ad rd ca σ).set p (wx_ad ad rd o k, e')) H1) (hal : σ'.2.2.2.2 = σ.2.2.2.2) (he' : wx_ek ad rd ca σ' o k (wx_sh σ.2.2.2.2 o k) = some e')
    (hot : ∀ o' k' : Nat, ¬ (o' = o ∧ k' = k) → wx_ek ad rd ca σ' o' k' (wx_sh σ.2.2.2.2 o' k') = wx_ek ad rd ca σ o' k' (wx_sh σ.2.2.2.2 o' k')) : wx_Z D ad rd ca A σ' H1 := by
  refine ⟨?_, by rw [hal]; exact Z.2.1, by rw [hal]; exact Z.2.2⟩
  intro o' k' x hx
  rw [hal] at hx
  have hpl : p < (wx_ls ad rd ca σ).length := (List.getElem?_eq_some_iff.mp hp).1
  by_cases hk : o' = o ∧ k' = k
  · obtain ⟨rfl, rfl⟩ := hk
    rw [he'] at hx
    cases hx
    exact hP1 p _ (by rw [List.getElem?_set_self hpl])
  · rw [hot o' k' hk] at hx
    obtain ⟨p', hp'⟩ := wx_ls_at hx
    have hne : p ≠ p' := by
      intro h
      subst h
      have h1 := Option.some.inj (hp.symm.trans hp')
      have h2 : wx_ad ad rd o k = wx_ad ad rd o' k' := congrArg Prod.fst h1
      have h3 := Z.2.1 _ _ _ _ (wx_pr he) (wx_pr hx) h2
      exact hk ⟨h3.1.symm, h3.2.symm⟩
    exact hP1 p' _ (by rw [List.getElem?_set_ne hne]; exact hp')
section wxrows
variable {p : Program} {l : Launch} {e : Env} {R : Room} {s : State} {m : MethodId} {args : Array Value} {below : List Frame} {meth : Method} {c : Code} {H : Heap} {locs : List Loc} {cells slots : Nat} {Q : State → Prop}
variable {cc : ByteArray} {pc : Nat} {ls : Array Slot} {rest : List Value} {D : va_G} {ad : Nat → Nat → Nat} {rd : Nat → Nat} {ca : Nat → ClassId} {A : Nat → Prop} {σ : wx_St} {H0 : Heap}
theorem wx_single {w : Nat × va_E} (h : va_at D vwCl w H) : va_P D vwCl [w] H := by
  intro k q hq
  cases k with
  | zero => cases hq; exact h
  | succ k => simp at hq
theorem wx_iald (hx : p.tables.exec = Jvm.exec) (hb : c.code = cc) (hK : wx_K D ca s) (Z : wx_Z D ad rd ca A σ H) {o k n a : Nat} (hsh : wx_sh σ.2.2.2.2 o k = (1, n)) (ha : wx_ad ad rd o k = a) {i : Int32} (hin : wx_in i n = true) (hdg : decode cc pc = .ok (.iaload, 1))
    {v : Int32} (hv : v = σ.1 o k i.toNatClampNeg) (kk : W p l e R s m args below meth c H locs cells slots Q (F0 m (pc + 1) ls (.int v :: rest))) : W p l e R s m args below meth c H locs cells slots Q (F0 m pc ls (.int i :: .ref a :: rest)) := by
  subst hv
  subst ha
  exact va_iald hx hb hK.1 (wx_single (Z.1 o k _ (by rw [hsh]; rfl))) 0 0 rfl rfl (wx_in_vp hin) hdg kk
theorem wx_zald (hx : p.tables.exec = Jvm.exec) (hb : c.code = cc) (hK : wx_K D ca s) (Z : wx_Z D ad rd ca A σ H) {o k n a : Nat} (hsh : wx_sh σ.2.2.2.2 o k = (3, n)) (ha : wx_ad ad rd o k = a) {i : Int32} (hin : wx_in i n = true) (hdg : decode cc pc = .ok (.baload, 1))
    {v : Int32} (hv : v = σ.1 o k i.toNatClampNeg) (kk : W p l e R s m args below meth c H locs cells slots Q (F0 m (pc + 1) ls (.int v :: rest))) : W p l e R s m args below meth c H locs cells slots Q (F0 m pc ls (.int i :: .ref a :: rest)) := by
  subst hv
  subst ha
  exact va_zald hx hb hK.1 (wx_single (Z.1 o k _ (by rw [hsh]; rfl))) 0 2 rfl rfl (wx_in_vp hin) hdg kk
theorem wx_fald (hx : p.tables.exec = Jvm.exec) (hb : c.code = cc) (hK : wx_K D ca s) (Z : wx_Z D ad rd ca A σ H) {o k n a : Nat} (hsh : wx_sh σ.2.2.2.2 o k = (2, n)) (ha : wx_ad ad rd o k = a) {i : Int32} (hin : wx_in i n = true) (hdg : decode cc pc = .ok (.faload, 1))
    {v : UInt32} (hv : v = σ.2.1 o k i.toNatClampNeg) (kk : W p l e R s m args below meth c H locs cells slots Q (F0 m (pc + 1) ls (.float v :: rest))) : W p l e R s m args below meth c H locs cells slots Q (F0 m pc ls (.int i :: .ref a :: rest)) := by
  subst hv
  subst ha
  exact va_fald hx hb hK.1 (wx_single (Z.1 o k _ (by rw [hsh]; rfl))) 0 1 rfl rfl (wx_in_vp hin) hdg kk
theorem wx_bald (hx : p.tables.exec = Jvm.exec) (hb : c.code = cc) (hK : wx_K D ca s) (Z : wx_Z D ad rd ca A σ H) {o k n a : Nat} (hsh : wx_sh σ.2.2.2.2 o k = (4, n)) (ha : wx_ad ad rd o k = a) {i : Int32} (hin : wx_in i n = true) (hdg : decode cc pc = .ok (.aaload, 1))
    {v : Nat} (hv : v = wx_ro σ o i.toNatClampNeg) (kk : W p l e R s m args below meth c H locs cells slots Q (F0 m (pc + 1) ls (.ref (ad v 99) :: rest))) : W p l e R s m args below meth c H locs cells slots Q (F0 m pc ls (.int i :: .ref a :: rest)) := by
  subst hv
  subst ha
  exact va_aldq (f := fun i => some (ad (wx_ro σ o i) 99)) hx hb hK.1 (wx_single (Z.1 o k _ (by rw [hsh]; rfl))) 0 3 rfl rfl (wx_in_vp hin) hdg kk
theorem wx_ek_I {o k i : Nat} {x : Int32} {o' k' : Nat} (hk : ¬ (o' = o ∧ k' = k)) (t : Nat × Nat) : wx_ek ad rd ca (wx_sI σ o k i x) o' k' t = wx_ek ad rd ca σ o' k' t := by
  have h1 : (wx_sI σ o k i x).1 o' k' = σ.1 o' k' := by
    funext j
    show (if o' = o ∧ k' = k ∧ j = i then x else σ.1 o' k' j) = _
    rw [if_neg (fun z => hk ⟨z.1, z.2.1⟩)]
  have h2 : ∀ (o : Nat) (j : Nat) (cs : List Nat), wx_fl ad (wx_sI σ o k i x) o' j cs = wx_fl ad σ o' j cs := by
    intro o j cs
    induction cs generalizing j with
    | nil => rfl
    | cons c cs ih => simp only [wx_fl, ih]; rfl
  unfold wx_ek
  rw [h1, h2]
  rfl
theorem wx_ek_F {o k i : Nat} {x : UInt32} {o' k' : Nat} (hk : ¬ (o' = o ∧ k' = k)) (t : Nat × Nat) : wx_ek ad rd ca (wx_sF σ o k i x) o' k' t = wx_ek ad rd ca σ o' k' t := by
  have h1 : (wx_sF σ o k i x).2.1 o' k' = σ.2.1 o' k' := by
    funext j
    show (if o' = o ∧ k' = k ∧ j = i then x else σ.2.1 o' k' j) = _
    rw [if_neg (fun z => hk ⟨z.1, z.2.1⟩)]
  have h2 : ∀ (o : Nat) (j : Nat) (cs : List Nat), wx_fl ad (wx_sF σ o k i x) o' j cs = wx_fl ad σ o' j cs := by
    intro o j cs
    induction cs generalizing j with
    | nil => rfl
    | cons c cs ih => simp only [wx_fl, ih]; rfl
  unfold wx_ek
  rw [h1, h2]
  rfl
theorem wx_fl_S {o j : Nat} {x : Int32} {o' : Nat} (h : o' ≠ o) (i : Nat) (cs : List Nat) : wx_fl ad (wx_sS σ o j x) o' i cs = wx_fl ad σ o' i cs := by
  induction cs generalizing i with
  | nil => rfl
  | cons c cs ih =>
    simp only [wx_fl, ih]
    congr 1
    unfold wx_fv
    split
    · rfl
    · split
      · show Value.int (if o' = o ∧ i = j then x else σ.2.2.1 o' i) = _
        rw [if_neg (fun z => h z.1)]
      · rfl
theorem wx_ek_S {o j : Nat} {x : Int32} {o' k' : Nat} (t : Nat × Nat) (h : t.1 = 5 → o' ≠ o) : wx_ek ad rd ca (wx_sS σ o j x) o' k' t = wx_ek ad rd ca σ o' k' t := by
  unfold wx_ek
  by_cases ht : t.1 = 5
  · rw [wx_fl_S (h ht)]; rfl
  · simp only [if_neg ht]; rfl
theorem wx_iast (hx : p.tables.exec = Jvm.exec) (hb : c.code = cc) (hK : wx_K D ca s) (Z : wx_Z D ad rd ca A σ H) (hS : va_S A H0 H locs) {o k n a : Nat} (hsh : wx_sh σ.2.2.2.2 o k = (1, n)) (ha : wx_ad ad rd o k = a) {i x : Int32} (hin : wx_in i n = true) (hdg : decode cc pc = .ok (.iastore, 1))
    {τ : wx_St} (hv : τ = wx_sI σ o k i.toNatClampNeg x) (kk : ∀ (H1 : Heap) (locs1 : List Loc), wx_Z D ad rd ca A τ H1 → va_S A H0 H1 locs1 → W p l e R s m args below meth c H1 locs1 cells slots Q (F0 m (pc + 1) ls rest)) : W p l e R s m args below meth c H locs cells slots Q (F0 m pc ls (.int x :: .int i :: .ref a :: rest)) := by
  subst hv
  subst ha
  have he : wx_ek ad rd ca σ o k (wx_sh σ.2.2.2.2 o k) = some (.inl (ca 0, n, .inl (σ.1 o k))) := by rw [hsh]; rfl
  obtain ⟨q, hq⟩ := wx_ls_at he
  refine va_iast hx hb hK.1 (wx_ls_P Z.1) (wx_ls_D Z.2.1 Z.2.2) hS q 0 hq rfl (wx_in_vp hin) hdg fun H1 locs1 hP hD hS => ?_
  refine kk H1 locs1 (wx_back Z he hq hP rfl ?_ (fun o' k' h => wx_ek_I h _)) hS
  rw [hsh]
  refine congrArg (fun f : Nat → Int32 => (some (Sum.inl (ca 0, n, Sum.inl f)) : Option va_E)) (funext fun j => ?_)
  show (if o = o ∧ k = k ∧ j = i.toNatClampNeg then x else σ.1 o k j) = upd (σ.1 o k) i.toNatClampNeg x j
  simp [upd]
theorem wx_zast (hx : p.tables.exec = Jvm.exec) (hb : c.code = cc) (hK : wx_K D ca s) (Z : wx_Z D ad rd ca A σ H) (hS : va_S A H0 H locs) {o k n a : Nat} (hsh : wx_sh σ.2.2.2.2 o k = (3, n)) (ha : wx_ad ad rd o k = a) {i x : Int32} (hin : wx_in i n = true) (hdg : decode cc pc = .ok (.bastore, 1))
    {τ : wx_St} (hv : τ = wx_sI σ o k i.toNatClampNeg (vp_nar .boolean x)) (kk : ∀ (H1 : Heap) (locs1 : List Loc), wx_Z D ad rd ca A τ H1 → va_S A H0 H1 locs1 → W p l e R s m args below meth c H1 locs1 cells slots Q (F0 m (pc + 1) ls rest)) : W p l e R s m args below meth c H locs cells slots Q (F0 m pc ls (.int x :: .int i :: .ref a :: rest)) := by
  subst hv
  subst ha
  have he : wx_ek ad rd ca σ o k (wx_sh σ.2.2.2.2 o k) = some (.inl (ca 2, n, .inl (σ.1 o k))) := by rw [hsh]; rfl
  obtain ⟨q, hq⟩ := wx_ls_at he
  refine va_zast hx hb hK.1 (wx_ls_P Z.1) (wx_ls_D Z.2.1 Z.2.2) hS q 2 hq rfl (wx_in_vp hin) hdg fun H1 locs1 hP hD hS => ?_
  refine kk H1 locs1 (wx_back Z he hq hP rfl ?_ (fun o' k' h => wx_ek_I h _)) hS
  rw [hsh]
  refine congrArg (fun f : Nat → Int32 => (some (Sum.inl (ca 2, n, Sum.inl f)) : Option va_E)) (funext fun j => ?_)
  show (if o = o ∧ k = k ∧ j = i.toNatClampNeg then vp_nar .boolean x else σ.1 o k j) = upd (σ.1 o k) i.toNatClampNeg (vp_nar .boolean x) j
  simp [upd]
theorem wx_fast (hx : p.tables.exec = Jvm.exec) (hb : c.code = cc) (hK : wx_K D ca s) (Z : wx_Z D ad rd ca A σ H) (hS : va_S A H0 H locs) {o k n a : Nat} (hsh : wx_sh σ.2.2.2.2 o k = (2, n)) (ha : wx_ad ad rd o k = a) {i : Int32} {x : UInt32} (hin : wx_in i n = true) (hdg : decode cc pc = .ok (.fastore, 1))
    {τ : wx_St} (hv : τ = wx_sF σ o k i.toNatClampNeg x) (kk : ∀ (H1 : Heap) (locs1 : List Loc), wx_Z D ad rd ca A τ H1 → va_S A H0 H1 locs1 → W p l e R s m args below meth c H1 locs1 cells slots Q (F0 m (pc + 1) ls rest)) : W p l e R s m args below meth c H locs cells slots Q (F0 m pc ls (.float x :: .int i :: .ref a :: rest)) := by
  subst hv
  subst ha
  have he : wx_ek ad rd ca σ o k (wx_sh σ.2.2.2.2 o k) = some (.inl (ca 1, n, .inr (.inr (.inl (σ.2.1 o k))))) := by rw [hsh]; rfl
  obtain ⟨q, hq⟩ := wx_ls_at he
  refine va_fast hx hb hK.1 (wx_ls_P Z.1) (wx_ls_D Z.2.1 Z.2.2) hS q 1 hq rfl (wx_in_vp hin) hdg fun H1 locs1 hP hD hS => ?_
  refine kk H1 locs1 (wx_back Z he hq hP rfl ?_ (fun o' k' h => wx_ek_F h _)) hS
  rw [hsh]
  refine congrArg (fun f : Nat → UInt32 => (some (Sum.inl (ca 1, n, Sum.inr (Sum.inr (Sum.inl f)))) : Option va_E)) (funext fun j => ?_)
  show (if o = o ∧ k = k ∧ j = i.toNatClampNeg then x else σ.2.1 o k j) = vf_upd (σ.2.1 o k) i.toNatClampNeg x j
  simp [vf_upd]
/-- a board is written into the past's row -/
theorem wx_bast (hx : p.tables.exec = Jvm.exec) (hb : c.code = cc) (hK : wx_K D ca s) (Z : wx_Z D ad rd ca A σ H) (hS : va_S A H0 H locs) {b : Nat} (hbd : b < 11) {i : Int32} (hin : wx_in i 7 = true) (hdg : decode cc pc = .ok (.aastore, 1))
    {τ : wx_St} (hv : τ = wx_sR σ i.toNatClampNeg b) (kk : ∀ (H1 : Heap) (locs1 : List Loc), wx_Z D ad rd ca A τ H1 → va_S A H0 H1 locs1 → W p l e R s m args below meth c H1 locs1 cells slots Q (F0 m (pc + 1) ls rest)) : W p l e R s m args below meth c H locs cells slots Q (F0 m pc ls (.ref (ad b 99) :: .int i :: .ref (ad 14 0) :: rest)) := by
  subst hv
  have hsh : wx_sh σ.2.2.2.2 14 0 = (4, 7) := rfl
  have he : wx_ek ad rd ca σ 14 0 (wx_sh σ.2.2.2.2 14 0) = some (.inl (ca 3, 7, .inr (.inr (.inr (.inr (fun i => some (ad (wx_ro σ 14 i) 99))))))) := by rw [hsh]; rfl
  have hsb : wx_sh σ.2.2.2.2 b 99 = (5, 0) := if_pos hbd
  have heb : wx_ek ad rd ca σ b 99 (wx_sh σ.2.2.2.2 b 99) = some (.inr (0, wx_fl ad σ b 0 (wx_fc 0))) := by rw [hsb]; rfl
  obtain ⟨q, hq⟩ := wx_ls_at he
  obtain ⟨q2, hq2⟩ := wx_ls_at heb
  rw [wx_st (by decide)] at hq hq2
  refine va_astq hx hb hK.1 (wx_ls_P Z.1) (wx_ls_D Z.2.1 Z.2.2) hS q 3 q2 0 (r := (RX0, TX0, 13)) hq rfl hq2 rfl (wx_in_vp hin) hdg fun H1 locs1 hP hD hS => ?_
  refine kk H1 locs1 (wx_back (o := 14) (k := 0) Z he (by rw [wx_st (by decide)]; exact hq) (by rw [wx_st (by decide)]; exact hP) rfl ?_ (fun o' k' h => ?_)) hS
  · rw [hsh]
    refine congrArg (fun f : Nat → Option Nat => (some (Sum.inl (ca 3, 7, Sum.inr (Sum.inr (Sum.inr (Sum.inr f))))) : Option va_E)) (funext fun j => ?_)
    show some (ad (if 14 = 14 then (if j = i.toNatClampNeg then b else σ.2.2.2.1 j) else 9 + j) 99) = va_up (fun j => some (ad (if 14 = 14 then σ.2.2.2.1 j else 9 + j) 99)) i.toNatClampNeg (some (ad b 99)) j
    unfold va_up
    by_cases hj : j = i.toNatClampNeg <;> simp [hj]
  · have hfl : ∀ (j : Nat) (cs : List Nat), wx_fl ad (wx_sR σ i.toNatClampNeg b) o' j cs = wx_fl ad σ o' j cs := by
      intro j cs
      induction cs generalizing j with
      | nil => rfl
      | cons c cs ih => simp only [wx_fl, ih]; rfl
    unfold wx_ek
    rw [hfl]
    by_cases h4 : (wx_sh σ.2.2.2.2 o' k').1 = 4
    · have ho : o' ≠ 14 := by
        intro z
        subst z
        apply h
        refine ⟨rfl, ?_⟩
        by_cases hk : k' = 0
        · exact hk
        · exfalso
          have e1 : wx_sh σ.2.2.2.2 14 k' = if k' = 99 then (5, 3) else (0, 0) := by
            unfold wx_sh wx_sx
            rw [if_neg (by decide), if_neg (fun z => absurd z.2 (by decide))]
            simp [hk]
          rw [e1] at h4
          split at h4 <;> simp at h4
      rw [h4]
      show some (Sum.inl (ca 3, _, Sum.inr (Sum.inr (Sum.inr (Sum.inr (fun j => some (ad (if o' = 14 then _ else 9 + j) 99))))))) = some (Sum.inl (ca 3, _, Sum.inr (Sum.inr (Sum.inr (Sum.inr (fun j => some (ad (if o' = 14 then _ else 9 + j) 99)))))))
      simp only [if_neg ho]
    · simp only [if_neg h4]
      rfl
/-- a copy of ints from one row into another -/
theorem wx_copyi (hx : p.tables.exec = Jvm.exec) (hb : c.code = cc) (hml : c.maxLocals = ls.size) {own : String} {index : Nat} (hown : s.vm.findClass own = some m.cls) (hlink : (Cond.methodLink own index arraycopyName).before args s = true) (hnat : (Cond.native arraycopyName).before args s = true) (hstat : (Cond.static arraycopyName).before args s = true) (hini : (Cond.initialized "java/lang/System").before args s = true)
    (hK : wx_K D ca s) (Z : wx_Z D ad rd ca A σ H) (hS : va_S A H0 H locs) {o k n o' k' n' a a' : Nat} (hsh : wx_sh σ.2.2.2.2 o k = (1, n)) (hsh' : wx_sh σ.2.2.2.2 o' k' = (1, n')) (ha : wx_ad ad rd o k = a) (ha' : wx_ad ad rd o' k' = a')
    {sp dp z : Int32} (h1 : ¬ sp < 0) (h2 : ¬ dp < 0) (h3 : ¬ z < 0) (h4 : sp.toNatClampNeg + z.toNatClampNeg ≤ n) (h5 : dp.toNatClampNeg + z.toNatClampNeg ≤ n')
    (hframes : 1 ≤ R.frames) (hlocals : (rest.map fun v => v.category).sum + (nativeFrameWords "java/lang/System" "arraycopy" 5 + 11) ≤ R.locals) (hdg : decode cc pc = .ok (.invokestatic index, 3))
    {τ : wx_St} (hv : τ = wx_cI σ o k sp.toNatClampNeg o' k' dp.toNatClampNeg z.toNatClampNeg) (kk : ∀ (H1 : Heap) (locs1 : List Loc), wx_Z D ad rd ca A τ H1 → va_S A H0 H1 locs1 → W p l e R s m args below meth c H1 locs1 cells slots Q (F0 m (pc + 3) ls rest)) : W p l e R s m args below meth c H locs cells slots Q (F0 m pc ls (.int z :: .int dp :: .ref a' :: .int sp :: .ref a :: rest)) := by
  subst hv
  subst ha; subst ha'
  have he : wx_ek ad rd ca σ o k (wx_sh σ.2.2.2.2 o k) = some (.inl (ca 0, n, .inl (σ.1 o k))) := by rw [hsh]; rfl
  have he' : wx_ek ad rd ca σ o' k' (wx_sh σ.2.2.2.2 o' k') = some (.inl (ca 0, n', .inl (σ.1 o' k'))) := by rw [hsh']; rfl
  obtain ⟨q, hq⟩ := wx_ls_at he
  obtain ⟨q', hq'⟩ := wx_ls_at he'
  refine va_copyi hx hb hml hown hlink hnat hstat hini hK.1 (wx_ls_P Z.1) (wx_ls_D Z.2.1 Z.2.2) hS q q' 0 0 (ty := .int) hq hq' rfl rfl rfl h1 h2 h3 h4 h5 (fun i hi => rfl) hframes hlocals hdg fun H1 locs1 hP hD hS => ?_
  refine kk H1 locs1 (wx_back Z he' hq' hP rfl ?_ (fun x y h => ?_)) hS
  · rw [hsh']
    refine congrArg (fun f : Nat → Int32 => (some (Sum.inl (ca 0, n', Sum.inl f)) : Option va_E)) (funext fun j => ?_)
    show (if o' = o' ∧ k' = k' then _ else _) = _
    simp
  · have g1 : (wx_cI σ o k sp.toNatClampNeg o' k' dp.toNatClampNeg z.toNatClampNeg).1 x y = σ.1 x y := by
      funext j
      show (if x = o' ∧ y = k' then _ else _) = _
      rw [if_neg h]
    have g2 : ∀ (j : Nat) (cs : List Nat), wx_fl ad (wx_cI σ o k sp.toNatClampNeg o' k' dp.toNatClampNeg z.toNatClampNeg) x j cs = wx_fl ad σ x j cs := by
      intro j cs
      induction cs generalizing j with
      | nil => rfl
      | cons c cs ih => simp only [wx_fl, ih]; rfl
    unfold wx_ek
    rw [g1, g2]
    rfl
theorem wx_copyf (hx : p.tables.exec = Jvm.exec) (hb : c.code = cc) (hml : c.maxLocals = ls.size) {own : String} {index : Nat} (hown : s.vm.findClass own = some m.cls) (hlink : (Cond.methodLink own index arraycopyName).before args s = true) (hnat : (Cond.native arraycopyName).before args s = true) (hstat : (Cond.static arraycopyName).before args s = true) (hini : (Cond.initialized "java/lang/System").before args s = true)
    (hK : wx_K D ca s) (Z : wx_Z D ad rd ca A σ H) (hS : va_S A H0 H locs) {o k n o' k' n' a a' : Nat} (hsh : wx_sh σ.2.2.2.2 o k = (2, n)) (hsh' : wx_sh σ.2.2.2.2 o' k' = (2, n')) (ha : wx_ad ad rd o k = a) (ha' : wx_ad ad rd o' k' = a')
    {sp dp z : Int32} (h1 : ¬ sp < 0) (h2 : ¬ dp < 0) (h3 : ¬ z < 0) (h4 : sp.toNatClampNeg + z.toNatClampNeg ≤ n) (h5 : dp.toNatClampNeg + z.toNatClampNeg ≤ n')
    (hframes : 1 ≤ R.frames) (hlocals : (rest.map fun v => v.category).sum + (nativeFrameWords "java/lang/System" "arraycopy" 5 + 11) ≤ R.locals) (hdg : decode cc pc = .ok (.invokestatic index, 3))
    {τ : wx_St} (hv : τ = wx_cF σ o k sp.toNatClampNeg o' k' dp.toNatClampNeg z.toNatClampNeg) (kk : ∀ (H1 : Heap) (locs1 : List Loc), wx_Z D ad rd ca A τ H1 → va_S A H0 H1 locs1 → W p l e R s m args below meth c H1 locs1 cells slots Q (F0 m (pc + 3) ls rest)) : W p l e R s m args below meth c H locs cells slots Q (F0 m pc ls (.int z :: .int dp :: .ref a' :: .int sp :: .ref a :: rest)) := by
  subst hv
  subst ha; subst ha'
  have he : wx_ek ad rd ca σ o k (wx_sh σ.2.2.2.2 o k) = some (.inl (ca 1, n, .inr (.inr (.inl (σ.2.1 o k))))) := by rw [hsh]; rfl
  have he' : wx_ek ad rd ca σ o' k' (wx_sh σ.2.2.2.2 o' k') = some (.inl (ca 1, n', .inr (.inr (.inl (σ.2.1 o' k'))))) := by rw [hsh']; rfl
  obtain ⟨q, hq⟩ := wx_ls_at he
  obtain ⟨q', hq'⟩ := wx_ls_at he'
  refine va_copyf hx hb hml hown hlink hnat hstat hini hK.1 (wx_ls_P Z.1) (wx_ls_D Z.2.1 Z.2.2) hS q q' 1 1 (ty := .float) hq hq' rfl rfl rfl h1 h2 h3 h4 h5 (fun i hi => rfl) hframes hlocals hdg fun H1 locs1 hP hD hS => ?_
  refine kk H1 locs1 (wx_back Z he' hq' hP rfl ?_ (fun x y h => ?_)) hS
  · rw [hsh']
    refine congrArg (fun f : Nat → UInt32 => (some (Sum.inl (ca 1, n', Sum.inr (Sum.inr (Sum.inl f)))) : Option va_E)) (funext fun j => ?_)
    show (if o' = o' ∧ k' = k' then _ else _) = _
    simp
  · have g1 : (wx_cF σ o k sp.toNatClampNeg o' k' dp.toNatClampNeg z.toNatClampNeg).2.1 x y = σ.2.1 x y := by
      funext j
      show (if x = o' ∧ y = k' then _ else _) = _
      rw [if_neg h]
    have g2 : ∀ (j : Nat) (cs : List Nat), wx_fl ad (wx_cF σ o k sp.toNatClampNeg o' k' dp.toNatClampNeg z.toNatClampNeg) x j cs = wx_fl ad σ x j cs := by
      intro j cs
      induction cs generalizing j with
      | nil => rfl
      | cons c cs ih => simp only [wx_fl, ih]; rfl
    unfold wx_ek
    rw [g1, g2]
    rfl
/-- a nest mate's link: the word's place in wx_nest -/
theorem wx_nst (hC : wx_C D ad ca A s s.heap) (i : Nat) {w : Cond} (h : wx_nest[i]? = some w) (ho : w.onTables = true) : w.before args s = true := va_Nw.use ho (hC.1.2.1 w (List.mem_of_getElem? h))
theorem wx_get (hx : p.tables.exec = Jvm.exec) (hb : c.code = cc) {own ref C : String} {T : u_T} {N ci index : Nat} {Ts : List Cond} (hts : ∀ w ∈ Ts, w.before args s = true) (hin : ∀ w ∈ u_ws C T N, w ∈ Ts) (hown : s.vm.findClass own = some m.cls) (hK : wx_K D ca s) (Z : wx_Z D ad rd ca A σ H) {o : Nat} (hsh : wx_sh σ.2.2.2.2 o 99 = (5, ci)) (hc : vwCl[ci]? = some (C, T, N)) (k : Nat) (hk : k < N) (hlink : (Cond.fieldLink own index ref (T k).2.1 (T k).2.2.1).before args s = true) (hsame : ∀ x, s.fieldFound? (T k).1 (T k).2.1 (T k).2.2.1 = some x → s.fieldFound? ref (T k).2.1 (T k).2.2.1 = some x) {f : Nat} (hf : (wx_fc ci)[k]? = some f) {v : Value} (hv : wx_fv ad σ o k f = v) (hdg : decode cc pc = .ok (.getfield index, 3))
    (kk : W p l e R s m args below meth c H locs cells slots Q (F0 m (pc + 3) ls (v :: rest))) : W p l e R s m args below meth c H locs cells slots Q (F0 m pc ls (.ref (ad o 99) :: rest)) := by
  have h1 := wx_single (Z.1 o 99 (.inr (ci, wx_fl ad σ o 0 (wx_fc ci))) (by rw [hsh]; rfl))
  rw [wx_st (by decide)] at h1
  refine va_get hx hb hts hin hown hK.1 h1 0 rfl hc k hk hlink hsame (v := v) ?_ hdg kk
  rw [wx_fl_get, hf, ← hv, Nat.zero_add]
  rfl
theorem wx_getN (hx : p.tables.exec = Jvm.exec) (hb : c.code = cc) {own ref C host : String} {T : u_T} {N ci index : Nat} {Ts : List Cond} (hts : ∀ w ∈ Ts, w.before args s = true) (hin : ∀ w ∈ u_ws C T N, w ∈ Ts) (hown : s.vm.findClass own = some m.cls) (hK : wx_K D ca s) (Z : wx_Z D ad rd ca A σ H) {o : Nat} (hsh : wx_sh σ.2.2.2.2 o 99 = (5, ci)) (hc : vwCl[ci]? = some (C, T, N)) (k : Nat) (hk : k < N) (hlink : (Cond.fieldLinkNest own index ref (T k).2.1 (T k).2.2.1 host).before args s = true) (hsame : ∀ x, s.fieldFound? (T k).1 (T k).2.1 (T k).2.2.1 = some x → s.fieldFound? ref (T k).2.1 (T k).2.2.1 = some x) {f : Nat} (hf : (wx_fc ci)[k]? = some f) {v : Value} (hv : wx_fv ad σ o k f = v) (hdg : decode cc pc = .ok (.getfield index, 3))
    (kk : W p l e R s m args below meth c H locs cells slots Q (F0 m (pc + 3) ls (v :: rest))) : W p l e R s m args below meth c H locs cells slots Q (F0 m pc ls (.ref (ad o 99) :: rest)) := by
  have h1 := wx_single (Z.1 o 99 (.inr (ci, wx_fl ad σ o 0 (wx_fc ci))) (by rw [hsh]; rfl))
  rw [wx_st (by decide)] at h1
  refine va_getN hx hb hts hin hown hK.1 h1 0 rfl hc k hk hlink hsame (v := v) ?_ hdg kk
  rw [wx_fl_get, hf, ← hv, Nat.zero_add]
  rfl
theorem wx_fl_set {o j : Nat} {x : Int32} : ∀ (cs : List Nat) (i : Nat), i ≤ j → cs[j - i]? = some 1 → wx_fl ad (wx_sS σ o j x) o i cs = (wx_fl ad σ o i cs).set (j - i) (.int x) := by
  have hi : ∀ (cs : List Nat) (i : Nat), j < i → wx_fl ad (wx_sS σ o j x) o i cs = wx_fl ad σ o i cs := by
    intro cs
    induction cs with
    | nil => intro i _; rfl
    | cons c cs ih =>
      intro i h
      simp only [wx_fl, ih (i + 1) (by omega)]
      congr 1
      unfold wx_fv
      split
      · rfl
      · split
        · show Value.int (if o = o ∧ i = j then x else σ.2.2.1 o i) = _
          rw [if_neg (fun z => by omega)]
        · rfl
  intro cs
  induction cs with
  | nil => intro i _ h; simp at h
  | cons c cs ih =>
    intro i hij h
    by_cases he : i = j
    · subst he
      rw [Nat.sub_self] at h ⊢
      cases h
      simp only [wx_fl, List.set_cons_zero, hi cs (i + 1) (by omega)]
      congr 1
      show (if 1 = 0 then _ else if 1 = 1 then Value.int (if o = o ∧ i = i then x else _) else _) = _
      simp
    · obtain ⟨d, hd⟩ : ∃ d, j - i = d + 1 := ⟨j - i - 1, by omega⟩
      rw [hd] at h ⊢
      rw [List.getElem?_cons_succ] at h
      simp only [wx_fl, List.set_cons_succ]
      rw [ih (i + 1) (by omega) (by rw [show j - (i + 1) = d by omega]; exact h), show j - (i + 1) = d by omega]
      congr 1
      unfold wx_fv
      split
      · rfl
      · split
        · show Value.int (if o = o ∧ i = j then x else σ.2.2.1 o i) = _
          rw [if_neg (fun z => he z.2)]
        · rfl
theorem wx_sb5 : ∀ k : Nat, k < 164 → (wx_sb k).1 = 5 → k = 99 := by decide +kernel
theorem wx_sx5 : ∀ o : Nat, o < 17 → ∀ k : Nat, k < 164 → (wx_sx o k).1 = 5 → k = 99 := by decide +kernel
theorem wx_sh5 {al : Nat → Bool} {o k : Nat} (h : (wx_sh al o k).1 = 5) : k = 99 := by
  have hl := wx_sh_lt (al := al) (o := o) (k := k) (by rw [h]; decide)
  unfold wx_sh at h
  split at h
  · exact wx_sb5 k hl.2 h
  · split at h
    · split at h <;> exact absurd h (by decide)
    · exact wx_sx5 o hl.1 k hl.2 h
theorem wx_sb6 : ∀ k : Nat, k < 164 → (wx_sb k).1 ≤ 6 ∧ (wx_sb k).1 ≠ 6 := by decide +kernel
theorem wx_sx6 : ∀ o : Nat, o < 17 → ∀ k : Nat, k < 164 → (wx_sx o k).1 ≤ 6 ∧ ((wx_sx o k).1 = 6 → o = 13 ∧ k = 1) := by decide +kernel
theorem wx_sh_le {al : Nat → Bool} {o k : Nat} : (wx_sh al o k).1 ≤ 6 := by
  by_cases h0 : (wx_sh al o k).1 ≠ 0
  · have hl := wx_sh_lt h0
    unfold wx_sh
    split
    · exact (wx_sb6 k hl.2).1
    · split
      · split <;> exact by decide
      · exact (wx_sx6 o hl.1 k hl.2).1
  · omega
theorem wx_sh6 {al : Nat → Bool} {o k : Nat} (h : (wx_sh al o k).1 = 6) : o = 13 ∧ k = 1 := by
  have hl := wx_sh_lt (al := al) (o := o) (k := k) (by rw [h]; decide)
  unfold wx_sh at h
  split at h
  · exact absurd h (wx_sb6 k hl.2).2
  · split at h
    · split at h <;> exact absurd h (by decide)
    · exact (wx_sx6 o hl.1 k hl.2).2 h
theorem wx_putS (Z : wx_Z D ad rd ca A σ H) {o ci j : Nat} {x : Int32} (hsh : wx_sh σ.2.2.2.2 o 99 = (5, ci)) (hf : (wx_fc ci)[j]? = some 1) {q : Nat} (hq : (wx_ls ad rd ca σ)[q]? = some (ad o 99, .inr (ci, wx_fl ad σ o 0 (wx_fc ci)))) {H1 : Heap}
    (hP : va_P D vwCl ((wx_ls ad rd ca σ).set q (ad o 99, .inr (ci, (wx_fl ad σ o 0 (wx_fc ci)).set j (.int x)))) H1) : wx_Z D ad rd ca A (wx_sS σ o j x) H1 := by
  have he : wx_ek ad rd ca σ o 99 (wx_sh σ.2.2.2.2 o 99) = some (.inr (ci, wx_fl ad σ o 0 (wx_fc ci))) := by rw [hsh]; rfl
  have hst : wx_ad ad rd o 99 = ad o 99 := wx_st (by decide)
  refine wx_back (o := o) (k := 99) (p := q) Z he (by rw [hst]; exact hq) (by rw [hst]; exact hP) rfl ?_ (fun o' k' h => wx_ek_S _ (fun h5 => ?_))
  · rw [hsh]
    show some (Sum.inr (ci, wx_fl ad (wx_sS σ o j x) o 0 (wx_fc ci))) = _
    rw [wx_fl_set (wx_fc ci) 0 (Nat.zero_le _) (by rw [Nat.sub_zero]; exact hf), Nat.sub_zero]
  · intro z
    subst z
    apply h
    refine ⟨rfl, ?_⟩
    exact wx_sh5 h5
theorem wx_put (hx : p.tables.exec = Jvm.exec) (hb : c.code = cc) {own ref C : String} {T : u_T} {N ci index : Nat} {Ts : List Cond} (hts : ∀ w ∈ Ts, w.before args s = true) (hin : ∀ w ∈ u_ws C T N, w ∈ Ts) (ty0 : Nat → FieldType) (hty : ∀ k, k < N → parseFieldDescriptor (T k).2.2.1 = some (ty0 k)) (hnm : ∀ a, a < N → ∀ b, b < N → a ≠ b → (T a).2.1 ≠ (T b).2.1) (hown : s.vm.findClass own = some m.cls) (hK : wx_K D ca s) (Z : wx_Z D ad rd ca A σ H) (hS : va_S A H0 H locs) {o : Nat} (hsh : wx_sh σ.2.2.2.2 o 99 = (5, ci)) (hc : vwCl[ci]? = some (C, T, N)) (k : Nat) (hk : k < N) (hlink : (Cond.fieldLink own index ref (T k).2.1 (T k).2.2.1).before args s = true) (hsame : ∀ x, s.fieldFound? (T k).1 (T k).2.1 (T k).2.2.1 = some x → s.fieldFound? ref (T k).2.1 (T k).2.2.1 = some x) (hfin : (T k).2.2.2 = false) {x : Int32} (hd : parseFieldDescriptor (T k).2.2.1 = some .int) (hf : (wx_fc ci)[k]? = some 1)
    (hdg : decode cc pc = .ok (.putfield index, 3)) {τ : wx_St} (hv : τ = wx_sS σ o k x) (kk : ∀ (H1 : Heap) (locs1 : List Loc), wx_Z D ad rd ca A τ H1 → va_S A H0 H1 locs1 → W p l e R s m args below meth c H1 locs1 cells slots Q (F0 m (pc + 3) ls rest)) : W p l e R s m args below meth c H locs cells slots Q (F0 m pc ls (.int x :: .ref (ad o 99) :: rest)) := by
  subst hv
  have he : wx_ek ad rd ca σ o 99 (wx_sh σ.2.2.2.2 o 99) = some (.inr (ci, wx_fl ad σ o 0 (wx_fc ci))) := by rw [hsh]; rfl
  obtain ⟨q, hq⟩ := wx_ls_at he
  rw [wx_st (by decide)] at hq
  refine va_put hx hb hts hin ty0 hty hnm hown hK.1 (wx_ls_P Z.1) (wx_ls_D Z.2.1 Z.2.2) hS q hq hc k hk hlink hsame hfin (v := .int x) hd rfl rfl (by rw [wx_fl_len]; exact (List.getElem?_eq_some_iff.mp hf).1) hdg fun H1 locs1 hP hD hS => ?_
  exact kk H1 locs1 (wx_putS Z hsh hf hq hP) hS
theorem wx_putN (hx : p.tables.exec = Jvm.exec) (hb : c.code = cc) {own ref C host : String} {T : u_T} {N ci index : Nat} {Ts : List Cond} (hts : ∀ w ∈ Ts, w.before args s = true) (hin : ∀ w ∈ u_ws C T N, w ∈ Ts) (ty0 : Nat → FieldType) (hty : ∀ k, k < N → parseFieldDescriptor (T k).2.2.1 = some (ty0 k)) (hnm : ∀ a, a < N → ∀ b, b < N → a ≠ b → (T a).2.1 ≠ (T b).2.1) (hown : s.vm.findClass own = some m.cls) (hK : wx_K D ca s) (Z : wx_Z D ad rd ca A σ H) (hS : va_S A H0 H locs) {o : Nat} (hsh : wx_sh σ.2.2.2.2 o 99 = (5, ci)) (hc : vwCl[ci]? = some (C, T, N)) (k : Nat) (hk : k < N) (hlink : (Cond.fieldLinkNest own index ref (T k).2.1 (T k).2.2.1 host).before args s = true) (hsame : ∀ x, s.fieldFound? (T k).1 (T k).2.1 (T k).2.2.1 = some x → s.fieldFound? ref (T k).2.1 (T k).2.2.1 = some x) (hfin : (T k).2.2.2 = false) {x : Int32} (hd : parseFieldDescriptor (T k).2.2.1 = some .int) (hf : (wx_fc ci)[k]? = some 1)
    (hdg : decode cc pc = .ok (.putfield index, 3)) {τ : wx_St} (hv : τ = wx_sS σ o k x) (kk : ∀ (H1 : Heap) (locs1 : List Loc), wx_Z D ad rd ca A τ H1 → va_S A H0 H1 locs1 → W p l e R s m args below meth c H1 locs1 cells slots Q (F0 m (pc + 3) ls rest)) : W p l e R s m args below meth c H locs cells slots Q (F0 m pc ls (.int x :: .ref (ad o 99) :: rest)) := by
  subst hv
  have he : wx_ek ad rd ca σ o 99 (wx_sh σ.2.2.2.2 o 99) = some (.inr (ci, wx_fl ad σ o 0 (wx_fc ci))) := by rw [hsh]; rfl
  obtain ⟨q, hq⟩ := wx_ls_at he
  rw [wx_st (by decide)] at hq
  refine va_putN hx hb hts hin ty0 hty hnm hown hK.1 (wx_ls_P Z.1) (wx_ls_D Z.2.1 Z.2.2) hS q hq hc k hk hlink hsame hfin (v := .int x) hd rfl rfl (by rw [wx_fl_len]; exact (List.getElem?_eq_some_iff.mp hf).1) hdg fun H1 locs1 hP hD hS => ?_
  exact kk H1 locs1 (wx_putS Z hsh hf hq hP) hS
theorem wx_fadd (hx : p.tables.exec = Jvm.exec) (hb : c.code = cc) {x y z : UInt32} (hdg : decode cc pc = .ok (.fadd, 1)) (hz : z = FP.fadd x y) (hne : vf_n32 (FP.fadd x y)) (kk : W p l e R s m args below meth c H locs cells slots Q (F0 m (pc + 1) ls (.float z :: rest))) : W p l e R s m args below meth c H locs cells slots Q (F0 m pc ls (.float y :: .float x :: rest)) := by
  subst hz; exact lv_fadd hx hb hdg hne kk
theorem wx_fsub (hx : p.tables.exec = Jvm.exec) (hb : c.code = cc) {x y z : UInt32} (hdg : decode cc pc = .ok (.fsub, 1)) (hz : z = FP.fsub x y) (hne : vf_n32 (FP.fsub x y)) (kk : W p l e R s m args below meth c H locs cells slots Q (F0 m (pc + 1) ls (.float z :: rest))) : W p l e R s m args below meth c H locs cells slots Q (F0 m pc ls (.float y :: .float x :: rest)) := by
  subst hz; exact lv_fsub hx hb hdg hne kk
theorem wx_fmul (hx : p.tables.exec = Jvm.exec) (hb : c.code = cc) {x y z : UInt32} (hdg : decode cc pc = .ok (.fmul, 1)) (hz : z = FP.fmul x y) (hne : vf_n32 (FP.fmul x y)) (kk : W p l e R s m args below meth c H locs cells slots Q (F0 m (pc + 1) ls (.float z :: rest))) : W p l e R s m args below meth c H locs cells slots Q (F0 m pc ls (.float y :: .float x :: rest)) := by
  subst hz; exact lv_fmul hx hb hdg hne kk
theorem wx_fdiv (hx : p.tables.exec = Jvm.exec) (hb : c.code = cc) {x y z : UInt32} (hdg : decode cc pc = .ok (.fdiv, 1)) (hz : z = FP.fdiv x y) (hne : vf_n32 (FP.fdiv x y)) (kk : W p l e R s m args below meth c H locs cells slots Q (F0 m (pc + 1) ls (.float z :: rest))) : W p l e R s m args below meth c H locs cells slots Q (F0 m pc ls (.float y :: .float x :: rest)) := by
  subst hz; exact lv_fdiv hx hb hdg hne kk
theorem wx_f2d (hx : p.tables.exec = Jvm.exec) (hb : c.code = cc) {x : UInt32} {z : UInt64} (hdg : decode cc pc = .ok (.f2d, 1)) (hz : z = FP.f2d x) (hne : vf_n64 (FP.f2d x)) (kk : W p l e R s m args below meth c H locs cells slots Q (F0 m (pc + 1) ls (.double z :: rest))) : W p l e R s m args below meth c H locs cells slots Q (F0 m pc ls (.float x :: rest)) := by
  subst hz; exact lv_f2d hx hb hdg hne kk
theorem wx_dadd (hx : p.tables.exec = Jvm.exec) (hb : c.code = cc) {x y z : UInt64} (hdg : decode cc pc = .ok (.dadd, 1)) (hz : z = FP.dadd x y) (hne : vf_n64 (FP.dadd x y)) (kk : W p l e R s m args below meth c H locs cells slots Q (F0 m (pc + 1) ls (.double z :: rest))) : W p l e R s m args below meth c H locs cells slots Q (F0 m pc ls (.double y :: .double x :: rest)) := by
  subst hz; exact lv_dadd hx hb hdg hne kk
theorem wx_dmul (hx : p.tables.exec = Jvm.exec) (hb : c.code = cc) {x y z : UInt64} (hdg : decode cc pc = .ok (.dmul, 1)) (hz : z = FP.dmul x y) (hne : vf_n64 (FP.dmul x y)) (kk : W p l e R s m args below meth c H locs cells slots Q (F0 m (pc + 1) ls (.double z :: rest))) : W p l e R s m args below meth c H locs cells slots Q (F0 m pc ls (.double y :: .double x :: rest)) := by
  subst hz; exact lv_dmul hx hb hdg hne kk
theorem wx_ddiv (hx : p.tables.exec = Jvm.exec) (hb : c.code = cc) {x y z : UInt64} (hdg : decode cc pc = .ok (.ddiv, 1)) (hz : z = FP.ddiv x y) (hne : vf_n64 (FP.ddiv x y)) (kk : W p l e R s m args below meth c H locs cells slots Q (F0 m (pc + 1) ls (.double z :: rest))) : W p l e R s m args below meth c H locs cells slots Q (F0 m pc ls (.double y :: .double x :: rest)) := by
  subst hz; exact lv_ddiv hx hb hdg hne kk
theorem wx_ldcwF (hx : p.tables.exec = Jvm.exec) (hb : c.code = cc) {own : String} {index : Nat} {v : UInt32} (hown : s.vm.findClass own = some m.cls) (hconst : (Cond.constantFloat own index v).before args s = true) (hdg : decode cc pc = .ok (.ldc_w index, 3)) (kk : W p l e R s m args below meth c H locs cells slots Q (F0 m (pc + 3) ls (.float v :: rest))) : W p l e R s m args below meth c H locs cells slots Q (F0 m pc ls rest) := by
  obtain ⟨kc, cf, hk, hcf, hcp⟩ := Cond.constantFloat_spec hown hconst
  have hdg2 : decode c.code pc = .ok (.ldc_w index, 3) := by rw [hb]; exact hdg
  intro T hT X
  obtain ⟨t, a, b⟩ := kk T hT X
  obtain ⟨k', hk', he⟩ := X.warmed.alike.2.2 _ _ hk
  refine ⟨t, ?_, b⟩
  jvm_step X.here [hx, hdg2, ldc_w.wp_float (s := T) (f := F0 m pc ls rest) X.here.top hk' (by rw [he]; exact hcf) hcp]
  exact a
theorem wx_nb {x : Int32} (h : x = 0 ∨ x = 1) : narrow .boolean (.int x) = .int x := by rcases h with rfl | rfl <;> rfl
/-! calls -/
theorem wx_blind {vs : List Value} : FrameBlind (va_Pc vs (wx_U D ad rd ca A σ)) := by
  intro a U g mk h
  obtain ⟨h1, h2, h3, h4⟩ := h
  exact ⟨h1, wx_C.same (u := U) (U := U.calling g mk a) rfl rfl h2, h3, h4⟩
theorem wx_preS {As : List Value} (hC : wx_C D ad ca A s s.heap) (Z : wx_Z D ad rd ca A σ H) (hS : va_S A s.heap H locs) (hA : ∀ q : Nat, s.heap.size ≤ q → A q) : PreS s H (va_Pc As (wx_U D ad rd ca A σ)) As :=
  ⟨wx_blind, fun U hU hW => ⟨rfl, wx_C.next hC hS hU hW, by rw [hU]; exact Z, fun q hq => hA q (Nat.le_trans hS.1 (by rw [← hU]; exact hq))⟩⟩
theorem wx_preV {As : List Value} (hC : wx_C D ad ca A s s.heap) (Z : wx_Z D ad rd ca A σ H) (hS : va_S A s.heap H locs) (hA : ∀ q : Nat, s.heap.size ≤ q → A q) {o ci N : Nat} {C : String} {T : u_T} (hsh : wx_sh σ.2.2.2.2 o 99 = (5, ci)) (hc : vwCl[ci]? = some (C, T, N)) : PreV s H C (ad o 99) (va_Pc (.ref (ad o 99) :: As) (wx_U D ad rd ca A σ)) As := by
  have h1 := wx_single (Z.1 o 99 (.inr (ci, wx_fl ad σ o 0 (wx_fc ci))) (by rw [hsh]; rfl))
  rw [wx_st (by decide)] at h1
  exact ⟨wx_blind, va_recv hC.1.1 h1 hc (q0 := 0) rfl, (wx_preS hC Z hS hA).2⟩
variable {mc ms : Nat} {st0 : List Value} {a : Array Value} {ov : Option Value} {σ' : wx_St}
theorem wx_call (hr : va_Run p l e R s m args below meth c H locs cells slots 0 0 (F0 m pc ls st0) rest (wx_Q D ad rd ca A ov σ' a) A) (hS : va_S A H0 H locs)
    (kk : ∀ (H1 : Heap) (locs1 : List Loc), wx_Z D ad rd ca A σ' H1 → va_S A H0 H1 locs1 → W p l e R s m args below meth c H1 locs1 cells slots Q (F0 m (pc + 3) ls (ov.toList ++ rest))) : W p l e R s m args below meth c H locs cells slots Q (F0 m pc ls st0) := by
  intro T hT X
  obtain ⟨v, st₀, t, T', L, h0, X', hL, e1, e2, ⟨hv, hZ, hz, hk⟩, st⟩ := hr T hT X
  cases hv
  rw [h0] at hz hk
  obtain ⟨t2, a1, b1⟩ := kk T'.heap (locs ++ L) (by rw [e1]; exact hZ)
    ⟨Nat.le_trans hS.1 (by rw [e1]; exact hz), fun q h1 h2 => by rw [e1, hk q (Nat.lt_of_lt_of_le h1 hS.1) h2]; exact hS.2.1 q h1 h2, fun q hq => by
      rcases List.mem_append.mp hq with h | h
      · exact hS.2.2 q h
      · exact hL q h⟩ T' rfl X'
  exact ⟨t2, st t2 a1, b1⟩
end wxrows
/-- what holds in a method's body -/
def wx_B (p : Program) (s : State) (m : MethodId) (args : Array Value) (meth : Method) (c : Code) (cc : ByteArray) (nL : Nat) (rt : Option FieldType) (Ts : List Cond) (own : String) (D : va_G) (ad : Nat → Nat → Nat) (ca : Nat → ClassId) (A : Nat → Prop) : Prop :=
  p.tables.exec = Jvm.exec ∧ c.code = cc ∧ c.maxLocals = nL ∧ meth.sig.returnType = rt ∧ (∀ w ∈ Ts, w.before args s = true) ∧ s.vm.findClass own = some m.cls ∧ meth.locks = false ∧ wx_C D ad ca A s s.heap ∧ (∀ q : Nat, s.heap.size ≤ q → A q)
/-! rows that lone makes: how many there are, and what making one does -/
/-- the last forty count the rows that a comparison made -/
def wx_n (al : Nat → Bool) : Nat := (List.range 104).countP al
def wx_rA {α : Type} (σ : wx_St) (i : Int32) (f : Bool → Option α) : Option α := if wx_in i 64 = true then f (σ.2.2.2.2 i.toNatClampNeg) else none
theorem wx_rA_ok {α : Type} {σ : wx_St} {i : Int32} {f : Bool → Option α} {r : α} (h : wx_rA σ i f = some r) : ∃ v : Bool, v = σ.2.2.2.2 i.toNatClampNeg ∧ wx_in i 64 = true ∧ f v = some r := by
  unfold wx_rA at h; split at h
  · exact ⟨_, rfl, by assumption, h⟩
  · exact absurd h (by simp)
theorem wx_in_lt {i : Int32} {n : Nat} (h : wx_in i n = true) : i.toNatClampNeg < n := by
  have h1 := wx_in_vp h
  exact Nat.not_le.mp (fun q => h1 (Or.inr q))
theorem wx_countP_add {al al' : Nat → Bool} {j : Nat} (h0 : ¬ al j = true) (h1 : al' j = true) (ho : ∀ i, i ≠ j → al' i = al i) : ∀ n : Nat, (List.range n).countP al' = (List.range n).countP al + (if j < n then 1 else 0) := by
  intro n
  induction n with
  | zero => rfl
  | succ n ih =>
    rw [List.range_succ, List.countP_append, List.countP_append, ih, List.countP_singleton, List.countP_singleton]
    by_cases hj : j = n
    · subst hj
      simp [h0, h1]
    · rw [ho n (fun z => hj z.symm)]
      by_cases hl : j < n
      · rw [if_pos hl, if_pos (show j < n + 1 by omega)]; omega
      · rw [if_neg hl, if_neg (show ¬ j < n + 1 by omega)]; omega
theorem wx_nA {σ σ' : wx_St} {i : Int32} (hin : wx_in i 64 = true) (h : ¬ σ.2.2.2.2 i.toNatClampNeg = true) (e : σ' = wx_sA σ i.toNatClampNeg) : wx_n σ'.2.2.2.2 = wx_n σ.2.2.2.2 + 1 := by
  subst e
  unfold wx_n
  rw [wx_countP_add (al := σ.2.2.2.2) h (by show (if i.toNatClampNeg = i.toNatClampNeg then true else _) = true; rw [if_pos rfl]) (fun k hk => by show (if k = i.toNatClampNeg then true else _) = _; rw [if_neg hk]) 104, if_pos (Nat.lt_trans (wx_in_lt hin) (by decide))]
theorem wx_shr {al : Nat → Bool} {j : Nat} (h : al j = true) (hj : j < 64) : wx_sh al 13 (100 + j) = (2, 6464) := by
  unfold wx_sh
  rw [if_neg (by decide), if_pos ⟨by omega, rfl⟩, if_pos ⟨by omega, by rw [show 100 + j - 100 = j by omega]; exact h⟩]
theorem wx_adr {ad : Nat → Nat → Nat} {rd : Nat → Nat} {j : Nat} : wx_ad ad rd 13 (100 + j) = rd j := by
  unfold wx_ad
  rw [if_pos ⟨by omega, rfl⟩, show 100 + j - 100 = j by omega]
section wxalloc
variable {p : Program} {l : Launch} {e : Env} {R : Room} {s : State} {m : MethodId} {args : Array Value} {below : List Frame} {meth : Method} {c : Code} {H : Heap} {locs : List Loc} {cells slots : Nat} {Q : State → Prop}
variable {cc : ByteArray} {pc : Nat} {ls : Array Slot} {rest : List Value} {D : va_G} {ad : Nat → Nat → Nat} {rd : Nat → Nat} {ca : Nat → ClassId} {A : Nat → Prop} {σ : wx_St} {H0 : Heap}
theorem wx_rald (hx : p.tables.exec = Jvm.exec) (hb : c.code = cc) (hK : wx_K D ca s) (Z : wx_Z D ad rd ca A σ H) {i : Int32} (hin : wx_in i 64 = true) (hdg : decode cc pc = .ok (.aaload, 1))
    (kk : W p l e R s m args below meth c H locs cells slots Q (F0 m (pc + 1) ls (va_rf (if σ.2.2.2.2 i.toNatClampNeg = true then some (rd i.toNatClampNeg) else none) :: rest))) : W p l e R s m args below meth c H locs cells slots Q (F0 m pc ls (.int i :: .ref (ad 13 1) :: rest)) := by
  have hv := wx_in_vp hin
  have hlt := wx_in_lt hin
  have hc : H[ad 13 1]? = some (arrV (ca 4) 64 (fun j => va_rf (if σ.2.2.2.2 j = true then some (rd j) else none))) := Z.1 13 1 (.inl (ca 4, 64, .inr (.inr (.inr (.inr (fun i => if σ.2.2.2.2 i = true then some (rd i) else none)))))) rfl
  exact W.aald (v := va_rf (if σ.2.2.2.2 i.toNatClampNeg = true then some (rd i.toNatClampNeg) else none)) (ty := .array .float) hx hb hc ((hK.1.2 4 _ rfl).1 64 (fun j => va_rf (if σ.2.2.2.2 j = true then some (rd j) else none))) rfl (fun q => by cases q) (by show ¬ (i < 0 ∨ (arrV _ _ _).slots.size ≤ _); rw [arrV_size]; exact hv) (by show (arrV _ _ _).slots[_]? = _; rw [arrV_read _ _ hlt]) rfl rfl hdg kk
theorem wx_rald1 (hx : p.tables.exec = Jvm.exec) (hb : c.code = cc) (hK : wx_K D ca s) (Z : wx_Z D ad rd ca A σ H) {i : Int32} (hin : wx_in i 64 = true) (hal : σ.2.2.2.2 i.toNatClampNeg = true) (hdg : decode cc pc = .ok (.aaload, 1))
    (kk : W p l e R s m args below meth c H locs cells slots Q (F0 m (pc + 1) ls (.ref (wx_ad ad rd 13 (100 + i.toNatClampNeg)) :: rest))) : W p l e R s m args below meth c H locs cells slots Q (F0 m pc ls (.int i :: .ref (ad 13 1) :: rest)) := by
  refine wx_rald hx hb hK Z hin hdg ?_
  rw [if_pos hal]
  rw [wx_adr] at kk
  exact kk
theorem wx_rald0 (hx : p.tables.exec = Jvm.exec) (hb : c.code = cc) (hK : wx_K D ca s) (Z : wx_Z D ad rd ca A σ H) {i : Int32} (hin : wx_in i 64 = true) (hal : ¬ σ.2.2.2.2 i.toNatClampNeg = true) (hdg : decode cc pc = .ok (.aaload, 1))
    (kk : W p l e R s m args below meth c H locs cells slots Q (F0 m (pc + 1) ls (.null :: rest))) : W p l e R s m args below meth c H locs cells slots Q (F0 m pc ls (.int i :: .ref (ad 13 1) :: rest)) := by
  refine wx_rald hx hb hK Z hin hdg ?_
  rw [if_neg hal]
  exact kk
/-- new float[6464], stored in lone's row of rows -/
theorem wx_newrow (hx : p.tables.exec = Jvm.exec) (hb : c.code = cc) (hK : wx_K D ca s) (Z : wx_Z D ad rd ca A σ H) (hS : va_S A H0 H locs) (hA : ∀ q : Nat, H0.size ≤ q → A q) (hw : (Cond.arrayClass .float).before args s = true) {i : Int32} (hin : wx_in i 64 = true) (hal : ¬ σ.2.2.2.2 i.toNatClampNeg = true) (hcells : cells + 1 ≤ R.cells) (hslots : slots + 6464 ≤ R.slots)
    (hdg : decode cc pc = .ok (.newarray .float, 2)) (hdg2 : decode cc (pc + 2) = .ok (.aastore, 1)) {τ : wx_St} (hv : τ = wx_sA σ i.toNatClampNeg)
    (kk : ∀ (rd' : Nat → Nat) (H1 : Heap) (locs1 : List Loc), wx_Z D ad rd' ca A τ H1 → va_S A H0 H1 locs1 → W p l e R s m args below meth c H1 locs1 (cells + 1) (slots + 6464) Q (F0 m (pc + 3) ls rest)) : W p l e R s m args below meth c H locs cells slots Q (F0 m pc ls (.int 6464 :: .int i :: .ref (ad 13 1) :: rest)) := by
  subst hv
  have hv := wx_in_vp hin
  have hlt := wx_in_lt hin
  generalize hj : i.toNatClampNeg = j at *
  have hc : H[ad 13 1]? = some (arrV (ca 4) 64 (fun j => va_rf (if σ.2.2.2.2 j = true then some (rd j) else none))) := Z.1 13 1 (.inl (ca 4, 64, .inr (.inr (.inr (.inr (fun i => if σ.2.2.2.2 i = true then some (rd i) else none)))))) rfl
  have hcl : ad 13 1 < H.size := (Array.getElem?_eq_some_iff.mp hc).1
  refine va_newaK (atype := .float) hx hb hw rfl hdg (n := 6464) (N := 6464) rfl (by decide) (by decide) (by decide) hcells hslots rfl fun H1 cA e1 z1 o1 hAr hNm => ?_
  have hcA : cA = ca 1 := Option.some.inj (hNm.symm.trans ((hK.1.2 1 _ rfl).2))
  subst hcA
  obtain ⟨kF, hkF, hkind⟩ := hK.2.2
  obtain ⟨-, kA, hkA, -⟩ := (hK.1.2 1 _ rfl).1 6464 (fun _ => .float 0)
  refine W.aast hx hb (a := ad 13 1) (v := H.size) (by rw [o1 _ hcl]; exact hc) (fun q h => by cases h) (fun h => by cases h) hkF hkind rfl hkA ⟨fun q => hv (Or.inl q), by show _ < (arrV _ _ _).slots.size; rw [arrV_size, hj]; exact hlt⟩ e1 (fun q h => by cases h) hkA (by show s.vm.assignableAux (255 + 1) (ca 1) (ca 1) = true; rw [Vm.assignableAux]; simp) rfl rfl hdg2 fun H2 e2 z2 oq => ?_
  have hne : ∀ o k : Nat, (wx_sh σ.2.2.2.2 o k).1 ≠ 0 → wx_ad ad rd o k < H.size := by
    intro o k h
    have hex : ∃ e', wx_ek ad rd ca σ o k (wx_sh σ.2.2.2.2 o k) = some e' := by
      have hkd : (wx_sh σ.2.2.2.2 o k).1 ≤ 6 := wx_sh_le
      unfold wx_ek
      split
      · exact ⟨_, rfl⟩
      · split
        · exact ⟨_, rfl⟩
        · split
          · exact ⟨_, rfl⟩
          · split
            · exact ⟨_, rfl⟩
            · split
              · exact ⟨_, rfl⟩
              · split
                · exact ⟨_, rfl⟩
                · omega
    obtain ⟨e', he'⟩ := hex
    exact (Z.1 o k e' he').lt
  have hsh' : ∀ o k : Nat, ¬ (o = 13 ∧ k = 100 + j) → wx_sh (wx_sA σ j).2.2.2.2 o k = wx_sh σ.2.2.2.2 o k := by
    intro o k h
    unfold wx_sh
    by_cases h1 : o < 11
    · rw [if_pos h1, if_pos h1]
    · rw [if_neg h1, if_neg h1]
      by_cases h2 : 100 ≤ k ∧ o = 13
      · rw [if_pos h2, if_pos h2]
        have h3 : (wx_sA σ j).2.2.2.2 (k - 100) = σ.2.2.2.2 (k - 100) := by
          show (if k - 100 = j then true else _) = _
          rw [if_neg (fun z => h ⟨h2.2, by omega⟩)]
        rw [h3]
      · rw [if_neg h2, if_neg h2]
  have had' : ∀ o k : Nat, ¬ (o = 13 ∧ k = 100 + j) → wx_ad ad (fun i => if i = j then H.size else rd i) o k = wx_ad ad rd o k := by
    intro o k h
    unfold wx_ad
    by_cases h2 : 100 ≤ k ∧ o = 13
    · rw [if_pos h2, if_pos h2]
      show (if k - 100 = j then H.size else rd (k - 100)) = _
      rw [if_neg (fun z => h ⟨h2.2, by omega⟩)]
    · rw [if_neg h2, if_neg h2]
  have hadj : wx_ad ad (fun i => if i = j then H.size else rd i) 13 (100 + j) = H.size := by
    rw [wx_adr]; exact if_pos rfl
  have halj : (wx_sA σ j).2.2.2.2 j = true := by
    show (if j = j then true else _) = true
    rw [if_pos rfl]
  have hshj : wx_sh (wx_sA σ j).2.2.2.2 13 (100 + j) = (2, 6464) := wx_shr halj hlt
  refine kk (fun i => if i = j then H.size else rd i) H2 _ ⟨?_, ?_, ?_⟩ ⟨Nat.le_trans hS.1 (by omega), fun q h1 h2 => ?_, fun q hq => ?_⟩
  · intro o k x hx9
    by_cases hk : o = 13 ∧ k = 100 + j
    · obtain ⟨rfl, rfl⟩ := hk
      rw [hshj] at hx9
      rw [hadj]
      have hx8 : x = Sum.inl (ca 1, 6464, Sum.inr (Sum.inr (Sum.inl ((wx_sA σ j).2.1 13 (100 + j))))) := (Option.some.inj hx9).symm
      subst hx8
      show H2[H.size]? = some (vp_cell _ _)
      rw [oq H.size (show H.size ≠ ad 13 1 by omega), e1]
      show some (arrV (ca 1) 6464 (fun _ => Value.float 0)) = some (arrV (ca 1) 6464 (fun q => Value.float ((wx_sA σ j).2.1 13 (100 + j) q)))
      have : (wx_sA σ j).2.1 13 (100 + j) = fun _ => 0 := by
        funext q
        show (if 13 = 13 ∧ 100 + j = 100 + j then (0 : UInt32) else _) = 0
        rw [if_pos ⟨rfl, rfl⟩]
      rw [this]
    · rw [hsh' o k hk] at hx9
      rw [had' o k hk]
      by_cases hf : o = 13 ∧ k = 1
      · obtain ⟨rfl, rfl⟩ := hf
        have hx8 : x = Sum.inl (ca 4, 64, Sum.inr (Sum.inr (Sum.inr (Sum.inr (fun i => if (wx_sA σ j).2.2.2.2 i = true then some (if i = j then H.size else rd i) else none))))) := (Option.some.inj hx9).symm
        subst hx8
        show H2[ad 13 1]? = some (arrV (ca 4) 64 (fun q => va_rf (if (wx_sA σ j).2.2.2.2 q = true then some (if q = j then H.size else rd q) else none)))
        rw [e2, hj, arrV_store]
        congr 2
        funext q
        show updV (fun q => va_rf (if σ.2.2.2.2 q = true then some (rd q) else none)) j (.ref H.size) q = va_rf (if (if q = j then true else σ.2.2.2.2 q) = true then some (if q = j then H.size else rd q) else none)
        by_cases hq : q = j
        · subst hq
          simp [updV, va_rf]
        · simp [updV, hq]
      · have hold : wx_ek ad rd ca σ o k (wx_sh σ.2.2.2.2 o k) = some x := by
          have h6 : (wx_sh σ.2.2.2.2 o k).1 ≠ 6 := fun z => hf (wx_sh6 z)
          have hfl : ∀ (n : Nat) (cs : List Nat), wx_fl ad (wx_sA σ j) o n cs = wx_fl ad σ o n cs := by
            intro n cs
            induction cs generalizing n with
            | nil => rfl
            | cons c cs ih => simp only [wx_fl, ih]; rfl
          have hF : (wx_sA σ j).2.1 o k = σ.2.1 o k := by
            funext q
            show (if o = 13 ∧ k = 100 + j then (0 : UInt32) else σ.2.1 o k q) = _
            rw [if_neg hk]
          rw [← hx9]
          unfold wx_ek
          rw [hfl, hF]
          simp only [if_neg h6]
          rfl
        have h9 := Z.1 o k x hold
        have hl9 := h9.lt
        refine va_at.kept h9 ?_
        rw [oq _ ?_, o1 _ hl9]
        intro z
        have hpr : (wx_sh σ.2.2.2.2 o k).1 ≠ 0 := wx_pr hold
        have := Z.2.1 o k 13 1 hpr (show (wx_sh σ.2.2.2.2 13 1).1 ≠ 0 from (by decide : (6 : Nat) ≠ 0)) (z.trans (wx_st (by decide)).symm)
        exact hf this
  · intro o k o' k' h1 h2 h3
    by_cases hk : o = 13 ∧ k = 100 + j
    · obtain ⟨rfl, rfl⟩ := hk
      by_cases hk' : o' = 13 ∧ k' = 100 + j
      · exact ⟨hk'.1.symm, hk'.2.symm⟩
      · rw [hadj, had' o' k' hk'] at h3
        rw [hsh' o' k' hk'] at h2
        have := hne o' k' h2
        omega
    · rw [hsh' o k hk] at h1
      rw [had' o k hk] at h3
      by_cases hk' : o' = 13 ∧ k' = 100 + j
      · obtain ⟨rfl, rfl⟩ := hk'
        rw [hadj] at h3
        have := hne o k h1
        omega
      · rw [had' o' k' hk'] at h3
        rw [hsh' o' k' hk'] at h2
        exact Z.2.1 o k o' k' h1 h2 h3
  · intro o k h
    by_cases hk : o = 13 ∧ k = 100 + j
    · obtain ⟨rfl, rfl⟩ := hk
      rw [hadj]
      exact hA _ hS.1
    · rw [hsh' o k hk] at h
      rw [had' o k hk]
      exact Z.2.2 o k h
  · rw [oq q (fun z => h2 (by rw [z]; have := Z.2.2 13 1 (by decide : (6 : Nat) ≠ 0); rw [wx_st (by decide)] at this; exact this)), o1 q (Nat.lt_of_lt_of_le h1 hS.1)]
    exact hS.2.1 q h1 h2
  · rcases List.mem_append.mp hq with h | h
    · exact hS.2.2 q h
    · have hq' : q = ⟨ad 13 1, i.toNatClampNeg⟩ := by simpa using h
      rw [hq']
      have := Z.2.2 13 1 (by decide : (6 : Nat) ≠ 0)
      rw [wx_st (by decide)] at this
      exact this
def wx_QA (D : va_G) (ad : Nat → Nat → Nat) (ca : Nat → ClassId) (A : Nat → Prop) (ov : Option Value) (σ' : wx_St) : Array Value → State → Outcome → State → Prop := fun _ st oc t =>
  oc = .returned ov ∧ (∃ rd', wx_Z D ad rd' ca A σ' t.heap) ∧ va_F A st t
/-- a contract of a method that may make rows -/
abbrev wx_MA (l : Launch) (y : MethodName) (ws : List Cond) (fr lo : Nat) (D : va_G) (ad : Nat → Nat → Nat) (rd : Nat → Nat) (ca : Nat → ClassId) (A : Nat → Prop) (vs : List Value) (σ : wx_St) (ov : Option Value) (σ' : wx_St) : Prop :=
  Met l y ws ({ frames := fr, cells := wx_n σ'.2.2.2.2 - wx_n σ.2.2.2.2, slots := 6464 * (wx_n σ'.2.2.2.2 - wx_n σ.2.2.2.2), locals := lo } : Room) (va_Pc vs (wx_U D ad rd ca A σ)) (wx_QA D ad ca A ov σ') (wx_n σ'.2.2.2.2 - wx_n σ.2.2.2.2) (6464 * (wx_n σ'.2.2.2.2 - wx_n σ.2.2.2.2)) A
variable {mc ms : Nat} {st0 : List Value} {a : Array Value} {ov : Option Value} {σ' : wx_St}
theorem wx_callA (hr : va_Run p l e R s m args below meth c H locs cells slots mc ms (F0 m pc ls st0) rest (wx_QA D ad ca A ov σ' a) A) (hS : va_S A H0 H locs)
    (kk : ∀ (rd' : Nat → Nat) (H1 : Heap) (locs1 : List Loc), wx_Z D ad rd' ca A σ' H1 → va_S A H0 H1 locs1 → W p l e R s m args below meth c H1 locs1 (cells + mc) (slots + ms) Q (F0 m (pc + 3) ls (ov.toList ++ rest))) : W p l e R s m args below meth c H locs cells slots Q (F0 m pc ls st0) := by
  intro T hT X
  obtain ⟨v, st₀, t, T', L, h0, X', hL, e1, e2, ⟨hv, ⟨rd', hZ⟩, hz, hk⟩, st⟩ := hr T hT X
  cases hv
  rw [h0] at hz hk
  obtain ⟨t2, a1, b1⟩ := kk rd' T'.heap (locs ++ L) (by rw [e1]; exact hZ)
    ⟨Nat.le_trans hS.1 (by rw [e1]; exact hz), fun q h1 h2 => by rw [e1, hk q (Nat.lt_of_lt_of_le h1 hS.1) h2]; exact hS.2.1 q h1 h2, fun q hq => by
      rcases List.mem_append.mp hq with h | h
      · exact hS.2.2 q h
      · exact hL q h⟩ T' rfl X'
  exact ⟨t2, st t2 a1, b1⟩
end wxalloc
