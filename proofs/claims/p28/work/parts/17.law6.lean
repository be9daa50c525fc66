/-! THE START: the object made, the rows made, the world of the loop -/
theorem lw_fl_congr {a a' : Nat → Nat → Nat} {σ : wx_St} {o : Nat} (ho : o < 16) (h : ∀ x y, x < 16 → a x y = a' x y) : ∀ (cs : List Nat) (i : Nat), cs.all (fun c => decide (c < 116)) = true → wx_fl a σ o i cs = wx_fl a' σ o i cs
  | [], _, _ => rfl
  | c :: cs, i, hc => by
    simp only [List.all_cons, Bool.and_eq_true, decide_eq_true_eq] at hc
    simp only [wx_fl]
    rw [lw_fl_congr ho h cs (i + 1) hc.2]
    congr 1
    unfold wx_fv
    rw [h o i ho, h (c - 100) 99 (by omega)]
theorem lw_fc (c : Nat) : (wx_fc c).all (fun c => decide (c < 116)) = true := by
  unfold wx_fc
  (repeat' split) <;> rfl
theorem lw_ek_congr {a a' : Nat → Nat → Nat} {rd : Nat → Nat} {ca : Nat → ClassId} {σ : wx_St} {x y : Nat} {sh : Nat × Nat} (hx : x < 16) (h : ∀ x y, x < 16 → a x y = a' x y) (h4 : sh.1 ≠ 4) : wx_ek a rd ca σ x y sh = wx_ek a' rd ca σ x y sh := by
  unfold wx_ek
  rw [if_neg h4, if_neg h4, lw_fl_congr hx h _ 0 (lw_fc _)]
theorem lw_sh4 {o k : Nat} (h : (wx_sh (fun _ => false) o k).1 = 4) : (o = 14 ∧ k = 0) ∨ (o = 11 ∧ k = 5) := by
  have hl := wx_sh_lt (al := fun _ => false) (o := o) (k := k) (by rw [h]; decide)
  have hd : ∀ o, o < 17 → ∀ k, k < 164 → (wx_sh (fun _ => false) o k).1 = 4 → (o = 14 ∧ k = 0) ∨ (o = 11 ∧ k = 5) := by decide +kernel
  exact hd o hl.1 k hl.2 h
theorem lw_some {ad : Nat → Nat → Nat} {rd : Nat → Nat} {ca : Nat → ClassId} {σ : wx_St} {o k : Nat} {sh : Nat × Nat} (h0 : sh.1 ≠ 0) (h6 : sh.1 ≤ 6) : ∃ e, wx_ek ad rd ca σ o k sh = some e := by
  unfold wx_ek
  rcases (show sh.1 = 1 ∨ sh.1 = 2 ∨ sh.1 = 3 ∨ sh.1 = 4 ∨ sh.1 = 5 ∨ sh.1 = 6 by omega) with h | h | h | h | h | h <;> simp [h]

def lw_ad (a1 : Nat → Nat → Nat) (ps : Nat → Nat) (ad : Nat → Nat → Nat) : Nat → Nat → Nat := fun o k => if o < 16 then a1 o k else if o = 16 then ps k else ad o k
theorem lw_wad {a : Nat → Nat → Nat} {rd : Nat → Nat} {o k : Nat} (h : (wx_sh (fun _ => false) o k).1 ≠ 0) : wx_ad a rd o k = a o k := by
  unfold wx_ad
  by_cases h1 : 100 ≤ k ∧ o = 13
  · exfalso
    apply h
    unfold wx_sh
    rw [if_neg (by omega), if_pos h1]
    simp
  · rw [if_neg h1]

theorem lw_conv {D : va_G} {ca : Nat → ClassId} {A : Nat → Prop} {w W5 : gw_W} {a1 ad : Nat → Nat → Nat} {a2 : Nat → Nat} {H : Heap} (hlo : ∀ o k, o < 16 → W5 o k = gw_fin ca a1 w o k) (h16 : ∀ k, k < 5 → ∃ e, W5 16 k = some (a2 k, e) ∧ wx_ek (lw_ad a1 a2 ad) (fun _ => 0) ca wx_0 16 k (wx_sh (fun _ => false) 16 k) = some e) (Z : gw_Z D A W5 H) : wx_Z D (lw_ad a1 a2 ad) (fun _ => 0) ca A wx_0 H := by
  have key : ∀ o k : Nat, (wx_sh (fun _ => false) o k).1 ≠ 0 → ∃ e, W5 o k = some (lw_ad a1 a2 ad o k, e) ∧ ∀ e', wx_ek (lw_ad a1 a2 ad) (fun _ => 0) ca wx_0 o k (wx_sh (fun _ => false) o k) = some e' → va_at D vwCl (lw_ad a1 a2 ad o k, e) H → va_at D vwCl (lw_ad a1 a2 ad o k, e') H := by
    intro o k h0
    have hl := wx_sh_lt h0
    by_cases h16' : o = 16
    · subst h16'
      have hk : k < 5 := by
        have hd : ∀ k, k < 164 → (wx_sh (fun _ => false) 16 k).1 ≠ 0 → k < 5 := by decide +kernel
        exact hd k hl.2 h0
      obtain ⟨e, q1, q2⟩ := h16 k hk
      refine ⟨e, q1, fun e' h1 h2 => ?_⟩
      rw [q2] at h1; cases h1; exact h2
    · have ho : o < 16 := by omega
      have e1 : W5 o k = gw_fin ca a1 w o k := hlo o k ho
      have ea : lw_ad a1 a2 ad o k = a1 o k := if_pos ho
      rw [e1]
      unfold gw_fin
      by_cases h14 : o = 14 ∧ k = 0
      · obtain ⟨rfl, rfl⟩ := h14
        rw [if_pos ⟨rfl, rfl⟩, ea]
        refine ⟨_, rfl, fun e' h1 h2 => ?_⟩
        have h3 : e' = .inl (ca 3, 7, .inr (.inr (.inr (.inr (fun i => some (lw_ad a1 a2 ad i 99)))))) := (Option.some.inj h1).symm
        subst h3
        refine wx_refs (fun j hj => ?_) h2
        show (if j < 7 then some (a1 j 99) else none) = some (lw_ad a1 a2 ad j 99)
        rw [if_pos hj]
        unfold lw_ad
        rw [if_pos (by omega)]
      · rw [if_neg h14]
        by_cases h11 : o = 11 ∧ k = 5
        · obtain ⟨rfl, rfl⟩ := h11
          rw [if_pos ⟨rfl, rfl⟩, ea]
          refine ⟨_, rfl, fun e' h1 h2 => ?_⟩
          have h3 : e' = .inl (ca 3, 2, .inr (.inr (.inr (.inr (fun i => some (lw_ad a1 a2 ad (9 + i) 99)))))) := (Option.some.inj h1).symm
          subst h3
          refine wx_refs (fun j hj => ?_) h2
          show (if j < 2 then some (a1 (9 + j) 99) else none) = some (lw_ad a1 a2 ad (9 + j) 99)
          rw [if_pos hj]
          unfold lw_ad
          rw [if_pos (by omega)]
        · rw [if_neg h11, if_pos ho]
          have h4 : (wx_sh (fun _ => false) o k).1 ≠ 4 := fun h => by rcases lw_sh4 h with h | h <;> omega
          have hc : wx_ek a1 (fun _ => 0) ca wx_0 o k (wx_sh (fun _ => false) o k) = wx_ek (lw_ad a1 a2 ad) (fun _ => 0) ca wx_0 o k (wx_sh (fun _ => false) o k) := lw_ek_congr ho (fun x y hx => by unfold lw_ad; rw [if_pos hx]) h4
          obtain ⟨e, he⟩ := lw_some (ad := lw_ad a1 a2 ad) (rd := fun _ => 0) (ca := ca) (σ := wx_0) (o := o) (k := k) h0 wx_sh_le
          refine ⟨e, ?_, fun e' h1 h2 => ?_⟩
          · rw [hc, he, ea]
            rfl
          · rw [he] at h1; cases h1; exact h2
  refine ⟨fun o k e he => ?_, fun o k o' k' h0 h0' hq => ?_, fun o k h0 => ?_⟩
  · have h0 : (wx_sh (fun _ => false) o k).1 ≠ 0 := by
      intro z
      have he' : wx_ek (lw_ad a1 a2 ad) (fun _ => 0) ca wx_0 o k (wx_sh (fun _ => false) o k) = some e := he
      simp [wx_ek, z] at he'
    obtain ⟨e1, h1, h2⟩ := key o k h0
    rw [lw_wad h0]
    exact h2 e he (Z.1 o k _ h1)
  · have g0 : (wx_sh (fun _ => false) o k).1 ≠ 0 := h0
    have g0' : (wx_sh (fun _ => false) o' k').1 ≠ 0 := h0'
    rw [lw_wad g0, lw_wad g0'] at hq
    obtain ⟨e1, h1, -⟩ := key o k g0
    obtain ⟨e2, h2, -⟩ := key o' k' g0'
    exact Z.2.1 o k o' k' _ _ h1 h2 hq
  · have g0 : (wx_sh (fun _ => false) o k).1 ≠ 0 := h0
    rw [lw_wad g0]
    obtain ⟨e1, h1, -⟩ := key o k g0
    exact (Z.2.2 o k _ h1).1
theorem lw_C_ad {D : va_G} {ca : Nat → ClassId} {A : Nat → Prop} {a1 : Nat → Nat → Nat} {a2 : Nat → Nat} {ad : Nat → Nat → Nat} {s : State} (h : wx_C D ad ca A s s.heap) : wx_C D (lw_ad a1 a2 ad) ca A s s.heap := by
  have e17 : ∀ k, lw_ad a1 a2 ad 17 k = ad 17 k := fun k => rfl
  have e18 : ∀ k, lw_ad a1 a2 ad 18 k = ad 18 k := fun k => rfl
  have e19 : ∀ k, lw_ad a1 a2 ad 19 k = ad 19 k := fun k => rfl
  obtain ⟨h1, h2, h3⟩ := h
  refine ⟨h1, ?_, trivial⟩
  unfold wx_T at h2 ⊢
  simp only [e17, e18, e19]
  exact h2
theorem hdf5 : ∀ j, j < 7 → defaultValue (tyX5 j) = vp_V [.null, .null, .null, .null, .null, .null, .null] j := fun j hj => match j, hj with
  | 0, _ => rfl
  | 1, _ => rfl
  | 2, _ => rfl
  | 3, _ => rfl
  | 4, _ => rfl
  | 5, _ => rfl
  | 6, _ => rfl
  | j + 7, h => absurd h (by omega)
/-- a row of ints is made -/
theorem gw_newi {p : Program} {l : Launch} {e : Env} {R : Room} {s : State} {m : MethodId} {args : Array Value} {below : List Frame} {meth : Method} {c : Code} {H : Heap} {locs : List Loc} {cells slots : Nat} {Q : State → Prop} {cc : ByteArray} {pc : Nat} {ls : Array Slot} {rest : List Value} {D : va_G} {ca : Nat → ClassId} {A : Nat → Prop} {w : gw_W}
    (hx : p.tables.exec = Jvm.exec) (hb : c.code = cc) (hw : (Cond.arrayClass .int).before args s = true) (hK : wx_K D ca s) (Z : gw_Z D A w H) (hS : va_S A s.heap H locs) (hA : ∀ q : Nat, s.heap.size ≤ q → A q) (o k : Nat) (ho : o < 17) (hk : k < 164) (hwk : w o k = none) {n : Int32} {N : Nat} (hn0 : ¬ n < 0) (hN : n.toNatClampNeg = N) (hbytes : N * componentBytes .int ≤ 536870912) (hcells : cells + 1 ≤ R.cells) (hslots : slots + N ≤ R.slots) (hdg : decode cc pc = .ok (.newarray .int, 2))
    (kk : ∀ (q : Nat) (H1 : Heap), gw_Z D A (gw_up w o k (q, .inl (ca 0, N, .inl (fun _ => 0)))) H1 → va_S A s.heap H1 locs → W p l e R s m args below meth c H1 locs (cells + 1) (slots + N) Q (F0 m (pc + 2) ls (.ref q :: rest))) : W p l e R s m args below meth c H locs cells slots Q (F0 m pc ls (.int n :: rest)) := by
  refine va_newaK (atype := .int) hx hb hw rfl hdg (n := n) (N := N) rfl hn0 hN hbytes hcells hslots rfl fun H1 cA e1 z1 o1 hAr hNm => ?_
  have hcA : cA = ca 0 := Option.some.inj (hNm.symm.trans ((hK.1.2 0 _ rfl).2))
  subst hcA
  refine kk H.size H1 ⟨fun x y q hq => ?_, fun x y x' y' q q' hq hq' hqq => ?_, fun x y q hq => ?_⟩ ⟨Nat.le_trans hS.1 (by omega), fun q h1 h2 => ?_, hS.2.2⟩
  · by_cases hc : y = k ∧ x = o
    · obtain ⟨rfl, rfl⟩ := hc
      rw [gw_same] at hq
      cases hq
      exact e1
    · rw [gw_ne hc] at hq
      exact va_at.kept (Z.1 x y q hq) (o1 _ (Z.1 x y q hq).lt)
  · by_cases hc : y = k ∧ x = o
    · obtain ⟨rfl, rfl⟩ := hc
      rw [gw_same] at hq
      cases hq
      by_cases hc' : y' = y ∧ x' = x
      · exact ⟨hc'.2.symm, hc'.1.symm⟩
      · rw [gw_ne hc'] at hq'
        have h3 : q'.1 < H.size := (Z.1 x' y' q' hq').lt
        have h4 : H.size = q'.1 := hqq
        omega
    · rw [gw_ne hc] at hq
      by_cases hc' : y' = k ∧ x' = o
      · obtain ⟨rfl, rfl⟩ := hc'
        rw [gw_same] at hq'
        cases hq'
        have h3 : q.1 < H.size := (Z.1 x y q hq).lt
        have h4 : q.1 = H.size := hqq
        omega
      · rw [gw_ne hc'] at hq'
        exact Z.2.1 x y x' y' q q' hq hq' hqq
  · by_cases hc : y = k ∧ x = o
    · obtain ⟨rfl, rfl⟩ := hc
      rw [gw_same] at hq
      cases hq
      exact ⟨hA _ hS.1, ho, hk⟩
    · rw [gw_ne hc] at hq
      exact Z.2.2 x y q hq
  · rw [o1 q (Nat.lt_of_lt_of_le h1 hS.1)]
    exact hS.2.1 q h1 h2
theorem lw_n104 (al : Nat → Bool) : wx_n al ≤ 104 := by
  unfold wx_n
  exact Nat.le_trans List.countP_le_length (by simp)
set_option maxRecDepth 20000 in
set_option maxHeartbeats 4000000 in
theorem lw_start {p : Program} {e : Env} {s : State} {m : MethodId} {below : List Frame} {meth : Method} {c : Code} (l : Launch) {b L : Nat} {xs : Nat → Int32} (hL : L ≤ 260) (C0 : lw_At p s m meth c b L xs) (hI : ∀ ad : Nat → Nat → Nat, ad 18 1 = L → ∃ τ, f_L_law_62 ad 2000 (-1 : Int64) 0 wx_0 = some ((1 : Int32), τ)) : W p l e room_1 s m #[Value.ref b] below meth c s.heap [] 0 0 (lw_Z below #[Value.ref b] s) (entryFrame m ([Value.ref b] : List Value).toArray 21) := by
  obtain ⟨hx, hb, hr, hml, hown, hts0, hX, hbl, hlocks, hgv⟩ := id C0
  have hts : ∀ w ∈ wsL_law, w.before #[Value.ref b] s = true := fun w h => hts0 w (wsL_law_in w h)
  have hA : ∀ q : Nat, s.heap.size ≤ q → (fun q : Nat => s.heap.size ≤ q) q := fun _ h => h
  obtain ⟨D, ad, ca, hC, hAO, hb18, hL18⟩ := lw_begin hts0 hgv hX hbl
  have hS : va_S (fun q : Nat => s.heap.size ≤ q) s.heap s.heap [] := va_S.rf
  have Z : gw_Z D (fun q : Nat => s.heap.size ≤ q) (fun _ _ => none) s.heap := ⟨fun o k q h => by simp at h, fun o k o' k' q q' h => by simp at h, fun o k q h => by simp at h⟩
  have hl := lv_entry ([.ref b]) (n := 21) (Nat.le_of_ble_eq_true rfl)
  rw [lg_entry_eq]
  generalize (lg_sl ([.ref b]) ++ List.replicate (21 - (lg_sl ([.ref b])).length) Slot.unset).toArray = ls at hl ⊢
  have hl : lv_has ls 21 [(0, .ref b)] := hl
  refine gw_obj (fs := [.null, .null, .null, .null, .null, .null, .null]) hx hb hts inlX5 tyX5 tyX5_ok hown (hts (.classLink RL 23 RX5) (List.mem_append_left _ (by decide +kernel))) (hts (.instantiable RX5 7) (List.mem_append_left _ (by decide +kernel))) (hts (.initialized RX5) (List.mem_append_left _ (by decide +kernel))) hC.1 Z hS hA (rfl : vwCl[5]? = some (RX5, TX5, 7)) 11 (by decide) rfl hdf5 (Nat.le_of_ble_eq_true rfl) (Nat.le_of_ble_eq_true rfl) dL_law_0 (fun q5 H Z hS => ?_)
  refine lv_dup hx hb dL_law_3 rfl ?_
  refine gw_callc (va_runI (As := []) (rest := [.ref q5]) ⟨hx, hb, hml, hown, hts⟩ (c_X5_init l (D := D) (ad := ad) (ca := ca) (A := (fun q : Nat => s.heap.size ≤ q)) (h0 := q5) gw_same (fun b _ g2 => by rw [gw_ne (by omega)]) (fun x y _ g2 => by rw [gw_ne (by omega)])) (cwI 0 hts gL_law_X5_init rfl rfl rfl (hts (.initialized RX5) (List.mem_append_left _ (by decide +kernel))) (hts (.methodLink RL 58 yX5_init) (List.mem_append_left _ (by decide +kernel))) (hts (.instanceMethod yX5_init) (List.mem_append_left _ (by decide +kernel))) rfl (by decide +kernel) ⟨Nat.le_of_ble_eq_true rfl, Nat.le_of_ble_eq_true rfl⟩) (gw_preI hC hAO Z hS hA) rfl rfl hl.1 rfl (lv_room (Nat.le_of_ble_eq_true rfl)) dL_law_4 ⟨Nat.le_of_ble_eq_true rfl, Nat.le_of_ble_eq_true rfl⟩) hS (fun a1 H locs ha1 Z hS => ?_)
  refine lv_astore_n (lv' := [(1, .ref q5), (0, .ref b)]) hx hb dL_law_7 rfl hl (by decide) rfl (fun ls hl => ?_)
  have e16 : ∀ y, gw_fin ca a1 (gw_up (fun _ _ => none) 11 99 (q5, .inr (5, [.null, .null, .null, .null, .null, .null, .null]))) 16 y = none := fun y => by
    unfold gw_fin
    rw [if_neg (by omega), if_neg (by omega), if_neg (by omega), gw_ne (by omega)]
  obtain ⟨w0, hw0⟩ : ∃ w0 : gw_W, w0 = gw_fin ca a1 (gw_up (fun _ _ => none) 11 99 (q5, .inr (5, [.null, .null, .null, .null, .null, .null, .null]))) := ⟨_, rfl⟩
  rw [← hw0] at Z e16
  refine lv_bipush (v := 7) hx hb dL_law_8 (by decide) ?_
  refine gw_newi hx hb (hts (.arrayClass .int) (List.mem_append_left _ (by decide +kernel))) hC.1 Z hS hA 16 0 (by decide) (by decide) (by exact e16 0) (n := 7) (N := 7) (by decide) rfl (by decide) (Nat.le_of_ble_eq_true rfl) (Nat.le_of_ble_eq_true rfl) dL_law_10 (fun p0 H Z hS => ?_)
  refine lv_astore_n (lv' := [(2, .ref p0), (1, .ref q5), (0, .ref b)]) hx hb dL_law_12 rfl hl (by decide) rfl (fun ls hl => ?_)
  refine lv_bipush (v := 6) hx hb dL_law_13 (by decide) ?_
  refine gw_newi hx hb (hts (.arrayClass .int) (List.mem_append_left _ (by decide +kernel))) hC.1 Z hS hA 16 1 (by decide) (by decide) (by rw [gw_ne (by omega), e16]) (n := 6) (N := 6) (by decide) rfl (by decide) (Nat.le_of_ble_eq_true rfl) (Nat.le_of_ble_eq_true rfl) dL_law_15 (fun p1 H Z hS => ?_)
  refine lv_astore_n (lv' := [(3, .ref p1), (2, .ref p0), (1, .ref q5), (0, .ref b)]) hx hb dL_law_17 rfl hl (by decide) rfl (fun ls hl => ?_)
  refine lv_bipush (v := 24) hx hb dL_law_18 (by decide) ?_
  refine gw_newi hx hb (hts (.arrayClass .int) (List.mem_append_left _ (by decide +kernel))) hC.1 Z hS hA 16 2 (by decide) (by decide) (by rw [gw_ne (by omega), gw_ne (by omega), e16]) (n := 24) (N := 24) (by decide) rfl (by decide) (Nat.le_of_ble_eq_true rfl) (Nat.le_of_ble_eq_true rfl) dL_law_20 (fun p2 H Z hS => ?_)
  refine lv_astore (lv' := [(4, .ref p2), (3, .ref p1), (2, .ref p0), (1, .ref q5), (0, .ref b)]) hx hb dL_law_22 hl (by decide) rfl (fun ls hl => ?_)
  refine lv_bipush (v := 64) hx hb dL_law_24 (by decide) ?_
  refine gw_newi hx hb (hts (.arrayClass .int) (List.mem_append_left _ (by decide +kernel))) hC.1 Z hS hA 16 3 (by decide) (by decide) (by rw [gw_ne (by omega), gw_ne (by omega), gw_ne (by omega), e16]) (n := 64) (N := 64) (by decide) rfl (by decide) (Nat.le_of_ble_eq_true rfl) (Nat.le_of_ble_eq_true rfl) dL_law_26 (fun p3 H Z hS => ?_)
  refine lv_astore (lv' := [(5, .ref p3), (4, .ref p2), (3, .ref p1), (2, .ref p0), (1, .ref q5), (0, .ref b)]) hx hb dL_law_28 hl (by decide) rfl (fun ls hl => ?_)
  refine lv_bipush (v := 8) hx hb dL_law_30 (by decide) ?_
  refine gw_newi hx hb (hts (.arrayClass .int) (List.mem_append_left _ (by decide +kernel))) hC.1 Z hS hA 16 4 (by decide) (by decide) (by rw [gw_ne (by omega), gw_ne (by omega), gw_ne (by omega), gw_ne (by omega), e16]) (n := 8) (N := 8) (by decide) rfl (by decide) (Nat.le_of_ble_eq_true rfl) (Nat.le_of_ble_eq_true rfl) dL_law_32 (fun p4 H Z hS => ?_)
  refine lv_astore (lv' := [(6, .ref p4), (5, .ref p3), (4, .ref p2), (3, .ref p1), (2, .ref p0), (1, .ref q5), (0, .ref b)]) hx hb dL_law_34 hl (by decide) rfl (fun ls hl => ?_)
  refine lv_ldc2 hx hb hown (hts (.constantLong RL 59 (-1)) (List.mem_append_left _ (by decide +kernel))) dL_law_36 ?_
  refine lv_lstore (lv' := [(7, .long (-1 : Int64)), (6, .ref p4), (5, .ref p3), (4, .ref p2), (3, .ref p1), (2, .ref p0), (1, .ref q5), (0, .ref b)]) hx hb dL_law_39 hl (by decide) rfl (fun ls hl => ?_)
  refine lv_aload_n hx hb dL_law_41 rfl (lv_at hl 5 rfl) ?_
  refine lv_iconst (v := 0) hx hb dL_law_42 (by decide) ?_
  refine lv_bipush (v := 15) hx hb dL_law_43 (by decide) ?_
  refine gw_iast (o := 16) (k := 0) (n := 7) (a := p0) hx hb hC.1 Z hS (by rw [gw_ne (by omega), gw_ne (by omega), gw_ne (by omega), gw_ne (by omega), gw_same]) (by decide) dL_law_45 (fun H locs Z hS => ?_)
  refine lv_aload_n hx hb dL_law_46 rfl (lv_at hl 5 rfl) ?_
  refine lv_iconst (v := 1) hx hb dL_law_47 (by decide) ?_
  refine lv_iconst (v := 5) hx hb dL_law_48 (by decide) ?_
  refine gw_iast (o := 16) (k := 0) (n := 7) (a := p0) hx hb hC.1 Z hS (gw_same) (by decide) dL_law_49 (fun H locs Z hS => ?_)
  refine lv_aload_n hx hb dL_law_50 rfl (lv_at hl 5 rfl) ?_
  refine lv_iconst (v := 2) hx hb dL_law_51 (by decide) ?_
  refine lv_bipush (v := 20) hx hb dL_law_52 (by decide) ?_
  refine gw_iast (o := 16) (k := 0) (n := 7) (a := p0) hx hb hC.1 Z hS (gw_same) (by decide) dL_law_54 (fun H locs Z hS => ?_)
  refine lv_aload_n hx hb dL_law_55 rfl (lv_at hl 5 rfl) ?_
  refine lv_iconst (v := 3) hx hb dL_law_56 (by decide) ?_
  refine lv_iconst (v := 3) hx hb dL_law_57 (by decide) ?_
  refine gw_iast (o := 16) (k := 0) (n := 7) (a := p0) hx hb hC.1 Z hS (gw_same) (by decide) dL_law_58 (fun H locs Z hS => ?_)
  refine lv_iconst (v := 0) hx hb dL_law_59 (by decide) ?_
  refine lv_istore (lv' := [(9, .int 0), (7, .long (-1 : Int64)), (6, .ref p4), (5, .ref p3), (4, .ref p2), (3, .ref p1), (2, .ref p0), (1, .ref q5), (0, .ref b)]) hx hb dL_law_60 hl (by decide) rfl (fun ls hl => ?_)
  have Zw := lw_conv (ca := ca) (ad := ad) (a1 := a1) (w := gw_up (fun _ _ => none) 11 99 (q5, .inr (5, [.null, .null, .null, .null, .null, .null, .null]))) (a2 := fun k => if k = 0 then p0 else if k = 1 then p1 else if k = 2 then p2 else if k = 3 then p3 else p4) (fun o k ho => by rw [gw_ne (by omega), gw_ne (by omega), gw_ne (by omega), gw_ne (by omega), gw_ne (by omega), gw_ne (by omega), gw_ne (by omega), gw_ne (by omega), gw_ne (by omega), hw0]) (fun k hk => by
    have z0 : ∀ k, k ≠ 0 → wx_0.1 16 k = fun _ => 0 := by
      intro k hk
      funext i
      show (if k = 0 ∧ (16 < 11 ∨ 16 = 16) then wx_v0.getD i 0 else 0) = 0
      exact if_neg (fun hh => hk hh.1)
    rcases (show k = 0 ∨ k = 1 ∨ k = 2 ∨ k = 3 ∨ k = 4 by omega) with rfl | rfl | rfl | rfl | rfl
    · refine ⟨_, gw_same, ?_⟩
      refine congrArg (fun f : Nat → Int32 => (some (Sum.inl (ca 0, 7, Sum.inl f)) : Option va_E)) (funext fun j => ?_)
      show wx_v0.getD j 0 = _
      match j with
      | 0 => rfl
      | 1 => rfl
      | 2 => rfl
      | 3 => rfl
      | n + 4 => simp [upd, wx_v0]
    · refine ⟨_, by rw [gw_ne (by omega), gw_ne (by omega), gw_ne (by omega), gw_ne (by omega), gw_ne (by omega), gw_ne (by omega), gw_ne (by omega), gw_same]; rfl, ?_⟩
      exact congrArg (fun f : Nat → Int32 => (some (Sum.inl (ca 0, 6, Sum.inl f)) : Option va_E)) (z0 1 (by decide))
    · refine ⟨_, by rw [gw_ne (by omega), gw_ne (by omega), gw_ne (by omega), gw_ne (by omega), gw_ne (by omega), gw_ne (by omega), gw_same]; rfl, ?_⟩
      exact congrArg (fun f : Nat → Int32 => (some (Sum.inl (ca 0, 24, Sum.inl f)) : Option va_E)) (z0 2 (by decide))
    · refine ⟨_, by rw [gw_ne (by omega), gw_ne (by omega), gw_ne (by omega), gw_ne (by omega), gw_ne (by omega), gw_same]; rfl, ?_⟩
      exact congrArg (fun f : Nat → Int32 => (some (Sum.inl (ca 0, 64, Sum.inl f)) : Option va_E)) (z0 3 (by decide))
    · refine ⟨_, by rw [gw_ne (by omega), gw_ne (by omega), gw_ne (by omega), gw_ne (by omega), gw_same]; rfl, ?_⟩
      exact congrArg (fun f : Nat → Int32 => (some (Sum.inl (ca 0, 8, Sum.inl f)) : Option va_E)) (z0 4 (by decide))
    ) Z
  have ea1 : a1 11 99 = q5 := ha1
  have hl : lv_has ls 21 [(0, .ref (lw_ad a1 (fun k => if k = 0 then p0 else if k = 1 then p1 else if k = 2 then p2 else if k = 3 then p3 else p4) ad 18 0)), (1, .ref (lw_ad a1 (fun k => if k = 0 then p0 else if k = 1 then p1 else if k = 2 then p2 else if k = 3 then p3 else p4) ad 11 99)), (2, .ref (lw_ad a1 (fun k => if k = 0 then p0 else if k = 1 then p1 else if k = 2 then p2 else if k = 3 then p3 else p4) ad 16 0)), (3, .ref (lw_ad a1 (fun k => if k = 0 then p0 else if k = 1 then p1 else if k = 2 then p2 else if k = 3 then p3 else p4) ad 16 1)), (4, .ref (lw_ad a1 (fun k => if k = 0 then p0 else if k = 1 then p1 else if k = 2 then p2 else if k = 3 then p3 else p4) ad 16 2)), (5, .ref (lw_ad a1 (fun k => if k = 0 then p0 else if k = 1 then p1 else if k = 2 then p2 else if k = 3 then p3 else p4) ad 16 3)), (6, .ref (lw_ad a1 (fun k => if k = 0 then p0 else if k = 1 then p1 else if k = 2 then p2 else if k = 3 then p3 else p4) ad 16 4)), (7, .long (-1 : Int64)), (9, .int 0)] := by
    have e0 : lw_ad a1 (fun k => if k = 0 then p0 else if k = 1 then p1 else if k = 2 then p2 else if k = 3 then p3 else p4) ad 18 0 = b := hb18
    have e1 : lw_ad a1 (fun k => if k = 0 then p0 else if k = 1 then p1 else if k = 2 then p2 else if k = 3 then p3 else p4) ad 11 99 = q5 := ea1
    rw [e0, e1]
    exact lv_sub hl [8, 7, 6, 5, 4, 3, 2, 1, 0] rfl
  obtain ⟨τ, hτ⟩ := hI (lw_ad a1 (fun k => if k = 0 then p0 else if k = 1 then p1 else if k = 2 then p2 else if k = 3 then p3 else p4) ad) hL18
  refine W.widen (k := 200) (n := 6464 * 200) (Nat.le_of_ble_eq_true rfl) (Nat.le_of_ble_eq_true rfl) ?_
  exact b_L_law_62 ⟨hx, hb, hml, hr, hts, hown, hlocks, lw_C_ad hC, hA⟩ (k := 200) (by have := lw_n104 τ.2.2.2.2; omega) hτ Zw hS hl
