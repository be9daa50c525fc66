/-! THE START: both objects made, the world of the loop -/
theorem lw_refs {D : va_G} {cl : List vw_C} {q n : Nat} {c : ClassId} {f g : Nat → Option Nat} {H : Heap} (h : ∀ j, j < n → f j = g j) (hq : va_at D cl (q, .inl (c, n, .inr (.inr (.inr (.inr f))))) H) : va_at D cl (q, .inl (c, n, .inr (.inr (.inr (.inr g))))) H := by
  have h1 : H[q]? = some (arrV c n (fun j => va_rf (f j))) := hq
  show H[q]? = some (arrV c n (fun j => va_rf (g j)))
  have e : (Array.ofFn (n := n) fun j => va_rf (f j.val)) = Array.ofFn (n := n) fun j => va_rf (g j.val) := by
    congr 1
    funext j
    rw [h j.val j.isLt]
  have e2 : arrV c n (fun j => va_rf (f j)) = arrV c n (fun j => va_rf (g j)) := by
    unfold arrV
    rw [e]
  rw [h1, e2]
theorem lw_fl_congr {a a' : Nat → Nat → Nat} {σ : wx_St} {o : Nat} (ho : o < 16) (h : ∀ x y, x < 16 → a x y = a' x y) : ∀ (cs : List Nat) (i : Nat), cs.all (fun c => decide (c < 116)) = true → wx_fl a σ o i cs = wx_fl a' σ o i cs
  | [], _, _ => rfl
  | c :: cs, i, hc => by
    simp only [List.all_cons, Bool.and_eq_true, decide_eq_true_eq] at hc
    simp only [wx_fl]
    rw [lw_fl_congr ho h cs (i + 1) hc.2]
    congr 1
    unfold wx_fv
    rw [h o i ho, h (c - 100) 99 (by omega)]
theorem lw_fc (c : Nat) : (wx_fc c).all (fun c => decide (c < 116)) = true := by
  unfold wx_fc
  (repeat' split) <;> rfl
theorem lw_ek_congr {a a' : Nat → Nat → Nat} {rd : Nat → Nat} {ca : Nat → ClassId} {σ : wx_St} {x y : Nat} {sh : Nat × Nat} (hx : x < 16) (h : ∀ x y, x < 16 → a x y = a' x y) (h4 : sh.1 ≠ 4) : wx_ek a rd ca σ x y sh = wx_ek a' rd ca σ x y sh := by
  unfold wx_ek
  rw [if_neg h4, if_neg h4, lw_fl_congr hx h _ 0 (lw_fc _)]
theorem lw_sh4 {o k : Nat} (h : (wx_sh (fun _ => false) o k).1 = 4) : (o = 14 ∧ k = 0) ∨ (o = 11 ∧ k = 5) := by
  have hl := wx_sh_lt (al := fun _ => false) (o := o) (k := k) (by rw [h]; decide)
  have hd : ∀ o, o < 17 → ∀ k, k < 164 → (wx_sh (fun _ => false) o k).1 = 4 → (o = 14 ∧ k = 0) ∨ (o = 11 ∧ k = 5) := by decide +kernel
  exact hd o hl.1 k hl.2 h
theorem lw_some {ad : Nat → Nat → Nat} {rd : Nat → Nat} {ca : Nat → ClassId} {σ : wx_St} {o k : Nat} {sh : Nat × Nat} (h0 : sh.1 ≠ 0) (h6 : sh.1 ≤ 6) : ∃ e, wx_ek ad rd ca σ o k sh = some e := by
  unfold wx_ek
  rcases (show sh.1 = 1 ∨ sh.1 = 2 ∨ sh.1 = 3 ∨ sh.1 = 4 ∨ sh.1 = 5 ∨ sh.1 = 6 by omega) with h | h | h | h | h | h <;> simp [h]
def lw_ad (a1 a2 ad : Nat → Nat → Nat) : Nat → Nat → Nat := fun o k => if o < 16 then a1 o k else if o = 16 then a2 16 k else ad o k
theorem lw_wad {a : Nat → Nat → Nat} {rd : Nat → Nat} {o k : Nat} (h : (wx_sh (fun _ => false) o k).1 ≠ 0) : wx_ad a rd o k = a o k := by
  unfold wx_ad
  by_cases h1 : 100 ≤ k ∧ o = 13
  · exfalso
    apply h
    unfold wx_sh
    rw [if_neg (by omega), if_pos h1]
    simp
  · rw [if_neg h1]
theorem lw_conv {D : va_G} {ca : Nat → ClassId} {A : Nat → Prop} {w : gw_W} {a1 a2 ad : Nat → Nat → Nat} {q : Nat × va_E} {H : Heap} (Z : gw_Z D A (gw_cl ca a2 (fun x => decide (x = 16)) (gw_up (gw_fin ca a1 w) 16 99 q)) H) : wx_Z D (lw_ad a1 a2 ad) (fun _ => 0) ca A wx_0 H := by
  have key : ∀ o k : Nat, (wx_sh (fun _ => false) o k).1 ≠ 0 → ∃ e, gw_cl ca a2 (fun x => decide (x = 16)) (gw_up (gw_fin ca a1 w) 16 99 q) o k = some (lw_ad a1 a2 ad o k, e) ∧ ∀ e', wx_ek (lw_ad a1 a2 ad) (fun _ => 0) ca wx_0 o k (wx_sh (fun _ => false) o k) = some e' → va_at D vwCl (lw_ad a1 a2 ad o k, e) H → va_at D vwCl (lw_ad a1 a2 ad o k, e') H := by
    intro o k h0
    have hl := wx_sh_lt h0
    by_cases h16 : o = 16
    · subst h16
      have hc : wx_ek a2 (fun _ => 0) ca wx_0 16 k (wx_sh (fun _ => false) 16 k) = wx_ek (lw_ad a1 a2 ad) (fun _ => 0) ca wx_0 16 k (wx_sh (fun _ => false) 16 k) := gw_ek_congr (fun j => rfl) (by decide)
      obtain ⟨e, he⟩ := lw_some (ad := lw_ad a1 a2 ad) (rd := fun _ => 0) (ca := ca) (σ := wx_0) (o := 16) (k := k) h0 wx_sh_le
      refine ⟨e, ?_, fun e' h1 h2 => ?_⟩
      · unfold gw_cl
        rw [if_pos (by decide), hc, he]
        rfl
      · rw [he] at h1; cases h1; exact h2
    · have ho : o < 16 := by omega
      have e1 : gw_cl ca a2 (fun x => decide (x = 16)) (gw_up (gw_fin ca a1 w) 16 99 q) o k = gw_fin ca a1 w o k := by
        rw [gw_cl_at (by simpa using h16), gw_ne (by omega)]
      have ea : lw_ad a1 a2 ad o k = a1 o k := if_pos ho
      rw [e1]
      unfold gw_fin
      by_cases h14 : o = 14 ∧ k = 0
      · obtain ⟨rfl, rfl⟩ := h14
        rw [if_pos ⟨rfl, rfl⟩, ea]
        refine ⟨_, rfl, fun e' h1 h2 => ?_⟩
        have h3 : e' = .inl (ca 3, 7, .inr (.inr (.inr (.inr (fun i => some (lw_ad a1 a2 ad i 99)))))) := (Option.some.inj h1).symm
        subst h3
        refine lw_refs (fun j hj => ?_) h2
        show (if j < 7 then some (a1 j 99) else none) = some (lw_ad a1 a2 ad j 99)
        rw [if_pos hj]
        unfold lw_ad
        rw [if_pos (by omega)]
      · rw [if_neg h14]
        by_cases h11 : o = 11 ∧ k = 5
        · obtain ⟨rfl, rfl⟩ := h11
          rw [if_pos ⟨rfl, rfl⟩, ea]
          refine ⟨_, rfl, fun e' h1 h2 => ?_⟩
          have h3 : e' = .inl (ca 3, 2, .inr (.inr (.inr (.inr (fun i => some (lw_ad a1 a2 ad (9 + i) 99)))))) := (Option.some.inj h1).symm
          subst h3
          refine lw_refs (fun j hj => ?_) h2
          show (if j < 2 then some (a1 (9 + j) 99) else none) = some (lw_ad a1 a2 ad (9 + j) 99)
          rw [if_pos hj]
          unfold lw_ad
          rw [if_pos (by omega)]
        · rw [if_neg h11, if_pos ho]
          have h4 : (wx_sh (fun _ => false) o k).1 ≠ 4 := fun h => by rcases lw_sh4 h with h | h <;> omega
          have hc : wx_ek a1 (fun _ => 0) ca wx_0 o k (wx_sh (fun _ => false) o k) = wx_ek (lw_ad a1 a2 ad) (fun _ => 0) ca wx_0 o k (wx_sh (fun _ => false) o k) := lw_ek_congr ho (fun x y hx => by unfold lw_ad; rw [if_pos hx]) h4
          obtain ⟨e, he⟩ := lw_some (ad := lw_ad a1 a2 ad) (rd := fun _ => 0) (ca := ca) (σ := wx_0) (o := o) (k := k) h0 wx_sh_le
          refine ⟨e, ?_, fun e' h1 h2 => ?_⟩
          · rw [hc, he, ea]
            rfl
          · rw [he] at h1; cases h1; exact h2
  refine ⟨fun o k e he => ?_, fun o k o' k' h0 h0' hq => ?_, fun o k h0 => ?_⟩
  · have h0 : (wx_sh (fun _ => false) o k).1 ≠ 0 := by
      intro z
      have he' : wx_ek (lw_ad a1 a2 ad) (fun _ => 0) ca wx_0 o k (wx_sh (fun _ => false) o k) = some e := he
      simp [wx_ek, z] at he'
    obtain ⟨e1, h1, h2⟩ := key o k h0
    rw [lw_wad h0]
    exact h2 e he (Z.1 o k _ h1)
  · have g0 : (wx_sh (fun _ => false) o k).1 ≠ 0 := h0
    have g0' : (wx_sh (fun _ => false) o' k').1 ≠ 0 := h0'
    rw [lw_wad g0, lw_wad g0'] at hq
    obtain ⟨e1, h1, -⟩ := key o k g0
    obtain ⟨e2, h2, -⟩ := key o' k' g0'
    exact Z.2.1 o k o' k' _ _ h1 h2 hq
  · have g0 : (wx_sh (fun _ => false) o k).1 ≠ 0 := h0
    rw [lw_wad g0]
    obtain ⟨e1, h1, -⟩ := key o k g0
    exact (Z.2.2 o k _ h1).1
theorem lw_C_ad {D : va_G} {ca : Nat → ClassId} {A : Nat → Prop} {a1 a2 ad : Nat → Nat → Nat} {s : State} (h : wx_C D ad ca A s s.heap) : wx_C D (lw_ad a1 a2 ad) ca A s s.heap := by
  have e17 : ∀ k, lw_ad a1 a2 ad 17 k = ad 17 k := fun k => rfl
  have e18 : lw_ad a1 a2 ad 18 = ad 18 := rfl
  have e19 : lw_ad a1 a2 ad 19 = ad 19 := rfl
  obtain ⟨h1, h2, h3⟩ := h
  refine ⟨h1, ?_, ?_⟩
  · unfold wx_T at h2 ⊢
    simp only [e17, e18, e19]
    exact h2
  · unfold wx_R at h3 ⊢
    simp only [e18]
    exact h3
theorem hdf5 : ∀ j, j < 7 → defaultValue (tyX5 j) = vp_V [.null, .null, .null, .null, .null, .null, .null] j := fun j hj => match j, hj with
  | 0, _ => rfl
  | 1, _ => rfl
  | 2, _ => rfl
  | 3, _ => rfl
  | 4, _ => rfl
  | 5, _ => rfl
  | 6, _ => rfl
  | j + 7, h => absurd h (by omega)
theorem hdf6 : ∀ j, j < 25 → defaultValue (tyX6 j) = vp_V [.null, .null, .null, .null, .int 0, .null, .null, .null, .null, .int 0, .null, .null, .null, .null, .null, .null, .int 0, .null, .int 0, .int 0, .int 0, .int 0, .int 0, .int 0, .int 0] j := fun j hj => match j, hj with
  | 0, _ => rfl
  | 1, _ => rfl
  | 2, _ => rfl
  | 3, _ => rfl
  | 4, _ => rfl
  | 5, _ => rfl
  | 6, _ => rfl
  | 7, _ => rfl
  | 8, _ => rfl
  | 9, _ => rfl
  | 10, _ => rfl
  | 11, _ => rfl
  | 12, _ => rfl
  | 13, _ => rfl
  | 14, _ => rfl
  | 15, _ => rfl
  | 16, _ => rfl
  | 17, _ => rfl
  | 18, _ => rfl
  | 19, _ => rfl
  | 20, _ => rfl
  | 21, _ => rfl
  | 22, _ => rfl
  | 23, _ => rfl
  | 24, _ => rfl
  | j + 25, h => absurd h (by omega)
set_option maxHeartbeats 4000000 in
theorem lw_start {p : Program} {e : Env} {s : State} {m : MethodId} {below : List Frame} {meth : Method} {c : Code} (l : Launch) {b L : Nat} {xs : Nat → Int32} (hL : L ≤ 2560) (C0 : lw_At p s m meth c b L xs) {Inv : wx_St → Prop} (hI0 : Inv wx_0) (hq : lw_all Inv) : W p l e room_1 s m #[Value.ref b] below meth c s.heap [] 0 0 (lw_Z below #[Value.ref b] s) (entryFrame m ([Value.ref b] : List Value).toArray 4) := by
  obtain ⟨hx, hb, hr, hml, hown, hts0, hX, hbl, hlocks, hgv⟩ := id C0
  have hts : ∀ w ∈ wsL_law, w.before #[Value.ref b] s = true := fun w h => hts0 w (wsL_law_in w h)
  have hA : ∀ q : Nat, s.heap.size ≤ q → (fun q : Nat => s.heap.size ≤ q) q := fun _ h => h
  obtain ⟨D, ad, ca, hC, hAO⟩ := lw_begin hts0 hgv
  have hS : va_S (fun q : Nat => s.heap.size ≤ q) s.heap s.heap [] := va_S.rf
  have Z : gw_Z D (fun q : Nat => s.heap.size ≤ q) (fun _ _ => none) s.heap := ⟨fun o k q h => by simp at h, fun o k o' k' q q' h => by simp at h, fun o k q h => by simp at h⟩
  have hl := lv_entry ([.ref b]) (n := 4) (Nat.le_of_ble_eq_true rfl)
  rw [lg_entry_eq]
  generalize (lg_sl ([.ref b]) ++ List.replicate (4 - (lg_sl ([.ref b])).length) Slot.unset).toArray = ls at hl ⊢
  have hl : lv_has ls 4 [(0, .ref b)] := hl
  refine gw_obj (fs := [.null, .null, .null, .null, .null, .null, .null]) hx hb hts inlX5 tyX5 tyX5_ok hown (hts (.classLink RL 7 RX5) (List.mem_append_left _ (by decide +kernel))) (hts (.instantiable RX5 7) (List.mem_append_left _ (by decide +kernel))) (hts (.initialized RX5) (List.mem_append_left _ (by decide +kernel))) hC.1 Z hS hA (rfl : vwCl[5]? = some (RX5, TX5, 7)) 11 (by decide) rfl hdf5 (Nat.le_of_ble_eq_true rfl) (Nat.le_of_ble_eq_true rfl) dL_law_0 (fun q5 H Z hS => ?_)
  refine lv_dup hx hb dL_law_3 rfl ?_
  refine gw_callc (va_runI (As := []) (rest := [.ref q5]) ⟨hx, hb, hml, hown, hts⟩ (c_X5_init l (D := D) (ad := ad) (ca := ca) (A := (fun q : Nat => s.heap.size ≤ q)) (h0 := q5) gw_same (fun b _ g2 => by rw [gw_ne (by omega)]) (fun x y _ g2 => by rw [gw_ne (by omega)])) (cwI 0 hts gL_law_X5_init rfl rfl rfl (hts (.initialized RX5) (List.mem_append_left _ (by decide +kernel))) (hts (.methodLink RL 9 yX5_init) (List.mem_append_left _ (by decide +kernel))) (hts (.instanceMethod yX5_init) (List.mem_append_left _ (by decide +kernel))) rfl (by decide +kernel) ⟨Nat.le_of_ble_eq_true rfl, Nat.le_of_ble_eq_true rfl⟩) (gw_preI hC hAO Z hS hA) rfl rfl hl.1 rfl (lv_room (Nat.le_of_ble_eq_true rfl)) dL_law_4 ⟨Nat.le_of_ble_eq_true rfl, Nat.le_of_ble_eq_true rfl⟩) hS (fun a1 H locs ha1 Z hS => ?_)
  refine lv_astore_n (lv' := [(1, .ref q5), (0, .ref b)]) hx hb dL_law_7 rfl hl (by decide) rfl (fun ls hl => ?_)
  have e16 : ∀ y, gw_fin ca a1 (gw_up (fun _ _ => none) 11 99 (q5, .inr (5, [.null, .null, .null, .null, .null, .null, .null]))) 16 y = none := fun y => by
    unfold gw_fin
    rw [if_neg (by omega), if_neg (by omega), if_neg (by omega), gw_ne (by omega)]
  refine gw_obj (fs := [.null, .null, .null, .null, .int 0, .null, .null, .null, .null, .int 0, .null, .null, .null, .null, .null, .null, .int 0, .null, .int 0, .int 0, .int 0, .int 0, .int 0, .int 0, .int 0]) hx hb hts inlX6 tyX6 tyX6_ok hown (hts (.classLink RL 10 RX6) (List.mem_append_left _ (by decide +kernel))) (hts (.instantiable RX6 25) (List.mem_append_left _ (by decide +kernel))) (hts (.initialized RX6) (List.mem_append_left _ (by decide +kernel))) hC.1 Z hS hA (rfl : vwCl[6]? = some (RX6, TX6, 25)) 16 (by decide) (e16 99) hdf6 (Nat.le_of_ble_eq_true rfl) (Nat.le_of_ble_eq_true rfl) dL_law_8 (fun q6 H Z hS => ?_)
  refine lv_dup hx hb dL_law_11 rfl ?_
  refine gw_callc (va_runI (As := []) (rest := [.ref q6]) ⟨hx, hb, hml, hown, hts⟩ (c_X6_init l (D := D) (ad := ad) (ca := ca) (A := (fun q : Nat => s.heap.size ≤ q)) (h0 := q6) gw_same (fun b _ g2 => by rw [gw_ne (by omega)]; exact e16 b)) (cwI 0 hts gL_law_X6_init rfl rfl rfl (hts (.initialized RX6) (List.mem_append_left _ (by decide +kernel))) (hts0 (.methodLink RL 12 yX6_init) (List.mem_of_getElem? (i := 726) (by decide +kernel))) (hts0 (.instanceMethod yX6_init) (List.mem_of_getElem? (i := 727) (by decide +kernel))) rfl (by decide +kernel) ⟨Nat.le_of_ble_eq_true rfl, Nat.le_of_ble_eq_true rfl⟩) (gw_preI hC hAO Z hS hA) rfl rfl hl.1 rfl (lv_room (Nat.le_of_ble_eq_true rfl)) dL_law_12 ⟨Nat.le_of_ble_eq_true rfl, Nat.le_of_ble_eq_true rfl⟩) hS (fun a2 H locs ha2 Z hS => ?_)
  have hl : lv_has ls 4 [(1, .ref (lw_ad a1 a2 ad 11 99)), (0, .ref b)] := by
    have e1 : lw_ad a1 a2 ad 11 99 = q5 := ha1
    rw [e1]; exact hl
  have e2 : lw_ad a1 a2 ad 16 99 = q6 := ha2
  rw [← e2]
  refine lv_astore_n (lv' := [(2, .ref (lw_ad a1 a2 ad 16 99)), (1, .ref (lw_ad a1 a2 ad 11 99)), (0, .ref b)]) hx hb dL_law_15 rfl hl (by decide) rfl (fun ls hl => ?_)
  refine lv_iconst (v := 0) hx hb dL_law_16 (by decide) ?_
  refine lv_istore_n (lv' := [(3, .int 0), (2, .ref (lw_ad a1 a2 ad 16 99)), (1, .ref (lw_ad a1 a2 ad 11 99)), (0, .ref b)]) hx hb dL_law_17 rfl hl (by decide) rfl (fun ls hl => ?_)
  have Zw := lw_conv (ad := ad) Z
  refine W.widen (k := 200 + wx_n wx_0.2.2.2.2) (n := 20000 + 6464 * wx_n wx_0.2.2.2.2) (Nat.le_trans (by decide : _ ≤ 200) (Nat.le_add_right _ _)) (Nat.le_trans (by decide : _ ≤ 20000) (Nat.le_add_right _ _)) ?_
  exact law_loop hL ⟨hx, hb, hml, hr, hts, hown, hlocks, lw_C_ad hC, hA⟩ hX hbl hq (L + 1) 0 (Nat.zero_le _) (by omega) wx_0 (fun _ => 0) _ _ hI0 Zw hS ls hl
