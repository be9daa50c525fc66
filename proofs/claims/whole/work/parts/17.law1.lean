/-! THE LAW: each case asks both, and both answer alike -/
def lw_two {τ : Type} (Inv : wx_St → Prop) (f g : wx_St → Option (τ × wx_St)) : Prop := ∀ σ, Inv σ → ∃ r σ1 σ2, f σ = some (r, σ1) ∧ g σ1 = some (r, σ2) ∧ Inv σ2 ∧ wx_n σ.2.2.2.2 ≤ wx_n σ1.2.2.2.2 ∧ wx_n σ1.2.2.2.2 ≤ wx_n σ2.2.2.2.2
def lw_r {τ : Type} (f : wx_St → Option τ) : wx_St → Option (τ × wx_St) := fun σ => match f σ with
  | some r => some (r, σ)
  | none => none
theorem lw_r_ok {τ : Type} {f : wx_St → Option τ} {σ σ' : wx_St} {r : τ} (h : lw_r f σ = some (r, σ')) : f σ = some r ∧ σ = σ' := by
  unfold lw_r at h
  split at h
  · rename_i r' hr
    cases h
    exact ⟨hr, rfl⟩
  · cases h
theorem lw_n64 (al : Nat → Bool) : wx_n al ≤ 64 := by
  unfold wx_n
  exact Nat.le_trans List.countP_le_length (by simp)
theorem lw_cmp (r : Int64) : lg_cmp r r = 0 := by simp [lg_cmp]
theorem k_L_law_w0 : Cond.constantLong RL 91 (4294967295) ∈ wsL_law := List.mem_append_left _ (by decide +kernel)
section lwcases
variable {p : Program} {l : Launch} {e : Env} {s : State} {m : MethodId} {below : List Frame} {meth : Method} {c : Code} {D : va_G} {ad : Nat → Nat → Nat} {rd : Nat → Nat} {ca : Nat → ClassId} {b L : Nat} {xs : Nat → Int32}

def q_set (Inv : wx_St → Prop) : Prop := ∀ (a0 a1 : Int32), lw_two Inv (f_X5_set a0 a1) (f_X6_set a0 a1)
set_option maxHeartbeats 4000000 in
theorem b_L_law_148 (B : wx_B p s m #[Value.ref b] meth c cL_law 4 (some .boolean) wsL_law RL D ad ca (fun q : Nat => s.heap.size ≤ q)) (hX : va_X b L xs s s.heap) (hbl : b < s.heap.size) (hbA : ¬ (fun q : Nat => s.heap.size ≤ q) b) {Inv : wx_St → Prop} (hq : q_set Inv) {x3 : Int32} (hi1 : vp_in (x3 + 1) L) (hi2 : vp_in (x3 + 2) L) (hi3 : vp_in (x3 + 3) L) (hi4 : vp_in (x3 + 4) L) {σ : wx_St} (hI : Inv σ) {Q : State → Prop} (kk : ∀ (σ : wx_St) (rd : Nat → Nat) (H : Heap) (locs : List Loc), Inv σ → wx_Z D ad rd ca (fun q : Nat => s.heap.size ≤ q) σ H → va_S (fun q : Nat => s.heap.size ≤ q) s.heap H locs → ∀ ls : Array Slot, lv_has ls 4 [(3, .int x3), (2, .ref (ad 16 99)), (1, .ref (ad 11 99)), (0, .ref b)] → W p l e room_1 s m #[Value.ref b] below meth c H locs (200 + wx_n σ.2.2.2.2) (20000 + 6464 * wx_n σ.2.2.2.2) Q (F0 m 874 ls [])) {rd : Nat → Nat} {H : Heap} {locs : List Loc} (Z : wx_Z D ad rd ca (fun q : Nat => s.heap.size ≤ q) σ H) (hS : va_S (fun q : Nat => s.heap.size ≤ q) s.heap H locs) {ls : Array Slot} (hl : lv_has ls 4 [(3, .int x3), (2, .ref (ad 16 99)), (1, .ref (ad 11 99)), (0, .ref b)]) : W p l e room_1 s m #[Value.ref b] below meth c H locs (200 + wx_n σ.2.2.2.2) (20000 + 6464 * wx_n σ.2.2.2.2) Q (F0 m 148 ls []) := by
  obtain ⟨hx, hb, hml, hr, hts, hown, hlk, hC, hA⟩ := id B
  obtain ⟨r, σ1, σ2, h5, h6, hI2, hn1, hn2⟩ := hq ((xs (x3 + 1).toNatClampNeg)) ((xs (x3 + 2).toNatClampNeg)) σ hI
  have w0 := lw_n64 σ.2.2.2.2
  have w1 := lw_n64 σ1.2.2.2.2
  have w2 := lw_n64 σ2.2.2.2.2
  refine lv_aload_n hx hb dL_law_148 rfl (lv_at hl 2 rfl) ?_
  refine lv_aload_n hx hb dL_law_149 rfl (lv_at hl 3 rfl) ?_
  refine lv_iload_n hx hb dL_law_150 rfl (lv_at hl 0 rfl) ?_
  refine lv_iconst (v := 1) hx hb dL_law_151 (by decide) ?_
  refine lv_iadd hx hb dL_law_152 ?_
  refine va_sld hx hb hX hbl hbA hS hi1 dL_law_153 ?_
  refine lv_aload_n hx hb dL_law_154 rfl (lv_at hl 3 rfl) ?_
  refine lv_iload_n hx hb dL_law_155 rfl (lv_at hl 0 rfl) ?_
  refine lv_iconst (v := 2) hx hb dL_law_156 (by decide) ?_
  refine lv_iadd hx hb dL_law_157 ?_
  refine va_sld hx hb hX hbl hbA hS hi2 dL_law_158 ?_
  refine wx_call (va_runV (As := [.int (xs (x3 + 1).toNatClampNeg), .int (xs (x3 + 2).toNatClampNeg)]) (rest := []) ⟨hx, hb, hml, hown, hts⟩ (c_X5_set l (D := D) (ad := ad) (rd := rd) (ca := ca) (A := (fun q : Nat => s.heap.size ≤ q)) (σ := σ) h5) (cwV 2 hts gL_law_X5_set rfl rfl rfl (by decide +kernel) ⟨Nat.le_of_ble_eq_true rfl, Nat.le_of_ble_eq_true rfl⟩) (wx_preV hC Z hS hA rfl (rfl : vwCl[5]? = some (RX5, TX5, 7))) rfl rfl hl.1 rfl (lv_room (Nat.le_of_ble_eq_true rfl)) dL_law_159 ⟨(by show (200 + wx_n σ.2.2.2.2) + 0 ≤ 600000; omega), (by show (20000 + 6464 * wx_n σ.2.2.2.2) + 0 ≤ 7302250; omega)⟩) hS (fun H locs Z hS => ?_)
  refine W.widen (k := 200 + wx_n σ1.2.2.2.2) (n := 20000 + 6464 * wx_n σ1.2.2.2.2) (by omega) (by omega) ?_
  refine lv_aload_n hx hb dL_law_162 rfl (lv_at hl 1 rfl) ?_
  refine lv_aload_n hx hb dL_law_163 rfl (lv_at hl 3 rfl) ?_
  refine lv_iload_n hx hb dL_law_164 rfl (lv_at hl 0 rfl) ?_
  refine lv_iconst (v := 1) hx hb dL_law_165 (by decide) ?_
  refine lv_iadd hx hb dL_law_166 ?_
  refine va_sld hx hb hX hbl hbA hS hi1 dL_law_167 ?_
  refine lv_aload_n hx hb dL_law_168 rfl (lv_at hl 3 rfl) ?_
  refine lv_iload_n hx hb dL_law_169 rfl (lv_at hl 0 rfl) ?_
  refine lv_iconst (v := 2) hx hb dL_law_170 (by decide) ?_
  refine lv_iadd hx hb dL_law_171 ?_
  refine va_sld hx hb hX hbl hbA hS hi2 dL_law_172 ?_
  refine wx_call (va_runV (As := [.int (xs (x3 + 1).toNatClampNeg), .int (xs (x3 + 2).toNatClampNeg)]) (rest := [.int r]) ⟨hx, hb, hml, hown, hts⟩ (c_X6_set l (D := D) (ad := ad) (rd := rd) (ca := ca) (A := (fun q : Nat => s.heap.size ≤ q)) (σ := σ1) h6) (cwV 2 hts gL_law_X6_set rfl rfl rfl (by decide +kernel) ⟨Nat.le_of_ble_eq_true rfl, Nat.le_of_ble_eq_true rfl⟩) (wx_preV hC Z hS hA rfl (rfl : vwCl[6]? = some (RX6, TX6, 25))) rfl rfl hl.1 rfl (lv_room (Nat.le_of_ble_eq_true rfl)) dL_law_173 ⟨(by show (200 + wx_n σ1.2.2.2.2) + 0 ≤ 600000; omega), (by show (20000 + 6464 * wx_n σ1.2.2.2.2) + 0 ≤ 7302250; omega)⟩) hS (fun H locs Z hS => ?_)
  refine W.widen (k := 200 + wx_n σ2.2.2.2.2) (n := 20000 + 6464 * wx_n σ2.2.2.2.2) (by omega) (by omega) ?_
  exact lv_icmp_eq (tgt := 874) hx hb dL_law_176 (by decide) (fun _ => kk _ _ _ _ hI2 Z hS _ hl) (fun hn => absurd rfl hn)
def q_track (Inv : wx_St → Prop) : Prop := ∀ (a0 a1 a2 : Int32), lw_two Inv (f_X5_track a0 a1 a2) (f_X6_track a0 a1 a2)
set_option maxHeartbeats 4000000 in
theorem b_L_law_181 (B : wx_B p s m #[Value.ref b] meth c cL_law 4 (some .boolean) wsL_law RL D ad ca (fun q : Nat => s.heap.size ≤ q)) (hX : va_X b L xs s s.heap) (hbl : b < s.heap.size) (hbA : ¬ (fun q : Nat => s.heap.size ≤ q) b) {Inv : wx_St → Prop} (hq : q_track Inv) {x3 : Int32} (hi1 : vp_in (x3 + 1) L) (hi2 : vp_in (x3 + 2) L) (hi3 : vp_in (x3 + 3) L) (hi4 : vp_in (x3 + 4) L) {σ : wx_St} (hI : Inv σ) {Q : State → Prop} (kk : ∀ (σ : wx_St) (rd : Nat → Nat) (H : Heap) (locs : List Loc), Inv σ → wx_Z D ad rd ca (fun q : Nat => s.heap.size ≤ q) σ H → va_S (fun q : Nat => s.heap.size ≤ q) s.heap H locs → ∀ ls : Array Slot, lv_has ls 4 [(3, .int x3), (2, .ref (ad 16 99)), (1, .ref (ad 11 99)), (0, .ref b)] → W p l e room_1 s m #[Value.ref b] below meth c H locs (200 + wx_n σ.2.2.2.2) (20000 + 6464 * wx_n σ.2.2.2.2) Q (F0 m 874 ls [])) {rd : Nat → Nat} {H : Heap} {locs : List Loc} (Z : wx_Z D ad rd ca (fun q : Nat => s.heap.size ≤ q) σ H) (hS : va_S (fun q : Nat => s.heap.size ≤ q) s.heap H locs) {ls : Array Slot} (hl : lv_has ls 4 [(3, .int x3), (2, .ref (ad 16 99)), (1, .ref (ad 11 99)), (0, .ref b)]) : W p l e room_1 s m #[Value.ref b] below meth c H locs (200 + wx_n σ.2.2.2.2) (20000 + 6464 * wx_n σ.2.2.2.2) Q (F0 m 181 ls []) := by
  obtain ⟨hx, hb, hml, hr, hts, hown, hlk, hC, hA⟩ := id B
  obtain ⟨r, σ1, σ2, h5, h6, hI2, hn1, hn2⟩ := hq ((xs (x3 + 1).toNatClampNeg)) ((xs (x3 + 2).toNatClampNeg)) ((xs (x3 + 3).toNatClampNeg)) σ hI
  have w0 := lw_n64 σ.2.2.2.2
  have w1 := lw_n64 σ1.2.2.2.2
  have w2 := lw_n64 σ2.2.2.2.2
  refine lv_aload_n hx hb dL_law_181 rfl (lv_at hl 2 rfl) ?_
  refine lv_aload_n hx hb dL_law_182 rfl (lv_at hl 3 rfl) ?_
  refine lv_iload_n hx hb dL_law_183 rfl (lv_at hl 0 rfl) ?_
  refine lv_iconst (v := 1) hx hb dL_law_184 (by decide) ?_
  refine lv_iadd hx hb dL_law_185 ?_
  refine va_sld hx hb hX hbl hbA hS hi1 dL_law_186 ?_
  refine lv_aload_n hx hb dL_law_187 rfl (lv_at hl 3 rfl) ?_
  refine lv_iload_n hx hb dL_law_188 rfl (lv_at hl 0 rfl) ?_
  refine lv_iconst (v := 2) hx hb dL_law_189 (by decide) ?_
  refine lv_iadd hx hb dL_law_190 ?_
  refine va_sld hx hb hX hbl hbA hS hi2 dL_law_191 ?_
  refine lv_aload_n hx hb dL_law_192 rfl (lv_at hl 3 rfl) ?_
  refine lv_iload_n hx hb dL_law_193 rfl (lv_at hl 0 rfl) ?_
  refine lv_iconst (v := 3) hx hb dL_law_194 (by decide) ?_
  refine lv_iadd hx hb dL_law_195 ?_
  refine va_sld hx hb hX hbl hbA hS hi3 dL_law_196 ?_
  refine wx_call (va_runV (As := [.int (xs (x3 + 1).toNatClampNeg), .int (xs (x3 + 2).toNatClampNeg), .int (xs (x3 + 3).toNatClampNeg)]) (rest := []) ⟨hx, hb, hml, hown, hts⟩ (c_X5_track l (D := D) (ad := ad) (rd := rd) (ca := ca) (A := (fun q : Nat => s.heap.size ≤ q)) (σ := σ) h5) (cwV 3 hts gL_law_X5_track rfl rfl rfl (by decide +kernel) ⟨Nat.le_of_ble_eq_true rfl, Nat.le_of_ble_eq_true rfl⟩) (wx_preV hC Z hS hA rfl (rfl : vwCl[5]? = some (RX5, TX5, 7))) rfl rfl hl.1 rfl (lv_room (Nat.le_of_ble_eq_true rfl)) dL_law_197 ⟨(by show (200 + wx_n σ.2.2.2.2) + 0 ≤ 600000; omega), (by show (20000 + 6464 * wx_n σ.2.2.2.2) + 0 ≤ 7302250; omega)⟩) hS (fun H locs Z hS => ?_)
  refine W.widen (k := 200 + wx_n σ1.2.2.2.2) (n := 20000 + 6464 * wx_n σ1.2.2.2.2) (by omega) (by omega) ?_
  refine lv_aload_n hx hb dL_law_200 rfl (lv_at hl 1 rfl) ?_
  refine lv_aload_n hx hb dL_law_201 rfl (lv_at hl 3 rfl) ?_
  refine lv_iload_n hx hb dL_law_202 rfl (lv_at hl 0 rfl) ?_
  refine lv_iconst (v := 1) hx hb dL_law_203 (by decide) ?_
  refine lv_iadd hx hb dL_law_204 ?_
  refine va_sld hx hb hX hbl hbA hS hi1 dL_law_205 ?_
  refine lv_aload_n hx hb dL_law_206 rfl (lv_at hl 3 rfl) ?_
  refine lv_iload_n hx hb dL_law_207 rfl (lv_at hl 0 rfl) ?_
  refine lv_iconst (v := 2) hx hb dL_law_208 (by decide) ?_
  refine lv_iadd hx hb dL_law_209 ?_
  refine va_sld hx hb hX hbl hbA hS hi2 dL_law_210 ?_
  refine lv_aload_n hx hb dL_law_211 rfl (lv_at hl 3 rfl) ?_
  refine lv_iload_n hx hb dL_law_212 rfl (lv_at hl 0 rfl) ?_
  refine lv_iconst (v := 3) hx hb dL_law_213 (by decide) ?_
  refine lv_iadd hx hb dL_law_214 ?_
  refine va_sld hx hb hX hbl hbA hS hi3 dL_law_215 ?_
  refine wx_call (va_runV (As := [.int (xs (x3 + 1).toNatClampNeg), .int (xs (x3 + 2).toNatClampNeg), .int (xs (x3 + 3).toNatClampNeg)]) (rest := [.int r]) ⟨hx, hb, hml, hown, hts⟩ (c_X6_track l (D := D) (ad := ad) (rd := rd) (ca := ca) (A := (fun q : Nat => s.heap.size ≤ q)) (σ := σ1) h6) (cwV 3 hts gL_law_X6_track rfl rfl rfl (by decide +kernel) ⟨Nat.le_of_ble_eq_true rfl, Nat.le_of_ble_eq_true rfl⟩) (wx_preV hC Z hS hA rfl (rfl : vwCl[6]? = some (RX6, TX6, 25))) rfl rfl hl.1 rfl (lv_room (Nat.le_of_ble_eq_true rfl)) dL_law_216 ⟨(by show (200 + wx_n σ1.2.2.2.2) + 0 ≤ 600000; omega), (by show (20000 + 6464 * wx_n σ1.2.2.2.2) + 0 ≤ 7302250; omega)⟩) hS (fun H locs Z hS => ?_)
  refine W.widen (k := 200 + wx_n σ2.2.2.2.2) (n := 20000 + 6464 * wx_n σ2.2.2.2.2) (by omega) (by omega) ?_
  exact lv_icmp_eq (tgt := 874) hx hb dL_law_219 (by decide) (fun _ => kk _ _ _ _ hI2 Z hS _ hl) (fun hn => absurd rfl hn)
def q_touch (Inv : wx_St → Prop) : Prop := ∀ (a0 a1 a2 : Int32), lw_two Inv (f_X5_touch a0 a1 a2) (f_X6_touch a0 a1 a2)
set_option maxHeartbeats 4000000 in
theorem b_L_law_224 (B : wx_B p s m #[Value.ref b] meth c cL_law 4 (some .boolean) wsL_law RL D ad ca (fun q : Nat => s.heap.size ≤ q)) (hX : va_X b L xs s s.heap) (hbl : b < s.heap.size) (hbA : ¬ (fun q : Nat => s.heap.size ≤ q) b) {Inv : wx_St → Prop} (hq : q_touch Inv) {x3 : Int32} (hi1 : vp_in (x3 + 1) L) (hi2 : vp_in (x3 + 2) L) (hi3 : vp_in (x3 + 3) L) (hi4 : vp_in (x3 + 4) L) {σ : wx_St} (hI : Inv σ) {Q : State → Prop} (kk : ∀ (σ : wx_St) (rd : Nat → Nat) (H : Heap) (locs : List Loc), Inv σ → wx_Z D ad rd ca (fun q : Nat => s.heap.size ≤ q) σ H → va_S (fun q : Nat => s.heap.size ≤ q) s.heap H locs → ∀ ls : Array Slot, lv_has ls 4 [(3, .int x3), (2, .ref (ad 16 99)), (1, .ref (ad 11 99)), (0, .ref b)] → W p l e room_1 s m #[Value.ref b] below meth c H locs (200 + wx_n σ.2.2.2.2) (20000 + 6464 * wx_n σ.2.2.2.2) Q (F0 m 874 ls [])) {rd : Nat → Nat} {H : Heap} {locs : List Loc} (Z : wx_Z D ad rd ca (fun q : Nat => s.heap.size ≤ q) σ H) (hS : va_S (fun q : Nat => s.heap.size ≤ q) s.heap H locs) {ls : Array Slot} (hl : lv_has ls 4 [(3, .int x3), (2, .ref (ad 16 99)), (1, .ref (ad 11 99)), (0, .ref b)]) : W p l e room_1 s m #[Value.ref b] below meth c H locs (200 + wx_n σ.2.2.2.2) (20000 + 6464 * wx_n σ.2.2.2.2) Q (F0 m 224 ls []) := by
  obtain ⟨hx, hb, hml, hr, hts, hown, hlk, hC, hA⟩ := id B
  obtain ⟨r, σ1, σ2, h5, h6, hI2, hn1, hn2⟩ := hq ((xs (x3 + 1).toNatClampNeg)) ((xs (x3 + 2).toNatClampNeg)) ((xs (x3 + 3).toNatClampNeg)) σ hI
  have w0 := lw_n64 σ.2.2.2.2
  have w1 := lw_n64 σ1.2.2.2.2
  have w2 := lw_n64 σ2.2.2.2.2
  refine lv_aload_n hx hb dL_law_224 rfl (lv_at hl 2 rfl) ?_
  refine lv_aload_n hx hb dL_law_225 rfl (lv_at hl 3 rfl) ?_
  refine lv_iload_n hx hb dL_law_226 rfl (lv_at hl 0 rfl) ?_
  refine lv_iconst (v := 1) hx hb dL_law_227 (by decide) ?_
  refine lv_iadd hx hb dL_law_228 ?_
  refine va_sld hx hb hX hbl hbA hS hi1 dL_law_229 ?_
  refine lv_aload_n hx hb dL_law_230 rfl (lv_at hl 3 rfl) ?_
  refine lv_iload_n hx hb dL_law_231 rfl (lv_at hl 0 rfl) ?_
  refine lv_iconst (v := 2) hx hb dL_law_232 (by decide) ?_
  refine lv_iadd hx hb dL_law_233 ?_
  refine va_sld hx hb hX hbl hbA hS hi2 dL_law_234 ?_
  refine lv_aload_n hx hb dL_law_235 rfl (lv_at hl 3 rfl) ?_
  refine lv_iload_n hx hb dL_law_236 rfl (lv_at hl 0 rfl) ?_
  refine lv_iconst (v := 3) hx hb dL_law_237 (by decide) ?_
  refine lv_iadd hx hb dL_law_238 ?_
  refine va_sld hx hb hX hbl hbA hS hi3 dL_law_239 ?_
  refine wx_call (va_runV (As := [.int (xs (x3 + 1).toNatClampNeg), .int (xs (x3 + 2).toNatClampNeg), .int (xs (x3 + 3).toNatClampNeg)]) (rest := []) ⟨hx, hb, hml, hown, hts⟩ (c_X5_touch l (D := D) (ad := ad) (rd := rd) (ca := ca) (A := (fun q : Nat => s.heap.size ≤ q)) (σ := σ) h5) (cwV 3 hts gL_law_X5_touch rfl rfl rfl (by decide +kernel) ⟨Nat.le_of_ble_eq_true rfl, Nat.le_of_ble_eq_true rfl⟩) (wx_preV hC Z hS hA rfl (rfl : vwCl[5]? = some (RX5, TX5, 7))) rfl rfl hl.1 rfl (lv_room (Nat.le_of_ble_eq_true rfl)) dL_law_240 ⟨(by show (200 + wx_n σ.2.2.2.2) + 0 ≤ 600000; omega), (by show (20000 + 6464 * wx_n σ.2.2.2.2) + 0 ≤ 7302250; omega)⟩) hS (fun H locs Z hS => ?_)
  refine W.widen (k := 200 + wx_n σ1.2.2.2.2) (n := 20000 + 6464 * wx_n σ1.2.2.2.2) (by omega) (by omega) ?_
  refine lv_aload_n hx hb dL_law_243 rfl (lv_at hl 1 rfl) ?_
  refine lv_aload_n hx hb dL_law_244 rfl (lv_at hl 3 rfl) ?_
  refine lv_iload_n hx hb dL_law_245 rfl (lv_at hl 0 rfl) ?_
  refine lv_iconst (v := 1) hx hb dL_law_246 (by decide) ?_
  refine lv_iadd hx hb dL_law_247 ?_
  refine va_sld hx hb hX hbl hbA hS hi1 dL_law_248 ?_
  refine lv_aload_n hx hb dL_law_249 rfl (lv_at hl 3 rfl) ?_
  refine lv_iload_n hx hb dL_law_250 rfl (lv_at hl 0 rfl) ?_
  refine lv_iconst (v := 2) hx hb dL_law_251 (by decide) ?_
  refine lv_iadd hx hb dL_law_252 ?_
  refine va_sld hx hb hX hbl hbA hS hi2 dL_law_253 ?_
  refine lv_aload_n hx hb dL_law_254 rfl (lv_at hl 3 rfl) ?_
  refine lv_iload_n hx hb dL_law_255 rfl (lv_at hl 0 rfl) ?_
  refine lv_iconst (v := 3) hx hb dL_law_256 (by decide) ?_
  refine lv_iadd hx hb dL_law_257 ?_
  refine va_sld hx hb hX hbl hbA hS hi3 dL_law_258 ?_
  refine wx_call (va_runV (As := [.int (xs (x3 + 1).toNatClampNeg), .int (xs (x3 + 2).toNatClampNeg), .int (xs (x3 + 3).toNatClampNeg)]) (rest := [.int r]) ⟨hx, hb, hml, hown, hts⟩ (c_X6_touch l (D := D) (ad := ad) (rd := rd) (ca := ca) (A := (fun q : Nat => s.heap.size ≤ q)) (σ := σ1) h6) (cwV 3 hts gL_law_X6_touch rfl rfl rfl (by decide +kernel) ⟨Nat.le_of_ble_eq_true rfl, Nat.le_of_ble_eq_true rfl⟩) (wx_preV hC Z hS hA rfl (rfl : vwCl[6]? = some (RX6, TX6, 25))) rfl rfl hl.1 rfl (lv_room (Nat.le_of_ble_eq_true rfl)) dL_law_259 ⟨(by show (200 + wx_n σ1.2.2.2.2) + 0 ≤ 600000; omega), (by show (20000 + 6464 * wx_n σ1.2.2.2.2) + 0 ≤ 7302250; omega)⟩) hS (fun H locs Z hS => ?_)
  refine W.widen (k := 200 + wx_n σ2.2.2.2.2) (n := 20000 + 6464 * wx_n σ2.2.2.2.2) (by omega) (by omega) ?_
  exact lv_icmp_eq (tgt := 874) hx hb dL_law_262 (by decide) (fun _ => kk _ _ _ _ hI2 Z hS _ hl) (fun hn => absurd rfl hn)
def q_mend (Inv : wx_St → Prop) : Prop := ∀ (a0 : Int32), lw_two Inv (f_X5_mend a0) (f_X6_mend a0)
set_option maxHeartbeats 4000000 in
theorem b_L_law_267 (B : wx_B p s m #[Value.ref b] meth c cL_law 4 (some .boolean) wsL_law RL D ad ca (fun q : Nat => s.heap.size ≤ q)) (hX : va_X b L xs s s.heap) (hbl : b < s.heap.size) (hbA : ¬ (fun q : Nat => s.heap.size ≤ q) b) {Inv : wx_St → Prop} (hq : q_mend Inv) {x3 : Int32} (hi1 : vp_in (x3 + 1) L) (hi2 : vp_in (x3 + 2) L) (hi3 : vp_in (x3 + 3) L) (hi4 : vp_in (x3 + 4) L) {σ : wx_St} (hI : Inv σ) {Q : State → Prop} (kk : ∀ (σ : wx_St) (rd : Nat → Nat) (H : Heap) (locs : List Loc), Inv σ → wx_Z D ad rd ca (fun q : Nat => s.heap.size ≤ q) σ H → va_S (fun q : Nat => s.heap.size ≤ q) s.heap H locs → ∀ ls : Array Slot, lv_has ls 4 [(3, .int x3), (2, .ref (ad 16 99)), (1, .ref (ad 11 99)), (0, .ref b)] → W p l e room_1 s m #[Value.ref b] below meth c H locs (200 + wx_n σ.2.2.2.2) (20000 + 6464 * wx_n σ.2.2.2.2) Q (F0 m 874 ls [])) {rd : Nat → Nat} {H : Heap} {locs : List Loc} (Z : wx_Z D ad rd ca (fun q : Nat => s.heap.size ≤ q) σ H) (hS : va_S (fun q : Nat => s.heap.size ≤ q) s.heap H locs) {ls : Array Slot} (hl : lv_has ls 4 [(3, .int x3), (2, .ref (ad 16 99)), (1, .ref (ad 11 99)), (0, .ref b)]) : W p l e room_1 s m #[Value.ref b] below meth c H locs (200 + wx_n σ.2.2.2.2) (20000 + 6464 * wx_n σ.2.2.2.2) Q (F0 m 267 ls []) := by
  obtain ⟨hx, hb, hml, hr, hts, hown, hlk, hC, hA⟩ := id B
  obtain ⟨r, σ1, σ2, h5, h6, hI2, hn1, hn2⟩ := hq ((xs (x3 + 1).toNatClampNeg)) σ hI
  have w0 := lw_n64 σ.2.2.2.2
  have w1 := lw_n64 σ1.2.2.2.2
  have w2 := lw_n64 σ2.2.2.2.2
  refine lv_aload_n hx hb dL_law_267 rfl (lv_at hl 2 rfl) ?_
  refine lv_aload_n hx hb dL_law_268 rfl (lv_at hl 3 rfl) ?_
  refine lv_iload_n hx hb dL_law_269 rfl (lv_at hl 0 rfl) ?_
  refine lv_iconst (v := 1) hx hb dL_law_270 (by decide) ?_
  refine lv_iadd hx hb dL_law_271 ?_
  refine va_sld hx hb hX hbl hbA hS hi1 dL_law_272 ?_
  refine wx_call (va_runV (As := [.int (xs (x3 + 1).toNatClampNeg)]) (rest := []) ⟨hx, hb, hml, hown, hts⟩ (c_X5_mend l (D := D) (ad := ad) (rd := rd) (ca := ca) (A := (fun q : Nat => s.heap.size ≤ q)) (σ := σ) h5) (cwV 1 hts gL_law_X5_mend rfl rfl rfl (by decide +kernel) ⟨Nat.le_of_ble_eq_true rfl, Nat.le_of_ble_eq_true rfl⟩) (wx_preV hC Z hS hA rfl (rfl : vwCl[5]? = some (RX5, TX5, 7))) rfl rfl hl.1 rfl (lv_room (Nat.le_of_ble_eq_true rfl)) dL_law_273 ⟨(by show (200 + wx_n σ.2.2.2.2) + 0 ≤ 600000; omega), (by show (20000 + 6464 * wx_n σ.2.2.2.2) + 0 ≤ 7302250; omega)⟩) hS (fun H locs Z hS => ?_)
  refine W.widen (k := 200 + wx_n σ1.2.2.2.2) (n := 20000 + 6464 * wx_n σ1.2.2.2.2) (by omega) (by omega) ?_
  refine lv_aload_n hx hb dL_law_276 rfl (lv_at hl 1 rfl) ?_
  refine lv_aload_n hx hb dL_law_277 rfl (lv_at hl 3 rfl) ?_
  refine lv_iload_n hx hb dL_law_278 rfl (lv_at hl 0 rfl) ?_
  refine lv_iconst (v := 1) hx hb dL_law_279 (by decide) ?_
  refine lv_iadd hx hb dL_law_280 ?_
  refine va_sld hx hb hX hbl hbA hS hi1 dL_law_281 ?_
  refine wx_call (va_runV (As := [.int (xs (x3 + 1).toNatClampNeg)]) (rest := [.int r]) ⟨hx, hb, hml, hown, hts⟩ (c_X6_mend l (D := D) (ad := ad) (rd := rd) (ca := ca) (A := (fun q : Nat => s.heap.size ≤ q)) (σ := σ1) h6) (cwV 1 hts gL_law_X6_mend rfl rfl rfl (by decide +kernel) ⟨Nat.le_of_ble_eq_true rfl, Nat.le_of_ble_eq_true rfl⟩) (wx_preV hC Z hS hA rfl (rfl : vwCl[6]? = some (RX6, TX6, 25))) rfl rfl hl.1 rfl (lv_room (Nat.le_of_ble_eq_true rfl)) dL_law_282 ⟨(by show (200 + wx_n σ1.2.2.2.2) + 0 ≤ 600000; omega), (by show (20000 + 6464 * wx_n σ1.2.2.2.2) + 0 ≤ 7302250; omega)⟩) hS (fun H locs Z hS => ?_)
  refine W.widen (k := 200 + wx_n σ2.2.2.2.2) (n := 20000 + 6464 * wx_n σ2.2.2.2.2) (by omega) (by omega) ?_
  exact lv_icmp_eq (tgt := 874) hx hb dL_law_285 (by decide) (fun _ => kk _ _ _ _ hI2 Z hS _ hl) (fun hn => absurd rfl hn)
def q_feed (Inv : wx_St → Prop) : Prop := ∀ (a0 a1 : Int32), lw_two Inv (f_X5_feed a0 a1) (f_X6_feed a0 a1)
set_option maxHeartbeats 4000000 in
theorem b_L_law_290 (B : wx_B p s m #[Value.ref b] meth c cL_law 4 (some .boolean) wsL_law RL D ad ca (fun q : Nat => s.heap.size ≤ q)) (hX : va_X b L xs s s.heap) (hbl : b < s.heap.size) (hbA : ¬ (fun q : Nat => s.heap.size ≤ q) b) {Inv : wx_St → Prop} (hq : q_feed Inv) {x3 : Int32} (hi1 : vp_in (x3 + 1) L) (hi2 : vp_in (x3 + 2) L) (hi3 : vp_in (x3 + 3) L) (hi4 : vp_in (x3 + 4) L) {σ : wx_St} (hI : Inv σ) {Q : State → Prop} (kk : ∀ (σ : wx_St) (rd : Nat → Nat) (H : Heap) (locs : List Loc), Inv σ → wx_Z D ad rd ca (fun q : Nat => s.heap.size ≤ q) σ H → va_S (fun q : Nat => s.heap.size ≤ q) s.heap H locs → ∀ ls : Array Slot, lv_has ls 4 [(3, .int x3), (2, .ref (ad 16 99)), (1, .ref (ad 11 99)), (0, .ref b)] → W p l e room_1 s m #[Value.ref b] below meth c H locs (200 + wx_n σ.2.2.2.2) (20000 + 6464 * wx_n σ.2.2.2.2) Q (F0 m 874 ls [])) {rd : Nat → Nat} {H : Heap} {locs : List Loc} (Z : wx_Z D ad rd ca (fun q : Nat => s.heap.size ≤ q) σ H) (hS : va_S (fun q : Nat => s.heap.size ≤ q) s.heap H locs) {ls : Array Slot} (hl : lv_has ls 4 [(3, .int x3), (2, .ref (ad 16 99)), (1, .ref (ad 11 99)), (0, .ref b)]) : W p l e room_1 s m #[Value.ref b] below meth c H locs (200 + wx_n σ.2.2.2.2) (20000 + 6464 * wx_n σ.2.2.2.2) Q (F0 m 290 ls []) := by
  obtain ⟨hx, hb, hml, hr, hts, hown, hlk, hC, hA⟩ := id B
  obtain ⟨r, σ1, σ2, h5, h6, hI2, hn1, hn2⟩ := hq ((xs (x3 + 1).toNatClampNeg)) ((xs (x3 + 2).toNatClampNeg)) σ hI
  have w0 := lw_n64 σ.2.2.2.2
  have w1 := lw_n64 σ1.2.2.2.2
  have w2 := lw_n64 σ2.2.2.2.2
  refine lv_aload_n hx hb dL_law_290 rfl (lv_at hl 2 rfl) ?_
  refine lv_aload_n hx hb dL_law_291 rfl (lv_at hl 3 rfl) ?_
  refine lv_iload_n hx hb dL_law_292 rfl (lv_at hl 0 rfl) ?_
  refine lv_iconst (v := 1) hx hb dL_law_293 (by decide) ?_
  refine lv_iadd hx hb dL_law_294 ?_
  refine va_sld hx hb hX hbl hbA hS hi1 dL_law_295 ?_
  refine lv_aload_n hx hb dL_law_296 rfl (lv_at hl 3 rfl) ?_
  refine lv_iload_n hx hb dL_law_297 rfl (lv_at hl 0 rfl) ?_
  refine lv_iconst (v := 2) hx hb dL_law_298 (by decide) ?_
  refine lv_iadd hx hb dL_law_299 ?_
  refine va_sld hx hb hX hbl hbA hS hi2 dL_law_300 ?_
  refine wx_call (va_runV (As := [.int (xs (x3 + 1).toNatClampNeg), .int (xs (x3 + 2).toNatClampNeg)]) (rest := []) ⟨hx, hb, hml, hown, hts⟩ (c_X5_feed l (D := D) (ad := ad) (rd := rd) (ca := ca) (A := (fun q : Nat => s.heap.size ≤ q)) (σ := σ) h5) (cwV 2 hts gL_law_X5_feed rfl rfl rfl (by decide +kernel) ⟨Nat.le_of_ble_eq_true rfl, Nat.le_of_ble_eq_true rfl⟩) (wx_preV hC Z hS hA rfl (rfl : vwCl[5]? = some (RX5, TX5, 7))) rfl rfl hl.1 rfl (lv_room (Nat.le_of_ble_eq_true rfl)) dL_law_301 ⟨(by show (200 + wx_n σ.2.2.2.2) + 0 ≤ 600000; omega), (by show (20000 + 6464 * wx_n σ.2.2.2.2) + 0 ≤ 7302250; omega)⟩) hS (fun H locs Z hS => ?_)
  refine W.widen (k := 200 + wx_n σ1.2.2.2.2) (n := 20000 + 6464 * wx_n σ1.2.2.2.2) (by omega) (by omega) ?_
  refine lv_aload_n hx hb dL_law_304 rfl (lv_at hl 1 rfl) ?_
  refine lv_aload_n hx hb dL_law_305 rfl (lv_at hl 3 rfl) ?_
  refine lv_iload_n hx hb dL_law_306 rfl (lv_at hl 0 rfl) ?_
  refine lv_iconst (v := 1) hx hb dL_law_307 (by decide) ?_
  refine lv_iadd hx hb dL_law_308 ?_
  refine va_sld hx hb hX hbl hbA hS hi1 dL_law_309 ?_
  refine lv_aload_n hx hb dL_law_310 rfl (lv_at hl 3 rfl) ?_
  refine lv_iload_n hx hb dL_law_311 rfl (lv_at hl 0 rfl) ?_
  refine lv_iconst (v := 2) hx hb dL_law_312 (by decide) ?_
  refine lv_iadd hx hb dL_law_313 ?_
  refine va_sld hx hb hX hbl hbA hS hi2 dL_law_314 ?_
  refine wx_call (va_runV (As := [.int (xs (x3 + 1).toNatClampNeg), .int (xs (x3 + 2).toNatClampNeg)]) (rest := [.int r]) ⟨hx, hb, hml, hown, hts⟩ (c_X6_feed l (D := D) (ad := ad) (rd := rd) (ca := ca) (A := (fun q : Nat => s.heap.size ≤ q)) (σ := σ1) h6) (cwV 2 hts gL_law_X6_feed rfl rfl rfl (by decide +kernel) ⟨Nat.le_of_ble_eq_true rfl, Nat.le_of_ble_eq_true rfl⟩) (wx_preV hC Z hS hA rfl (rfl : vwCl[6]? = some (RX6, TX6, 25))) rfl rfl hl.1 rfl (lv_room (Nat.le_of_ble_eq_true rfl)) dL_law_315 ⟨(by show (200 + wx_n σ1.2.2.2.2) + 0 ≤ 600000; omega), (by show (20000 + 6464 * wx_n σ1.2.2.2.2) + 0 ≤ 7302250; omega)⟩) hS (fun H locs Z hS => ?_)
  refine W.widen (k := 200 + wx_n σ2.2.2.2.2) (n := 20000 + 6464 * wx_n σ2.2.2.2.2) (by omega) (by omega) ?_
  exact lv_icmp_eq (tgt := 874) hx hb dL_law_318 (by decide) (fun _ => kk _ _ _ _ hI2 Z hS _ hl) (fun hn => absurd rfl hn)
def q_cool (Inv : wx_St → Prop) : Prop := lw_two Inv (f_X5_cool) (f_X6_cool)
set_option maxHeartbeats 4000000 in
theorem b_L_law_323 (B : wx_B p s m #[Value.ref b] meth c cL_law 4 (some .boolean) wsL_law RL D ad ca (fun q : Nat => s.heap.size ≤ q)) (hX : va_X b L xs s s.heap) (hbl : b < s.heap.size) (hbA : ¬ (fun q : Nat => s.heap.size ≤ q) b) {Inv : wx_St → Prop} (hq : q_cool Inv) {x3 : Int32} (hi1 : vp_in (x3 + 1) L) (hi2 : vp_in (x3 + 2) L) (hi3 : vp_in (x3 + 3) L) (hi4 : vp_in (x3 + 4) L) {σ : wx_St} (hI : Inv σ) {Q : State → Prop} (kk : ∀ (σ : wx_St) (rd : Nat → Nat) (H : Heap) (locs : List Loc), Inv σ → wx_Z D ad rd ca (fun q : Nat => s.heap.size ≤ q) σ H → va_S (fun q : Nat => s.heap.size ≤ q) s.heap H locs → ∀ ls : Array Slot, lv_has ls 4 [(3, .int x3), (2, .ref (ad 16 99)), (1, .ref (ad 11 99)), (0, .ref b)] → W p l e room_1 s m #[Value.ref b] below meth c H locs (200 + wx_n σ.2.2.2.2) (20000 + 6464 * wx_n σ.2.2.2.2) Q (F0 m 874 ls [])) {rd : Nat → Nat} {H : Heap} {locs : List Loc} (Z : wx_Z D ad rd ca (fun q : Nat => s.heap.size ≤ q) σ H) (hS : va_S (fun q : Nat => s.heap.size ≤ q) s.heap H locs) {ls : Array Slot} (hl : lv_has ls 4 [(3, .int x3), (2, .ref (ad 16 99)), (1, .ref (ad 11 99)), (0, .ref b)]) : W p l e room_1 s m #[Value.ref b] below meth c H locs (200 + wx_n σ.2.2.2.2) (20000 + 6464 * wx_n σ.2.2.2.2) Q (F0 m 323 ls []) := by
  obtain ⟨hx, hb, hml, hr, hts, hown, hlk, hC, hA⟩ := id B
  obtain ⟨r, σ1, σ2, h5, h6, hI2, hn1, hn2⟩ := hq σ hI
  have w0 := lw_n64 σ.2.2.2.2
  have w1 := lw_n64 σ1.2.2.2.2
  have w2 := lw_n64 σ2.2.2.2.2
  refine lv_aload_n hx hb dL_law_323 rfl (lv_at hl 2 rfl) ?_
  refine wx_call (va_runV (As := []) (rest := []) ⟨hx, hb, hml, hown, hts⟩ (c_X5_cool l (D := D) (ad := ad) (rd := rd) (ca := ca) (A := (fun q : Nat => s.heap.size ≤ q)) (σ := σ) h5) (cwV 0 hts gL_law_X5_cool rfl rfl rfl (by decide +kernel) ⟨Nat.le_of_ble_eq_true rfl, Nat.le_of_ble_eq_true rfl⟩) (wx_preV hC Z hS hA rfl (rfl : vwCl[5]? = some (RX5, TX5, 7))) rfl rfl hl.1 rfl (lv_room (Nat.le_of_ble_eq_true rfl)) dL_law_324 ⟨(by show (200 + wx_n σ.2.2.2.2) + 0 ≤ 600000; omega), (by show (20000 + 6464 * wx_n σ.2.2.2.2) + 0 ≤ 7302250; omega)⟩) hS (fun H locs Z hS => ?_)
  refine W.widen (k := 200 + wx_n σ1.2.2.2.2) (n := 20000 + 6464 * wx_n σ1.2.2.2.2) (by omega) (by omega) ?_
  refine lv_aload_n hx hb dL_law_327 rfl (lv_at hl 1 rfl) ?_
  refine wx_call (va_runV (As := []) (rest := [.int r]) ⟨hx, hb, hml, hown, hts⟩ (c_X6_cool l (D := D) (ad := ad) (rd := rd) (ca := ca) (A := (fun q : Nat => s.heap.size ≤ q)) (σ := σ1) h6) (cwV 0 hts gL_law_X6_cool rfl rfl rfl (by decide +kernel) ⟨Nat.le_of_ble_eq_true rfl, Nat.le_of_ble_eq_true rfl⟩) (wx_preV hC Z hS hA rfl (rfl : vwCl[6]? = some (RX6, TX6, 25))) rfl rfl hl.1 rfl (lv_room (Nat.le_of_ble_eq_true rfl)) dL_law_328 ⟨(by show (200 + wx_n σ1.2.2.2.2) + 0 ≤ 600000; omega), (by show (20000 + 6464 * wx_n σ1.2.2.2.2) + 0 ≤ 7302250; omega)⟩) hS (fun H locs Z hS => ?_)
  refine W.widen (k := 200 + wx_n σ2.2.2.2.2) (n := 20000 + 6464 * wx_n σ2.2.2.2.2) (by omega) (by omega) ?_
  exact lv_icmp_eq (tgt := 874) hx hb dL_law_331 (by decide) (fun _ => kk _ _ _ _ hI2 Z hS _ hl) (fun hn => absurd rfl hn)
def q_warm (Inv : wx_St → Prop) : Prop := ∀ (a0 : Int32), lw_two Inv (f_X5_warm a0) (f_X6_warm a0)
set_option maxHeartbeats 4000000 in
theorem b_L_law_336 (B : wx_B p s m #[Value.ref b] meth c cL_law 4 (some .boolean) wsL_law RL D ad ca (fun q : Nat => s.heap.size ≤ q)) (hX : va_X b L xs s s.heap) (hbl : b < s.heap.size) (hbA : ¬ (fun q : Nat => s.heap.size ≤ q) b) {Inv : wx_St → Prop} (hq : q_warm Inv) {x3 : Int32} (hi1 : vp_in (x3 + 1) L) (hi2 : vp_in (x3 + 2) L) (hi3 : vp_in (x3 + 3) L) (hi4 : vp_in (x3 + 4) L) {σ : wx_St} (hI : Inv σ) {Q : State → Prop} (kk : ∀ (σ : wx_St) (rd : Nat → Nat) (H : Heap) (locs : List Loc), Inv σ → wx_Z D ad rd ca (fun q : Nat => s.heap.size ≤ q) σ H → va_S (fun q : Nat => s.heap.size ≤ q) s.heap H locs → ∀ ls : Array Slot, lv_has ls 4 [(3, .int x3), (2, .ref (ad 16 99)), (1, .ref (ad 11 99)), (0, .ref b)] → W p l e room_1 s m #[Value.ref b] below meth c H locs (200 + wx_n σ.2.2.2.2) (20000 + 6464 * wx_n σ.2.2.2.2) Q (F0 m 874 ls [])) {rd : Nat → Nat} {H : Heap} {locs : List Loc} (Z : wx_Z D ad rd ca (fun q : Nat => s.heap.size ≤ q) σ H) (hS : va_S (fun q : Nat => s.heap.size ≤ q) s.heap H locs) {ls : Array Slot} (hl : lv_has ls 4 [(3, .int x3), (2, .ref (ad 16 99)), (1, .ref (ad 11 99)), (0, .ref b)]) : W p l e room_1 s m #[Value.ref b] below meth c H locs (200 + wx_n σ.2.2.2.2) (20000 + 6464 * wx_n σ.2.2.2.2) Q (F0 m 336 ls []) := by
  obtain ⟨hx, hb, hml, hr, hts, hown, hlk, hC, hA⟩ := id B
  obtain ⟨r, σ1, σ2, h5, h6, hI2, hn1, hn2⟩ := hq ((xs (x3 + 1).toNatClampNeg)) σ hI
  have w0 := lw_n64 σ.2.2.2.2
  have w1 := lw_n64 σ1.2.2.2.2
  have w2 := lw_n64 σ2.2.2.2.2
  refine lv_aload_n hx hb dL_law_336 rfl (lv_at hl 2 rfl) ?_
  refine lv_aload_n hx hb dL_law_337 rfl (lv_at hl 3 rfl) ?_
  refine lv_iload_n hx hb dL_law_338 rfl (lv_at hl 0 rfl) ?_
  refine lv_iconst (v := 1) hx hb dL_law_339 (by decide) ?_
  refine lv_iadd hx hb dL_law_340 ?_
  refine va_sld hx hb hX hbl hbA hS hi1 dL_law_341 ?_
  refine wx_call (va_runV (As := [.int (xs (x3 + 1).toNatClampNeg)]) (rest := []) ⟨hx, hb, hml, hown, hts⟩ (c_X5_warm l (D := D) (ad := ad) (rd := rd) (ca := ca) (A := (fun q : Nat => s.heap.size ≤ q)) (σ := σ) h5) (cwV 1 hts gL_law_X5_warm rfl rfl rfl (by decide +kernel) ⟨Nat.le_of_ble_eq_true rfl, Nat.le_of_ble_eq_true rfl⟩) (wx_preV hC Z hS hA rfl (rfl : vwCl[5]? = some (RX5, TX5, 7))) rfl rfl hl.1 rfl (lv_room (Nat.le_of_ble_eq_true rfl)) dL_law_342 ⟨(by show (200 + wx_n σ.2.2.2.2) + 0 ≤ 600000; omega), (by show (20000 + 6464 * wx_n σ.2.2.2.2) + 0 ≤ 7302250; omega)⟩) hS (fun H locs Z hS => ?_)
  refine W.widen (k := 200 + wx_n σ1.2.2.2.2) (n := 20000 + 6464 * wx_n σ1.2.2.2.2) (by omega) (by omega) ?_
  refine lv_aload_n hx hb dL_law_345 rfl (lv_at hl 1 rfl) ?_
  refine lv_aload_n hx hb dL_law_346 rfl (lv_at hl 3 rfl) ?_
  refine lv_iload_n hx hb dL_law_347 rfl (lv_at hl 0 rfl) ?_
  refine lv_iconst (v := 1) hx hb dL_law_348 (by decide) ?_
  refine lv_iadd hx hb dL_law_349 ?_
  refine va_sld hx hb hX hbl hbA hS hi1 dL_law_350 ?_
  refine wx_call (va_runV (As := [.int (xs (x3 + 1).toNatClampNeg)]) (rest := [.int r]) ⟨hx, hb, hml, hown, hts⟩ (c_X6_warm l (D := D) (ad := ad) (rd := rd) (ca := ca) (A := (fun q : Nat => s.heap.size ≤ q)) (σ := σ1) h6) (cwV 1 hts gL_law_X6_warm rfl rfl rfl (by decide +kernel) ⟨Nat.le_of_ble_eq_true rfl, Nat.le_of_ble_eq_true rfl⟩) (wx_preV hC Z hS hA rfl (rfl : vwCl[6]? = some (RX6, TX6, 25))) rfl rfl hl.1 rfl (lv_room (Nat.le_of_ble_eq_true rfl)) dL_law_351 ⟨(by show (200 + wx_n σ1.2.2.2.2) + 0 ≤ 600000; omega), (by show (20000 + 6464 * wx_n σ1.2.2.2.2) + 0 ≤ 7302250; omega)⟩) hS (fun H locs Z hS => ?_)
  refine W.widen (k := 200 + wx_n σ2.2.2.2.2) (n := 20000 + 6464 * wx_n σ2.2.2.2.2) (by omega) (by omega) ?_
  exact lv_icmp_eq (tgt := 874) hx hb dL_law_354 (by decide) (fun _ => kk _ _ _ _ hI2 Z hS _ hl) (fun hn => absurd rfl hn)
def q_probe (Inv : wx_St → Prop) : Prop := ∀ (a0 a1 : Int32), lw_two Inv (f_X5_probe a0 a1) (f_X6_probe a0 a1)
set_option maxHeartbeats 4000000 in
theorem b_L_law_359 (B : wx_B p s m #[Value.ref b] meth c cL_law 4 (some .boolean) wsL_law RL D ad ca (fun q : Nat => s.heap.size ≤ q)) (hX : va_X b L xs s s.heap) (hbl : b < s.heap.size) (hbA : ¬ (fun q : Nat => s.heap.size ≤ q) b) {Inv : wx_St → Prop} (hq : q_probe Inv) {x3 : Int32} (hi1 : vp_in (x3 + 1) L) (hi2 : vp_in (x3 + 2) L) (hi3 : vp_in (x3 + 3) L) (hi4 : vp_in (x3 + 4) L) {σ : wx_St} (hI : Inv σ) {Q : State → Prop} (kk : ∀ (σ : wx_St) (rd : Nat → Nat) (H : Heap) (locs : List Loc), Inv σ → wx_Z D ad rd ca (fun q : Nat => s.heap.size ≤ q) σ H → va_S (fun q : Nat => s.heap.size ≤ q) s.heap H locs → ∀ ls : Array Slot, lv_has ls 4 [(3, .int x3), (2, .ref (ad 16 99)), (1, .ref (ad 11 99)), (0, .ref b)] → W p l e room_1 s m #[Value.ref b] below meth c H locs (200 + wx_n σ.2.2.2.2) (20000 + 6464 * wx_n σ.2.2.2.2) Q (F0 m 874 ls [])) {rd : Nat → Nat} {H : Heap} {locs : List Loc} (Z : wx_Z D ad rd ca (fun q : Nat => s.heap.size ≤ q) σ H) (hS : va_S (fun q : Nat => s.heap.size ≤ q) s.heap H locs) {ls : Array Slot} (hl : lv_has ls 4 [(3, .int x3), (2, .ref (ad 16 99)), (1, .ref (ad 11 99)), (0, .ref b)]) : W p l e room_1 s m #[Value.ref b] below meth c H locs (200 + wx_n σ.2.2.2.2) (20000 + 6464 * wx_n σ.2.2.2.2) Q (F0 m 359 ls []) := by
  obtain ⟨hx, hb, hml, hr, hts, hown, hlk, hC, hA⟩ := id B
  obtain ⟨r, σ1, σ2, h5, h6, hI2, hn1, hn2⟩ := hq ((xs (x3 + 1).toNatClampNeg)) ((xs (x3 + 2).toNatClampNeg)) σ hI
  have w0 := lw_n64 σ.2.2.2.2
  have w1 := lw_n64 σ1.2.2.2.2
  have w2 := lw_n64 σ2.2.2.2.2
  refine lv_aload_n hx hb dL_law_359 rfl (lv_at hl 2 rfl) ?_
  refine lv_aload_n hx hb dL_law_360 rfl (lv_at hl 3 rfl) ?_
  refine lv_iload_n hx hb dL_law_361 rfl (lv_at hl 0 rfl) ?_
  refine lv_iconst (v := 1) hx hb dL_law_362 (by decide) ?_
  refine lv_iadd hx hb dL_law_363 ?_
  refine va_sld hx hb hX hbl hbA hS hi1 dL_law_364 ?_
  refine lv_aload_n hx hb dL_law_365 rfl (lv_at hl 3 rfl) ?_
  refine lv_iload_n hx hb dL_law_366 rfl (lv_at hl 0 rfl) ?_
  refine lv_iconst (v := 2) hx hb dL_law_367 (by decide) ?_
  refine lv_iadd hx hb dL_law_368 ?_
  refine va_sld hx hb hX hbl hbA hS hi2 dL_law_369 ?_
  refine wx_call (va_runV (As := [.int (xs (x3 + 1).toNatClampNeg), .int (xs (x3 + 2).toNatClampNeg)]) (rest := []) ⟨hx, hb, hml, hown, hts⟩ (c_X5_probe l (D := D) (ad := ad) (rd := rd) (ca := ca) (A := (fun q : Nat => s.heap.size ≤ q)) (σ := σ) h5) (cwV 2 hts gL_law_X5_probe rfl rfl rfl (by decide +kernel) ⟨Nat.le_of_ble_eq_true rfl, Nat.le_of_ble_eq_true rfl⟩) (wx_preV hC Z hS hA rfl (rfl : vwCl[5]? = some (RX5, TX5, 7))) rfl rfl hl.1 rfl (lv_room (Nat.le_of_ble_eq_true rfl)) dL_law_370 ⟨(by show (200 + wx_n σ.2.2.2.2) + 0 ≤ 600000; omega), (by show (20000 + 6464 * wx_n σ.2.2.2.2) + 0 ≤ 7302250; omega)⟩) hS (fun H locs Z hS => ?_)
  refine W.widen (k := 200 + wx_n σ1.2.2.2.2) (n := 20000 + 6464 * wx_n σ1.2.2.2.2) (by omega) (by omega) ?_
  refine lv_aload_n hx hb dL_law_373 rfl (lv_at hl 1 rfl) ?_
  refine lv_aload_n hx hb dL_law_374 rfl (lv_at hl 3 rfl) ?_
  refine lv_iload_n hx hb dL_law_375 rfl (lv_at hl 0 rfl) ?_
  refine lv_iconst (v := 1) hx hb dL_law_376 (by decide) ?_
  refine lv_iadd hx hb dL_law_377 ?_
  refine va_sld hx hb hX hbl hbA hS hi1 dL_law_378 ?_
  refine lv_aload_n hx hb dL_law_379 rfl (lv_at hl 3 rfl) ?_
  refine lv_iload_n hx hb dL_law_380 rfl (lv_at hl 0 rfl) ?_
  refine lv_iconst (v := 2) hx hb dL_law_381 (by decide) ?_
  refine lv_iadd hx hb dL_law_382 ?_
  refine va_sld hx hb hX hbl hbA hS hi2 dL_law_383 ?_
  refine wx_call (va_runV (As := [.int (xs (x3 + 1).toNatClampNeg), .int (xs (x3 + 2).toNatClampNeg)]) (rest := [.int r]) ⟨hx, hb, hml, hown, hts⟩ (c_X6_probe l (D := D) (ad := ad) (rd := rd) (ca := ca) (A := (fun q : Nat => s.heap.size ≤ q)) (σ := σ1) h6) (cwV 2 hts gL_law_X6_probe rfl rfl rfl (by decide +kernel) ⟨Nat.le_of_ble_eq_true rfl, Nat.le_of_ble_eq_true rfl⟩) (wx_preV hC Z hS hA rfl (rfl : vwCl[6]? = some (RX6, TX6, 25))) rfl rfl hl.1 rfl (lv_room (Nat.le_of_ble_eq_true rfl)) dL_law_384 ⟨(by show (200 + wx_n σ1.2.2.2.2) + 0 ≤ 600000; omega), (by show (20000 + 6464 * wx_n σ1.2.2.2.2) + 0 ≤ 7302250; omega)⟩) hS (fun H locs Z hS => ?_)
  refine W.widen (k := 200 + wx_n σ2.2.2.2.2) (n := 20000 + 6464 * wx_n σ2.2.2.2.2) (by omega) (by omega) ?_
  exact lv_icmp_eq (tgt := 874) hx hb dL_law_387 (by decide) (fun _ => kk _ _ _ _ hI2 Z hS _ hl) (fun hn => absurd rfl hn)
def q_at (Inv : wx_St → Prop) : Prop := ∀ (a0 a1 a2 : Int32), lw_two Inv (f_X5_at a0 a1 a2) (f_X6_at a0 a1 a2)
set_option maxHeartbeats 4000000 in
theorem b_L_law_392 (B : wx_B p s m #[Value.ref b] meth c cL_law 4 (some .boolean) wsL_law RL D ad ca (fun q : Nat => s.heap.size ≤ q)) (hX : va_X b L xs s s.heap) (hbl : b < s.heap.size) (hbA : ¬ (fun q : Nat => s.heap.size ≤ q) b) {Inv : wx_St → Prop} (hq : q_at Inv) {x3 : Int32} (hi1 : vp_in (x3 + 1) L) (hi2 : vp_in (x3 + 2) L) (hi3 : vp_in (x3 + 3) L) (hi4 : vp_in (x3 + 4) L) {σ : wx_St} (hI : Inv σ) {Q : State → Prop} (kk : ∀ (σ : wx_St) (rd : Nat → Nat) (H : Heap) (locs : List Loc), Inv σ → wx_Z D ad rd ca (fun q : Nat => s.heap.size ≤ q) σ H → va_S (fun q : Nat => s.heap.size ≤ q) s.heap H locs → ∀ ls : Array Slot, lv_has ls 4 [(3, .int x3), (2, .ref (ad 16 99)), (1, .ref (ad 11 99)), (0, .ref b)] → W p l e room_1 s m #[Value.ref b] below meth c H locs (200 + wx_n σ.2.2.2.2) (20000 + 6464 * wx_n σ.2.2.2.2) Q (F0 m 874 ls [])) {rd : Nat → Nat} {H : Heap} {locs : List Loc} (Z : wx_Z D ad rd ca (fun q : Nat => s.heap.size ≤ q) σ H) (hS : va_S (fun q : Nat => s.heap.size ≤ q) s.heap H locs) {ls : Array Slot} (hl : lv_has ls 4 [(3, .int x3), (2, .ref (ad 16 99)), (1, .ref (ad 11 99)), (0, .ref b)]) : W p l e room_1 s m #[Value.ref b] below meth c H locs (200 + wx_n σ.2.2.2.2) (20000 + 6464 * wx_n σ.2.2.2.2) Q (F0 m 392 ls []) := by
  obtain ⟨hx, hb, hml, hr, hts, hown, hlk, hC, hA⟩ := id B
  obtain ⟨r, σ1, σ2, h5, h6, hI2, hn1, hn2⟩ := hq ((xs (x3 + 1).toNatClampNeg)) ((xs (x3 + 2).toNatClampNeg)) ((xs (x3 + 3).toNatClampNeg)) σ hI
  have w0 := lw_n64 σ.2.2.2.2
  have w1 := lw_n64 σ1.2.2.2.2
  have w2 := lw_n64 σ2.2.2.2.2
  refine lv_aload_n hx hb dL_law_392 rfl (lv_at hl 2 rfl) ?_
  refine lv_aload_n hx hb dL_law_393 rfl (lv_at hl 3 rfl) ?_
  refine lv_iload_n hx hb dL_law_394 rfl (lv_at hl 0 rfl) ?_
  refine lv_iconst (v := 1) hx hb dL_law_395 (by decide) ?_
  refine lv_iadd hx hb dL_law_396 ?_
  refine va_sld hx hb hX hbl hbA hS hi1 dL_law_397 ?_
  refine lv_aload_n hx hb dL_law_398 rfl (lv_at hl 3 rfl) ?_
  refine lv_iload_n hx hb dL_law_399 rfl (lv_at hl 0 rfl) ?_
  refine lv_iconst (v := 2) hx hb dL_law_400 (by decide) ?_
  refine lv_iadd hx hb dL_law_401 ?_
  refine va_sld hx hb hX hbl hbA hS hi2 dL_law_402 ?_
  refine lv_aload_n hx hb dL_law_403 rfl (lv_at hl 3 rfl) ?_
  refine lv_iload_n hx hb dL_law_404 rfl (lv_at hl 0 rfl) ?_
  refine lv_iconst (v := 3) hx hb dL_law_405 (by decide) ?_
  refine lv_iadd hx hb dL_law_406 ?_
  refine va_sld hx hb hX hbl hbA hS hi3 dL_law_407 ?_
  refine wx_callA (va_runV (As := [.int (xs (x3 + 1).toNatClampNeg), .int (xs (x3 + 2).toNatClampNeg), .int (xs (x3 + 3).toNatClampNeg)]) (rest := []) ⟨hx, hb, hml, hown, hts⟩ (c_X5_at l (D := D) (ad := ad) (rd := rd) (ca := ca) (A := (fun q : Nat => s.heap.size ≤ q)) (σ := σ) h5) (cwV 3 hts gL_law_X5_at rfl rfl rfl (by decide +kernel) ⟨Nat.le_of_ble_eq_true rfl, Nat.le_of_ble_eq_true rfl⟩) (wx_preV hC Z hS hA rfl (rfl : vwCl[5]? = some (RX5, TX5, 7))) rfl rfl hl.1 rfl (lv_room (Nat.le_of_ble_eq_true rfl)) dL_law_408 ⟨(by show (200 + wx_n σ.2.2.2.2) + (wx_n σ1.2.2.2.2 - wx_n σ.2.2.2.2) ≤ 600000; omega), (by show (20000 + 6464 * wx_n σ.2.2.2.2) + 6464 * (wx_n σ1.2.2.2.2 - wx_n σ.2.2.2.2) ≤ 7302250; omega)⟩) hS (fun rd H locs Z hS => ?_)
  refine W.widen (k := 200 + wx_n σ1.2.2.2.2) (n := 20000 + 6464 * wx_n σ1.2.2.2.2) (by omega) (by omega) ?_
  refine lv_aload_n hx hb dL_law_411 rfl (lv_at hl 1 rfl) ?_
  refine lv_aload_n hx hb dL_law_412 rfl (lv_at hl 3 rfl) ?_
  refine lv_iload_n hx hb dL_law_413 rfl (lv_at hl 0 rfl) ?_
  refine lv_iconst (v := 1) hx hb dL_law_414 (by decide) ?_
  refine lv_iadd hx hb dL_law_415 ?_
  refine va_sld hx hb hX hbl hbA hS hi1 dL_law_416 ?_
  refine lv_aload_n hx hb dL_law_417 rfl (lv_at hl 3 rfl) ?_
  refine lv_iload_n hx hb dL_law_418 rfl (lv_at hl 0 rfl) ?_
  refine lv_iconst (v := 2) hx hb dL_law_419 (by decide) ?_
  refine lv_iadd hx hb dL_law_420 ?_
  refine va_sld hx hb hX hbl hbA hS hi2 dL_law_421 ?_
  refine lv_aload_n hx hb dL_law_422 rfl (lv_at hl 3 rfl) ?_
  refine lv_iload_n hx hb dL_law_423 rfl (lv_at hl 0 rfl) ?_
  refine lv_iconst (v := 3) hx hb dL_law_424 (by decide) ?_
  refine lv_iadd hx hb dL_law_425 ?_
  refine va_sld hx hb hX hbl hbA hS hi3 dL_law_426 ?_
  refine wx_call (va_runV (As := [.int (xs (x3 + 1).toNatClampNeg), .int (xs (x3 + 2).toNatClampNeg), .int (xs (x3 + 3).toNatClampNeg)]) (rest := [.int r]) ⟨hx, hb, hml, hown, hts⟩ (c_X6_at l (D := D) (ad := ad) (rd := rd) (ca := ca) (A := (fun q : Nat => s.heap.size ≤ q)) (σ := σ1) h6) (cwV 3 hts gL_law_X6_at rfl rfl rfl (by decide +kernel) ⟨Nat.le_of_ble_eq_true rfl, Nat.le_of_ble_eq_true rfl⟩) (wx_preV hC Z hS hA rfl (rfl : vwCl[6]? = some (RX6, TX6, 25))) rfl rfl hl.1 rfl (lv_room (Nat.le_of_ble_eq_true rfl)) dL_law_427 ⟨(by show (200 + wx_n σ1.2.2.2.2) + 0 ≤ 600000; omega), (by show (20000 + 6464 * wx_n σ1.2.2.2.2) + 0 ≤ 7302250; omega)⟩) hS (fun H locs Z hS => ?_)
  refine W.widen (k := 200 + wx_n σ2.2.2.2.2) (n := 20000 + 6464 * wx_n σ2.2.2.2.2) (by omega) (by omega) ?_
  exact lv_icmp_eq (tgt := 874) hx hb dL_law_430 (by decide) (fun _ => kk _ _ _ _ hI2 Z hS _ hl) (fun hn => absurd rfl hn)
def q_row (Inv : wx_St → Prop) : Prop := ∀ (a0 a1 : Int32), lw_two Inv (f_X5_row a0 a1) (f_X6_row a0 a1)
set_option maxHeartbeats 4000000 in
theorem b_L_law_435 (B : wx_B p s m #[Value.ref b] meth c cL_law 4 (some .boolean) wsL_law RL D ad ca (fun q : Nat => s.heap.size ≤ q)) (hX : va_X b L xs s s.heap) (hbl : b < s.heap.size) (hbA : ¬ (fun q : Nat => s.heap.size ≤ q) b) {Inv : wx_St → Prop} (hq : q_row Inv) {x3 : Int32} (hi1 : vp_in (x3 + 1) L) (hi2 : vp_in (x3 + 2) L) (hi3 : vp_in (x3 + 3) L) (hi4 : vp_in (x3 + 4) L) {σ : wx_St} (hI : Inv σ) {Q : State → Prop} (kk : ∀ (σ : wx_St) (rd : Nat → Nat) (H : Heap) (locs : List Loc), Inv σ → wx_Z D ad rd ca (fun q : Nat => s.heap.size ≤ q) σ H → va_S (fun q : Nat => s.heap.size ≤ q) s.heap H locs → ∀ ls : Array Slot, lv_has ls 4 [(3, .int x3), (2, .ref (ad 16 99)), (1, .ref (ad 11 99)), (0, .ref b)] → W p l e room_1 s m #[Value.ref b] below meth c H locs (200 + wx_n σ.2.2.2.2) (20000 + 6464 * wx_n σ.2.2.2.2) Q (F0 m 874 ls [])) {rd : Nat → Nat} {H : Heap} {locs : List Loc} (Z : wx_Z D ad rd ca (fun q : Nat => s.heap.size ≤ q) σ H) (hS : va_S (fun q : Nat => s.heap.size ≤ q) s.heap H locs) {ls : Array Slot} (hl : lv_has ls 4 [(3, .int x3), (2, .ref (ad 16 99)), (1, .ref (ad 11 99)), (0, .ref b)]) : W p l e room_1 s m #[Value.ref b] below meth c H locs (200 + wx_n σ.2.2.2.2) (20000 + 6464 * wx_n σ.2.2.2.2) Q (F0 m 435 ls []) := by
  obtain ⟨hx, hb, hml, hr, hts, hown, hlk, hC, hA⟩ := id B
  obtain ⟨r, σ1, σ2, h5, h6, hI2, hn1, hn2⟩ := hq ((xs (x3 + 1).toNatClampNeg)) ((xs (x3 + 2).toNatClampNeg)) σ hI
  have w0 := lw_n64 σ.2.2.2.2
  have w1 := lw_n64 σ1.2.2.2.2
  have w2 := lw_n64 σ2.2.2.2.2
  refine lv_aload_n hx hb dL_law_435 rfl (lv_at hl 2 rfl) ?_
  refine lv_aload_n hx hb dL_law_436 rfl (lv_at hl 3 rfl) ?_
  refine lv_iload_n hx hb dL_law_437 rfl (lv_at hl 0 rfl) ?_
  refine lv_iconst (v := 1) hx hb dL_law_438 (by decide) ?_
  refine lv_iadd hx hb dL_law_439 ?_
  refine va_sld hx hb hX hbl hbA hS hi1 dL_law_440 ?_
  refine lv_aload_n hx hb dL_law_441 rfl (lv_at hl 3 rfl) ?_
  refine lv_iload_n hx hb dL_law_442 rfl (lv_at hl 0 rfl) ?_
  refine lv_iconst (v := 2) hx hb dL_law_443 (by decide) ?_
  refine lv_iadd hx hb dL_law_444 ?_
  refine va_sld hx hb hX hbl hbA hS hi2 dL_law_445 ?_
  refine wx_callA (va_runV (As := [.int (xs (x3 + 1).toNatClampNeg), .int (xs (x3 + 2).toNatClampNeg)]) (rest := []) ⟨hx, hb, hml, hown, hts⟩ (c_X5_row l (D := D) (ad := ad) (rd := rd) (ca := ca) (A := (fun q : Nat => s.heap.size ≤ q)) (σ := σ) h5) (cwV 2 hts gL_law_X5_row rfl rfl rfl (by decide +kernel) ⟨Nat.le_of_ble_eq_true rfl, Nat.le_of_ble_eq_true rfl⟩) (wx_preV hC Z hS hA rfl (rfl : vwCl[5]? = some (RX5, TX5, 7))) rfl rfl hl.1 rfl (lv_room (Nat.le_of_ble_eq_true rfl)) dL_law_446 ⟨(by show (200 + wx_n σ.2.2.2.2) + (wx_n σ1.2.2.2.2 - wx_n σ.2.2.2.2) ≤ 600000; omega), (by show (20000 + 6464 * wx_n σ.2.2.2.2) + 6464 * (wx_n σ1.2.2.2.2 - wx_n σ.2.2.2.2) ≤ 7302250; omega)⟩) hS (fun rd H locs Z hS => ?_)
  refine W.widen (k := 200 + wx_n σ1.2.2.2.2) (n := 20000 + 6464 * wx_n σ1.2.2.2.2) (by omega) (by omega) ?_
  refine lv_aload_n hx hb dL_law_449 rfl (lv_at hl 1 rfl) ?_
  refine lv_aload_n hx hb dL_law_450 rfl (lv_at hl 3 rfl) ?_
  refine lv_iload_n hx hb dL_law_451 rfl (lv_at hl 0 rfl) ?_
  refine lv_iconst (v := 1) hx hb dL_law_452 (by decide) ?_
  refine lv_iadd hx hb dL_law_453 ?_
  refine va_sld hx hb hX hbl hbA hS hi1 dL_law_454 ?_
  refine lv_aload_n hx hb dL_law_455 rfl (lv_at hl 3 rfl) ?_
  refine lv_iload_n hx hb dL_law_456 rfl (lv_at hl 0 rfl) ?_
  refine lv_iconst (v := 2) hx hb dL_law_457 (by decide) ?_
  refine lv_iadd hx hb dL_law_458 ?_
  refine va_sld hx hb hX hbl hbA hS hi2 dL_law_459 ?_
  refine wx_call (va_runV (As := [.int (xs (x3 + 1).toNatClampNeg), .int (xs (x3 + 2).toNatClampNeg)]) (rest := [.int r]) ⟨hx, hb, hml, hown, hts⟩ (c_X6_row l (D := D) (ad := ad) (rd := rd) (ca := ca) (A := (fun q : Nat => s.heap.size ≤ q)) (σ := σ1) h6) (cwV 2 hts gL_law_X6_row rfl rfl rfl (by decide +kernel) ⟨Nat.le_of_ble_eq_true rfl, Nat.le_of_ble_eq_true rfl⟩) (wx_preV hC Z hS hA rfl (rfl : vwCl[6]? = some (RX6, TX6, 25))) rfl rfl hl.1 rfl (lv_room (Nat.le_of_ble_eq_true rfl)) dL_law_460 ⟨(by show (200 + wx_n σ1.2.2.2.2) + 0 ≤ 600000; omega), (by show (20000 + 6464 * wx_n σ1.2.2.2.2) + 0 ≤ 7302250; omega)⟩) hS (fun H locs Z hS => ?_)
  refine W.widen (k := 200 + wx_n σ2.2.2.2.2) (n := 20000 + 6464 * wx_n σ2.2.2.2.2) (by omega) (by omega) ?_
  exact lv_icmp_eq (tgt := 874) hx hb dL_law_463 (by decide) (fun _ => kk _ _ _ _ hI2 Z hS _ hl) (fun hn => absurd rfl hn)
def q_ofTouch (Inv : wx_St → Prop) : Prop := ∀ (a0 a1 : Int32), lw_two Inv (lw_r (f_X5_ofTouch a0 a1)) (lw_r (f_X6_ofTouch a0 a1))
set_option maxHeartbeats 4000000 in
theorem b_L_law_468 (B : wx_B p s m #[Value.ref b] meth c cL_law 4 (some .boolean) wsL_law RL D ad ca (fun q : Nat => s.heap.size ≤ q)) (hX : va_X b L xs s s.heap) (hbl : b < s.heap.size) (hbA : ¬ (fun q : Nat => s.heap.size ≤ q) b) {Inv : wx_St → Prop} (hq : q_ofTouch Inv) {x3 : Int32} (hi1 : vp_in (x3 + 1) L) (hi2 : vp_in (x3 + 2) L) (hi3 : vp_in (x3 + 3) L) (hi4 : vp_in (x3 + 4) L) {σ : wx_St} (hI : Inv σ) {Q : State → Prop} (kk : ∀ (σ : wx_St) (rd : Nat → Nat) (H : Heap) (locs : List Loc), Inv σ → wx_Z D ad rd ca (fun q : Nat => s.heap.size ≤ q) σ H → va_S (fun q : Nat => s.heap.size ≤ q) s.heap H locs → ∀ ls : Array Slot, lv_has ls 4 [(3, .int x3), (2, .ref (ad 16 99)), (1, .ref (ad 11 99)), (0, .ref b)] → W p l e room_1 s m #[Value.ref b] below meth c H locs (200 + wx_n σ.2.2.2.2) (20000 + 6464 * wx_n σ.2.2.2.2) Q (F0 m 874 ls [])) {rd : Nat → Nat} {H : Heap} {locs : List Loc} (Z : wx_Z D ad rd ca (fun q : Nat => s.heap.size ≤ q) σ H) (hS : va_S (fun q : Nat => s.heap.size ≤ q) s.heap H locs) {ls : Array Slot} (hl : lv_has ls 4 [(3, .int x3), (2, .ref (ad 16 99)), (1, .ref (ad 11 99)), (0, .ref b)]) : W p l e room_1 s m #[Value.ref b] below meth c H locs (200 + wx_n σ.2.2.2.2) (20000 + 6464 * wx_n σ.2.2.2.2) Q (F0 m 468 ls []) := by
  obtain ⟨hx, hb, hml, hr, hts, hown, hlk, hC, hA⟩ := id B
  obtain ⟨r, σ1, σ2, h5, h6, hI2, hn1, hn2⟩ := hq ((xs (x3 + 1).toNatClampNeg)) ((xs (x3 + 2).toNatClampNeg)) σ hI
  have w0 := lw_n64 σ.2.2.2.2
  have w1 := lw_n64 σ1.2.2.2.2
  have w2 := lw_n64 σ2.2.2.2.2
  refine lv_aload_n hx hb dL_law_468 rfl (lv_at hl 2 rfl) ?_
  refine lv_aload_n hx hb dL_law_469 rfl (lv_at hl 3 rfl) ?_
  refine lv_iload_n hx hb dL_law_470 rfl (lv_at hl 0 rfl) ?_
  refine lv_iconst (v := 1) hx hb dL_law_471 (by decide) ?_
  refine lv_iadd hx hb dL_law_472 ?_
  refine va_sld hx hb hX hbl hbA hS hi1 dL_law_473 ?_
  refine lv_aload_n hx hb dL_law_474 rfl (lv_at hl 3 rfl) ?_
  refine lv_iload_n hx hb dL_law_475 rfl (lv_at hl 0 rfl) ?_
  refine lv_iconst (v := 2) hx hb dL_law_476 (by decide) ?_
  refine lv_iadd hx hb dL_law_477 ?_
  refine va_sld hx hb hX hbl hbA hS hi2 dL_law_478 ?_
  obtain ⟨h5a, eh5a⟩ := lw_r_ok h5
  subst eh5a
  refine wx_call (va_runV (As := [.int (xs (x3 + 1).toNatClampNeg), .int (xs (x3 + 2).toNatClampNeg)]) (rest := []) ⟨hx, hb, hml, hown, hts⟩ (c_X5_ofTouch l (D := D) (ad := ad) (rd := rd) (ca := ca) (A := (fun q : Nat => s.heap.size ≤ q)) (σ := σ) h5a) (cwV 2 hts gL_law_X5_ofTouch rfl rfl rfl (by decide +kernel) ⟨Nat.le_of_ble_eq_true rfl, Nat.le_of_ble_eq_true rfl⟩) (wx_preV hC Z hS hA rfl (rfl : vwCl[5]? = some (RX5, TX5, 7))) rfl rfl hl.1 rfl (lv_room (Nat.le_of_ble_eq_true rfl)) dL_law_479 ⟨(by show (200 + wx_n σ.2.2.2.2) + 0 ≤ 600000; omega), (by show (20000 + 6464 * wx_n σ.2.2.2.2) + 0 ≤ 7302250; omega)⟩) hS (fun H locs Z hS => ?_)
  refine lv_aload_n hx hb dL_law_482 rfl (lv_at hl 1 rfl) ?_
  refine lv_aload_n hx hb dL_law_483 rfl (lv_at hl 3 rfl) ?_
  refine lv_iload_n hx hb dL_law_484 rfl (lv_at hl 0 rfl) ?_
  refine lv_iconst (v := 1) hx hb dL_law_485 (by decide) ?_
  refine lv_iadd hx hb dL_law_486 ?_
  refine va_sld hx hb hX hbl hbA hS hi1 dL_law_487 ?_
  refine lv_aload_n hx hb dL_law_488 rfl (lv_at hl 3 rfl) ?_
  refine lv_iload_n hx hb dL_law_489 rfl (lv_at hl 0 rfl) ?_
  refine lv_iconst (v := 2) hx hb dL_law_490 (by decide) ?_
  refine lv_iadd hx hb dL_law_491 ?_
  refine va_sld hx hb hX hbl hbA hS hi2 dL_law_492 ?_
  obtain ⟨h6a, eh6a⟩ := lw_r_ok h6
  subst eh6a
  refine wx_call (va_runV (As := [.int (xs (x3 + 1).toNatClampNeg), .int (xs (x3 + 2).toNatClampNeg)]) (rest := [.int r]) ⟨hx, hb, hml, hown, hts⟩ (c_X6_ofTouch l (D := D) (ad := ad) (rd := rd) (ca := ca) (A := (fun q : Nat => s.heap.size ≤ q)) (σ := σ) h6a) (cwV 2 hts gL_law_X6_ofTouch rfl rfl rfl (by decide +kernel) ⟨Nat.le_of_ble_eq_true rfl, Nat.le_of_ble_eq_true rfl⟩) (wx_preV hC Z hS hA rfl (rfl : vwCl[6]? = some (RX6, TX6, 25))) rfl rfl hl.1 rfl (lv_room (Nat.le_of_ble_eq_true rfl)) dL_law_493 ⟨(by show (200 + wx_n σ.2.2.2.2) + 0 ≤ 600000; omega), (by show (20000 + 6464 * wx_n σ.2.2.2.2) + 0 ≤ 7302250; omega)⟩) hS (fun H locs Z hS => ?_)
  exact lv_icmp_eq (tgt := 874) hx hb dL_law_496 (by decide) (fun _ => kk _ _ _ _ hI2 Z hS _ hl) (fun hn => absurd rfl hn)
def q_reading (Inv : wx_St → Prop) : Prop := ∀ (a0 a1 : Int32), lw_two Inv (lw_r (f_X5_reading a0 a1)) (lw_r (f_X6_reading a0 a1))
set_option maxHeartbeats 4000000 in
theorem b_L_law_501 (B : wx_B p s m #[Value.ref b] meth c cL_law 4 (some .boolean) wsL_law RL D ad ca (fun q : Nat => s.heap.size ≤ q)) (hX : va_X b L xs s s.heap) (hbl : b < s.heap.size) (hbA : ¬ (fun q : Nat => s.heap.size ≤ q) b) {Inv : wx_St → Prop} (hq : q_reading Inv) {x3 : Int32} (hi1 : vp_in (x3 + 1) L) (hi2 : vp_in (x3 + 2) L) (hi3 : vp_in (x3 + 3) L) (hi4 : vp_in (x3 + 4) L) {σ : wx_St} (hI : Inv σ) {Q : State → Prop} (kk : ∀ (σ : wx_St) (rd : Nat → Nat) (H : Heap) (locs : List Loc), Inv σ → wx_Z D ad rd ca (fun q : Nat => s.heap.size ≤ q) σ H → va_S (fun q : Nat => s.heap.size ≤ q) s.heap H locs → ∀ ls : Array Slot, lv_has ls 4 [(3, .int x3), (2, .ref (ad 16 99)), (1, .ref (ad 11 99)), (0, .ref b)] → W p l e room_1 s m #[Value.ref b] below meth c H locs (200 + wx_n σ.2.2.2.2) (20000 + 6464 * wx_n σ.2.2.2.2) Q (F0 m 874 ls [])) {rd : Nat → Nat} {H : Heap} {locs : List Loc} (Z : wx_Z D ad rd ca (fun q : Nat => s.heap.size ≤ q) σ H) (hS : va_S (fun q : Nat => s.heap.size ≤ q) s.heap H locs) {ls : Array Slot} (hl : lv_has ls 4 [(3, .int x3), (2, .ref (ad 16 99)), (1, .ref (ad 11 99)), (0, .ref b)]) : W p l e room_1 s m #[Value.ref b] below meth c H locs (200 + wx_n σ.2.2.2.2) (20000 + 6464 * wx_n σ.2.2.2.2) Q (F0 m 501 ls []) := by
  obtain ⟨hx, hb, hml, hr, hts, hown, hlk, hC, hA⟩ := id B
  obtain ⟨r, σ1, σ2, h5, h6, hI2, hn1, hn2⟩ := hq ((xs (x3 + 1).toNatClampNeg)) ((xs (x3 + 2).toNatClampNeg)) σ hI
  have w0 := lw_n64 σ.2.2.2.2
  have w1 := lw_n64 σ1.2.2.2.2
  have w2 := lw_n64 σ2.2.2.2.2
  refine lv_aload_n hx hb dL_law_501 rfl (lv_at hl 2 rfl) ?_
  refine lv_aload_n hx hb dL_law_502 rfl (lv_at hl 3 rfl) ?_
  refine lv_iload_n hx hb dL_law_503 rfl (lv_at hl 0 rfl) ?_
  refine lv_iconst (v := 1) hx hb dL_law_504 (by decide) ?_
  refine lv_iadd hx hb dL_law_505 ?_
  refine va_sld hx hb hX hbl hbA hS hi1 dL_law_506 ?_
  refine lv_aload_n hx hb dL_law_507 rfl (lv_at hl 3 rfl) ?_
  refine lv_iload_n hx hb dL_law_508 rfl (lv_at hl 0 rfl) ?_
  refine lv_iconst (v := 2) hx hb dL_law_509 (by decide) ?_
  refine lv_iadd hx hb dL_law_510 ?_
  refine va_sld hx hb hX hbl hbA hS hi2 dL_law_511 ?_
  obtain ⟨h5a, eh5a⟩ := lw_r_ok h5
  subst eh5a
  refine wx_call (va_runV (As := [.int (xs (x3 + 1).toNatClampNeg), .int (xs (x3 + 2).toNatClampNeg)]) (rest := []) ⟨hx, hb, hml, hown, hts⟩ (c_X5_reading l (D := D) (ad := ad) (rd := rd) (ca := ca) (A := (fun q : Nat => s.heap.size ≤ q)) (σ := σ) h5a) (cwV 2 hts gL_law_X5_reading rfl rfl rfl (by decide +kernel) ⟨Nat.le_of_ble_eq_true rfl, Nat.le_of_ble_eq_true rfl⟩) (wx_preV hC Z hS hA rfl (rfl : vwCl[5]? = some (RX5, TX5, 7))) rfl rfl hl.1 rfl (lv_room (Nat.le_of_ble_eq_true rfl)) dL_law_512 ⟨(by show (200 + wx_n σ.2.2.2.2) + 0 ≤ 600000; omega), (by show (20000 + 6464 * wx_n σ.2.2.2.2) + 0 ≤ 7302250; omega)⟩) hS (fun H locs Z hS => ?_)
  refine lv_aload_n hx hb dL_law_515 rfl (lv_at hl 1 rfl) ?_
  refine lv_aload_n hx hb dL_law_516 rfl (lv_at hl 3 rfl) ?_
  refine lv_iload_n hx hb dL_law_517 rfl (lv_at hl 0 rfl) ?_
  refine lv_iconst (v := 1) hx hb dL_law_518 (by decide) ?_
  refine lv_iadd hx hb dL_law_519 ?_
  refine va_sld hx hb hX hbl hbA hS hi1 dL_law_520 ?_
  refine lv_aload_n hx hb dL_law_521 rfl (lv_at hl 3 rfl) ?_
  refine lv_iload_n hx hb dL_law_522 rfl (lv_at hl 0 rfl) ?_
  refine lv_iconst (v := 2) hx hb dL_law_523 (by decide) ?_
  refine lv_iadd hx hb dL_law_524 ?_
  refine va_sld hx hb hX hbl hbA hS hi2 dL_law_525 ?_
  obtain ⟨h6a, eh6a⟩ := lw_r_ok h6
  subst eh6a
  refine wx_call (va_runV (As := [.int (xs (x3 + 1).toNatClampNeg), .int (xs (x3 + 2).toNatClampNeg)]) (rest := [.int r]) ⟨hx, hb, hml, hown, hts⟩ (c_X6_reading l (D := D) (ad := ad) (rd := rd) (ca := ca) (A := (fun q : Nat => s.heap.size ≤ q)) (σ := σ) h6a) (cwV 2 hts gL_law_X6_reading rfl rfl rfl (by decide +kernel) ⟨Nat.le_of_ble_eq_true rfl, Nat.le_of_ble_eq_true rfl⟩) (wx_preV hC Z hS hA rfl (rfl : vwCl[6]? = some (RX6, TX6, 25))) rfl rfl hl.1 rfl (lv_room (Nat.le_of_ble_eq_true rfl)) dL_law_526 ⟨(by show (200 + wx_n σ.2.2.2.2) + 0 ≤ 600000; omega), (by show (20000 + 6464 * wx_n σ.2.2.2.2) + 0 ≤ 7302250; omega)⟩) hS (fun H locs Z hS => ?_)
  exact lv_icmp_eq (tgt := 874) hx hb dL_law_529 (by decide) (fun _ => kk _ _ _ _ hI2 Z hS _ hl) (fun hn => absurd rfl hn)
def q_ofNet (Inv : wx_St → Prop) : Prop := ∀ (a0 a1 : Int32), lw_two Inv (lw_r (f_X5_ofNet a0 a1)) (lw_r (f_X6_ofNet a0 a1))
set_option maxHeartbeats 4000000 in
theorem b_L_law_534 (B : wx_B p s m #[Value.ref b] meth c cL_law 4 (some .boolean) wsL_law RL D ad ca (fun q : Nat => s.heap.size ≤ q)) (hX : va_X b L xs s s.heap) (hbl : b < s.heap.size) (hbA : ¬ (fun q : Nat => s.heap.size ≤ q) b) {Inv : wx_St → Prop} (hq : q_ofNet Inv) {x3 : Int32} (hi1 : vp_in (x3 + 1) L) (hi2 : vp_in (x3 + 2) L) (hi3 : vp_in (x3 + 3) L) (hi4 : vp_in (x3 + 4) L) {σ : wx_St} (hI : Inv σ) {Q : State → Prop} (kk : ∀ (σ : wx_St) (rd : Nat → Nat) (H : Heap) (locs : List Loc), Inv σ → wx_Z D ad rd ca (fun q : Nat => s.heap.size ≤ q) σ H → va_S (fun q : Nat => s.heap.size ≤ q) s.heap H locs → ∀ ls : Array Slot, lv_has ls 4 [(3, .int x3), (2, .ref (ad 16 99)), (1, .ref (ad 11 99)), (0, .ref b)] → W p l e room_1 s m #[Value.ref b] below meth c H locs (200 + wx_n σ.2.2.2.2) (20000 + 6464 * wx_n σ.2.2.2.2) Q (F0 m 874 ls [])) {rd : Nat → Nat} {H : Heap} {locs : List Loc} (Z : wx_Z D ad rd ca (fun q : Nat => s.heap.size ≤ q) σ H) (hS : va_S (fun q : Nat => s.heap.size ≤ q) s.heap H locs) {ls : Array Slot} (hl : lv_has ls 4 [(3, .int x3), (2, .ref (ad 16 99)), (1, .ref (ad 11 99)), (0, .ref b)]) : W p l e room_1 s m #[Value.ref b] below meth c H locs (200 + wx_n σ.2.2.2.2) (20000 + 6464 * wx_n σ.2.2.2.2) Q (F0 m 534 ls []) := by
  obtain ⟨hx, hb, hml, hr, hts, hown, hlk, hC, hA⟩ := id B
  obtain ⟨r, σ1, σ2, h5, h6, hI2, hn1, hn2⟩ := hq ((xs (x3 + 1).toNatClampNeg)) ((xs (x3 + 2).toNatClampNeg)) σ hI
  have w0 := lw_n64 σ.2.2.2.2
  have w1 := lw_n64 σ1.2.2.2.2
  have w2 := lw_n64 σ2.2.2.2.2
  refine lv_aload_n hx hb dL_law_534 rfl (lv_at hl 2 rfl) ?_
  refine lv_aload_n hx hb dL_law_535 rfl (lv_at hl 3 rfl) ?_
  refine lv_iload_n hx hb dL_law_536 rfl (lv_at hl 0 rfl) ?_
  refine lv_iconst (v := 1) hx hb dL_law_537 (by decide) ?_
  refine lv_iadd hx hb dL_law_538 ?_
  refine va_sld hx hb hX hbl hbA hS hi1 dL_law_539 ?_
  refine lv_aload_n hx hb dL_law_540 rfl (lv_at hl 3 rfl) ?_
  refine lv_iload_n hx hb dL_law_541 rfl (lv_at hl 0 rfl) ?_
  refine lv_iconst (v := 2) hx hb dL_law_542 (by decide) ?_
  refine lv_iadd hx hb dL_law_543 ?_
  refine va_sld hx hb hX hbl hbA hS hi2 dL_law_544 ?_
  obtain ⟨h5a, eh5a⟩ := lw_r_ok h5
  subst eh5a
  refine wx_call (va_runV (As := [.int (xs (x3 + 1).toNatClampNeg), .int (xs (x3 + 2).toNatClampNeg)]) (rest := []) ⟨hx, hb, hml, hown, hts⟩ (c_X5_ofNet l (D := D) (ad := ad) (rd := rd) (ca := ca) (A := (fun q : Nat => s.heap.size ≤ q)) (σ := σ) h5a) (cwV 2 hts gL_law_X5_ofNet rfl rfl rfl (by decide +kernel) ⟨Nat.le_of_ble_eq_true rfl, Nat.le_of_ble_eq_true rfl⟩) (wx_preV hC Z hS hA rfl (rfl : vwCl[5]? = some (RX5, TX5, 7))) rfl rfl hl.1 rfl (lv_room (Nat.le_of_ble_eq_true rfl)) dL_law_545 ⟨(by show (200 + wx_n σ.2.2.2.2) + 0 ≤ 600000; omega), (by show (20000 + 6464 * wx_n σ.2.2.2.2) + 0 ≤ 7302250; omega)⟩) hS (fun H locs Z hS => ?_)
  refine lv_aload_n hx hb dL_law_548 rfl (lv_at hl 1 rfl) ?_
  refine lv_aload_n hx hb dL_law_549 rfl (lv_at hl 3 rfl) ?_
  refine lv_iload_n hx hb dL_law_550 rfl (lv_at hl 0 rfl) ?_
  refine lv_iconst (v := 1) hx hb dL_law_551 (by decide) ?_
  refine lv_iadd hx hb dL_law_552 ?_
  refine va_sld hx hb hX hbl hbA hS hi1 dL_law_553 ?_
  refine lv_aload_n hx hb dL_law_554 rfl (lv_at hl 3 rfl) ?_
  refine lv_iload_n hx hb dL_law_555 rfl (lv_at hl 0 rfl) ?_
  refine lv_iconst (v := 2) hx hb dL_law_556 (by decide) ?_
  refine lv_iadd hx hb dL_law_557 ?_
  refine va_sld hx hb hX hbl hbA hS hi2 dL_law_558 ?_
  obtain ⟨h6a, eh6a⟩ := lw_r_ok h6
  subst eh6a
  refine wx_call (va_runV (As := [.int (xs (x3 + 1).toNatClampNeg), .int (xs (x3 + 2).toNatClampNeg)]) (rest := [.int r]) ⟨hx, hb, hml, hown, hts⟩ (c_X6_ofNet l (D := D) (ad := ad) (rd := rd) (ca := ca) (A := (fun q : Nat => s.heap.size ≤ q)) (σ := σ) h6a) (cwV 2 hts gL_law_X6_ofNet rfl rfl rfl (by decide +kernel) ⟨Nat.le_of_ble_eq_true rfl, Nat.le_of_ble_eq_true rfl⟩) (wx_preV hC Z hS hA rfl (rfl : vwCl[6]? = some (RX6, TX6, 25))) rfl rfl hl.1 rfl (lv_room (Nat.le_of_ble_eq_true rfl)) dL_law_559 ⟨(by show (200 + wx_n σ.2.2.2.2) + 0 ≤ 600000; omega), (by show (20000 + 6464 * wx_n σ.2.2.2.2) + 0 ≤ 7302250; omega)⟩) hS (fun H locs Z hS => ?_)
  exact lv_icmp_eq (tgt := 874) hx hb dL_law_562 (by decide) (fun _ => kk _ _ _ _ hI2 Z hS _ hl) (fun hn => absurd rfl hn)
def q_count (Inv : wx_St → Prop) : Prop := ∀ (a0 : Int32), lw_two Inv (f_X5_count a0) (f_X6_count a0)
set_option maxHeartbeats 4000000 in
theorem b_L_law_567 (B : wx_B p s m #[Value.ref b] meth c cL_law 4 (some .boolean) wsL_law RL D ad ca (fun q : Nat => s.heap.size ≤ q)) (hX : va_X b L xs s s.heap) (hbl : b < s.heap.size) (hbA : ¬ (fun q : Nat => s.heap.size ≤ q) b) {Inv : wx_St → Prop} (hq : q_count Inv) {x3 : Int32} (hi1 : vp_in (x3 + 1) L) (hi2 : vp_in (x3 + 2) L) (hi3 : vp_in (x3 + 3) L) (hi4 : vp_in (x3 + 4) L) {σ : wx_St} (hI : Inv σ) {Q : State → Prop} (kk : ∀ (σ : wx_St) (rd : Nat → Nat) (H : Heap) (locs : List Loc), Inv σ → wx_Z D ad rd ca (fun q : Nat => s.heap.size ≤ q) σ H → va_S (fun q : Nat => s.heap.size ≤ q) s.heap H locs → ∀ ls : Array Slot, lv_has ls 4 [(3, .int x3), (2, .ref (ad 16 99)), (1, .ref (ad 11 99)), (0, .ref b)] → W p l e room_1 s m #[Value.ref b] below meth c H locs (200 + wx_n σ.2.2.2.2) (20000 + 6464 * wx_n σ.2.2.2.2) Q (F0 m 874 ls [])) {rd : Nat → Nat} {H : Heap} {locs : List Loc} (Z : wx_Z D ad rd ca (fun q : Nat => s.heap.size ≤ q) σ H) (hS : va_S (fun q : Nat => s.heap.size ≤ q) s.heap H locs) {ls : Array Slot} (hl : lv_has ls 4 [(3, .int x3), (2, .ref (ad 16 99)), (1, .ref (ad 11 99)), (0, .ref b)]) : W p l e room_1 s m #[Value.ref b] below meth c H locs (200 + wx_n σ.2.2.2.2) (20000 + 6464 * wx_n σ.2.2.2.2) Q (F0 m 567 ls []) := by
  obtain ⟨hx, hb, hml, hr, hts, hown, hlk, hC, hA⟩ := id B
  obtain ⟨r, σ1, σ2, h5, h6, hI2, hn1, hn2⟩ := hq ((xs (x3 + 1).toNatClampNeg)) σ hI
  have w0 := lw_n64 σ.2.2.2.2
  have w1 := lw_n64 σ1.2.2.2.2
  have w2 := lw_n64 σ2.2.2.2.2
  refine lv_aload_n hx hb dL_law_567 rfl (lv_at hl 2 rfl) ?_
  refine lv_aload_n hx hb dL_law_568 rfl (lv_at hl 3 rfl) ?_
  refine lv_iload_n hx hb dL_law_569 rfl (lv_at hl 0 rfl) ?_
  refine lv_iconst (v := 1) hx hb dL_law_570 (by decide) ?_
  refine lv_iadd hx hb dL_law_571 ?_
  refine va_sld hx hb hX hbl hbA hS hi1 dL_law_572 ?_
  refine wx_callA (va_runV (As := [.int (xs (x3 + 1).toNatClampNeg)]) (rest := []) ⟨hx, hb, hml, hown, hts⟩ (c_X5_count l (D := D) (ad := ad) (rd := rd) (ca := ca) (A := (fun q : Nat => s.heap.size ≤ q)) (σ := σ) h5) (cwV 1 hts gL_law_X5_count rfl rfl rfl (by decide +kernel) ⟨Nat.le_of_ble_eq_true rfl, Nat.le_of_ble_eq_true rfl⟩) (wx_preV hC Z hS hA rfl (rfl : vwCl[5]? = some (RX5, TX5, 7))) rfl rfl hl.1 rfl (lv_room (Nat.le_of_ble_eq_true rfl)) dL_law_573 ⟨(by show (200 + wx_n σ.2.2.2.2) + (wx_n σ1.2.2.2.2 - wx_n σ.2.2.2.2) ≤ 600000; omega), (by show (20000 + 6464 * wx_n σ.2.2.2.2) + 6464 * (wx_n σ1.2.2.2.2 - wx_n σ.2.2.2.2) ≤ 7302250; omega)⟩) hS (fun rd H locs Z hS => ?_)
  refine W.widen (k := 200 + wx_n σ1.2.2.2.2) (n := 20000 + 6464 * wx_n σ1.2.2.2.2) (by omega) (by omega) ?_
  refine lv_aload_n hx hb dL_law_576 rfl (lv_at hl 1 rfl) ?_
  refine lv_aload_n hx hb dL_law_577 rfl (lv_at hl 3 rfl) ?_
  refine lv_iload_n hx hb dL_law_578 rfl (lv_at hl 0 rfl) ?_
  refine lv_iconst (v := 1) hx hb dL_law_579 (by decide) ?_
  refine lv_iadd hx hb dL_law_580 ?_
  refine va_sld hx hb hX hbl hbA hS hi1 dL_law_581 ?_
  refine wx_call (va_runV (As := [.int (xs (x3 + 1).toNatClampNeg)]) (rest := [.int r]) ⟨hx, hb, hml, hown, hts⟩ (c_X6_count l (D := D) (ad := ad) (rd := rd) (ca := ca) (A := (fun q : Nat => s.heap.size ≤ q)) (σ := σ1) h6) (cwV 1 hts gL_law_X6_count rfl rfl rfl (by decide +kernel) ⟨Nat.le_of_ble_eq_true rfl, Nat.le_of_ble_eq_true rfl⟩) (wx_preV hC Z hS hA rfl (rfl : vwCl[6]? = some (RX6, TX6, 25))) rfl rfl hl.1 rfl (lv_room (Nat.le_of_ble_eq_true rfl)) dL_law_582 ⟨(by show (200 + wx_n σ1.2.2.2.2) + 0 ≤ 600000; omega), (by show (20000 + 6464 * wx_n σ1.2.2.2.2) + 0 ≤ 7302250; omega)⟩) hS (fun H locs Z hS => ?_)
  refine W.widen (k := 200 + wx_n σ2.2.2.2.2) (n := 20000 + 6464 * wx_n σ2.2.2.2.2) (by omega) (by omega) ?_
  exact lv_icmp_eq (tgt := 874) hx hb dL_law_585 (by decide) (fun _ => kk _ _ _ _ hI2 Z hS _ hl) (fun hn => absurd rfl hn)
def q_mean (Inv : wx_St → Prop) : Prop := lw_two Inv (lw_r (f_X5_mean)) (lw_r (f_X6_mean))
set_option maxHeartbeats 4000000 in
theorem b_L_law_590 (B : wx_B p s m #[Value.ref b] meth c cL_law 4 (some .boolean) wsL_law RL D ad ca (fun q : Nat => s.heap.size ≤ q)) (hX : va_X b L xs s s.heap) (hbl : b < s.heap.size) (hbA : ¬ (fun q : Nat => s.heap.size ≤ q) b) {Inv : wx_St → Prop} (hq : q_mean Inv) {x3 : Int32} (hi1 : vp_in (x3 + 1) L) (hi2 : vp_in (x3 + 2) L) (hi3 : vp_in (x3 + 3) L) (hi4 : vp_in (x3 + 4) L) {σ : wx_St} (hI : Inv σ) {Q : State → Prop} (kk : ∀ (σ : wx_St) (rd : Nat → Nat) (H : Heap) (locs : List Loc), Inv σ → wx_Z D ad rd ca (fun q : Nat => s.heap.size ≤ q) σ H → va_S (fun q : Nat => s.heap.size ≤ q) s.heap H locs → ∀ ls : Array Slot, lv_has ls 4 [(3, .int x3), (2, .ref (ad 16 99)), (1, .ref (ad 11 99)), (0, .ref b)] → W p l e room_1 s m #[Value.ref b] below meth c H locs (200 + wx_n σ.2.2.2.2) (20000 + 6464 * wx_n σ.2.2.2.2) Q (F0 m 874 ls [])) {rd : Nat → Nat} {H : Heap} {locs : List Loc} (Z : wx_Z D ad rd ca (fun q : Nat => s.heap.size ≤ q) σ H) (hS : va_S (fun q : Nat => s.heap.size ≤ q) s.heap H locs) {ls : Array Slot} (hl : lv_has ls 4 [(3, .int x3), (2, .ref (ad 16 99)), (1, .ref (ad 11 99)), (0, .ref b)]) : W p l e room_1 s m #[Value.ref b] below meth c H locs (200 + wx_n σ.2.2.2.2) (20000 + 6464 * wx_n σ.2.2.2.2) Q (F0 m 590 ls []) := by
  obtain ⟨hx, hb, hml, hr, hts, hown, hlk, hC, hA⟩ := id B
  obtain ⟨r, σ1, σ2, h5, h6, hI2, hn1, hn2⟩ := hq σ hI
  have w0 := lw_n64 σ.2.2.2.2
  have w1 := lw_n64 σ1.2.2.2.2
  have w2 := lw_n64 σ2.2.2.2.2
  refine lv_aload_n hx hb dL_law_590 rfl (lv_at hl 2 rfl) ?_
  obtain ⟨h5a, eh5a⟩ := lw_r_ok h5
  subst eh5a
  refine wx_call (va_runV (As := []) (rest := []) ⟨hx, hb, hml, hown, hts⟩ (c_X5_mean l (D := D) (ad := ad) (rd := rd) (ca := ca) (A := (fun q : Nat => s.heap.size ≤ q)) (σ := σ) h5a) (cwV 0 hts gL_law_X5_mean rfl rfl rfl (by decide +kernel) ⟨Nat.le_of_ble_eq_true rfl, Nat.le_of_ble_eq_true rfl⟩) (wx_preV hC Z hS hA rfl (rfl : vwCl[5]? = some (RX5, TX5, 7))) rfl rfl hl.1 rfl (lv_room (Nat.le_of_ble_eq_true rfl)) dL_law_591 ⟨(by show (200 + wx_n σ.2.2.2.2) + 0 ≤ 600000; omega), (by show (20000 + 6464 * wx_n σ.2.2.2.2) + 0 ≤ 7302250; omega)⟩) hS (fun H locs Z hS => ?_)
  refine lv_aload_n hx hb dL_law_594 rfl (lv_at hl 1 rfl) ?_
  obtain ⟨h6a, eh6a⟩ := lw_r_ok h6
  subst eh6a
  refine wx_call (va_runV (As := []) (rest := [.long r]) ⟨hx, hb, hml, hown, hts⟩ (c_X6_mean l (D := D) (ad := ad) (rd := rd) (ca := ca) (A := (fun q : Nat => s.heap.size ≤ q)) (σ := σ) h6a) (cwV 0 hts gL_law_X6_mean rfl rfl rfl (by decide +kernel) ⟨Nat.le_of_ble_eq_true rfl, Nat.le_of_ble_eq_true rfl⟩) (wx_preV hC Z hS hA rfl (rfl : vwCl[6]? = some (RX6, TX6, 25))) rfl rfl hl.1 rfl (lv_room (Nat.le_of_ble_eq_true rfl)) dL_law_595 ⟨(by show (200 + wx_n σ.2.2.2.2) + 0 ≤ 600000; omega), (by show (20000 + 6464 * wx_n σ.2.2.2.2) + 0 ≤ 7302250; omega)⟩) hS (fun H locs Z hS => ?_)
  refine W.lcmp hx hb dL_law_598 ?_
  exact lv_if_eq (tgt := 874) hx hb dL_law_599 (by decide) (fun _ => kk _ _ _ _ hI2 Z hS _ hl) (fun hn => absurd (lw_cmp r) hn)
def q_bestProbe (Inv : wx_St → Prop) : Prop := ∀ (a0 : Int32), lw_two Inv (f_X5_bestProbe a0) (f_X6_bestProbe a0)
set_option maxHeartbeats 4000000 in
theorem b_L_law_604 (B : wx_B p s m #[Value.ref b] meth c cL_law 4 (some .boolean) wsL_law RL D ad ca (fun q : Nat => s.heap.size ≤ q)) (hX : va_X b L xs s s.heap) (hbl : b < s.heap.size) (hbA : ¬ (fun q : Nat => s.heap.size ≤ q) b) {Inv : wx_St → Prop} (hq : q_bestProbe Inv) {x3 : Int32} (hi1 : vp_in (x3 + 1) L) (hi2 : vp_in (x3 + 2) L) (hi3 : vp_in (x3 + 3) L) (hi4 : vp_in (x3 + 4) L) {σ : wx_St} (hI : Inv σ) {Q : State → Prop} (kk : ∀ (σ : wx_St) (rd : Nat → Nat) (H : Heap) (locs : List Loc), Inv σ → wx_Z D ad rd ca (fun q : Nat => s.heap.size ≤ q) σ H → va_S (fun q : Nat => s.heap.size ≤ q) s.heap H locs → ∀ ls : Array Slot, lv_has ls 4 [(3, .int x3), (2, .ref (ad 16 99)), (1, .ref (ad 11 99)), (0, .ref b)] → W p l e room_1 s m #[Value.ref b] below meth c H locs (200 + wx_n σ.2.2.2.2) (20000 + 6464 * wx_n σ.2.2.2.2) Q (F0 m 874 ls [])) {rd : Nat → Nat} {H : Heap} {locs : List Loc} (Z : wx_Z D ad rd ca (fun q : Nat => s.heap.size ≤ q) σ H) (hS : va_S (fun q : Nat => s.heap.size ≤ q) s.heap H locs) {ls : Array Slot} (hl : lv_has ls 4 [(3, .int x3), (2, .ref (ad 16 99)), (1, .ref (ad 11 99)), (0, .ref b)]) : W p l e room_1 s m #[Value.ref b] below meth c H locs (200 + wx_n σ.2.2.2.2) (20000 + 6464 * wx_n σ.2.2.2.2) Q (F0 m 604 ls []) := by
  obtain ⟨hx, hb, hml, hr, hts, hown, hlk, hC, hA⟩ := id B
  obtain ⟨r, σ1, σ2, h5, h6, hI2, hn1, hn2⟩ := hq ((xs (x3 + 1).toNatClampNeg)) σ hI
  have w0 := lw_n64 σ.2.2.2.2
  have w1 := lw_n64 σ1.2.2.2.2
  have w2 := lw_n64 σ2.2.2.2.2
  refine lv_aload_n hx hb dL_law_604 rfl (lv_at hl 2 rfl) ?_
  refine lv_aload_n hx hb dL_law_605 rfl (lv_at hl 3 rfl) ?_
  refine lv_iload_n hx hb dL_law_606 rfl (lv_at hl 0 rfl) ?_
  refine lv_iconst (v := 1) hx hb dL_law_607 (by decide) ?_
  refine lv_iadd hx hb dL_law_608 ?_
  refine va_sld hx hb hX hbl hbA hS hi1 dL_law_609 ?_
  refine wx_callA (va_runV (As := [.int (xs (x3 + 1).toNatClampNeg)]) (rest := []) ⟨hx, hb, hml, hown, hts⟩ (c_X5_bestProbe l (D := D) (ad := ad) (rd := rd) (ca := ca) (A := (fun q : Nat => s.heap.size ≤ q)) (σ := σ) h5) (cwV 1 hts gL_law_X5_bestProbe rfl rfl rfl (by decide +kernel) ⟨Nat.le_of_ble_eq_true rfl, Nat.le_of_ble_eq_true rfl⟩) (wx_preV hC Z hS hA rfl (rfl : vwCl[5]? = some (RX5, TX5, 7))) rfl rfl hl.1 rfl (lv_room (Nat.le_of_ble_eq_true rfl)) dL_law_610 ⟨(by show (200 + wx_n σ.2.2.2.2) + (wx_n σ1.2.2.2.2 - wx_n σ.2.2.2.2) ≤ 600000; omega), (by show (20000 + 6464 * wx_n σ.2.2.2.2) + 6464 * (wx_n σ1.2.2.2.2 - wx_n σ.2.2.2.2) ≤ 7302250; omega)⟩) hS (fun rd H locs Z hS => ?_)
  refine W.widen (k := 200 + wx_n σ1.2.2.2.2) (n := 20000 + 6464 * wx_n σ1.2.2.2.2) (by omega) (by omega) ?_
  refine lv_aload_n hx hb dL_law_613 rfl (lv_at hl 1 rfl) ?_
  refine lv_aload_n hx hb dL_law_614 rfl (lv_at hl 3 rfl) ?_
  refine lv_iload_n hx hb dL_law_615 rfl (lv_at hl 0 rfl) ?_
  refine lv_iconst (v := 1) hx hb dL_law_616 (by decide) ?_
  refine lv_iadd hx hb dL_law_617 ?_
  refine va_sld hx hb hX hbl hbA hS hi1 dL_law_618 ?_
  refine wx_call (va_runV (As := [.int (xs (x3 + 1).toNatClampNeg)]) (rest := [.int r]) ⟨hx, hb, hml, hown, hts⟩ (c_X6_bestProbe l (D := D) (ad := ad) (rd := rd) (ca := ca) (A := (fun q : Nat => s.heap.size ≤ q)) (σ := σ1) h6) (cwV 1 hts gL_law_X6_bestProbe rfl rfl rfl (by decide +kernel) ⟨Nat.le_of_ble_eq_true rfl, Nat.le_of_ble_eq_true rfl⟩) (wx_preV hC Z hS hA rfl (rfl : vwCl[6]? = some (RX6, TX6, 25))) rfl rfl hl.1 rfl (lv_room (Nat.le_of_ble_eq_true rfl)) dL_law_619 ⟨(by show (200 + wx_n σ1.2.2.2.2) + 0 ≤ 600000; omega), (by show (20000 + 6464 * wx_n σ1.2.2.2.2) + 0 ≤ 7302250; omega)⟩) hS (fun H locs Z hS => ?_)
  refine W.widen (k := 200 + wx_n σ2.2.2.2.2) (n := 20000 + 6464 * wx_n σ2.2.2.2.2) (by omega) (by omega) ?_
  exact lv_icmp_eq (tgt := 874) hx hb dL_law_622 (by decide) (fun _ => kk _ _ _ _ hI2 Z hS _ hl) (fun hn => absurd rfl hn)
def q_readsIn (Inv : wx_St → Prop) : Prop := ∀ (a0 a1 a2 : Int32), lw_two Inv (f_X5_readsIn a0 a1 a2) (f_X6_readsIn a0 a1 a2)
set_option maxHeartbeats 4000000 in
theorem b_L_law_627 (B : wx_B p s m #[Value.ref b] meth c cL_law 4 (some .boolean) wsL_law RL D ad ca (fun q : Nat => s.heap.size ≤ q)) (hX : va_X b L xs s s.heap) (hbl : b < s.heap.size) (hbA : ¬ (fun q : Nat => s.heap.size ≤ q) b) {Inv : wx_St → Prop} (hq : q_readsIn Inv) {x3 : Int32} (hi1 : vp_in (x3 + 1) L) (hi2 : vp_in (x3 + 2) L) (hi3 : vp_in (x3 + 3) L) (hi4 : vp_in (x3 + 4) L) {σ : wx_St} (hI : Inv σ) {Q : State → Prop} (kk : ∀ (σ : wx_St) (rd : Nat → Nat) (H : Heap) (locs : List Loc), Inv σ → wx_Z D ad rd ca (fun q : Nat => s.heap.size ≤ q) σ H → va_S (fun q : Nat => s.heap.size ≤ q) s.heap H locs → ∀ ls : Array Slot, lv_has ls 4 [(3, .int x3), (2, .ref (ad 16 99)), (1, .ref (ad 11 99)), (0, .ref b)] → W p l e room_1 s m #[Value.ref b] below meth c H locs (200 + wx_n σ.2.2.2.2) (20000 + 6464 * wx_n σ.2.2.2.2) Q (F0 m 874 ls [])) {rd : Nat → Nat} {H : Heap} {locs : List Loc} (Z : wx_Z D ad rd ca (fun q : Nat => s.heap.size ≤ q) σ H) (hS : va_S (fun q : Nat => s.heap.size ≤ q) s.heap H locs) {ls : Array Slot} (hl : lv_has ls 4 [(3, .int x3), (2, .ref (ad 16 99)), (1, .ref (ad 11 99)), (0, .ref b)]) : W p l e room_1 s m #[Value.ref b] below meth c H locs (200 + wx_n σ.2.2.2.2) (20000 + 6464 * wx_n σ.2.2.2.2) Q (F0 m 627 ls []) := by
  obtain ⟨hx, hb, hml, hr, hts, hown, hlk, hC, hA⟩ := id B
  obtain ⟨r, σ1, σ2, h5, h6, hI2, hn1, hn2⟩ := hq ((xs (x3 + 1).toNatClampNeg)) ((xs (x3 + 2).toNatClampNeg)) ((xs (x3 + 3).toNatClampNeg)) σ hI
  have w0 := lw_n64 σ.2.2.2.2
  have w1 := lw_n64 σ1.2.2.2.2
  have w2 := lw_n64 σ2.2.2.2.2
  refine lv_aload_n hx hb dL_law_627 rfl (lv_at hl 2 rfl) ?_
  refine lv_aload_n hx hb dL_law_628 rfl (lv_at hl 3 rfl) ?_
  refine lv_iload_n hx hb dL_law_629 rfl (lv_at hl 0 rfl) ?_
  refine lv_iconst (v := 1) hx hb dL_law_630 (by decide) ?_
  refine lv_iadd hx hb dL_law_631 ?_
  refine va_sld hx hb hX hbl hbA hS hi1 dL_law_632 ?_
  refine lv_aload_n hx hb dL_law_633 rfl (lv_at hl 3 rfl) ?_
  refine lv_iload_n hx hb dL_law_634 rfl (lv_at hl 0 rfl) ?_
  refine lv_iconst (v := 2) hx hb dL_law_635 (by decide) ?_
  refine lv_iadd hx hb dL_law_636 ?_
  refine va_sld hx hb hX hbl hbA hS hi2 dL_law_637 ?_
  refine lv_aload_n hx hb dL_law_638 rfl (lv_at hl 3 rfl) ?_
  refine lv_iload_n hx hb dL_law_639 rfl (lv_at hl 0 rfl) ?_
  refine lv_iconst (v := 3) hx hb dL_law_640 (by decide) ?_
  refine lv_iadd hx hb dL_law_641 ?_
  refine va_sld hx hb hX hbl hbA hS hi3 dL_law_642 ?_
  refine wx_call (va_runV (As := [.int (xs (x3 + 1).toNatClampNeg), .int (xs (x3 + 2).toNatClampNeg), .int (xs (x3 + 3).toNatClampNeg)]) (rest := []) ⟨hx, hb, hml, hown, hts⟩ (c_X5_readsIn l (D := D) (ad := ad) (rd := rd) (ca := ca) (A := (fun q : Nat => s.heap.size ≤ q)) (σ := σ) h5) (cwV 3 hts gL_law_X5_readsIn rfl rfl rfl (by decide +kernel) ⟨Nat.le_of_ble_eq_true rfl, Nat.le_of_ble_eq_true rfl⟩) (wx_preV hC Z hS hA rfl (rfl : vwCl[5]? = some (RX5, TX5, 7))) rfl rfl hl.1 rfl (lv_room (Nat.le_of_ble_eq_true rfl)) dL_law_643 ⟨(by show (200 + wx_n σ.2.2.2.2) + 0 ≤ 600000; omega), (by show (20000 + 6464 * wx_n σ.2.2.2.2) + 0 ≤ 7302250; omega)⟩) hS (fun H locs Z hS => ?_)
  refine W.widen (k := 200 + wx_n σ1.2.2.2.2) (n := 20000 + 6464 * wx_n σ1.2.2.2.2) (by omega) (by omega) ?_
  refine lv_aload_n hx hb dL_law_646 rfl (lv_at hl 1 rfl) ?_
  refine lv_aload_n hx hb dL_law_647 rfl (lv_at hl 3 rfl) ?_
  refine lv_iload_n hx hb dL_law_648 rfl (lv_at hl 0 rfl) ?_
  refine lv_iconst (v := 1) hx hb dL_law_649 (by decide) ?_
  refine lv_iadd hx hb dL_law_650 ?_
  refine va_sld hx hb hX hbl hbA hS hi1 dL_law_651 ?_
  refine lv_aload_n hx hb dL_law_652 rfl (lv_at hl 3 rfl) ?_
  refine lv_iload_n hx hb dL_law_653 rfl (lv_at hl 0 rfl) ?_
  refine lv_iconst (v := 2) hx hb dL_law_654 (by decide) ?_
  refine lv_iadd hx hb dL_law_655 ?_
  refine va_sld hx hb hX hbl hbA hS hi2 dL_law_656 ?_
  refine lv_aload_n hx hb dL_law_657 rfl (lv_at hl 3 rfl) ?_
  refine lv_iload_n hx hb dL_law_658 rfl (lv_at hl 0 rfl) ?_
  refine lv_iconst (v := 3) hx hb dL_law_659 (by decide) ?_
  refine lv_iadd hx hb dL_law_660 ?_
  refine va_sld hx hb hX hbl hbA hS hi3 dL_law_661 ?_
  refine wx_call (va_runV (As := [.int (xs (x3 + 1).toNatClampNeg), .int (xs (x3 + 2).toNatClampNeg), .int (xs (x3 + 3).toNatClampNeg)]) (rest := [.int r]) ⟨hx, hb, hml, hown, hts⟩ (c_X6_readsIn l (D := D) (ad := ad) (rd := rd) (ca := ca) (A := (fun q : Nat => s.heap.size ≤ q)) (σ := σ1) h6) (cwV 3 hts gL_law_X6_readsIn rfl rfl rfl (by decide +kernel) ⟨Nat.le_of_ble_eq_true rfl, Nat.le_of_ble_eq_true rfl⟩) (wx_preV hC Z hS hA rfl (rfl : vwCl[6]? = some (RX6, TX6, 25))) rfl rfl hl.1 rfl (lv_room (Nat.le_of_ble_eq_true rfl)) dL_law_662 ⟨(by show (200 + wx_n σ1.2.2.2.2) + 0 ≤ 600000; omega), (by show (20000 + 6464 * wx_n σ1.2.2.2.2) + 0 ≤ 7302250; omega)⟩) hS (fun H locs Z hS => ?_)
  refine W.widen (k := 200 + wx_n σ2.2.2.2.2) (n := 20000 + 6464 * wx_n σ2.2.2.2.2) (by omega) (by omega) ?_
  exact lv_icmp_eq (tgt := 874) hx hb dL_law_665 (by decide) (fun _ => kk _ _ _ _ hI2 Z hS _ hl) (fun hn => absurd rfl hn)
def q_wouldRead (Inv : wx_St → Prop) : Prop := ∀ (a0 a1 a2 a3 : Int32), lw_two Inv (f_X5_wouldRead a0 a1 a2 a3) (f_X6_wouldRead a0 a1 a2 a3)
set_option maxHeartbeats 4000000 in
theorem b_L_law_670 (B : wx_B p s m #[Value.ref b] meth c cL_law 4 (some .boolean) wsL_law RL D ad ca (fun q : Nat => s.heap.size ≤ q)) (hX : va_X b L xs s s.heap) (hbl : b < s.heap.size) (hbA : ¬ (fun q : Nat => s.heap.size ≤ q) b) {Inv : wx_St → Prop} (hq : q_wouldRead Inv) {x3 : Int32} (hi1 : vp_in (x3 + 1) L) (hi2 : vp_in (x3 + 2) L) (hi3 : vp_in (x3 + 3) L) (hi4 : vp_in (x3 + 4) L) {σ : wx_St} (hI : Inv σ) {Q : State → Prop} (kk : ∀ (σ : wx_St) (rd : Nat → Nat) (H : Heap) (locs : List Loc), Inv σ → wx_Z D ad rd ca (fun q : Nat => s.heap.size ≤ q) σ H → va_S (fun q : Nat => s.heap.size ≤ q) s.heap H locs → ∀ ls : Array Slot, lv_has ls 4 [(3, .int x3), (2, .ref (ad 16 99)), (1, .ref (ad 11 99)), (0, .ref b)] → W p l e room_1 s m #[Value.ref b] below meth c H locs (200 + wx_n σ.2.2.2.2) (20000 + 6464 * wx_n σ.2.2.2.2) Q (F0 m 874 ls [])) {rd : Nat → Nat} {H : Heap} {locs : List Loc} (Z : wx_Z D ad rd ca (fun q : Nat => s.heap.size ≤ q) σ H) (hS : va_S (fun q : Nat => s.heap.size ≤ q) s.heap H locs) {ls : Array Slot} (hl : lv_has ls 4 [(3, .int x3), (2, .ref (ad 16 99)), (1, .ref (ad 11 99)), (0, .ref b)]) : W p l e room_1 s m #[Value.ref b] below meth c H locs (200 + wx_n σ.2.2.2.2) (20000 + 6464 * wx_n σ.2.2.2.2) Q (F0 m 670 ls []) := by
  obtain ⟨hx, hb, hml, hr, hts, hown, hlk, hC, hA⟩ := id B
  obtain ⟨r, σ1, σ2, h5, h6, hI2, hn1, hn2⟩ := hq ((xs (x3 + 1).toNatClampNeg)) ((xs (x3 + 2).toNatClampNeg)) ((xs (x3 + 3).toNatClampNeg)) ((xs (x3 + 4).toNatClampNeg)) σ hI
  have w0 := lw_n64 σ.2.2.2.2
  have w1 := lw_n64 σ1.2.2.2.2
  have w2 := lw_n64 σ2.2.2.2.2
  refine lv_aload_n hx hb dL_law_670 rfl (lv_at hl 2 rfl) ?_
  refine lv_aload_n hx hb dL_law_671 rfl (lv_at hl 3 rfl) ?_
  refine lv_iload_n hx hb dL_law_672 rfl (lv_at hl 0 rfl) ?_
  refine lv_iconst (v := 1) hx hb dL_law_673 (by decide) ?_
  refine lv_iadd hx hb dL_law_674 ?_
  refine va_sld hx hb hX hbl hbA hS hi1 dL_law_675 ?_
  refine lv_aload_n hx hb dL_law_676 rfl (lv_at hl 3 rfl) ?_
  refine lv_iload_n hx hb dL_law_677 rfl (lv_at hl 0 rfl) ?_
  refine lv_iconst (v := 2) hx hb dL_law_678 (by decide) ?_
  refine lv_iadd hx hb dL_law_679 ?_
  refine va_sld hx hb hX hbl hbA hS hi2 dL_law_680 ?_
  refine lv_aload_n hx hb dL_law_681 rfl (lv_at hl 3 rfl) ?_
  refine lv_iload_n hx hb dL_law_682 rfl (lv_at hl 0 rfl) ?_
  refine lv_iconst (v := 3) hx hb dL_law_683 (by decide) ?_
  refine lv_iadd hx hb dL_law_684 ?_
  refine va_sld hx hb hX hbl hbA hS hi3 dL_law_685 ?_
  refine lv_aload_n hx hb dL_law_686 rfl (lv_at hl 3 rfl) ?_
  refine lv_iload_n hx hb dL_law_687 rfl (lv_at hl 0 rfl) ?_
  refine lv_iconst (v := 4) hx hb dL_law_688 (by decide) ?_
  refine lv_iadd hx hb dL_law_689 ?_
  refine va_sld hx hb hX hbl hbA hS hi4 dL_law_690 ?_
  refine wx_callA (va_runV (As := [.int (xs (x3 + 1).toNatClampNeg), .int (xs (x3 + 2).toNatClampNeg), .int (xs (x3 + 3).toNatClampNeg), .int (xs (x3 + 4).toNatClampNeg)]) (rest := []) ⟨hx, hb, hml, hown, hts⟩ (c_X5_wouldRead l (D := D) (ad := ad) (rd := rd) (ca := ca) (A := (fun q : Nat => s.heap.size ≤ q)) (σ := σ) h5) (cwV 4 hts gL_law_X5_wouldRead rfl rfl rfl (by decide +kernel) ⟨Nat.le_of_ble_eq_true rfl, Nat.le_of_ble_eq_true rfl⟩) (wx_preV hC Z hS hA rfl (rfl : vwCl[5]? = some (RX5, TX5, 7))) rfl rfl hl.1 rfl (lv_room (Nat.le_of_ble_eq_true rfl)) dL_law_691 ⟨(by show (200 + wx_n σ.2.2.2.2) + (wx_n σ1.2.2.2.2 - wx_n σ.2.2.2.2) ≤ 600000; omega), (by show (20000 + 6464 * wx_n σ.2.2.2.2) + 6464 * (wx_n σ1.2.2.2.2 - wx_n σ.2.2.2.2) ≤ 7302250; omega)⟩) hS (fun rd H locs Z hS => ?_)
  refine W.widen (k := 200 + wx_n σ1.2.2.2.2) (n := 20000 + 6464 * wx_n σ1.2.2.2.2) (by omega) (by omega) ?_
  refine lv_aload_n hx hb dL_law_694 rfl (lv_at hl 1 rfl) ?_
  refine lv_aload_n hx hb dL_law_695 rfl (lv_at hl 3 rfl) ?_
  refine lv_iload_n hx hb dL_law_696 rfl (lv_at hl 0 rfl) ?_
  refine lv_iconst (v := 1) hx hb dL_law_697 (by decide) ?_
  refine lv_iadd hx hb dL_law_698 ?_
  refine va_sld hx hb hX hbl hbA hS hi1 dL_law_699 ?_
  refine lv_aload_n hx hb dL_law_700 rfl (lv_at hl 3 rfl) ?_
  refine lv_iload_n hx hb dL_law_701 rfl (lv_at hl 0 rfl) ?_
  refine lv_iconst (v := 2) hx hb dL_law_702 (by decide) ?_
  refine lv_iadd hx hb dL_law_703 ?_
  refine va_sld hx hb hX hbl hbA hS hi2 dL_law_704 ?_
  refine lv_aload_n hx hb dL_law_705 rfl (lv_at hl 3 rfl) ?_
  refine lv_iload_n hx hb dL_law_706 rfl (lv_at hl 0 rfl) ?_
  refine lv_iconst (v := 3) hx hb dL_law_707 (by decide) ?_
  refine lv_iadd hx hb dL_law_708 ?_
  refine va_sld hx hb hX hbl hbA hS hi3 dL_law_709 ?_
  refine lv_aload_n hx hb dL_law_710 rfl (lv_at hl 3 rfl) ?_
  refine lv_iload_n hx hb dL_law_711 rfl (lv_at hl 0 rfl) ?_
  refine lv_iconst (v := 4) hx hb dL_law_712 (by decide) ?_
  refine lv_iadd hx hb dL_law_713 ?_
  refine va_sld hx hb hX hbl hbA hS hi4 dL_law_714 ?_
  refine wx_call (va_runV (As := [.int (xs (x3 + 1).toNatClampNeg), .int (xs (x3 + 2).toNatClampNeg), .int (xs (x3 + 3).toNatClampNeg), .int (xs (x3 + 4).toNatClampNeg)]) (rest := [.int r]) ⟨hx, hb, hml, hown, hts⟩ (c_X6_wouldRead l (D := D) (ad := ad) (rd := rd) (ca := ca) (A := (fun q : Nat => s.heap.size ≤ q)) (σ := σ1) h6) (cwV 4 hts gL_law_X6_wouldRead rfl rfl rfl (by decide +kernel) ⟨Nat.le_of_ble_eq_true rfl, Nat.le_of_ble_eq_true rfl⟩) (wx_preV hC Z hS hA rfl (rfl : vwCl[6]? = some (RX6, TX6, 25))) rfl rfl hl.1 rfl (lv_room (Nat.le_of_ble_eq_true rfl)) dL_law_715 ⟨(by show (200 + wx_n σ1.2.2.2.2) + 0 ≤ 600000; omega), (by show (20000 + 6464 * wx_n σ1.2.2.2.2) + 0 ≤ 7302250; omega)⟩) hS (fun H locs Z hS => ?_)
  refine W.widen (k := 200 + wx_n σ2.2.2.2.2) (n := 20000 + 6464 * wx_n σ2.2.2.2.2) (by omega) (by omega) ?_
  exact lv_icmp_eq (tgt := 874) hx hb dL_law_718 (by decide) (fun _ => kk _ _ _ _ hI2 Z hS _ hl) (fun hn => absurd rfl hn)
def q_put (Inv : wx_St → Prop) : Prop := ∀ (a0 : Int64), lw_two Inv (f_X5_put a0) (f_X6_put a0)
set_option maxHeartbeats 4000000 in
theorem b_L_law_723 (B : wx_B p s m #[Value.ref b] meth c cL_law 4 (some .boolean) wsL_law RL D ad ca (fun q : Nat => s.heap.size ≤ q)) (hX : va_X b L xs s s.heap) (hbl : b < s.heap.size) (hbA : ¬ (fun q : Nat => s.heap.size ≤ q) b) {Inv : wx_St → Prop} (hq : q_put Inv) {x3 : Int32} (hi1 : vp_in (x3 + 1) L) (hi2 : vp_in (x3 + 2) L) (hi3 : vp_in (x3 + 3) L) (hi4 : vp_in (x3 + 4) L) {σ : wx_St} (hI : Inv σ) {Q : State → Prop} (kk : ∀ (σ : wx_St) (rd : Nat → Nat) (H : Heap) (locs : List Loc), Inv σ → wx_Z D ad rd ca (fun q : Nat => s.heap.size ≤ q) σ H → va_S (fun q : Nat => s.heap.size ≤ q) s.heap H locs → ∀ ls : Array Slot, lv_has ls 4 [(3, .int x3), (2, .ref (ad 16 99)), (1, .ref (ad 11 99)), (0, .ref b)] → W p l e room_1 s m #[Value.ref b] below meth c H locs (200 + wx_n σ.2.2.2.2) (20000 + 6464 * wx_n σ.2.2.2.2) Q (F0 m 874 ls [])) {rd : Nat → Nat} {H : Heap} {locs : List Loc} (Z : wx_Z D ad rd ca (fun q : Nat => s.heap.size ≤ q) σ H) (hS : va_S (fun q : Nat => s.heap.size ≤ q) s.heap H locs) {ls : Array Slot} (hl : lv_has ls 4 [(3, .int x3), (2, .ref (ad 16 99)), (1, .ref (ad 11 99)), (0, .ref b)]) : W p l e room_1 s m #[Value.ref b] below meth c H locs (200 + wx_n σ.2.2.2.2) (20000 + 6464 * wx_n σ.2.2.2.2) Q (F0 m 723 ls []) := by
  obtain ⟨hx, hb, hml, hr, hts, hown, hlk, hC, hA⟩ := id B
  obtain ⟨r, σ1, σ2, h5, h6, hI2, hn1, hn2⟩ := hq (((((xs (x3 + 1).toNatClampNeg).toInt64) <<< ((32 : Int32).toInt64 &&& 63)) ||| (((xs (x3 + 2).toNatClampNeg).toInt64) &&& (4294967295 : Int64)))) σ hI
  have w0 := lw_n64 σ.2.2.2.2
  have w1 := lw_n64 σ1.2.2.2.2
  have w2 := lw_n64 σ2.2.2.2.2
  refine lv_aload_n hx hb dL_law_723 rfl (lv_at hl 2 rfl) ?_
  refine lv_aload_n hx hb dL_law_724 rfl (lv_at hl 3 rfl) ?_
  refine lv_iload_n hx hb dL_law_725 rfl (lv_at hl 0 rfl) ?_
  refine lv_iconst (v := 1) hx hb dL_law_726 (by decide) ?_
  refine lv_iadd hx hb dL_law_727 ?_
  refine va_sld hx hb hX hbl hbA hS hi1 dL_law_728 ?_
  refine lv_i2l (v := (xs (x3 + 1).toNatClampNeg).toInt64) hx hb dL_law_729 rfl ?_
  refine lv_bipush (v := 32) hx hb dL_law_730 (by decide) ?_
  refine lv_lshl (v := (((xs (x3 + 1).toNatClampNeg).toInt64) <<< ((32 : Int32).toInt64 &&& 63))) hx hb dL_law_732 rfl ?_
  refine lv_aload_n hx hb dL_law_733 rfl (lv_at hl 3 rfl) ?_
  refine lv_iload_n hx hb dL_law_734 rfl (lv_at hl 0 rfl) ?_
  refine lv_iconst (v := 2) hx hb dL_law_735 (by decide) ?_
  refine lv_iadd hx hb dL_law_736 ?_
  refine va_sld hx hb hX hbl hbA hS hi2 dL_law_737 ?_
  refine lv_i2l (v := (xs (x3 + 2).toNatClampNeg).toInt64) hx hb dL_law_738 rfl ?_
  refine lv_ldc2 hx hb hown (hts _ k_L_law_w0) dL_law_739 ?_
  refine lv_land hx hb dL_law_742 ?_
  refine lv_lor hx hb dL_law_743 ?_
  refine wx_call (va_runV (As := [.long ((((xs (x3 + 1).toNatClampNeg).toInt64) <<< ((32 : Int32).toInt64 &&& 63)) ||| (((xs (x3 + 2).toNatClampNeg).toInt64) &&& (4294967295 : Int64)))]) (rest := []) ⟨hx, hb, hml, hown, hts⟩ (c_X5_put l (D := D) (ad := ad) (rd := rd) (ca := ca) (A := (fun q : Nat => s.heap.size ≤ q)) (σ := σ) h5) (cwV 1 hts gL_law_X5_put rfl rfl rfl (by decide +kernel) ⟨Nat.le_of_ble_eq_true rfl, Nat.le_of_ble_eq_true rfl⟩) (wx_preV hC Z hS hA rfl (rfl : vwCl[5]? = some (RX5, TX5, 7))) rfl rfl hl.1 rfl (lv_room (Nat.le_of_ble_eq_true rfl)) dL_law_744 ⟨(by show (200 + wx_n σ.2.2.2.2) + 0 ≤ 600000; omega), (by show (20000 + 6464 * wx_n σ.2.2.2.2) + 0 ≤ 7302250; omega)⟩) hS (fun H locs Z hS => ?_)
  refine W.widen (k := 200 + wx_n σ1.2.2.2.2) (n := 20000 + 6464 * wx_n σ1.2.2.2.2) (by omega) (by omega) ?_
  refine lv_aload_n hx hb dL_law_747 rfl (lv_at hl 1 rfl) ?_
  refine lv_aload_n hx hb dL_law_748 rfl (lv_at hl 3 rfl) ?_
  refine lv_iload_n hx hb dL_law_749 rfl (lv_at hl 0 rfl) ?_
  refine lv_iconst (v := 1) hx hb dL_law_750 (by decide) ?_
  refine lv_iadd hx hb dL_law_751 ?_
  refine va_sld hx hb hX hbl hbA hS hi1 dL_law_752 ?_
  refine lv_i2l (v := (xs (x3 + 1).toNatClampNeg).toInt64) hx hb dL_law_753 rfl ?_
  refine lv_bipush (v := 32) hx hb dL_law_754 (by decide) ?_
  refine lv_lshl (v := (((xs (x3 + 1).toNatClampNeg).toInt64) <<< ((32 : Int32).toInt64 &&& 63))) hx hb dL_law_756 rfl ?_
  refine lv_aload_n hx hb dL_law_757 rfl (lv_at hl 3 rfl) ?_
  refine lv_iload_n hx hb dL_law_758 rfl (lv_at hl 0 rfl) ?_
  refine lv_iconst (v := 2) hx hb dL_law_759 (by decide) ?_
  refine lv_iadd hx hb dL_law_760 ?_
  refine va_sld hx hb hX hbl hbA hS hi2 dL_law_761 ?_
  refine lv_i2l (v := (xs (x3 + 2).toNatClampNeg).toInt64) hx hb dL_law_762 rfl ?_
  refine lv_ldc2 hx hb hown (hts _ k_L_law_w0) dL_law_763 ?_
  refine lv_land hx hb dL_law_766 ?_
  refine lv_lor hx hb dL_law_767 ?_
  refine wx_call (va_runV (As := [.long ((((xs (x3 + 1).toNatClampNeg).toInt64) <<< ((32 : Int32).toInt64 &&& 63)) ||| (((xs (x3 + 2).toNatClampNeg).toInt64) &&& (4294967295 : Int64)))]) (rest := [.int r]) ⟨hx, hb, hml, hown, hts⟩ (c_X6_put l (D := D) (ad := ad) (rd := rd) (ca := ca) (A := (fun q : Nat => s.heap.size ≤ q)) (σ := σ1) h6) (cwV 1 hts gL_law_X6_put rfl rfl rfl (by decide +kernel) ⟨Nat.le_of_ble_eq_true rfl, Nat.le_of_ble_eq_true rfl⟩) (wx_preV hC Z hS hA rfl (rfl : vwCl[6]? = some (RX6, TX6, 25))) rfl rfl hl.1 rfl (lv_room (Nat.le_of_ble_eq_true rfl)) dL_law_768 ⟨(by show (200 + wx_n σ1.2.2.2.2) + 0 ≤ 600000; omega), (by show (20000 + 6464 * wx_n σ1.2.2.2.2) + 0 ≤ 7302250; omega)⟩) hS (fun H locs Z hS => ?_)
  refine W.widen (k := 200 + wx_n σ2.2.2.2.2) (n := 20000 + 6464 * wx_n σ2.2.2.2.2) (by omega) (by omega) ?_
  exact lv_icmp_eq (tgt := 874) hx hb dL_law_771 (by decide) (fun _ => kk _ _ _ _ hI2 Z hS _ hl) (fun hn => absurd rfl hn)
def q_wipe (Inv : wx_St → Prop) : Prop := lw_two Inv (f_X5_wipe) (f_X6_wipe)
set_option maxHeartbeats 4000000 in
theorem b_L_law_776 (B : wx_B p s m #[Value.ref b] meth c cL_law 4 (some .boolean) wsL_law RL D ad ca (fun q : Nat => s.heap.size ≤ q)) (hX : va_X b L xs s s.heap) (hbl : b < s.heap.size) (hbA : ¬ (fun q : Nat => s.heap.size ≤ q) b) {Inv : wx_St → Prop} (hq : q_wipe Inv) {x3 : Int32} (hi1 : vp_in (x3 + 1) L) (hi2 : vp_in (x3 + 2) L) (hi3 : vp_in (x3 + 3) L) (hi4 : vp_in (x3 + 4) L) {σ : wx_St} (hI : Inv σ) {Q : State → Prop} (kk : ∀ (σ : wx_St) (rd : Nat → Nat) (H : Heap) (locs : List Loc), Inv σ → wx_Z D ad rd ca (fun q : Nat => s.heap.size ≤ q) σ H → va_S (fun q : Nat => s.heap.size ≤ q) s.heap H locs → ∀ ls : Array Slot, lv_has ls 4 [(3, .int x3), (2, .ref (ad 16 99)), (1, .ref (ad 11 99)), (0, .ref b)] → W p l e room_1 s m #[Value.ref b] below meth c H locs (200 + wx_n σ.2.2.2.2) (20000 + 6464 * wx_n σ.2.2.2.2) Q (F0 m 874 ls [])) {rd : Nat → Nat} {H : Heap} {locs : List Loc} (Z : wx_Z D ad rd ca (fun q : Nat => s.heap.size ≤ q) σ H) (hS : va_S (fun q : Nat => s.heap.size ≤ q) s.heap H locs) {ls : Array Slot} (hl : lv_has ls 4 [(3, .int x3), (2, .ref (ad 16 99)), (1, .ref (ad 11 99)), (0, .ref b)]) : W p l e room_1 s m #[Value.ref b] below meth c H locs (200 + wx_n σ.2.2.2.2) (20000 + 6464 * wx_n σ.2.2.2.2) Q (F0 m 776 ls []) := by
  obtain ⟨hx, hb, hml, hr, hts, hown, hlk, hC, hA⟩ := id B
  obtain ⟨r, σ1, σ2, h5, h6, hI2, hn1, hn2⟩ := hq σ hI
  have w0 := lw_n64 σ.2.2.2.2
  have w1 := lw_n64 σ1.2.2.2.2
  have w2 := lw_n64 σ2.2.2.2.2
  refine lv_aload_n hx hb dL_law_776 rfl (lv_at hl 2 rfl) ?_
  refine wx_call (va_runV (As := []) (rest := []) ⟨hx, hb, hml, hown, hts⟩ (c_X5_wipe l (D := D) (ad := ad) (rd := rd) (ca := ca) (A := (fun q : Nat => s.heap.size ≤ q)) (σ := σ) h5) (cwV 0 hts gL_law_X5_wipe rfl rfl rfl (by decide +kernel) ⟨Nat.le_of_ble_eq_true rfl, Nat.le_of_ble_eq_true rfl⟩) (wx_preV hC Z hS hA rfl (rfl : vwCl[5]? = some (RX5, TX5, 7))) rfl rfl hl.1 rfl (lv_room (Nat.le_of_ble_eq_true rfl)) dL_law_777 ⟨(by show (200 + wx_n σ.2.2.2.2) + 0 ≤ 600000; omega), (by show (20000 + 6464 * wx_n σ.2.2.2.2) + 0 ≤ 7302250; omega)⟩) hS (fun H locs Z hS => ?_)
  refine W.widen (k := 200 + wx_n σ1.2.2.2.2) (n := 20000 + 6464 * wx_n σ1.2.2.2.2) (by omega) (by omega) ?_
  refine lv_aload_n hx hb dL_law_780 rfl (lv_at hl 1 rfl) ?_
  refine wx_call (va_runV (As := []) (rest := [.int r]) ⟨hx, hb, hml, hown, hts⟩ (c_X6_wipe l (D := D) (ad := ad) (rd := rd) (ca := ca) (A := (fun q : Nat => s.heap.size ≤ q)) (σ := σ1) h6) (cwV 0 hts gL_law_X6_wipe rfl rfl rfl (by decide +kernel) ⟨Nat.le_of_ble_eq_true rfl, Nat.le_of_ble_eq_true rfl⟩) (wx_preV hC Z hS hA rfl (rfl : vwCl[6]? = some (RX6, TX6, 25))) rfl rfl hl.1 rfl (lv_room (Nat.le_of_ble_eq_true rfl)) dL_law_781 ⟨(by show (200 + wx_n σ1.2.2.2.2) + 0 ≤ 600000; omega), (by show (20000 + 6464 * wx_n σ1.2.2.2.2) + 0 ≤ 7302250; omega)⟩) hS (fun H locs Z hS => ?_)
  refine W.widen (k := 200 + wx_n σ2.2.2.2.2) (n := 20000 + 6464 * wx_n σ2.2.2.2.2) (by omega) (by omega) ?_
  exact lv_icmp_eq (tgt := 874) hx hb dL_law_784 (by decide) (fun _ => kk _ _ _ _ hI2 Z hS _ hl) (fun hn => absurd rfl hn)
def q_fault (Inv : wx_St → Prop) : Prop := lw_two Inv (lw_r (f_X5_fault)) (f_X6_fault)
set_option maxHeartbeats 4000000 in
theorem b_L_law_789 (B : wx_B p s m #[Value.ref b] meth c cL_law 4 (some .boolean) wsL_law RL D ad ca (fun q : Nat => s.heap.size ≤ q)) (hX : va_X b L xs s s.heap) (hbl : b < s.heap.size) (hbA : ¬ (fun q : Nat => s.heap.size ≤ q) b) {Inv : wx_St → Prop} (hq : q_fault Inv) {x3 : Int32} (hi1 : vp_in (x3 + 1) L) (hi2 : vp_in (x3 + 2) L) (hi3 : vp_in (x3 + 3) L) (hi4 : vp_in (x3 + 4) L) {σ : wx_St} (hI : Inv σ) {Q : State → Prop} (kk : ∀ (σ : wx_St) (rd : Nat → Nat) (H : Heap) (locs : List Loc), Inv σ → wx_Z D ad rd ca (fun q : Nat => s.heap.size ≤ q) σ H → va_S (fun q : Nat => s.heap.size ≤ q) s.heap H locs → ∀ ls : Array Slot, lv_has ls 4 [(3, .int x3), (2, .ref (ad 16 99)), (1, .ref (ad 11 99)), (0, .ref b)] → W p l e room_1 s m #[Value.ref b] below meth c H locs (200 + wx_n σ.2.2.2.2) (20000 + 6464 * wx_n σ.2.2.2.2) Q (F0 m 874 ls [])) {rd : Nat → Nat} {H : Heap} {locs : List Loc} (Z : wx_Z D ad rd ca (fun q : Nat => s.heap.size ≤ q) σ H) (hS : va_S (fun q : Nat => s.heap.size ≤ q) s.heap H locs) {ls : Array Slot} (hl : lv_has ls 4 [(3, .int x3), (2, .ref (ad 16 99)), (1, .ref (ad 11 99)), (0, .ref b)]) : W p l e room_1 s m #[Value.ref b] below meth c H locs (200 + wx_n σ.2.2.2.2) (20000 + 6464 * wx_n σ.2.2.2.2) Q (F0 m 789 ls []) := by
  obtain ⟨hx, hb, hml, hr, hts, hown, hlk, hC, hA⟩ := id B
  obtain ⟨r, σ1, σ2, h5, h6, hI2, hn1, hn2⟩ := hq σ hI
  have w0 := lw_n64 σ.2.2.2.2
  have w1 := lw_n64 σ1.2.2.2.2
  have w2 := lw_n64 σ2.2.2.2.2
  refine lv_aload_n hx hb dL_law_789 rfl (lv_at hl 2 rfl) ?_
  obtain ⟨h5a, eh5a⟩ := lw_r_ok h5
  subst eh5a
  refine wx_call (va_runV (As := []) (rest := []) ⟨hx, hb, hml, hown, hts⟩ (c_X5_fault l (D := D) (ad := ad) (rd := rd) (ca := ca) (A := (fun q : Nat => s.heap.size ≤ q)) (σ := σ) h5a) (cwV 0 hts gL_law_X5_fault rfl rfl rfl (by decide +kernel) ⟨Nat.le_of_ble_eq_true rfl, Nat.le_of_ble_eq_true rfl⟩) (wx_preV hC Z hS hA rfl (rfl : vwCl[5]? = some (RX5, TX5, 7))) rfl rfl hl.1 rfl (lv_room (Nat.le_of_ble_eq_true rfl)) dL_law_790 ⟨(by show (200 + wx_n σ.2.2.2.2) + 0 ≤ 600000; omega), (by show (20000 + 6464 * wx_n σ.2.2.2.2) + 0 ≤ 7302250; omega)⟩) hS (fun H locs Z hS => ?_)
  refine lv_aload_n hx hb dL_law_793 rfl (lv_at hl 1 rfl) ?_
  refine wx_call (va_runV (As := []) (rest := [.int r]) ⟨hx, hb, hml, hown, hts⟩ (c_X6_fault l (D := D) (ad := ad) (rd := rd) (ca := ca) (A := (fun q : Nat => s.heap.size ≤ q)) (σ := σ) h6) (cwV 0 hts gL_law_X6_fault rfl rfl rfl (by decide +kernel) ⟨Nat.le_of_ble_eq_true rfl, Nat.le_of_ble_eq_true rfl⟩) (wx_preV hC Z hS hA rfl (rfl : vwCl[6]? = some (RX6, TX6, 25))) rfl rfl hl.1 rfl (lv_room (Nat.le_of_ble_eq_true rfl)) dL_law_794 ⟨(by show (200 + wx_n σ.2.2.2.2) + 0 ≤ 600000; omega), (by show (20000 + 6464 * wx_n σ.2.2.2.2) + 0 ≤ 7302250; omega)⟩) hS (fun H locs Z hS => ?_)
  refine W.widen (k := 200 + wx_n σ2.2.2.2.2) (n := 20000 + 6464 * wx_n σ2.2.2.2.2) (by omega) (by omega) ?_
  exact lv_icmp_eq (tgt := 874) hx hb dL_law_797 (by decide) (fun _ => kk _ _ _ _ hI2 Z hS _ hl) (fun hn => absurd rfl hn)
def q_carryOut (Inv : wx_St → Prop) : Prop := lw_two Inv (f_X5_carryOut) (f_X6_carryOut)
set_option maxHeartbeats 4000000 in
theorem b_L_law_802 (B : wx_B p s m #[Value.ref b] meth c cL_law 4 (some .boolean) wsL_law RL D ad ca (fun q : Nat => s.heap.size ≤ q)) (hX : va_X b L xs s s.heap) (hbl : b < s.heap.size) (hbA : ¬ (fun q : Nat => s.heap.size ≤ q) b) {Inv : wx_St → Prop} (hq : q_carryOut Inv) {x3 : Int32} (hi1 : vp_in (x3 + 1) L) (hi2 : vp_in (x3 + 2) L) (hi3 : vp_in (x3 + 3) L) (hi4 : vp_in (x3 + 4) L) {σ : wx_St} (hI : Inv σ) {Q : State → Prop} (kk : ∀ (σ : wx_St) (rd : Nat → Nat) (H : Heap) (locs : List Loc), Inv σ → wx_Z D ad rd ca (fun q : Nat => s.heap.size ≤ q) σ H → va_S (fun q : Nat => s.heap.size ≤ q) s.heap H locs → ∀ ls : Array Slot, lv_has ls 4 [(3, .int x3), (2, .ref (ad 16 99)), (1, .ref (ad 11 99)), (0, .ref b)] → W p l e room_1 s m #[Value.ref b] below meth c H locs (200 + wx_n σ.2.2.2.2) (20000 + 6464 * wx_n σ.2.2.2.2) Q (F0 m 874 ls [])) {rd : Nat → Nat} {H : Heap} {locs : List Loc} (Z : wx_Z D ad rd ca (fun q : Nat => s.heap.size ≤ q) σ H) (hS : va_S (fun q : Nat => s.heap.size ≤ q) s.heap H locs) {ls : Array Slot} (hl : lv_has ls 4 [(3, .int x3), (2, .ref (ad 16 99)), (1, .ref (ad 11 99)), (0, .ref b)]) : W p l e room_1 s m #[Value.ref b] below meth c H locs (200 + wx_n σ.2.2.2.2) (20000 + 6464 * wx_n σ.2.2.2.2) Q (F0 m 802 ls []) := by
  obtain ⟨hx, hb, hml, hr, hts, hown, hlk, hC, hA⟩ := id B
  obtain ⟨r, σ1, σ2, h5, h6, hI2, hn1, hn2⟩ := hq σ hI
  have w0 := lw_n64 σ.2.2.2.2
  have w1 := lw_n64 σ1.2.2.2.2
  have w2 := lw_n64 σ2.2.2.2.2
  refine lv_aload_n hx hb dL_law_802 rfl (lv_at hl 2 rfl) ?_
  refine wx_call (va_runV (As := []) (rest := []) ⟨hx, hb, hml, hown, hts⟩ (c_X5_carryOut l (D := D) (ad := ad) (rd := rd) (ca := ca) (A := (fun q : Nat => s.heap.size ≤ q)) (σ := σ) h5) (cwV 0 hts gL_law_X5_carryOut rfl rfl rfl (by decide +kernel) ⟨Nat.le_of_ble_eq_true rfl, Nat.le_of_ble_eq_true rfl⟩) (wx_preV hC Z hS hA rfl (rfl : vwCl[5]? = some (RX5, TX5, 7))) rfl rfl hl.1 rfl (lv_room (Nat.le_of_ble_eq_true rfl)) dL_law_803 ⟨(by show (200 + wx_n σ.2.2.2.2) + 0 ≤ 600000; omega), (by show (20000 + 6464 * wx_n σ.2.2.2.2) + 0 ≤ 7302250; omega)⟩) hS (fun H locs Z hS => ?_)
  refine W.widen (k := 200 + wx_n σ1.2.2.2.2) (n := 20000 + 6464 * wx_n σ1.2.2.2.2) (by omega) (by omega) ?_
  refine lv_aload_n hx hb dL_law_806 rfl (lv_at hl 1 rfl) ?_
  refine wx_call (va_runV (As := []) (rest := [.int r]) ⟨hx, hb, hml, hown, hts⟩ (c_X6_carryOut l (D := D) (ad := ad) (rd := rd) (ca := ca) (A := (fun q : Nat => s.heap.size ≤ q)) (σ := σ1) h6) (cwV 0 hts gL_law_X6_carryOut rfl rfl rfl (by decide +kernel) ⟨Nat.le_of_ble_eq_true rfl, Nat.le_of_ble_eq_true rfl⟩) (wx_preV hC Z hS hA rfl (rfl : vwCl[6]? = some (RX6, TX6, 25))) rfl rfl hl.1 rfl (lv_room (Nat.le_of_ble_eq_true rfl)) dL_law_807 ⟨(by show (200 + wx_n σ1.2.2.2.2) + 0 ≤ 600000; omega), (by show (20000 + 6464 * wx_n σ1.2.2.2.2) + 0 ≤ 7302250; omega)⟩) hS (fun H locs Z hS => ?_)
  refine W.widen (k := 200 + wx_n σ2.2.2.2.2) (n := 20000 + 6464 * wx_n σ2.2.2.2.2) (by omega) (by omega) ?_
  exact lv_icmp_eq (tgt := 874) hx hb dL_law_810 (by decide) (fun _ => kk _ _ _ _ hI2 Z hS _ hl) (fun hn => absurd rfl hn)
def q_undo (Inv : wx_St → Prop) : Prop := lw_two Inv (f_X5_undo) (f_X6_undo)
set_option maxHeartbeats 4000000 in
theorem b_L_law_815 (B : wx_B p s m #[Value.ref b] meth c cL_law 4 (some .boolean) wsL_law RL D ad ca (fun q : Nat => s.heap.size ≤ q)) (hX : va_X b L xs s s.heap) (hbl : b < s.heap.size) (hbA : ¬ (fun q : Nat => s.heap.size ≤ q) b) {Inv : wx_St → Prop} (hq : q_undo Inv) {x3 : Int32} (hi1 : vp_in (x3 + 1) L) (hi2 : vp_in (x3 + 2) L) (hi3 : vp_in (x3 + 3) L) (hi4 : vp_in (x3 + 4) L) {σ : wx_St} (hI : Inv σ) {Q : State → Prop} (kk : ∀ (σ : wx_St) (rd : Nat → Nat) (H : Heap) (locs : List Loc), Inv σ → wx_Z D ad rd ca (fun q : Nat => s.heap.size ≤ q) σ H → va_S (fun q : Nat => s.heap.size ≤ q) s.heap H locs → ∀ ls : Array Slot, lv_has ls 4 [(3, .int x3), (2, .ref (ad 16 99)), (1, .ref (ad 11 99)), (0, .ref b)] → W p l e room_1 s m #[Value.ref b] below meth c H locs (200 + wx_n σ.2.2.2.2) (20000 + 6464 * wx_n σ.2.2.2.2) Q (F0 m 874 ls [])) {rd : Nat → Nat} {H : Heap} {locs : List Loc} (Z : wx_Z D ad rd ca (fun q : Nat => s.heap.size ≤ q) σ H) (hS : va_S (fun q : Nat => s.heap.size ≤ q) s.heap H locs) {ls : Array Slot} (hl : lv_has ls 4 [(3, .int x3), (2, .ref (ad 16 99)), (1, .ref (ad 11 99)), (0, .ref b)]) : W p l e room_1 s m #[Value.ref b] below meth c H locs (200 + wx_n σ.2.2.2.2) (20000 + 6464 * wx_n σ.2.2.2.2) Q (F0 m 815 ls []) := by
  obtain ⟨hx, hb, hml, hr, hts, hown, hlk, hC, hA⟩ := id B
  obtain ⟨r, σ1, σ2, h5, h6, hI2, hn1, hn2⟩ := hq σ hI
  have w0 := lw_n64 σ.2.2.2.2
  have w1 := lw_n64 σ1.2.2.2.2
  have w2 := lw_n64 σ2.2.2.2.2
  refine lv_aload_n hx hb dL_law_815 rfl (lv_at hl 2 rfl) ?_
  refine wx_call (va_runV (As := []) (rest := []) ⟨hx, hb, hml, hown, hts⟩ (c_X5_undo l (D := D) (ad := ad) (rd := rd) (ca := ca) (A := (fun q : Nat => s.heap.size ≤ q)) (σ := σ) h5) (cwV 0 hts gL_law_X5_undo rfl rfl rfl (by decide +kernel) ⟨Nat.le_of_ble_eq_true rfl, Nat.le_of_ble_eq_true rfl⟩) (wx_preV hC Z hS hA rfl (rfl : vwCl[5]? = some (RX5, TX5, 7))) rfl rfl hl.1 rfl (lv_room (Nat.le_of_ble_eq_true rfl)) dL_law_816 ⟨(by show (200 + wx_n σ.2.2.2.2) + 0 ≤ 600000; omega), (by show (20000 + 6464 * wx_n σ.2.2.2.2) + 0 ≤ 7302250; omega)⟩) hS (fun H locs Z hS => ?_)
  refine W.widen (k := 200 + wx_n σ1.2.2.2.2) (n := 20000 + 6464 * wx_n σ1.2.2.2.2) (by omega) (by omega) ?_
  refine lv_aload_n hx hb dL_law_819 rfl (lv_at hl 1 rfl) ?_
  refine wx_call (va_runV (As := []) (rest := [.int r]) ⟨hx, hb, hml, hown, hts⟩ (c_X6_undo l (D := D) (ad := ad) (rd := rd) (ca := ca) (A := (fun q : Nat => s.heap.size ≤ q)) (σ := σ1) h6) (cwV 0 hts gL_law_X6_undo rfl rfl rfl (by decide +kernel) ⟨Nat.le_of_ble_eq_true rfl, Nat.le_of_ble_eq_true rfl⟩) (wx_preV hC Z hS hA rfl (rfl : vwCl[6]? = some (RX6, TX6, 25))) rfl rfl hl.1 rfl (lv_room (Nat.le_of_ble_eq_true rfl)) dL_law_820 ⟨(by show (200 + wx_n σ1.2.2.2.2) + 0 ≤ 600000; omega), (by show (20000 + 6464 * wx_n σ1.2.2.2.2) + 0 ≤ 7302250; omega)⟩) hS (fun H locs Z hS => ?_)
  refine W.widen (k := 200 + wx_n σ2.2.2.2.2) (n := 20000 + 6464 * wx_n σ2.2.2.2.2) (by omega) (by omega) ?_
  exact lv_icmp_eq (tgt := 874) hx hb dL_law_823 (by decide) (fun _ => kk _ _ _ _ hI2 Z hS _ hl) (fun hn => absurd rfl hn)
def q_save (Inv : wx_St → Prop) : Prop := ∀ (a0 : Int32), lw_two Inv (f_X5_save a0) (f_X6_save a0)
set_option maxHeartbeats 4000000 in
theorem b_L_law_828 (B : wx_B p s m #[Value.ref b] meth c cL_law 4 (some .boolean) wsL_law RL D ad ca (fun q : Nat => s.heap.size ≤ q)) (hX : va_X b L xs s s.heap) (hbl : b < s.heap.size) (hbA : ¬ (fun q : Nat => s.heap.size ≤ q) b) {Inv : wx_St → Prop} (hq : q_save Inv) {x3 : Int32} (hi1 : vp_in (x3 + 1) L) (hi2 : vp_in (x3 + 2) L) (hi3 : vp_in (x3 + 3) L) (hi4 : vp_in (x3 + 4) L) {σ : wx_St} (hI : Inv σ) {Q : State → Prop} (kk : ∀ (σ : wx_St) (rd : Nat → Nat) (H : Heap) (locs : List Loc), Inv σ → wx_Z D ad rd ca (fun q : Nat => s.heap.size ≤ q) σ H → va_S (fun q : Nat => s.heap.size ≤ q) s.heap H locs → ∀ ls : Array Slot, lv_has ls 4 [(3, .int x3), (2, .ref (ad 16 99)), (1, .ref (ad 11 99)), (0, .ref b)] → W p l e room_1 s m #[Value.ref b] below meth c H locs (200 + wx_n σ.2.2.2.2) (20000 + 6464 * wx_n σ.2.2.2.2) Q (F0 m 874 ls [])) {rd : Nat → Nat} {H : Heap} {locs : List Loc} (Z : wx_Z D ad rd ca (fun q : Nat => s.heap.size ≤ q) σ H) (hS : va_S (fun q : Nat => s.heap.size ≤ q) s.heap H locs) {ls : Array Slot} (hl : lv_has ls 4 [(3, .int x3), (2, .ref (ad 16 99)), (1, .ref (ad 11 99)), (0, .ref b)]) : W p l e room_1 s m #[Value.ref b] below meth c H locs (200 + wx_n σ.2.2.2.2) (20000 + 6464 * wx_n σ.2.2.2.2) Q (F0 m 828 ls []) := by
  obtain ⟨hx, hb, hml, hr, hts, hown, hlk, hC, hA⟩ := id B
  obtain ⟨r, σ1, σ2, h5, h6, hI2, hn1, hn2⟩ := hq ((xs (x3 + 1).toNatClampNeg)) σ hI
  have w0 := lw_n64 σ.2.2.2.2
  have w1 := lw_n64 σ1.2.2.2.2
  have w2 := lw_n64 σ2.2.2.2.2
  refine lv_aload_n hx hb dL_law_828 rfl (lv_at hl 2 rfl) ?_
  refine lv_aload_n hx hb dL_law_829 rfl (lv_at hl 3 rfl) ?_
  refine lv_iload_n hx hb dL_law_830 rfl (lv_at hl 0 rfl) ?_
  refine lv_iconst (v := 1) hx hb dL_law_831 (by decide) ?_
  refine lv_iadd hx hb dL_law_832 ?_
  refine va_sld hx hb hX hbl hbA hS hi1 dL_law_833 ?_
  refine wx_call (va_runV (As := [.int (xs (x3 + 1).toNatClampNeg)]) (rest := []) ⟨hx, hb, hml, hown, hts⟩ (c_X5_save l (D := D) (ad := ad) (rd := rd) (ca := ca) (A := (fun q : Nat => s.heap.size ≤ q)) (σ := σ) h5) (cwV 1 hts gL_law_X5_save rfl rfl rfl (by decide +kernel) ⟨Nat.le_of_ble_eq_true rfl, Nat.le_of_ble_eq_true rfl⟩) (wx_preV hC Z hS hA rfl (rfl : vwCl[5]? = some (RX5, TX5, 7))) rfl rfl hl.1 rfl (lv_room (Nat.le_of_ble_eq_true rfl)) dL_law_834 ⟨(by show (200 + wx_n σ.2.2.2.2) + 0 ≤ 600000; omega), (by show (20000 + 6464 * wx_n σ.2.2.2.2) + 0 ≤ 7302250; omega)⟩) hS (fun H locs Z hS => ?_)
  refine W.widen (k := 200 + wx_n σ1.2.2.2.2) (n := 20000 + 6464 * wx_n σ1.2.2.2.2) (by omega) (by omega) ?_
  refine lv_aload_n hx hb dL_law_837 rfl (lv_at hl 1 rfl) ?_
  refine lv_aload_n hx hb dL_law_838 rfl (lv_at hl 3 rfl) ?_
  refine lv_iload_n hx hb dL_law_839 rfl (lv_at hl 0 rfl) ?_
  refine lv_iconst (v := 1) hx hb dL_law_840 (by decide) ?_
  refine lv_iadd hx hb dL_law_841 ?_
  refine va_sld hx hb hX hbl hbA hS hi1 dL_law_842 ?_
  refine wx_call (va_runV (As := [.int (xs (x3 + 1).toNatClampNeg)]) (rest := [.int r]) ⟨hx, hb, hml, hown, hts⟩ (c_X6_save l (D := D) (ad := ad) (rd := rd) (ca := ca) (A := (fun q : Nat => s.heap.size ≤ q)) (σ := σ1) h6) (cwV 1 hts gL_law_X6_save rfl rfl rfl (by decide +kernel) ⟨Nat.le_of_ble_eq_true rfl, Nat.le_of_ble_eq_true rfl⟩) (wx_preV hC Z hS hA rfl (rfl : vwCl[6]? = some (RX6, TX6, 25))) rfl rfl hl.1 rfl (lv_room (Nat.le_of_ble_eq_true rfl)) dL_law_843 ⟨(by show (200 + wx_n σ1.2.2.2.2) + 0 ≤ 600000; omega), (by show (20000 + 6464 * wx_n σ1.2.2.2.2) + 0 ≤ 7302250; omega)⟩) hS (fun H locs Z hS => ?_)
  refine W.widen (k := 200 + wx_n σ2.2.2.2.2) (n := 20000 + 6464 * wx_n σ2.2.2.2.2) (by omega) (by omega) ?_
  exact lv_icmp_eq (tgt := 874) hx hb dL_law_846 (by decide) (fun _ => kk _ _ _ _ hI2 Z hS _ hl) (fun hn => absurd rfl hn)
def q_restore (Inv : wx_St → Prop) : Prop := ∀ (a0 : Int32), lw_two Inv (f_X5_restore a0) (f_X6_restore a0)
set_option maxHeartbeats 4000000 in
theorem b_L_law_851 (B : wx_B p s m #[Value.ref b] meth c cL_law 4 (some .boolean) wsL_law RL D ad ca (fun q : Nat => s.heap.size ≤ q)) (hX : va_X b L xs s s.heap) (hbl : b < s.heap.size) (hbA : ¬ (fun q : Nat => s.heap.size ≤ q) b) {Inv : wx_St → Prop} (hq : q_restore Inv) {x3 : Int32} (hi1 : vp_in (x3 + 1) L) (hi2 : vp_in (x3 + 2) L) (hi3 : vp_in (x3 + 3) L) (hi4 : vp_in (x3 + 4) L) {σ : wx_St} (hI : Inv σ) {Q : State → Prop} (kk : ∀ (σ : wx_St) (rd : Nat → Nat) (H : Heap) (locs : List Loc), Inv σ → wx_Z D ad rd ca (fun q : Nat => s.heap.size ≤ q) σ H → va_S (fun q : Nat => s.heap.size ≤ q) s.heap H locs → ∀ ls : Array Slot, lv_has ls 4 [(3, .int x3), (2, .ref (ad 16 99)), (1, .ref (ad 11 99)), (0, .ref b)] → W p l e room_1 s m #[Value.ref b] below meth c H locs (200 + wx_n σ.2.2.2.2) (20000 + 6464 * wx_n σ.2.2.2.2) Q (F0 m 874 ls [])) {rd : Nat → Nat} {H : Heap} {locs : List Loc} (Z : wx_Z D ad rd ca (fun q : Nat => s.heap.size ≤ q) σ H) (hS : va_S (fun q : Nat => s.heap.size ≤ q) s.heap H locs) {ls : Array Slot} (hl : lv_has ls 4 [(3, .int x3), (2, .ref (ad 16 99)), (1, .ref (ad 11 99)), (0, .ref b)]) : W p l e room_1 s m #[Value.ref b] below meth c H locs (200 + wx_n σ.2.2.2.2) (20000 + 6464 * wx_n σ.2.2.2.2) Q (F0 m 851 ls []) := by
  obtain ⟨hx, hb, hml, hr, hts, hown, hlk, hC, hA⟩ := id B
  obtain ⟨r, σ1, σ2, h5, h6, hI2, hn1, hn2⟩ := hq ((xs (x3 + 1).toNatClampNeg)) σ hI
  have w0 := lw_n64 σ.2.2.2.2
  have w1 := lw_n64 σ1.2.2.2.2
  have w2 := lw_n64 σ2.2.2.2.2
  refine lv_aload_n hx hb dL_law_851 rfl (lv_at hl 2 rfl) ?_
  refine lv_aload_n hx hb dL_law_852 rfl (lv_at hl 3 rfl) ?_
  refine lv_iload_n hx hb dL_law_853 rfl (lv_at hl 0 rfl) ?_
  refine lv_iconst (v := 1) hx hb dL_law_854 (by decide) ?_
  refine lv_iadd hx hb dL_law_855 ?_
  refine va_sld hx hb hX hbl hbA hS hi1 dL_law_856 ?_
  refine wx_call (va_runV (As := [.int (xs (x3 + 1).toNatClampNeg)]) (rest := []) ⟨hx, hb, hml, hown, hts⟩ (c_X5_restore l (D := D) (ad := ad) (rd := rd) (ca := ca) (A := (fun q : Nat => s.heap.size ≤ q)) (σ := σ) h5) (cwV 1 hts gL_law_X5_restore rfl rfl rfl (by decide +kernel) ⟨Nat.le_of_ble_eq_true rfl, Nat.le_of_ble_eq_true rfl⟩) (wx_preV hC Z hS hA rfl (rfl : vwCl[5]? = some (RX5, TX5, 7))) rfl rfl hl.1 rfl (lv_room (Nat.le_of_ble_eq_true rfl)) dL_law_857 ⟨(by show (200 + wx_n σ.2.2.2.2) + 0 ≤ 600000; omega), (by show (20000 + 6464 * wx_n σ.2.2.2.2) + 0 ≤ 7302250; omega)⟩) hS (fun H locs Z hS => ?_)
  refine W.widen (k := 200 + wx_n σ1.2.2.2.2) (n := 20000 + 6464 * wx_n σ1.2.2.2.2) (by omega) (by omega) ?_
  refine lv_aload_n hx hb dL_law_860 rfl (lv_at hl 1 rfl) ?_
  refine lv_aload_n hx hb dL_law_861 rfl (lv_at hl 3 rfl) ?_
  refine lv_iload_n hx hb dL_law_862 rfl (lv_at hl 0 rfl) ?_
  refine lv_iconst (v := 1) hx hb dL_law_863 (by decide) ?_
  refine lv_iadd hx hb dL_law_864 ?_
  refine va_sld hx hb hX hbl hbA hS hi1 dL_law_865 ?_
  refine wx_call (va_runV (As := [.int (xs (x3 + 1).toNatClampNeg)]) (rest := [.int r]) ⟨hx, hb, hml, hown, hts⟩ (c_X6_restore l (D := D) (ad := ad) (rd := rd) (ca := ca) (A := (fun q : Nat => s.heap.size ≤ q)) (σ := σ1) h6) (cwV 1 hts gL_law_X6_restore rfl rfl rfl (by decide +kernel) ⟨Nat.le_of_ble_eq_true rfl, Nat.le_of_ble_eq_true rfl⟩) (wx_preV hC Z hS hA rfl (rfl : vwCl[6]? = some (RX6, TX6, 25))) rfl rfl hl.1 rfl (lv_room (Nat.le_of_ble_eq_true rfl)) dL_law_866 ⟨(by show (200 + wx_n σ1.2.2.2.2) + 0 ≤ 600000; omega), (by show (20000 + 6464 * wx_n σ1.2.2.2.2) + 0 ≤ 7302250; omega)⟩) hS (fun H locs Z hS => ?_)
  refine W.widen (k := 200 + wx_n σ2.2.2.2.2) (n := 20000 + 6464 * wx_n σ2.2.2.2.2) (by omega) (by omega) ?_
  exact lv_icmp_eq (tgt := 874) hx hb dL_law_869 (by decide) (fun _ => kk _ _ _ _ hI2 Z hS _ hl) (fun hn => absurd rfl hn)
end lwcases
def lw_all (Inv : wx_St → Prop) : Prop := q_set Inv ∧ q_track Inv ∧ q_touch Inv ∧ q_mend Inv ∧ q_feed Inv ∧ q_cool Inv ∧ q_warm Inv ∧ q_probe Inv ∧ q_at Inv ∧ q_row Inv ∧ q_ofTouch Inv ∧ q_reading Inv ∧ q_ofNet Inv ∧ q_count Inv ∧ q_mean Inv ∧ q_bestProbe Inv ∧ q_readsIn Inv ∧ q_wouldRead Inv ∧ q_put Inv ∧ q_wipe Inv ∧ q_fault Inv ∧ q_carryOut Inv ∧ q_undo Inv ∧ q_save Inv ∧ q_restore Inv
