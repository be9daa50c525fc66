/-! THE CLAIM OUT OF ONE WALK OF THE LAW'S BODY. Your part is whole_start (and what it stands on); all else here is the same for every law, but numbers. -/
def R_law : String := "WarmProbesLaw"
def lw_P (b : Addr) (xs : List Int32) (args : Array Value) (s : State) : Prop := args = #[.ref b] ∧ s.IntsAt b xs ∧ xs.length ≤ 2560 ∧ (Jvm.Cond.and given_1 narrow_1).before args s = true
/-- what a walk over the start with the record d0 says of its end, said of the start itself -/
theorem lw_closed {s t : State} {o : Outcome} {d0 : Drawn} {L : List Loc} {k n : Nat} (hd0 : s.drawn.sameBut d0 lw_cs) (hv : ∃ v, o = .returned v) (hW : (s.setDrawn d0).WarmedH t.vm) (hs : (s.setDrawn d0).sameButNew ({ t with vm := s.vm } : State) L k n) : State.butDraws s t lw_cs (fun t1 => Framed s o t1 L k n) := by
  have h2 : t.drawn = d0 := congrArg State.drawn hs.1
  refine ⟨⟨hv, hW, State.sameButNew.setDrawn hs s.drawn⟩, ?_, by decide⟩
  rw [h2]
  exact hd0
def lw_Q (_ : Array Value) (s : State) (o : Outcome) (t : State) : Prop := o = .returned (some (.int 1)) ∧ State.butDraws s t lw_cs (fun t1 => Framed s o t1 [] 600000 7302250)
def lw_Z (below : List Frame) (a : Array Value) (s : State) : State → Prop := fun t => ∃ o, t.status = .running ∧ Ended t below o ∧ lw_Q a s o t
/-- the law's own end, with 1 on the stack, nothing written that was there before, its room as the claim has it; d0: the record of draws at this point (at the entry s.drawn: begin with 'refine W.base ?_' and 'have hd0 := Drawn.sameBut.refl s.drawn lw_cs') -/
theorem lw_ret {p : Program} {l : Launch} {e : Env} {s : State} {m : MethodId} {below : List Frame} {meth : Method} {c : Code} {b : Nat} {d0 : Drawn} (hd0 : s.drawn.sameBut d0 lw_cs) (hx : p.tables.exec = Jvm.exec) (hb : c.code = code) (hr : meth.sig.returnType = ret) (hlocks : meth.locks = false) {pc : Nat} {H : Heap} {ls : Array Slot} (hdg : decode code pc = .ok (.ireturn, 1)) : W p l e room_1 (s.setDrawn d0) m #[Value.ref b] below meth c H [] 600000 7302250 (lw_Z below #[Value.ref b] s) (F0 m pc ls [.int 1]) := by
  intro T hT X
  obtain ⟨fs, hret, hrun, hended, hW, hframe⟩ := X.leave (v := some (.int 1)) (hlocks := hlocks) (fun h => by rw [hr] at h; cases h)
  have hmeth' : T.vm.method? m = some meth := X.method'
  refine ⟨T.setFrames fs, ?_, .returned (some (.int 1)), hrun, hended, rfl, lw_closed hd0 ⟨_, rfl⟩ hW hframe⟩
  jvm_step X.here [X.here.top, hx, hb, hdg, hmeth', hr, ret, narrow_b1]
  (try refine ⟨rfl, ?_⟩); (try refine ⟨rfl, ?_⟩)
  first | (intro acts; rw [hret _ acts rfl rfl rfl]) | rw [hret _ _ rfl rfl rfl]
  exact Steps.refl _
/-- what holds at the law's entry: the machine, the code, the tables' words (any of lw_tbl by 'hts w (by decide +kernel)'), the script of L ints xs at the cell b, what the Statement gives of the start (any of its parts by flat_of_before) -/
def lw_At (p : Program) (s : State) (m : MethodId) (meth : Method) (c : Code) (b L : Nat) (xs : Nat → Int32) : Prop :=
  p.tables.exec = Jvm.exec ∧ c.code = code ∧ meth.sig.returnType = ret ∧ c.maxLocals = 4 ∧ s.vm.findClass R_law = some m.cls ∧ (∀ w ∈ lw_tbl, w.before #[Value.ref b] s = true) ∧ va_X b L xs s s.heap ∧ b < s.heap.size ∧ meth.locks = false ∧ (Jvm.Cond.and given_1 narrow_1).before #[Value.ref b] s = true
section lwloop
variable {p : Program} {l : Launch} {e : Env} {s : State} {m : MethodId} {below : List Frame} {meth : Method} {c : Code} {D : va_G} {ad : Nat → Nat → Nat} {ca : Nat → ClassId} {b L : Nat} {xs : Nat → Int32}
theorem lw_ix {i j L : Nat} (h : i + j < L) (hL : L ≤ 2560) : vp_in (nI i + nI j) L := by
  rw [nI_add]
  exact vp_in_iff.mpr (by rw [nI_toInt (by omega)]; omega)
theorem lw_more {i L : Nat} (hi : i ≤ L + 5) (hL : L ≤ 2560) (h : ¬ nI L - 5 < nI i) : i + 5 ≤ L := by
  have h5 : (5 : Int32) = nI 5 := rfl
  rw [Int32.lt_iff_toInt_lt, h5, pk_sub_toInt (by omega) (by omega), nI_toInt (by omega)] at h
  omega
set_option maxHeartbeats 8000000 in
theorem law_loop (hL : L ≤ 2560) (B : wx_B p s m #[Value.ref b] meth c cL_law 4 (some .boolean) wsL_law RL D ad ca (fun q : Nat => s.heap.size ≤ q)) (hX : va_X b L xs s s.heap) (hbl : b < s.heap.size) {Inv : wx_St → Prop} (hq : lw_all Inv) : ∀ (n i : Nat), i ≤ L + 5 → L + 1 ≤ i + n → ∀ (σ : wx_St) (rd : Nat → Nat) (H : Heap) (locs : List Loc), Inv σ → wx_Z D ad rd ca (fun q : Nat => s.heap.size ≤ q) σ H → va_S (fun q : Nat => s.heap.size ≤ q) s.heap H locs → ∀ ls : Array Slot, lv_has ls 4 [(3, .int (nI i)), (2, .ref (ad 16 99)), (1, .ref (ad 11 99)), (0, .ref b)] → W p l e room_1 s m #[Value.ref b] below meth c H locs (200 + wx_n σ.2.2.2.2) (20000 + 6464 * wx_n σ.2.2.2.2) (lw_Z below #[Value.ref b] s) (F0 m 18 ls []) := by
  obtain ⟨hx, hb, hml, hr, hts, hown, hlk, hC, hA⟩ := id B
  have hbA : ¬ (fun q : Nat => s.heap.size ≤ q) b := Nat.not_le.mpr hbl
  obtain ⟨q0, q1, q2, q3, q4, q5, q6, q7, q8, q9, q10, q11, q12, q13, q14, q15, q16, q17, q18, q19, q20, q21, q22, q23, q24⟩ := hq
  intro n
  induction n with
  | zero =>
    intro i _ h2 σ rd H locs hI Z hS ls hl
    have w0 := lw_n64 σ.2.2.2.2
    refine lv_iload_n hx hb dL_law_18 rfl (lv_at hl 0 rfl) ?_
    refine lv_aload_n hx hb dL_law_19 rfl (lv_at hl 3 rfl) ?_
    refine va_slen hx hb hX hbl hbA hS dL_law_20 ?_
    refine lv_iconst (v := 5) hx hb dL_law_21 (by decide) ?_
    refine lv_isub hx hb dL_law_22 ?_
    refine lv_icmp_gt (tgt := 880) hx hb dL_law_23 (by decide) (fun hc => ?_) (fun hc => ?_)
    · refine lv_iconst (v := 1) hx hb dL_law_880 (by decide) ?_
      refine W.widen (k := 600000) (n := 7302250) (by omega) (by omega) ?_
      exact va_forget hS.2.2 (lw_ret (d0 := s.drawn) (Drawn.sameBut.refl _ _) hx hb hr hlk dL_law_881)
    · exact absurd (lw_more (by omega) hL hc) (by omega)
  | succ n ih =>
    intro i h1 h2 σ rd H locs hI Z hS ls hl
    have w0 := lw_n64 σ.2.2.2.2
    refine lv_iload_n hx hb dL_law_18 rfl (lv_at hl 0 rfl) ?_
    refine lv_aload_n hx hb dL_law_19 rfl (lv_at hl 3 rfl) ?_
    refine va_slen hx hb hX hbl hbA hS dL_law_20 ?_
    refine lv_iconst (v := 5) hx hb dL_law_21 (by decide) ?_
    refine lv_isub hx hb dL_law_22 ?_
    refine lv_icmp_gt (tgt := 880) hx hb dL_law_23 (by decide) (fun hc => ?_) (fun hc => ?_)
    · refine lv_iconst (v := 1) hx hb dL_law_880 (by decide) ?_
      refine W.widen (k := 600000) (n := 7302250) (by omega) (by omega) ?_
      exact va_forget hS.2.2 (lw_ret (d0 := s.drawn) (Drawn.sameBut.refl _ _) hx hb hr hlk dL_law_881)
    · have h5 := lw_more h1 hL hc
      have hi0 : vp_in (nI i) L := vp_in_iff.mpr (by rw [nI_toInt (by omega)]; omega)
      have hi1 : vp_in (nI i + 1) L := lw_ix (j := 1) (by omega) hL
      have hi2 : vp_in (nI i + 2) L := lw_ix (j := 2) (by omega) hL
      have hi3 : vp_in (nI i + 3) L := lw_ix (j := 3) (by omega) hL
      have hi4 : vp_in (nI i + 4) L := lw_ix (j := 4) (by omega) hL
      have kk : ∀ (σ : wx_St) (rd : Nat → Nat) (H : Heap) (locs : List Loc), Inv σ → wx_Z D ad rd ca (fun q : Nat => s.heap.size ≤ q) σ H → va_S (fun q : Nat => s.heap.size ≤ q) s.heap H locs → ∀ ls : Array Slot, lv_has ls 4 [(3, .int (nI i)), (2, .ref (ad 16 99)), (1, .ref (ad 11 99)), (0, .ref b)] → W p l e room_1 s m #[Value.ref b] below meth c H locs (200 + wx_n σ.2.2.2.2) (20000 + 6464 * wx_n σ.2.2.2.2) (lw_Z below #[Value.ref b] s) (F0 m 874 ls []) := by
        intro σ rd H locs hI Z hS ls hl
        refine lv_iinc (v := nI i + 5) (lv' := [(3, .int (nI i + 5)), (2, .ref (ad 16 99)), (1, .ref (ad 11 99)), (0, .ref b)]) hx hb dL_law_874 hl (k := 0) rfl rfl (by decide) rfl (fun ls hl => ?_)
        refine lv_goto (tgt := 18) hx hb dL_law_877 (by decide) ?_
        have e5 : nI i + 5 = nI (i + 5) := nI_add i 5
        rw [e5] at hl
        exact ih (i + 5) (by omega) (by omega) σ rd H locs hI Z hS ls hl
      refine lv_aload_n hx hb dL_law_26 rfl (lv_at hl 3 rfl) ?_
      refine lv_iload_n hx hb dL_law_27 rfl (lv_at hl 0 rfl) ?_
      refine va_sld hx hb hX hbl hbA hS hi0 dL_law_28 ?_
      refine lv_bipush (v := 31) hx hb dL_law_29 (by decide) ?_
      refine lv_iand hx hb dL_law_31 ?_
      generalize (xs (nI i).toNatClampNeg &&& 31) = op
      by_cases ho : op.toInt < 0 ∨ 24 < op.toInt
      · exact lv_tableOut (tgt := 874) hx hb dL_law_32 ho (by decide) (kk _ _ _ _ hI Z hS _ hl)
      · have ho1 : ¬ op.toInt < 0 := fun h => ho (Or.inl h)
        have ho2 : ¬ (24 : Int) < op.toInt := fun h => ho (Or.inr h)
        rcases (show op.toInt = 0 ∨ op.toInt = 1 ∨ op.toInt = 2 ∨ op.toInt = 3 ∨ op.toInt = 4 ∨ op.toInt = 5 ∨ op.toInt = 6 ∨ op.toInt = 7 ∨ op.toInt = 8 ∨ op.toInt = 9 ∨ op.toInt = 10 ∨ op.toInt = 11 ∨ op.toInt = 12 ∨ op.toInt = 13 ∨ op.toInt = 14 ∨ op.toInt = 15 ∨ op.toInt = 16 ∨ op.toInt = 17 ∨ op.toInt = 18 ∨ op.toInt = 19 ∨ op.toInt = 20 ∨ op.toInt = 21 ∨ op.toInt = 22 ∨ op.toInt = 23 ∨ op.toInt = 24 by omega) with hj | hj | hj | hj | hj | hj | hj | hj | hj | hj | hj | hj | hj | hj | hj | hj | hj | hj | hj | hj | hj | hj | hj | hj | hj
        · exact lv_tableIn (off := 116) (tgt := 148) hx hb dL_law_32 ho1 ho2 (by rw [hj]; rfl) (by decide) (b_L_law_148 B hX hbl hbA q0 hi1 hi2 hi3 hi4 hI kk Z hS hl)
        · exact lv_tableIn (off := 149) (tgt := 181) hx hb dL_law_32 ho1 ho2 (by rw [hj]; rfl) (by decide) (b_L_law_181 B hX hbl hbA q1 hi1 hi2 hi3 hi4 hI kk Z hS hl)
        · exact lv_tableIn (off := 192) (tgt := 224) hx hb dL_law_32 ho1 ho2 (by rw [hj]; rfl) (by decide) (b_L_law_224 B hX hbl hbA q2 hi1 hi2 hi3 hi4 hI kk Z hS hl)
        · exact lv_tableIn (off := 235) (tgt := 267) hx hb dL_law_32 ho1 ho2 (by rw [hj]; rfl) (by decide) (b_L_law_267 B hX hbl hbA q3 hi1 hi2 hi3 hi4 hI kk Z hS hl)
        · exact lv_tableIn (off := 258) (tgt := 290) hx hb dL_law_32 ho1 ho2 (by rw [hj]; rfl) (by decide) (b_L_law_290 B hX hbl hbA q4 hi1 hi2 hi3 hi4 hI kk Z hS hl)
        · exact lv_tableIn (off := 291) (tgt := 323) hx hb dL_law_32 ho1 ho2 (by rw [hj]; rfl) (by decide) (b_L_law_323 B hX hbl hbA q5 hi1 hi2 hi3 hi4 hI kk Z hS hl)
        · exact lv_tableIn (off := 304) (tgt := 336) hx hb dL_law_32 ho1 ho2 (by rw [hj]; rfl) (by decide) (b_L_law_336 B hX hbl hbA q6 hi1 hi2 hi3 hi4 hI kk Z hS hl)
        · exact lv_tableIn (off := 327) (tgt := 359) hx hb dL_law_32 ho1 ho2 (by rw [hj]; rfl) (by decide) (b_L_law_359 B hX hbl hbA q7 hi1 hi2 hi3 hi4 hI kk Z hS hl)
        · exact lv_tableIn (off := 360) (tgt := 392) hx hb dL_law_32 ho1 ho2 (by rw [hj]; rfl) (by decide) (b_L_law_392 B hX hbl hbA q8 hi1 hi2 hi3 hi4 hI kk Z hS hl)
        · exact lv_tableIn (off := 403) (tgt := 435) hx hb dL_law_32 ho1 ho2 (by rw [hj]; rfl) (by decide) (b_L_law_435 B hX hbl hbA q9 hi1 hi2 hi3 hi4 hI kk Z hS hl)
        · exact lv_tableIn (off := 436) (tgt := 468) hx hb dL_law_32 ho1 ho2 (by rw [hj]; rfl) (by decide) (b_L_law_468 B hX hbl hbA q10 hi1 hi2 hi3 hi4 hI kk Z hS hl)
        · exact lv_tableIn (off := 469) (tgt := 501) hx hb dL_law_32 ho1 ho2 (by rw [hj]; rfl) (by decide) (b_L_law_501 B hX hbl hbA q11 hi1 hi2 hi3 hi4 hI kk Z hS hl)
        · exact lv_tableIn (off := 502) (tgt := 534) hx hb dL_law_32 ho1 ho2 (by rw [hj]; rfl) (by decide) (b_L_law_534 B hX hbl hbA q12 hi1 hi2 hi3 hi4 hI kk Z hS hl)
        · exact lv_tableIn (off := 535) (tgt := 567) hx hb dL_law_32 ho1 ho2 (by rw [hj]; rfl) (by decide) (b_L_law_567 B hX hbl hbA q13 hi1 hi2 hi3 hi4 hI kk Z hS hl)
        · exact lv_tableIn (off := 558) (tgt := 590) hx hb dL_law_32 ho1 ho2 (by rw [hj]; rfl) (by decide) (b_L_law_590 B hX hbl hbA q14 hi1 hi2 hi3 hi4 hI kk Z hS hl)
        · exact lv_tableIn (off := 572) (tgt := 604) hx hb dL_law_32 ho1 ho2 (by rw [hj]; rfl) (by decide) (b_L_law_604 B hX hbl hbA q15 hi1 hi2 hi3 hi4 hI kk Z hS hl)
        · exact lv_tableIn (off := 595) (tgt := 627) hx hb dL_law_32 ho1 ho2 (by rw [hj]; rfl) (by decide) (b_L_law_627 B hX hbl hbA q16 hi1 hi2 hi3 hi4 hI kk Z hS hl)
        · exact lv_tableIn (off := 638) (tgt := 670) hx hb dL_law_32 ho1 ho2 (by rw [hj]; rfl) (by decide) (b_L_law_670 B hX hbl hbA q17 hi1 hi2 hi3 hi4 hI kk Z hS hl)
        · exact lv_tableIn (off := 691) (tgt := 723) hx hb dL_law_32 ho1 ho2 (by rw [hj]; rfl) (by decide) (b_L_law_723 B hX hbl hbA q18 hi1 hi2 hi3 hi4 hI kk Z hS hl)
        · exact lv_tableIn (off := 744) (tgt := 776) hx hb dL_law_32 ho1 ho2 (by rw [hj]; rfl) (by decide) (b_L_law_776 B hX hbl hbA q19 hi1 hi2 hi3 hi4 hI kk Z hS hl)
        · exact lv_tableIn (off := 757) (tgt := 789) hx hb dL_law_32 ho1 ho2 (by rw [hj]; rfl) (by decide) (b_L_law_789 B hX hbl hbA q20 hi1 hi2 hi3 hi4 hI kk Z hS hl)
        · exact lv_tableIn (off := 770) (tgt := 802) hx hb dL_law_32 ho1 ho2 (by rw [hj]; rfl) (by decide) (b_L_law_802 B hX hbl hbA q21 hi1 hi2 hi3 hi4 hI kk Z hS hl)
        · exact lv_tableIn (off := 783) (tgt := 815) hx hb dL_law_32 ho1 ho2 (by rw [hj]; rfl) (by decide) (b_L_law_815 B hX hbl hbA q22 hi1 hi2 hi3 hi4 hI kk Z hS hl)
        · exact lv_tableIn (off := 796) (tgt := 828) hx hb dL_law_32 ho1 ho2 (by rw [hj]; rfl) (by decide) (b_L_law_828 B hX hbl hbA q23 hi1 hi2 hi3 hi4 hI kk Z hS hl)
        · exact lv_tableIn (off := 819) (tgt := 851) hx hb dL_law_32 ho1 ho2 (by rw [hj]; rfl) (by decide) (b_L_law_851 B hX hbl hbA q24 hi1 hi2 hi3 hi4 hI kk Z hS hl)
end lwloop
