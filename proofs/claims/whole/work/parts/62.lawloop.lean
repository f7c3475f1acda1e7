/-! the law's loop; printed by wip/whole/gen_law2.py -/
theorem law_six {i L : Nat} (hL : L ≤ 3072) (hi : i ≤ L) (h : ¬ (Int32.ofNat L - 6 < nI i)) : i + 6 ≤ L := by
  by_cases h6 : L < 6
  · exact absurd ((by decide +kernel : ∀ L : Nat, L < 6 → ∀ i : Nat, i < 6 → Int32.ofNat L - 6 < nI i) L h6 i (by omega)) h
  · obtain ⟨a, rfl⟩ : ∃ a, L = a + 6 := ⟨L - 6, by omega⟩
    have e1 : Int32.ofNat (a + 6) - 6 = nI a := by
      have e2 : Int32.ofNat (a + 6) = nI a + 6 := (nI_add a 6).symm
      rw [e2]
      first | (simp; done) | exact Int32.add_sub_cancel
    rw [e1] at h
    rcases Nat.lt_or_ge a i with q | q
    · exact absurd (nI_lt q (by omega)) h
    · omega
set_option maxHeartbeats 4000000 in
set_option maxRecDepth 100000 in
theorem law_loop {p : Program} {l : Launch} {e : Env} {s : State} {m : MethodId} {below : List Frame} {meth : Method} {c : Code} {D : va_G} {cy : Nat → ClassId} {aB aM z : Nat → Nat} {b L : Nat} {xs : Nat → Int32} {cells slots : Nat} (hL : L ≤ 3072) (C : LwX D cy z p s m meth c b L xs) (hr : meth.sig.returnType = ret) (hc : cells ≤ room_1.cells ∧ slots ≤ room_1.slots) :
    ∀ (n i : Nat) (x3 : Int32), i ≤ L → L + 1 ≤ i + n → x3 = nI i → ∀ (σ τ : Sg) (H : Heap) (locs : List Loc), Inv σ τ → St2 D cy aB aM (fun q : Nat => s.heap.size ≤ q) s σ τ H locs → ∀ (ls : Array Slot), lv_has ls 4 [(0, .ref b), (1, .ref (aB 0)), (2, .ref (aM 0)), (3, .int x3)] → W p l e room_1 s m #[Value.ref b] below meth c H locs cells slots (lw_Z below #[Value.ref b] s) (F0 m 18 ls []) := by
  have hx := C.1.1
  have hb := C.1.2.1
  have hX := C.2.2.1
  have hbl := C.2.2.2
  have hbA : ¬ (fun q : Nat => s.heap.size ≤ q) b := Nat.not_le.mpr hbl
  intro n
  induction n with
  | zero =>
    intro i x3 h1 h2
    exact absurd h2 (by omega)
  | succ n ih =>
    intro i x3 hi hin ex σ τ H locs hI S ls hl
    refine lv_iload_n hx hb dL_law_18 rfl (lv_at hl 3 rfl) ?_
    refine lv_aload_n hx hb dL_law_19 rfl (lv_at hl 0 rfl) ?_
    refine va_slen hx hb hX hbl hbA S.2.2.2.2.2 dL_law_20 ?_
    refine lv_bipush (v := 6) hx hb dL_law_21 (by decide) ?_
    refine lv_isub hx hb dL_law_23 ?_
    refine lv_icmp_gt (tgt := 1071) hx hb dL_law_24 (by decide) (fun q => ?_) (fun q => ?_)
    · refine lv_iconst (v := 1) hx hb dL_law_1071 (by decide) ?_
      refine va_forget (fun q hq => S.2.2.2.2.2.2.2 q hq) ?_
      refine W.widen (k := 600000) (n := 7302249) hc.1 hc.2 ?_
      exact lw_ret hx hb hr C.1.2.2.2.2.2.1 dL_law_1072
    · rw [ex] at q
      have h6 := law_six hL hi q
      have hk : ∀ k : Nat, k < 6 → vp_in (x3 + nI k) L := fun k hk => by
        rw [ex, nI_add]
        exact vp_in_nI (by omega) (by omega)
      have h0 : vp_in x3 L := by rw [ex]; exact vp_in_nI (by omega) (by omega)
      have hv : vp_in (x3 + 1) L ∧ vp_in (x3 + 2) L ∧ vp_in (x3 + 3) L ∧ vp_in (x3 + 4) L ∧ vp_in (x3 + 5) L := ⟨hk 1 (by decide), hk 2 (by decide), hk 3 (by decide), hk 4 (by decide), hk 5 (by decide)⟩
      have kk : ∀ (σ' τ' : Sg) (H1 : Heap) (locs1 : List Loc), Inv σ' τ' → St2 D cy aB aM (fun q : Nat => s.heap.size ≤ q) s σ' τ' H1 locs1 → W p l e room_1 s m #[Value.ref b] below meth c H1 locs1 cells slots (lw_Z below #[Value.ref b] s) (F0 m 1065 ls []) := by
        intro σ' τ' H1 locs1 hI1 S1
        obtain ⟨x4, e4⟩ : ∃ y : Int32, y = x3 + 6 := ⟨_, rfl⟩
        refine lv_iinc (v := x4) (lv' := [(3, .int x4), (0, .ref b), (1, .ref (aB 0)), (2, .ref (aM 0))]) hx hb dL_law_1065 hl (k := 3) rfl (by rw [e4]; rfl) (by decide) rfl (fun ls hl => ?_)
        refine lv_goto (tgt := 18) hx hb dL_law_1068 (by decide) ?_
        exact ih (i + 6) x4 h6 (by omega) (by rw [e4, ex]; exact nI_add i 6) σ' τ' H1 locs1 hI1 S1 ls (lv_sub hl [1, 2, 3, 0] rfl)
      refine lv_aload_n hx hb dL_law_27 rfl (lv_at hl 0 rfl) ?_
      refine lv_iload_n hx hb dL_law_28 rfl (lv_at hl 3 rfl) ?_
      refine va_sld hx hb hX hbl hbA S.2.2.2.2.2 h0 dL_law_29 ?_
      refine lv_bipush (v := 31) hx hb dL_law_30 (by decide) ?_
      refine lv_iand hx hb dL_law_32 ?_
      refine lv_topi (fun y ey => ?_)
      clear ey
      by_cases q0 : y = 0
      · refine lv_tableIn (tgt := 164) hx hb dL_law_33 (by rw [q0] <;> decide) (by rw [q0] <;> decide) (by rw [q0] <;> rfl) (by decide) ?_
        exact lc_row l C hI S hl hv hc kk
      by_cases q1 : y = 1
      · refine lv_tableIn (tgt := 208) hx hb dL_law_33 (by rw [q1] <;> decide) (by rw [q1] <;> decide) (by rw [q1] <;> rfl) (by decide) ?_
        exact lc_set l C hI S hl hv hc kk
      by_cases q2 : y = 2
      · refine lv_tableIn (tgt := 252) hx hb dL_law_33 (by rw [q2] <;> decide) (by rw [q2] <;> decide) (by rw [q2] <;> rfl) (by decide) ?_
        exact lc_copy l C hI S hl hv hc kk
      by_cases q3 : y = 3
      · refine lv_tableIn (tgt := 316) hx hb dL_law_33 (by rw [q3] <;> decide) (by rw [q3] <;> decide) (by rw [q3] <;> rfl) (by decide) ?_
        exact lc_drop l C hI S hl hv hc kk
      by_cases q4 : y = 4
      · refine lv_tableIn (tgt := 340) hx hb dL_law_33 (by rw [q4] <;> decide) (by rw [q4] <;> decide) (by rw [q4] <;> rfl) (by decide) ?_
        exact lc_feed l C hI S hl hv hc kk
      by_cases q5 : y = 5
      · refine lv_tableIn (tgt := 404) hx hb dL_law_33 (by rw [q5] <;> decide) (by rw [q5] <;> decide) (by rw [q5] <;> rfl) (by decide) ?_
        exact lc_stencils l C hI S hl hv hc kk
      by_cases q6 : y = 6
      · refine lv_tableIn (tgt := 418) hx hb dL_law_33 (by rw [q6] <;> decide) (by rw [q6] <;> decide) (by rw [q6] <;> rfl) (by decide) ?_
        exact lc_fault l C hI S hl hv hc kk
      by_cases q7 : y = 7
      · refine lv_tableIn (tgt := 431) hx hb dL_law_33 (by rw [q7] <;> decide) (by rw [q7] <;> decide) (by rw [q7] <;> rfl) (by decide) ?_
        exact lc_bay l C hI S hl hv hc kk
      by_cases q8 : y = 8
      · refine lv_tableIn (tgt := 455) hx hb dL_law_33 (by rw [q8] <;> decide) (by rw [q8] <;> decide) (by rw [q8] <;> rfl) (by decide) ?_
        exact lc_start l C hI S hl hv hc kk
      by_cases q9 : y = 9
      · refine lv_tableIn (tgt := 489) hx hb dL_law_33 (by rw [q9] <;> decide) (by rw [q9] <;> decide) (by rw [q9] <;> rfl) (by decide) ?_
        exact lc_strip l C hI S hl hv hc kk
      by_cases q10 : y = 10
      · refine lv_tableIn (tgt := 523) hx hb dL_law_33 (by rw [q10] <;> decide) (by rw [q10] <;> decide) (by rw [q10] <;> rfl) (by decide) ?_
        exact lc_edge l C hI S hl hv hc kk
      by_cases q11 : y = 11
      · refine lv_tableIn (tgt := 557) hx hb dL_law_33 (by rw [q11] <;> decide) (by rw [q11] <;> decide) (by rw [q11] <;> rfl) (by decide) ?_
        exact lc_cell l C hI S hl hv hc kk
      by_cases q12 : y = 12
      · refine lv_tableIn (tgt := 591) hx hb dL_law_33 (by rw [q12] <;> decide) (by rw [q12] <;> decide) (by rw [q12] <;> rfl) (by decide) ?_
        exact lc_gauge l C hI S hl hv hc kk
      by_cases q13 : y = 13
      · refine lv_tableIn (tgt := 645) hx hb dL_law_33 (by rw [q13] <;> decide) (by rw [q13] <;> decide) (by rw [q13] <;> rfl) (by decide) ?_
        exact lc_out l C hI S hl hv hc kk
      by_cases q14 : y = 14
      · refine lv_tableIn (tgt := 679) hx hb dL_law_33 (by rw [q14] <;> decide) (by rw [q14] <;> decide) (by rw [q14] <;> rfl) (by decide) ?_
        exact lc_wish l C hI S hl hv hc kk
      by_cases q15 : y = 15
      · refine lv_tableIn (tgt := 703) hx hb dL_law_33 (by rw [q15] <;> decide) (by rw [q15] <;> decide) (by rw [q15] <;> rfl) (by decide) ?_
        exact lc_slope l C hI S hl hv hc kk
      by_cases q16 : y = 16
      · refine lv_tableIn (tgt := 737) hx hb dL_law_33 (by rw [q16] <;> decide) (by rw [q16] <;> decide) (by rw [q16] <;> rfl) (by decide) ?_
        exact lc_push l C hI S hl hv hc kk
      by_cases q17 : y = 17
      · refine lv_tableIn (tgt := 771) hx hb dL_law_33 (by rw [q17] <;> decide) (by rw [q17] <;> decide) (by rw [q17] <;> rfl) (by decide) ?_
        exact lc_again l C hI S hl hv hc kk
      by_cases q18 : y = 18
      · refine lv_tableIn (tgt := 815) hx hb dL_law_33 (by rw [q18] <;> decide) (by rw [q18] <;> decide) (by rw [q18] <;> rfl) (by decide) ?_
        exact lc_move l C hI S hl hv hc kk
      by_cases q19 : y = 19
      · refine lv_tableIn (tgt := 828) hx hb dL_law_33 (by rw [q19] <;> decide) (by rw [q19] <;> decide) (by rw [q19] <;> rfl) (by decide) ?_
        exact lc_rest l C hI S hl hv hc kk
      by_cases q20 : y = 20
      · refine lv_tableIn (tgt := 841) hx hb dL_law_33 (by rw [q20] <;> decide) (by rw [q20] <;> decide) (by rw [q20] <;> rfl) (by decide) ?_
        exact lc_keep l C hI S hl hv hc kk
      by_cases q21 : y = 21
      · refine lv_tableIn (tgt := 855) hx hb dL_law_33 (by rw [q21] <;> decide) (by rw [q21] <;> decide) (by rw [q21] <;> rfl) (by decide) ?_
        exact lc_lay l C hI S hl hv hc kk
      by_cases q22 : y = 22
      · refine lv_tableIn (tgt := 879) hx hb dL_law_33 (by rw [q22] <;> decide) (by rw [q22] <;> decide) (by rw [q22] <;> rfl) (by decide) ?_
        exact lc_apart l C hI S hl hv hc kk
      by_cases q23 : y = 23
      · refine lv_tableIn (tgt := 913) hx hb dL_law_33 (by rw [q23] <;> decide) (by rw [q23] <;> decide) (by rw [q23] <;> rfl) (by decide) ?_
        exact lc_kind l C hI S hl hv hc kk
      by_cases q24 : y = 24
      · refine lv_tableIn (tgt := 937) hx hb dL_law_33 (by rw [q24] <;> decide) (by rw [q24] <;> decide) (by rw [q24] <;> rfl) (by decide) ?_
        exact lc_as l C hI S hl hv hc kk
      by_cases q25 : y = 25
      · refine lv_tableIn (tgt := 971) hx hb dL_law_33 (by rw [q25] <;> decide) (by rw [q25] <;> decide) (by rw [q25] <;> rfl) (by decide) ?_
        exact lc_ask l C hI S hl hv hc kk
      by_cases q26 : y = 26
      · refine lv_tableIn (tgt := 1005) hx hb dL_law_33 (by rw [q26] <;> decide) (by rw [q26] <;> decide) (by rw [q26] <;> rfl) (by decide) ?_
        exact lc_trace l C hI S hl hv hc kk
      by_cases q27 : y = 27
      · refine lv_tableIn (tgt := 1028) hx hb dL_law_33 (by rw [q27] <;> decide) (by rw [q27] <;> decide) (by rw [q27] <;> rfl) (by decide) ?_
        exact lc_count l C hI S hl hv hc kk
      by_cases q28 : y = 28
      · refine lv_tableIn (tgt := 1052) hx hb dL_law_33 (by rw [q28] <;> decide) (by rw [q28] <;> decide) (by rw [q28] <;> rfl) (by decide) ?_
        exact lc_status l C hI S hl hv hc kk
      refine lv_tableOut (tgt := 1065) hx hb dL_law_33 (by have r0 := lv_neT (a := 0) q0 rfl; have r1 := lv_neT (a := 1) q1 rfl; have r2 := lv_neT (a := 2) q2 rfl; have r3 := lv_neT (a := 3) q3 rfl; have r4 := lv_neT (a := 4) q4 rfl; have r5 := lv_neT (a := 5) q5 rfl; have r6 := lv_neT (a := 6) q6 rfl; have r7 := lv_neT (a := 7) q7 rfl; have r8 := lv_neT (a := 8) q8 rfl; have r9 := lv_neT (a := 9) q9 rfl; have r10 := lv_neT (a := 10) q10 rfl; have r11 := lv_neT (a := 11) q11 rfl; have r12 := lv_neT (a := 12) q12 rfl; have r13 := lv_neT (a := 13) q13 rfl; have r14 := lv_neT (a := 14) q14 rfl; have r15 := lv_neT (a := 15) q15 rfl; have r16 := lv_neT (a := 16) q16 rfl; have r17 := lv_neT (a := 17) q17 rfl; have r18 := lv_neT (a := 18) q18 rfl; have r19 := lv_neT (a := 19) q19 rfl; have r20 := lv_neT (a := 20) q20 rfl; have r21 := lv_neT (a := 21) q21 rfl; have r22 := lv_neT (a := 22) q22 rfl; have r23 := lv_neT (a := 23) q23 rfl; have r24 := lv_neT (a := 24) q24 rfl; have r25 := lv_neT (a := 25) q25 rfl; have r26 := lv_neT (a := 26) q26 rfl; have r27 := lv_neT (a := 27) q27 rfl; have r28 := lv_neT (a := 28) q28 rfl; omega) (by decide) ?_
      exact kk σ τ H locs hI S
