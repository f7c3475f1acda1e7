def wX12_within_b15 (y0 : Int32) (σ : Sg) (Q : Int32 → Sg → Prop) : Prop :=
  (bok y0 ∧ Q y0 σ)
def wX12_within_b14 (σ : Sg) (Q : Int32 → Sg → Prop) : Prop :=
  wX12_within_b15 0 σ Q
def wX12_within (x0 : Int32) (x1 : Int32) (x2 : Int32) (σ : Sg) (Q : Int32 → Sg → Prop) : Prop :=
  ((x0 < x1 → wX12_within_b14 σ Q) ∧ (¬ x0 < x1 → ((x2 < x0 → wX12_within_b14 σ Q) ∧ (¬ x2 < x0 → wX12_within_b15 1 σ Q))))
set_option maxHeartbeats 4000000 in
set_option maxRecDepth 100000 in
theorem mX12_within_b15 {D : va_G} {cy : Nat → ClassId} {ad : Nat → Nat} (l : Launch) {p : Program} {e : Env} {s : State} {m : MethodId} {args : Array Value} {below : List Frame} {meth : Method} {c : Code} {A : Nat → Prop} {Q : Int32 → Sg → Prop} (X : Fx D (tyM cy) EvM p s m args meth c cX12_within 3 "BackBayModel" A) (hr : meth.sig.returnType = some .boolean) (y0 : Int32) {σ : Sg} {H : Heap} {locs : List Loc} {ls : Array Slot} (S : St D ad 34 (shM cy ad) A s σ H locs) (hl : lv_has ls 3 []) (h : wX12_within_b15 y0 σ Q) : W p l e ({ frames := 0, cells := 0, slots := 0, locals := 0 }) s m args below meth c H locs 0 0 (MQ below (va_Qi Q (PosW D (tyM cy) ad 34 (shM cy ad) A) A) args s 0 0 A) (F0 m 15 ls [.int y0]) := by
  have hx := X.1
  have hb := X.2.1
  unfold wX12_within_b15 at h
  exact o_zret X S hr h.1 h.2 dX12_within_15
set_option maxHeartbeats 4000000 in
set_option maxRecDepth 100000 in
theorem mX12_within_b14 {D : va_G} {cy : Nat → ClassId} {ad : Nat → Nat} (l : Launch) {p : Program} {e : Env} {s : State} {m : MethodId} {args : Array Value} {below : List Frame} {meth : Method} {c : Code} {A : Nat → Prop} {Q : Int32 → Sg → Prop} (X : Fx D (tyM cy) EvM p s m args meth c cX12_within 3 "BackBayModel" A) (hr : meth.sig.returnType = some .boolean) {σ : Sg} {H : Heap} {locs : List Loc} {ls : Array Slot} (S : St D ad 34 (shM cy ad) A s σ H locs) (hl : lv_has ls 3 []) (h : wX12_within_b14 σ Q) : W p l e ({ frames := 0, cells := 0, slots := 0, locals := 0 }) s m args below meth c H locs 0 0 (MQ below (va_Qi Q (PosW D (tyM cy) ad 34 (shM cy ad) A) A) args s 0 0 A) (F0 m 14 ls []) := by
  have hx := X.1
  have hb := X.2.1
  unfold wX12_within_b14 at h
  refine lv_iconst (v := 0) hx hb dX12_within_14 (by decide) ?_
  exact mX12_within_b15 l X hr 0 S (lv_sub hl [] rfl) h
set_option maxHeartbeats 4000000 in
set_option maxRecDepth 100000 in
theorem mX12_within {D : va_G} {cy : Nat → ClassId} {ad : Nat → Nat} (l : Launch) (x0 : Int32) (x1 : Int32) (x2 : Int32) (σ : Sg) (Q : Int32 → Sg → Prop) (h : wX12_within x0 x1 x2 σ Q) : MIM D cy ad l yX12_within (.code yX12_within cX12_within 3 (some .boolean) :: gT) ({ frames := 0, cells := 0, slots := 0, locals := 0 }) [.int x0, .int x1, .int x2] σ Q := by
  refine metI_of (by decide +kernel) (Nat.le_of_ble_eq_true rfl) ?_
  intro p e s m args below meth c A ls X hr hl S
  have X : Fx D (tyM cy) EvM p s m args meth c cX12_within 3 "BackBayModel" A := X
  have hl : lv_has ls 3 [(0, .int x0), (1, .int x1), (2, .int x2)] := hl
  have hx := X.1
  have hb := X.2.1
  unfold wX12_within at h
  refine lv_iload_n hx hb dX12_within_0 rfl (lv_at hl 0 rfl) ?_
  refine lv_iload_n hx hb dX12_within_1 rfl (lv_at hl 1 rfl) ?_
  refine lv_icmp_lt (tgt := 14) hx hb dX12_within_2 (by decide) (fun q_1 => ?_) (fun q_1 => ?_)
  · replace h := h.1 q_1
    exact mX12_within_b14 l X hr S (lv_sub hl [] rfl) h
  · replace h := h.2 q_1
    refine lv_iload_n hx hb dX12_within_5 rfl (lv_at hl 0 rfl) ?_
    refine lv_iload_n hx hb dX12_within_6 rfl (lv_at hl 2 rfl) ?_
    refine lv_icmp_gt (tgt := 14) hx hb dX12_within_7 (by decide) (fun q_2 => ?_) (fun q_2 => ?_)
    · replace h := h.1 q_2
      exact mX12_within_b14 l X hr S (lv_sub hl [] rfl) h
    · replace h := h.2 q_2
      refine lv_iconst (v := 1) hx hb dX12_within_10 (by decide) ?_
      refine lv_goto (tgt := 15) hx hb dX12_within_11 (by decide) ?_
      exact mX12_within_b15 l X hr 1 S (lv_sub hl [] rfl) h
def wX12_refused (x0 : Int32) (σ : Sg) (Q : Int64 → Sg → Prop) : Prop :=
  Q ((-9000000000000000000 : Int64) - (x0.toInt64)) σ
set_option maxHeartbeats 4000000 in
set_option maxRecDepth 100000 in
theorem mX12_refused {D : va_G} {cy : Nat → ClassId} {ad : Nat → Nat} (l : Launch) (x0 : Int32) (σ : Sg) (Q : Int64 → Sg → Prop) (h : wX12_refused x0 σ Q) : MLM D cy ad l yX12_refused (.code yX12_refused cX12_refused 1 (some .long) :: gT) ({ frames := 0, cells := 0, slots := 0, locals := 0 }) [.int x0] σ Q := by
  refine metL_of (by decide +kernel) (Nat.le_of_ble_eq_true rfl) ?_
  intro p e s m args below meth c A ls X hr hl S
  have X : Fx D (tyM cy) EvM p s m args meth c cX12_refused 1 "BackBayModel" A := X
  have hl : lv_has ls 1 [(0, .int x0)] := hl
  have hx := X.1
  have hb := X.2.1
  unfold wX12_refused at h
  refine lv_ldc2 (v := (-9000000000000000000)) hx hb X.2.2.2.1 (X.2.2.2.2.1 _ k_1025) dX12_refused_0 ?_
  refine lv_iload_n hx hb dX12_refused_3 rfl (lv_at hl 0 rfl) ?_
  refine lv_i2l hx hb dX12_refused_4 rfl ?_
  refine lv_lsub hx hb dX12_refused_5 ?_
  exact o_lret X S hr h dX12_refused_6
def wX12_finds (x1 : Int32) (σ : Sg) (Q : Int64 → Sg → Prop) : Prop :=
  (∀ σ_1, σ_1 = sto σ 0 0 x1 → Q ((-9000000000000000010 : Int64) - (x1.toInt64)) σ_1)
set_option maxHeartbeats 4000000 in
set_option maxRecDepth 100000 in
theorem mX12_finds {D : va_G} {cy : Nat → ClassId} {ad : Nat → Nat} (l : Launch) (x1 : Int32) (σ : Sg) (Q : Int64 → Sg → Prop) (h : wX12_finds x1 σ Q) : MLM D cy ad l yX12_finds (.code yX12_finds cX12_finds 2 (some .long) :: gT) ({ frames := 0, cells := 0, slots := 0, locals := 0 }) [.ref (ad 0), .int x1] σ Q := by
  refine metL_of (by decide +kernel) (Nat.le_of_ble_eq_true rfl) ?_
  intro p e s m args below meth c A ls X hr hl S
  have X : Fx D (tyM cy) EvM p s m args meth c cX12_finds 2 "BackBayModel" A := X
  have hl : lv_has ls 2 [(0, .ref (ad 0)), (1, .int x1)] := hl
  have hx := X.1
  have hb := X.2.1
  unfold wX12_finds at h
  refine lv_aload_n hx hb dX12_finds_0 rfl (lv_at hl 0 rfl) ?_
  refine lv_iload_n hx hb dX12_finds_1 rfl (lv_at hl 1 rfl) ?_
  refine o_puti X S (fs := fun c => [.int (c 0), .ref (ad 1), .ref (ad 2), .ref (ad 3), .ref (ad 4), .int (c 5), .int (c 6), .int (c 7), .ref (ad 5), .ref (ad 6), .ref (ad 7), .ref (ad 8), .int (c 12), .int (c 13), .int (c 14), .int (c 15), .ref (ad 9), .int (c 17), .int (c 18), .int (c 19), .ref (ad 10), .ref (ad 11), .ref (ad 12), .ref (ad 13), .ref (ad 14), .ref (ad 15), .ref (ad 16), .int (c 27), .int (c 28), .ref (ad 17), .ref (ad 18), .ref (ad 19), .ref (ad 20), .ref (ad 21), .ref (ad 22), .ref (ad 23), .ref (ad 24), .ref (ad 25), .ref (ad 26), .ref (ad 27), .ref (ad 28), .ref (ad 29), .int (c 42), .ref (ad 30), .ref (ad 31), .ref (ad 32), .ref (ad 33), .int (c 47)]) 0 0 (by decide) (fun _ => rfl) (fun _ _ => rfl) rfl in_12 tyX12_ok nmX12 (by decide) k_867 rfl rfl rfl rfl (fun _ => Nat.le_of_ble_eq_true rfl) dX12_finds_2 (fun σ_1 H locs eσ_1 S => ?_)
  replace h := h σ_1 eσ_1
  refine lv_ldc2 (v := (-9000000000000000010)) hx hb X.2.2.2.1 (X.2.2.2.2.1 _ k_1030) dX12_finds_5 ?_
  refine lv_iload_n hx hb dX12_finds_8 rfl (lv_at hl 1 rfl) ?_
  refine lv_i2l hx hb dX12_finds_9 rfl ?_
  refine lv_lsub hx hb dX12_finds_10 ?_
  exact o_lret X S hr h dX12_finds_11
def wX12_isRow (x0 : Int32) (σ : Sg) (Q : Int32 → Sg → Prop) : Prop :=
  (wX12_within x0 0 7 σ (fun r_1 σ_2 => (bok r_1 ∧ Q r_1 σ_2)))
set_option maxHeartbeats 4000000 in
set_option maxRecDepth 100000 in
theorem mX12_isRow {D : va_G} {cy : Nat → ClassId} {ad : Nat → Nat} (l : Launch) (x0 : Int32) (σ : Sg) (Q : Int32 → Sg → Prop) (h : wX12_isRow x0 σ Q) : MIM D cy ad l yX12_isRow (.code yX12_isRow cX12_isRow 1 (some .boolean) :: gT) ({ frames := 1, cells := 0, slots := 0, locals := 22 }) [.int x0] σ Q := by
  refine metI_of (by decide +kernel) (Nat.le_of_ble_eq_true rfl) ?_
  intro p e s m args below meth c A ls X hr hl S
  have X : Fx D (tyM cy) EvM p s m args meth c cX12_isRow 1 "BackBayModel" A := X
  have hl : lv_has ls 1 [(0, .int x0)] := hl
  have hx := X.1
  have hb := X.2.1
  unfold wX12_isRow at h
  refine lv_iload_n hx hb dX12_isRow_0 rfl (lv_at hl 0 rfl) ?_
  refine lv_iconst (v := 0) hx hb dX12_isRow_1 (by decide) ?_
  refine lv_bipush (v := 7) hx hb dX12_isRow_2 (by decide) ?_
  refine o_callSi (k := 3) EvM_ok X S (mX12_within l x0 0 7 σ _ h) k_1021 k_1019 k_1020 k_14 ⟨by decide, by decide, by decide +kernel⟩ ⟨rfl, rfl⟩ ⟨Nat.le_of_ble_eq_true rfl, Nat.le_of_ble_eq_true rfl⟩ rfl hl.1 rfl (Nat.le_of_ble_eq_true rfl) dX12_isRow_4 (fun r_1 σ_2 H locs h S => ?_)
  exact o_zret X S hr h.1 h.2 dX12_isRow_7
def wX12_row_b22 (σ : Sg) (Q : Int64 → Sg → Prop) : Prop :=
  (wX12_refused 1 σ (fun r_4 σ_5 => Q r_4 σ_5))
def wX12_row_L59 (x1 : Int32) (x3 : Int32) (k85 : Sg → Prop) (Q : Int64 → Sg → Prop) : Nat → Int32 → Sg → Prop
  | 0, _, _ => False
  | nn59 + 1, x4, σ =>
  ((20 ≤ x4 → k85 σ) ∧ (¬ 20 ≤ x4 → (vp_in ((20 * x1) + x4) 160 ∧ ∀ σ_15, σ_15 = sto σ 3 ((20 * x1) + x4).toNatClampNeg 0 → (∀ x4_16 : Int32, x4_16 = x4 + 1 → wX12_row_L59 x1 x3 k85 Q nn59 x4_16 σ_15))))
def wX12_row (x1 : Int32) (x2 : Int32) (x3 : Int32) (σ : Sg) (Q : Int64 → Sg → Prop) : Prop :=
  (wX12_isRow x1 σ (fun r_1 σ_2 => ((r_1 = 0 → wX12_row_b22 σ_2 Q) ∧ (¬ r_1 = 0 → (wX12_within x2 0 2 σ_2 (fun r_6 σ_7 => ((r_6 = 0 → wX12_row_b22 σ_7 Q) ∧ (¬ r_6 = 0 → ((x3 ≤ 20 → ((0 ≤ x3 → (∀ σ_11, σ_11 = sto σ_7 0 0 0 → (vp_in x1 8 ∧ ∀ σ_12, σ_12 = sto σ_11 1 x1.toNatClampNeg x2 → (vp_in x1 8 ∧ ∀ σ_13, σ_13 = sto σ_12 2 x1.toNatClampNeg x3 → (∃ nf, wX12_row_L59 x1 x3 (fun σ_17 => Q (x3.toInt64) σ_17) Q nf 0 σ_13))))) ∧ (¬ 0 ≤ x3 → (wX12_finds 4 σ_7 (fun r_18 σ_19 => Q r_18 σ_19))))) ∧ (¬ x3 ≤ 20 → wX12_row_b22 σ_7 Q))))))))))
set_option maxHeartbeats 4000000 in
set_option maxRecDepth 100000 in
theorem mX12_row_b22 {D : va_G} {cy : Nat → ClassId} {ad : Nat → Nat} (l : Launch) {p : Program} {e : Env} {s : State} {m : MethodId} {args : Array Value} {below : List Frame} {meth : Method} {c : Code} {A : Nat → Prop} {Q : Int64 → Sg → Prop} (X : Fx D (tyM cy) EvM p s m args meth c cX12_row 5 "BackBayModel" A) (hr : meth.sig.returnType = some .long) {σ : Sg} {H : Heap} {locs : List Loc} {ls : Array Slot} (S : St D ad 34 (shM cy ad) A s σ H locs) (hl : lv_has ls 5 []) (h : wX12_row_b22 σ Q) : W p l e ({ frames := 2, cells := 0, slots := 0, locals := 42 }) s m args below meth c H locs 0 0 (MQ below (va_Ql Q (PosW D (tyM cy) ad 34 (shM cy ad) A) A) args s 0 0 A) (F0 m 22 ls []) := by
  have hx := X.1
  have hb := X.2.1
  unfold wX12_row_b22 at h
  refine lv_iconst (v := 1) hx hb dX12_row_22 (by decide) ?_
  refine o_callSl (k := 1) EvM_ok X S (mX12_refused l 1 σ _ h) k_1024 k_1022 k_1023 k_14 ⟨by decide, by decide, by decide +kernel⟩ ⟨rfl, rfl⟩ ⟨Nat.le_of_ble_eq_true rfl, Nat.le_of_ble_eq_true rfl⟩ rfl hl.1 rfl (Nat.le_of_ble_eq_true rfl) dX12_row_23 (fun r_4 σ_5 H locs h S => ?_)
  exact o_lret X S hr h dX12_row_26
set_option maxHeartbeats 4000000 in
set_option maxRecDepth 100000 in
theorem mX12_row_L59 {D : va_G} {cy : Nat → ClassId} {ad : Nat → Nat} (l : Launch) {p : Program} {e : Env} {s : State} {m : MethodId} {args : Array Value} {below : List Frame} {meth : Method} {c : Code} {A : Nat → Prop} {k85 : Sg → Prop} {Q : Int64 → Sg → Prop} (X : Fx D (tyM cy) EvM p s m args meth c cX12_row 5 "BackBayModel" A) (hr : meth.sig.returnType = some .long) (x1 : Int32) (x3 : Int32) (hk85 : ∀ (σ : Sg) (H : Heap) (locs : List Loc) (ls : Array Slot), St D ad 34 (shM cy ad) A s σ H locs → lv_has ls 5 [(3, .int x3)] → k85 σ → W p l e ({ frames := 2, cells := 0, slots := 0, locals := 42 }) s m args below meth c H locs 0 0 (MQ below (va_Ql Q (PosW D (tyM cy) ad 34 (shM cy ad) A) A) args s 0 0 A) (F0 m 85 ls [])) : ∀ (n : Nat) (x4 : Int32) (σ : Sg) (H : Heap) (locs : List Loc) (ls : Array Slot), St D ad 34 (shM cy ad) A s σ H locs → lv_has ls 5 [(0, .ref (ad 0)), (1, .int x1), (3, .int x3), (4, .int x4)] → wX12_row_L59 x1 x3 k85 Q n x4 σ → W p l e ({ frames := 2, cells := 0, slots := 0, locals := 42 }) s m args below meth c H locs 0 0 (MQ below (va_Ql Q (PosW D (tyM cy) ad 34 (shM cy ad) A) A) args s 0 0 A) (F0 m 59 ls []) := by
  have hx := X.1
  have hb := X.2.1
  intro n
  induction n with
  | zero =>
    intro _ _ _ _ _ _ _ h
    exact absurd h (by unfold wX12_row_L59; exact id)
  | succ n ih =>
    intro x4 σ H locs ls S hl h
    unfold wX12_row_L59 at h
    refine lv_iload hx hb dX12_row_59 (lv_at hl 3 rfl) ?_
    refine lv_bipush (v := 20) hx hb dX12_row_61 (by decide) ?_
    refine lv_icmp_ge (tgt := 85) hx hb dX12_row_63 (by decide) (fun q_14 => ?_) (fun q_14 => ?_)
    · replace h := h.1 q_14
      exact hk85 _ _ _ _ S (lv_sub hl [2] rfl) h
    · replace h := h.2 q_14
      refine lv_aload_n hx hb dX12_row_66 rfl (lv_at hl 0 rfl) ?_
      refine o_get X S 0 3 (by decide) rfl rfl in_12 (by decide) k_870 rfl dX12_row_67 ?_
      refine lv_bipush (v := 20) hx hb dX12_row_70 (by decide) ?_
      refine lv_iload_n hx hb dX12_row_72 rfl (lv_at hl 1 rfl) ?_
      refine lv_imul hx hb dX12_row_73 ?_
      refine lv_iload hx hb dX12_row_74 (lv_at hl 3 rfl) ?_
      refine lv_iadd hx hb dX12_row_76 ?_
      refine lv_iconst (v := 0) hx hb dX12_row_77 (by decide) ?_
      refine o_iast X S 3 0 (by decide) (fun _ => rfl) rfl h.1 dX12_row_78 (fun σ_15 H locs eσ_15 S => ?_)
      replace h := h.2 σ_15 eσ_15
      obtain ⟨x4_16, ex4_16⟩ : ∃ y : Int32, y = x4 + 1 := ⟨_, rfl⟩
      replace h := h x4_16 ex4_16
      refine lv_iinc (v := x4_16) (lv' := [(4, .int x4_16), (0, .ref (ad 0)), (1, .int x1), (3, .int x3)]) hx hb dX12_row_79 hl (k := 3) rfl (by rw [ex4_16]; rfl) (by decide) rfl (fun ls hl => ?_)
      refine lv_goto (tgt := 59) hx hb dX12_row_82 (by decide) ?_
      exact ih _ _ _ _ _ S (lv_sub hl [1, 2, 3, 0] rfl) h
set_option maxHeartbeats 4000000 in
set_option maxRecDepth 100000 in
theorem mX12_row {D : va_G} {cy : Nat → ClassId} {ad : Nat → Nat} (l : Launch) (x1 : Int32) (x2 : Int32) (x3 : Int32) (σ : Sg) (Q : Int64 → Sg → Prop) (h : wX12_row x1 x2 x3 σ Q) : MLM D cy ad l yX12_row (.code yX12_row cX12_row 5 (some .long) :: gT) ({ frames := 2, cells := 0, slots := 0, locals := 42 }) [.ref (ad 0), .int x1, .int x2, .int x3] σ Q := by
  refine metL_of (by decide +kernel) (Nat.le_of_ble_eq_true rfl) ?_
  intro p e s m args below meth c A ls X hr hl S
  have X : Fx D (tyM cy) EvM p s m args meth c cX12_row 5 "BackBayModel" A := X
  have hl : lv_has ls 5 [(0, .ref (ad 0)), (1, .int x1), (2, .int x2), (3, .int x3)] := hl
  have hx := X.1
  have hb := X.2.1
  unfold wX12_row at h
  refine lv_iload_n hx hb dX12_row_0 rfl (lv_at hl 1 rfl) ?_
  refine o_callSi (k := 1) EvM_ok X S (mX12_isRow l x1 σ _ h) k_1018 k_1016 k_1017 k_14 ⟨by decide, by decide, by decide +kernel⟩ ⟨rfl, rfl⟩ ⟨Nat.le_of_ble_eq_true rfl, Nat.le_of_ble_eq_true rfl⟩ rfl hl.1 rfl (Nat.le_of_ble_eq_true rfl) dX12_row_1 (fun r_1 σ_2 H locs h S => ?_)
  refine lv_if_eq (tgt := 22) hx hb dX12_row_4 (by decide) (fun q_3 => ?_) (fun q_3 => ?_)
  · replace h := h.1 q_3
    exact mX12_row_b22 l X hr S (lv_sub hl [] rfl) h
  · replace h := h.2 q_3
    refine lv_iload_n hx hb dX12_row_7 rfl (lv_at hl 2 rfl) ?_
    refine lv_iconst (v := 0) hx hb dX12_row_8 (by decide) ?_
    refine lv_iconst (v := 2) hx hb dX12_row_9 (by decide) ?_
    refine o_callSi (k := 3) EvM_ok X S (mX12_within l x2 0 2 σ_2 _ h) k_1021 k_1019 k_1020 k_14 ⟨by decide, by decide, by decide +kernel⟩ ⟨rfl, rfl⟩ ⟨Nat.le_of_ble_eq_true rfl, Nat.le_of_ble_eq_true rfl⟩ rfl hl.1 rfl (Nat.le_of_ble_eq_true rfl) dX12_row_10 (fun r_6 σ_7 H locs h S => ?_)
    refine lv_if_eq (tgt := 22) hx hb dX12_row_13 (by decide) (fun q_8 => ?_) (fun q_8 => ?_)
    · replace h := h.1 q_8
      exact mX12_row_b22 l X hr S (lv_sub hl [] rfl) h
    · replace h := h.2 q_8
      refine lv_iload_n hx hb dX12_row_16 rfl (lv_at hl 3 rfl) ?_
      refine lv_bipush (v := 20) hx hb dX12_row_17 (by decide) ?_
      refine lv_icmp_le (tgt := 27) hx hb dX12_row_19 (by decide) (fun q_9 => ?_) (fun q_9 => ?_)
      · replace h := h.1 q_9
        refine lv_iload_n hx hb dX12_row_27 rfl (lv_at hl 3 rfl) ?_
        refine lv_if_ge (tgt := 37) hx hb dX12_row_28 (by decide) (fun q_10 => ?_) (fun q_10 => ?_)
        · replace h := h.1 q_10
          refine lv_aload_n hx hb dX12_row_37 rfl (lv_at hl 0 rfl) ?_
          refine lv_iconst (v := 0) hx hb dX12_row_38 (by decide) ?_
          refine o_puti X S (fs := fun c => [.int (c 0), .ref (ad 1), .ref (ad 2), .ref (ad 3), .ref (ad 4), .int (c 5), .int (c 6), .int (c 7), .ref (ad 5), .ref (ad 6), .ref (ad 7), .ref (ad 8), .int (c 12), .int (c 13), .int (c 14), .int (c 15), .ref (ad 9), .int (c 17), .int (c 18), .int (c 19), .ref (ad 10), .ref (ad 11), .ref (ad 12), .ref (ad 13), .ref (ad 14), .ref (ad 15), .ref (ad 16), .int (c 27), .int (c 28), .ref (ad 17), .ref (ad 18), .ref (ad 19), .ref (ad 20), .ref (ad 21), .ref (ad 22), .ref (ad 23), .ref (ad 24), .ref (ad 25), .ref (ad 26), .ref (ad 27), .ref (ad 28), .ref (ad 29), .int (c 42), .ref (ad 30), .ref (ad 31), .ref (ad 32), .ref (ad 33), .int (c 47)]) 0 0 (by decide) (fun _ => rfl) (fun _ _ => rfl) rfl in_12 tyX12_ok nmX12 (by decide) k_867 rfl rfl rfl rfl (fun _ => Nat.le_of_ble_eq_true rfl) dX12_row_39 (fun σ_11 H locs eσ_11 S => ?_)
          replace h := h σ_11 eσ_11
          refine lv_aload_n hx hb dX12_row_42 rfl (lv_at hl 0 rfl) ?_
          refine o_get X S 0 1 (by decide) rfl rfl in_12 (by decide) k_868 rfl dX12_row_43 ?_
          refine lv_iload_n hx hb dX12_row_46 rfl (lv_at hl 1 rfl) ?_
          refine lv_iload_n hx hb dX12_row_47 rfl (lv_at hl 2 rfl) ?_
          refine o_iast X S 1 0 (by decide) (fun _ => rfl) rfl h.1 dX12_row_48 (fun σ_12 H locs eσ_12 S => ?_)
          replace h := h.2 σ_12 eσ_12
          refine lv_aload_n hx hb dX12_row_49 rfl (lv_at hl 0 rfl) ?_
          refine o_get X S 0 2 (by decide) rfl rfl in_12 (by decide) k_869 rfl dX12_row_50 ?_
          refine lv_iload_n hx hb dX12_row_53 rfl (lv_at hl 1 rfl) ?_
          refine lv_iload_n hx hb dX12_row_54 rfl (lv_at hl 3 rfl) ?_
          refine o_iast X S 2 0 (by decide) (fun _ => rfl) rfl h.1 dX12_row_55 (fun σ_13 H locs eσ_13 S => ?_)
          replace h := h.2 σ_13 eσ_13
          refine lv_iconst (v := 0) hx hb dX12_row_56 (by decide) ?_
          refine lv_istore (lv' := [(4, .int 0), (0, .ref (ad 0)), (1, .int x1), (2, .int x2), (3, .int x3)]) hx hb dX12_row_57 hl (by decide) rfl (fun ls hl => ?_)
          obtain ⟨n_59, h⟩ := h
          refine mX12_row_L59 l X hr x1 x3 ?_ n_59 _ _ _ _ _ S (lv_sub hl [1, 2, 4, 0] rfl) h
          · intro σ_17 H locs ls S hl h
            refine lv_iload_n hx hb dX12_row_85 rfl (lv_at hl 0 rfl) ?_
            refine lv_i2l hx hb dX12_row_86 rfl ?_
            exact o_lret X S hr h dX12_row_87
        · replace h := h.2 q_10
          refine lv_aload_n hx hb dX12_row_31 rfl (lv_at hl 0 rfl) ?_
          refine lv_iconst (v := 4) hx hb dX12_row_32 (by decide) ?_
          refine o_callVl (k := 1) EvM_ok X S (mX12_finds l 4 σ_7 _ h) (by decide) rfl rfl k_1029 k_1026 k_1028 ks_34 k_14 ⟨rfl, by decide, by decide, by decide +kernel⟩ ⟨rfl, rfl⟩ ⟨Nat.le_of_ble_eq_true rfl, Nat.le_of_ble_eq_true rfl⟩ rfl hl.1 rfl (Nat.le_of_ble_eq_true rfl) dX12_row_33 (fun r_18 σ_19 H locs h S => ?_)
          exact o_lret X S hr h dX12_row_36
      · replace h := h.2 q_9
        exact mX12_row_b22 l X hr S (lv_sub hl [] rfl) h
def wX12_cut_b20 (y0 : Int32) (σ : Sg) (Q : Int32 → Sg → Prop) : Prop :=
  Q y0 σ
def wX12_cut (x0 : Int32) (x1 : Int32) (σ : Sg) (Q : Int32 → Sg → Prop) : Prop :=
  ((x0 = 0 → wX12_cut_b20 (x1.toInt8.toInt32) σ Q) ∧ (¬ x0 = 0 → ((x0 = 1 → wX12_cut_b20 (x1.toInt16.toInt32) σ Q) ∧ (¬ x0 = 1 → wX12_cut_b20 x1 σ Q))))
set_option maxHeartbeats 4000000 in
set_option maxRecDepth 100000 in
theorem mX12_cut_b20 {D : va_G} {cy : Nat → ClassId} {ad : Nat → Nat} (l : Launch) {p : Program} {e : Env} {s : State} {m : MethodId} {args : Array Value} {below : List Frame} {meth : Method} {c : Code} {A : Nat → Prop} {Q : Int32 → Sg → Prop} (X : Fx D (tyM cy) EvM p s m args meth c cX12_cut 2 "BackBayModel" A) (hr : meth.sig.returnType = some .int) (y0 : Int32) {σ : Sg} {H : Heap} {locs : List Loc} {ls : Array Slot} (S : St D ad 34 (shM cy ad) A s σ H locs) (hl : lv_has ls 2 []) (h : wX12_cut_b20 y0 σ Q) : W p l e ({ frames := 0, cells := 0, slots := 0, locals := 0 }) s m args below meth c H locs 0 0 (MQ below (va_Qi Q (PosW D (tyM cy) ad 34 (shM cy ad) A) A) args s 0 0 A) (F0 m 20 ls [.int y0]) := by
  have hx := X.1
  have hb := X.2.1
  unfold wX12_cut_b20 at h
  exact o_iret X S hr h dX12_cut_20
set_option maxHeartbeats 4000000 in
set_option maxRecDepth 100000 in
theorem mX12_cut {D : va_G} {cy : Nat → ClassId} {ad : Nat → Nat} (l : Launch) (x0 : Int32) (x1 : Int32) (σ : Sg) (Q : Int32 → Sg → Prop) (h : wX12_cut x0 x1 σ Q) : MIM D cy ad l yX12_cut (.code yX12_cut cX12_cut 2 (some .int) :: gT) ({ frames := 0, cells := 0, slots := 0, locals := 0 }) [.int x0, .int x1] σ Q := by
  refine metI_of (by decide +kernel) (Nat.le_of_ble_eq_true rfl) ?_
  intro p e s m args below meth c A ls X hr hl S
  have X : Fx D (tyM cy) EvM p s m args meth c cX12_cut 2 "BackBayModel" A := X
  have hl : lv_has ls 2 [(0, .int x0), (1, .int x1)] := hl
  have hx := X.1
  have hb := X.2.1
  unfold wX12_cut at h
  refine lv_iload_n hx hb dX12_cut_0 rfl (lv_at hl 0 rfl) ?_
  refine lv_if_ne (tgt := 9) hx hb dX12_cut_1 (by decide) (fun q_1 => ?_) (fun q_1 => ?_)
  · replace h := h.2 q_1
    refine lv_iload_n hx hb dX12_cut_9 rfl (lv_at hl 0 rfl) ?_
    refine lv_iconst (v := 1) hx hb dX12_cut_10 (by decide) ?_
    refine lv_icmp_ne (tgt := 19) hx hb dX12_cut_11 (by decide) (fun q_2 => ?_) (fun q_2 => ?_)
    · replace h := h.2 q_2
      refine lv_iload_n hx hb dX12_cut_19 rfl (lv_at hl 1 rfl) ?_
      exact mX12_cut_b20 l X hr x1 S (lv_sub hl [] rfl) h
    · replace h := h.1 q_2
      refine lv_iload_n hx hb dX12_cut_14 rfl (lv_at hl 1 rfl) ?_
      refine lv_i2s hx hb dX12_cut_15 rfl ?_
      refine lv_goto (tgt := 20) hx hb dX12_cut_16 (by decide) ?_
      exact mX12_cut_b20 l X hr (x1.toInt16.toInt32) S (lv_sub hl [] rfl) h
  · replace h := h.1 q_1
    refine lv_iload_n hx hb dX12_cut_4 rfl (lv_at hl 1 rfl) ?_
    refine lv_i2b hx hb dX12_cut_5 rfl ?_
    refine lv_goto (tgt := 20) hx hb dX12_cut_6 (by decide) ?_
    exact mX12_cut_b20 l X hr (x1.toInt8.toInt32) S (lv_sub hl [] rfl) h
def wX12_set (x1 : Int32) (x2 : Int32) (x3 : Int32) (σ : Sg) (Q : Int64 → Sg → Prop) : Prop :=
  (wX12_isRow x1 σ (fun r_1 σ_2 => ((r_1 = 0 → (wX12_refused 1 σ_2 (fun r_16 σ_17 => Q r_16 σ_17))) ∧ (¬ r_1 = 0 → (vp_in x1 8 ∧ ((0 ≤ (σ_2 1 x1.toNatClampNeg) → (vp_in x1 8 ∧ (wX12_within x2 0 ((σ_2 2 x1.toNatClampNeg) - 1) σ_2 (fun r_5 σ_6 => ((r_5 = 0 → (wX12_finds 2 σ_6 (fun r_12 σ_13 => Q r_12 σ_13))) ∧ (¬ r_5 = 0 → (∀ σ_8, σ_8 = sto σ_6 0 0 0 → (vp_in x1 8 ∧ (wX12_cut (σ_8 1 x1.toNatClampNeg) x3 σ_8 (fun r_9 σ_10 => (vp_in ((20 * x1) + x2) 160 ∧ ∀ σ_11, σ_11 = sto σ_10 3 ((20 * x1) + x2).toNatClampNeg r_9 → (vp_in ((20 * x1) + x2) 160 ∧ Q ((σ_11 3 ((20 * x1) + x2).toNatClampNeg).toInt64) σ_11)))))))))))) ∧ (¬ 0 ≤ (σ_2 1 x1.toNatClampNeg) → (wX12_finds 1 σ_2 (fun r_14 σ_15 => Q r_14 σ_15)))))))))
set_option maxHeartbeats 4000000 in
set_option maxRecDepth 100000 in
theorem mX12_set {D : va_G} {cy : Nat → ClassId} {ad : Nat → Nat} (l : Launch) (x1 : Int32) (x2 : Int32) (x3 : Int32) (σ : Sg) (Q : Int64 → Sg → Prop) (h : wX12_set x1 x2 x3 σ Q) : MLM D cy ad l yX12_set (.code yX12_set cX12_set 4 (some .long) :: gT) ({ frames := 2, cells := 0, slots := 0, locals := 42 }) [.ref (ad 0), .int x1, .int x2, .int x3] σ Q := by
  refine metL_of (by decide +kernel) (Nat.le_of_ble_eq_true rfl) ?_
  intro p e s m args below meth c A ls X hr hl S
  have X : Fx D (tyM cy) EvM p s m args meth c cX12_set 4 "BackBayModel" A := X
  have hl : lv_has ls 4 [(0, .ref (ad 0)), (1, .int x1), (2, .int x2), (3, .int x3)] := hl
  have hx := X.1
  have hb := X.2.1
  unfold wX12_set at h
  refine lv_iload_n hx hb dX12_set_0 rfl (lv_at hl 1 rfl) ?_
  refine o_callSi (k := 1) EvM_ok X S (mX12_isRow l x1 σ _ h) k_1018 k_1016 k_1017 k_14 ⟨by decide, by decide, by decide +kernel⟩ ⟨rfl, rfl⟩ ⟨Nat.le_of_ble_eq_true rfl, Nat.le_of_ble_eq_true rfl⟩ rfl hl.1 rfl (Nat.le_of_ble_eq_true rfl) dX12_set_1 (fun r_1 σ_2 H locs h S => ?_)
  refine lv_if_ne (tgt := 12) hx hb dX12_set_4 (by decide) (fun q_3 => ?_) (fun q_3 => ?_)
  · replace h := h.2 q_3
    refine lv_aload_n hx hb dX12_set_12 rfl (lv_at hl 0 rfl) ?_
    refine o_get X S 0 1 (by decide) rfl rfl in_12 (by decide) k_868 rfl dX12_set_13 ?_
    refine lv_iload_n hx hb dX12_set_16 rfl (lv_at hl 1 rfl) ?_
    refine o_iald X S 1 0 (by decide) (fun _ => rfl) rfl h.1 dX12_set_17 ?_
    replace h := h.2
    refine lv_if_ge (tgt := 27) hx hb dX12_set_18 (by decide) (fun q_4 => ?_) (fun q_4 => ?_)
    · replace h := h.1 q_4
      refine lv_iload_n hx hb dX12_set_27 rfl (lv_at hl 2 rfl) ?_
      refine lv_iconst (v := 0) hx hb dX12_set_28 (by decide) ?_
      refine lv_aload_n hx hb dX12_set_29 rfl (lv_at hl 0 rfl) ?_
      refine o_get X S 0 2 (by decide) rfl rfl in_12 (by decide) k_869 rfl dX12_set_30 ?_
      refine lv_iload_n hx hb dX12_set_33 rfl (lv_at hl 1 rfl) ?_
      refine o_iald X S 2 0 (by decide) (fun _ => rfl) rfl h.1 dX12_set_34 ?_
      replace h := h.2
      refine lv_iconst (v := 1) hx hb dX12_set_35 (by decide) ?_
      refine lv_isub hx hb dX12_set_36 ?_
      refine o_callSi (k := 3) EvM_ok X S (mX12_within l x2 0 ((σ_2 2 x1.toNatClampNeg) - 1) σ_2 _ h) k_1021 k_1019 k_1020 k_14 ⟨by decide, by decide, by decide +kernel⟩ ⟨rfl, rfl⟩ ⟨Nat.le_of_ble_eq_true rfl, Nat.le_of_ble_eq_true rfl⟩ rfl hl.1 rfl (Nat.le_of_ble_eq_true rfl) dX12_set_37 (fun r_5 σ_6 H locs h S => ?_)
      refine lv_if_ne (tgt := 49) hx hb dX12_set_40 (by decide) (fun q_7 => ?_) (fun q_7 => ?_)
      · replace h := h.2 q_7
        refine lv_aload_n hx hb dX12_set_49 rfl (lv_at hl 0 rfl) ?_
        refine lv_iconst (v := 0) hx hb dX12_set_50 (by decide) ?_
        refine o_puti X S (fs := fun c => [.int (c 0), .ref (ad 1), .ref (ad 2), .ref (ad 3), .ref (ad 4), .int (c 5), .int (c 6), .int (c 7), .ref (ad 5), .ref (ad 6), .ref (ad 7), .ref (ad 8), .int (c 12), .int (c 13), .int (c 14), .int (c 15), .ref (ad 9), .int (c 17), .int (c 18), .int (c 19), .ref (ad 10), .ref (ad 11), .ref (ad 12), .ref (ad 13), .ref (ad 14), .ref (ad 15), .ref (ad 16), .int (c 27), .int (c 28), .ref (ad 17), .ref (ad 18), .ref (ad 19), .ref (ad 20), .ref (ad 21), .ref (ad 22), .ref (ad 23), .ref (ad 24), .ref (ad 25), .ref (ad 26), .ref (ad 27), .ref (ad 28), .ref (ad 29), .int (c 42), .ref (ad 30), .ref (ad 31), .ref (ad 32), .ref (ad 33), .int (c 47)]) 0 0 (by decide) (fun _ => rfl) (fun _ _ => rfl) rfl in_12 tyX12_ok nmX12 (by decide) k_867 rfl rfl rfl rfl (fun _ => Nat.le_of_ble_eq_true rfl) dX12_set_51 (fun σ_8 H locs eσ_8 S => ?_)
        replace h := h σ_8 eσ_8
        refine lv_aload_n hx hb dX12_set_54 rfl (lv_at hl 0 rfl) ?_
        refine o_get X S 0 3 (by decide) rfl rfl in_12 (by decide) k_870 rfl dX12_set_55 ?_
        refine lv_bipush (v := 20) hx hb dX12_set_58 (by decide) ?_
        refine lv_iload_n hx hb dX12_set_60 rfl (lv_at hl 1 rfl) ?_
        refine lv_imul hx hb dX12_set_61 ?_
        refine lv_iload_n hx hb dX12_set_62 rfl (lv_at hl 2 rfl) ?_
        refine lv_iadd hx hb dX12_set_63 ?_
        refine lv_aload_n hx hb dX12_set_64 rfl (lv_at hl 0 rfl) ?_
        refine o_get X S 0 1 (by decide) rfl rfl in_12 (by decide) k_868 rfl dX12_set_65 ?_
        refine lv_iload_n hx hb dX12_set_68 rfl (lv_at hl 1 rfl) ?_
        refine o_iald X S 1 0 (by decide) (fun _ => rfl) rfl h.1 dX12_set_69 ?_
        replace h := h.2
        refine lv_iload_n hx hb dX12_set_70 rfl (lv_at hl 3 rfl) ?_
        refine o_callSi (k := 2) EvM_ok X S (mX12_cut l (σ_8 1 x1.toNatClampNeg) x3 σ_8 _ h) k_1037 k_1035 k_1036 k_14 ⟨by decide, by decide, by decide +kernel⟩ ⟨rfl, rfl⟩ ⟨Nat.le_of_ble_eq_true rfl, Nat.le_of_ble_eq_true rfl⟩ rfl hl.1 rfl (Nat.le_of_ble_eq_true rfl) dX12_set_71 (fun r_9 σ_10 H locs h S => ?_)
        refine o_iast X S 3 0 (by decide) (fun _ => rfl) rfl h.1 dX12_set_74 (fun σ_11 H locs eσ_11 S => ?_)
        replace h := h.2 σ_11 eσ_11
        refine lv_aload_n hx hb dX12_set_75 rfl (lv_at hl 0 rfl) ?_
        refine o_get X S 0 3 (by decide) rfl rfl in_12 (by decide) k_870 rfl dX12_set_76 ?_
        refine lv_bipush (v := 20) hx hb dX12_set_79 (by decide) ?_
        refine lv_iload_n hx hb dX12_set_81 rfl (lv_at hl 1 rfl) ?_
        refine lv_imul hx hb dX12_set_82 ?_
        refine lv_iload_n hx hb dX12_set_83 rfl (lv_at hl 2 rfl) ?_
        refine lv_iadd hx hb dX12_set_84 ?_
        refine o_iald X S 3 0 (by decide) (fun _ => rfl) rfl h.1 dX12_set_85 ?_
        replace h := h.2
        refine lv_i2l hx hb dX12_set_86 rfl ?_
        exact o_lret X S hr h dX12_set_87
      · replace h := h.1 q_7
        refine lv_aload_n hx hb dX12_set_43 rfl (lv_at hl 0 rfl) ?_
        refine lv_iconst (v := 2) hx hb dX12_set_44 (by decide) ?_
        refine o_callVl (k := 1) EvM_ok X S (mX12_finds l 2 σ_6 _ h) (by decide) rfl rfl k_1029 k_1026 k_1028 ks_34 k_14 ⟨rfl, by decide, by decide, by decide +kernel⟩ ⟨rfl, rfl⟩ ⟨Nat.le_of_ble_eq_true rfl, Nat.le_of_ble_eq_true rfl⟩ rfl hl.1 rfl (Nat.le_of_ble_eq_true rfl) dX12_set_45 (fun r_12 σ_13 H locs h S => ?_)
        exact o_lret X S hr h dX12_set_48
    · replace h := h.2 q_4
      refine lv_aload_n hx hb dX12_set_21 rfl (lv_at hl 0 rfl) ?_
      refine lv_iconst (v := 1) hx hb dX12_set_22 (by decide) ?_
      refine o_callVl (k := 1) EvM_ok X S (mX12_finds l 1 σ_2 _ h) (by decide) rfl rfl k_1029 k_1026 k_1028 ks_34 k_14 ⟨rfl, by decide, by decide, by decide +kernel⟩ ⟨rfl, rfl⟩ ⟨Nat.le_of_ble_eq_true rfl, Nat.le_of_ble_eq_true rfl⟩ rfl hl.1 rfl (Nat.le_of_ble_eq_true rfl) dX12_set_23 (fun r_14 σ_15 H locs h S => ?_)
      exact o_lret X S hr h dX12_set_26
  · replace h := h.1 q_3
    refine lv_iconst (v := 1) hx hb dX12_set_7 (by decide) ?_
    refine o_callSl (k := 1) EvM_ok X S (mX12_refused l 1 σ_2 _ h) k_1024 k_1022 k_1023 k_14 ⟨by decide, by decide, by decide +kernel⟩ ⟨rfl, rfl⟩ ⟨Nat.le_of_ble_eq_true rfl, Nat.le_of_ble_eq_true rfl⟩ rfl hl.1 rfl (Nat.le_of_ble_eq_true rfl) dX12_set_8 (fun r_16 σ_17 H locs h S => ?_)
    exact o_lret X S hr h dX12_set_11
def wX12_copy_b14 (σ : Sg) (Q : Int64 → Sg → Prop) : Prop :=
  (wX12_refused 1 σ (fun r_4 σ_5 => Q r_4 σ_5))
def wX12_copy_b37 (σ : Sg) (Q : Int64 → Sg → Prop) : Prop :=
  (wX12_finds 1 σ (fun r_10 σ_11 => Q r_10 σ_11))
def wX12_copy_b138 (σ : Sg) (Q : Int64 → Sg → Prop) : Prop :=
  (wX12_finds 2 σ (fun r_16 σ_17 => Q r_16 σ_17))
def wX12_copy_b189 (x1 : Int32) (x2 : Int32) (x3 : Int32) (x4 : Int32) (x5 : Int32) (x7 : Int32) (x8 : Int32) (y0 : Int32) (σ : Sg) (k226 : Sg → Prop) (kb165 : Int32 → Sg → Prop) (Q : Int64 → Sg → Prop) : Prop :=
  (vp_in (((20 * x1) + x2) + y0) 160 ∧ (vp_in (((20 * x3) + x4) + y0) 160 ∧ ∀ σ_24, σ_24 = sto σ 3 (((20 * x3) + x4) + y0).toNatClampNeg (σ 3 (((20 * x1) + x2) + y0).toNatClampNeg) → (∀ x8_25 : Int32, x8_25 = x8 + 1 → kb165 x8_25 σ_24)))
def wX12_copy_L165 (x1 : Int32) (x2 : Int32) (x3 : Int32) (x4 : Int32) (x5 : Int32) (x7 : Int32) (k226 : Sg → Prop) (Q : Int64 → Sg → Prop) : Nat → Int32 → Sg → Prop
  | 0, _, _ => False
  | nn165 + 1, x8, σ =>
  ((x5 ≤ x8 → k226 σ) ∧ (¬ x5 ≤ x8 → ((x7 = 0 → wX12_copy_b189 x1 x2 x3 x4 x5 x7 x8 x8 σ k226 (wX12_copy_L165 x1 x2 x3 x4 x5 x7 k226 Q nn165) Q) ∧ (¬ x7 = 0 → wX12_copy_b189 x1 x2 x3 x4 x5 x7 x8 ((x5 - 1) - x8) σ k226 (wX12_copy_L165 x1 x2 x3 x4 x5 x7 k226 Q nn165) Q))))
def wX12_copy_b160 (x1 : Int32) (x2 : Int32) (x3 : Int32) (x4 : Int32) (x5 : Int32) (y0 : Int32) (σ : Sg) (Q : Int64 → Sg → Prop) : Prop :=
  (∃ nf, wX12_copy_L165 x1 x2 x3 x4 x5 y0 (fun σ_26 => Q (x5.toInt64) σ_26) Q nf 0 σ)
def wX12_copy_b104 (x1 : Int32) (x2 : Int32) (x3 : Int32) (x4 : Int32) (x5 : Int32) (y0 : Int32) (σ : Sg) (Q : Int64 → Sg → Prop) : Prop :=
  ((y0 = 0 → wX12_copy_b138 σ Q) ∧ (¬ y0 = 0 → (vp_in x1 8 ∧ ((((σ 2 x1.toNatClampNeg) - x2) < x5 → wX12_copy_b138 σ Q) ∧ (¬ ((σ 2 x1.toNatClampNeg) - x2) < x5 → (vp_in x3 8 ∧ ((x5 ≤ ((σ 2 x3.toNatClampNeg) - x4) → (∀ σ_20, σ_20 = sto σ 0 0 0 → ((x4 ≤ x2 → wX12_copy_b160 x1 x2 x3 x4 x5 0 σ_20 Q) ∧ (¬ x4 ≤ x2 → wX12_copy_b160 x1 x2 x3 x4 x5 1 σ_20 Q)))) ∧ (¬ x5 ≤ ((σ 2 x3.toNatClampNeg) - x4) → wX12_copy_b138 σ Q))))))))
def wX12_copy_b103 (x1 : Int32) (x2 : Int32) (x3 : Int32) (x4 : Int32) (x5 : Int32) (σ : Sg) (Q : Int64 → Sg → Prop) : Prop :=
  wX12_copy_b104 x1 x2 x3 x4 x5 0 σ Q
def wX12_copy (x1 : Int32) (x2 : Int32) (x3 : Int32) (x4 : Int32) (x5 : Int32) (σ : Sg) (Q : Int64 → Sg → Prop) : Prop :=
  (wX12_isRow x1 σ (fun r_1 σ_2 => ((r_1 = 0 → wX12_copy_b14 σ_2 Q) ∧ (¬ r_1 = 0 → (wX12_isRow x3 σ_2 (fun r_6 σ_7 => ((r_6 = 0 → wX12_copy_b14 σ_7 Q) ∧ (¬ r_6 = 0 → (vp_in x1 8 ∧ (((σ_7 1 x1.toNatClampNeg) < 0 → wX12_copy_b37 σ_7 Q) ∧ (¬ (σ_7 1 x1.toNatClampNeg) < 0 → (vp_in x3 8 ∧ ((0 ≤ (σ_7 1 x3.toNatClampNeg) → (vp_in x1 8 ∧ (vp_in x3 8 ∧ (((σ_7 1 x1.toNatClampNeg) = (σ_7 1 x3.toNatClampNeg) → ((x2 < 0 → wX12_copy_b103 x1 x2 x3 x4 x5 σ_7 Q) ∧ (¬ x2 < 0 → ((x4 < 0 → wX12_copy_b103 x1 x2 x3 x4 x5 σ_7 Q) ∧ (¬ x4 < 0 → ((x5 < 0 → wX12_copy_b103 x1 x2 x3 x4 x5 σ_7 Q) ∧ (¬ x5 < 0 → (vp_in x1 8 ∧ (((σ_7 2 x1.toNatClampNeg) < x2 → wX12_copy_b103 x1 x2 x3 x4 x5 σ_7 Q) ∧ (¬ (σ_7 2 x1.toNatClampNeg) < x2 → (vp_in x3 8 ∧ (((σ_7 2 x3.toNatClampNeg) < x4 → wX12_copy_b103 x1 x2 x3 x4 x5 σ_7 Q) ∧ (¬ (σ_7 2 x3.toNatClampNeg) < x4 → wX12_copy_b104 x1 x2 x3 x4 x5 1 σ_7 Q))))))))))))) ∧ (¬ (σ_7 1 x1.toNatClampNeg) = (σ_7 1 x3.toNatClampNeg) → (wX12_finds 5 σ_7 (fun r_31 σ_32 => Q r_31 σ_32))))))) ∧ (¬ 0 ≤ (σ_7 1 x3.toNatClampNeg) → wX12_copy_b37 σ_7 Q))))))))))))))
set_option maxHeartbeats 4000000 in
set_option maxRecDepth 100000 in
theorem mX12_copy_b14 {D : va_G} {cy : Nat → ClassId} {ad : Nat → Nat} (l : Launch) {p : Program} {e : Env} {s : State} {m : MethodId} {args : Array Value} {below : List Frame} {meth : Method} {c : Code} {A : Nat → Prop} {Q : Int64 → Sg → Prop} (X : Fx D (tyM cy) EvM p s m args meth c cX12_copy 10 "BackBayModel" A) (hr : meth.sig.returnType = some .long) {σ : Sg} {H : Heap} {locs : List Loc} {ls : Array Slot} (S : St D ad 34 (shM cy ad) A s σ H locs) (hl : lv_has ls 10 []) (h : wX12_copy_b14 σ Q) : W p l e ({ frames := 2, cells := 0, slots := 0, locals := 42 }) s m args below meth c H locs 0 0 (MQ below (va_Ql Q (PosW D (tyM cy) ad 34 (shM cy ad) A) A) args s 0 0 A) (F0 m 14 ls []) := by
  have hx := X.1
  have hb := X.2.1
  unfold wX12_copy_b14 at h
  refine lv_iconst (v := 1) hx hb dX12_copy_14 (by decide) ?_
  refine o_callSl (k := 1) EvM_ok X S (mX12_refused l 1 σ _ h) k_1024 k_1022 k_1023 k_14 ⟨by decide, by decide, by decide +kernel⟩ ⟨rfl, rfl⟩ ⟨Nat.le_of_ble_eq_true rfl, Nat.le_of_ble_eq_true rfl⟩ rfl hl.1 rfl (Nat.le_of_ble_eq_true rfl) dX12_copy_15 (fun r_4 σ_5 H locs h S => ?_)
  exact o_lret X S hr h dX12_copy_18
set_option maxHeartbeats 4000000 in
set_option maxRecDepth 100000 in
theorem mX12_copy_b37 {D : va_G} {cy : Nat → ClassId} {ad : Nat → Nat} (l : Launch) {p : Program} {e : Env} {s : State} {m : MethodId} {args : Array Value} {below : List Frame} {meth : Method} {c : Code} {A : Nat → Prop} {Q : Int64 → Sg → Prop} (X : Fx D (tyM cy) EvM p s m args meth c cX12_copy 10 "BackBayModel" A) (hr : meth.sig.returnType = some .long) {σ : Sg} {H : Heap} {locs : List Loc} {ls : Array Slot} (S : St D ad 34 (shM cy ad) A s σ H locs) (hl : lv_has ls 10 [(0, .ref (ad 0))]) (h : wX12_copy_b37 σ Q) : W p l e ({ frames := 2, cells := 0, slots := 0, locals := 42 }) s m args below meth c H locs 0 0 (MQ below (va_Ql Q (PosW D (tyM cy) ad 34 (shM cy ad) A) A) args s 0 0 A) (F0 m 37 ls []) := by
  have hx := X.1
  have hb := X.2.1
  unfold wX12_copy_b37 at h
  refine lv_aload_n hx hb dX12_copy_37 rfl (lv_at hl 0 rfl) ?_
  refine lv_iconst (v := 1) hx hb dX12_copy_38 (by decide) ?_
  refine o_callVl (k := 1) EvM_ok X S (mX12_finds l 1 σ _ h) (by decide) rfl rfl k_1029 k_1026 k_1028 ks_34 k_14 ⟨rfl, by decide, by decide, by decide +kernel⟩ ⟨rfl, rfl⟩ ⟨Nat.le_of_ble_eq_true rfl, Nat.le_of_ble_eq_true rfl⟩ rfl hl.1 rfl (Nat.le_of_ble_eq_true rfl) dX12_copy_39 (fun r_10 σ_11 H locs h S => ?_)
  exact o_lret X S hr h dX12_copy_42
set_option maxHeartbeats 4000000 in
set_option maxRecDepth 100000 in
theorem mX12_copy_b138 {D : va_G} {cy : Nat → ClassId} {ad : Nat → Nat} (l : Launch) {p : Program} {e : Env} {s : State} {m : MethodId} {args : Array Value} {below : List Frame} {meth : Method} {c : Code} {A : Nat → Prop} {Q : Int64 → Sg → Prop} (X : Fx D (tyM cy) EvM p s m args meth c cX12_copy 10 "BackBayModel" A) (hr : meth.sig.returnType = some .long) {σ : Sg} {H : Heap} {locs : List Loc} {ls : Array Slot} (S : St D ad 34 (shM cy ad) A s σ H locs) (hl : lv_has ls 10 [(0, .ref (ad 0))]) (h : wX12_copy_b138 σ Q) : W p l e ({ frames := 2, cells := 0, slots := 0, locals := 42 }) s m args below meth c H locs 0 0 (MQ below (va_Ql Q (PosW D (tyM cy) ad 34 (shM cy ad) A) A) args s 0 0 A) (F0 m 138 ls []) := by
  have hx := X.1
  have hb := X.2.1
  unfold wX12_copy_b138 at h
  refine lv_aload_n hx hb dX12_copy_138 rfl (lv_at hl 0 rfl) ?_
  refine lv_iconst (v := 2) hx hb dX12_copy_139 (by decide) ?_
  refine o_callVl (k := 1) EvM_ok X S (mX12_finds l 2 σ _ h) (by decide) rfl rfl k_1029 k_1026 k_1028 ks_34 k_14 ⟨rfl, by decide, by decide, by decide +kernel⟩ ⟨rfl, rfl⟩ ⟨Nat.le_of_ble_eq_true rfl, Nat.le_of_ble_eq_true rfl⟩ rfl hl.1 rfl (Nat.le_of_ble_eq_true rfl) dX12_copy_140 (fun r_16 σ_17 H locs h S => ?_)
  exact o_lret X S hr h dX12_copy_143
set_option maxHeartbeats 4000000 in
set_option maxRecDepth 100000 in
theorem mX12_copy_b189 {D : va_G} {cy : Nat → ClassId} {ad : Nat → Nat} (l : Launch) {p : Program} {e : Env} {s : State} {m : MethodId} {args : Array Value} {below : List Frame} {meth : Method} {c : Code} {A : Nat → Prop} {k226 : Sg → Prop} {kb165 : Int32 → Sg → Prop} {Q : Int64 → Sg → Prop} (X : Fx D (tyM cy) EvM p s m args meth c cX12_copy 10 "BackBayModel" A) (hr : meth.sig.returnType = some .long) (x1 : Int32) (x2 : Int32) (x3 : Int32) (x4 : Int32) (x5 : Int32) (x7 : Int32) (x8 : Int32) (y0 : Int32) (hk226 : ∀ (σ : Sg) (H : Heap) (locs : List Loc) (ls : Array Slot), St D ad 34 (shM cy ad) A s σ H locs → lv_has ls 10 [(5, .int x5)] → k226 σ → W p l e ({ frames := 2, cells := 0, slots := 0, locals := 42 }) s m args below meth c H locs 0 0 (MQ below (va_Ql Q (PosW D (tyM cy) ad 34 (shM cy ad) A) A) args s 0 0 A) (F0 m 226 ls [])) (hkb165 : ∀ (x8 : Int32) (σ : Sg) (H : Heap) (locs : List Loc) (ls : Array Slot), St D ad 34 (shM cy ad) A s σ H locs → lv_has ls 10 [(0, .ref (ad 0)), (1, .int x1), (2, .int x2), (3, .int x3), (4, .int x4), (5, .int x5), (7, .int x7), (8, .int x8)] → kb165 x8 σ → W p l e ({ frames := 2, cells := 0, slots := 0, locals := 42 }) s m args below meth c H locs 0 0 (MQ below (va_Ql Q (PosW D (tyM cy) ad 34 (shM cy ad) A) A) args s 0 0 A) (F0 m 165 ls [])) {σ : Sg} {H : Heap} {locs : List Loc} {ls : Array Slot} (S : St D ad 34 (shM cy ad) A s σ H locs) (hl : lv_has ls 10 [(0, .ref (ad 0)), (1, .int x1), (2, .int x2), (3, .int x3), (4, .int x4), (5, .int x5), (7, .int x7), (8, .int x8)]) (h : wX12_copy_b189 x1 x2 x3 x4 x5 x7 x8 y0 σ k226 kb165 Q) : W p l e ({ frames := 2, cells := 0, slots := 0, locals := 42 }) s m args below meth c H locs 0 0 (MQ below (va_Ql Q (PosW D (tyM cy) ad 34 (shM cy ad) A) A) args s 0 0 A) (F0 m 189 ls [.int y0]) := by
  have hx := X.1
  have hb := X.2.1
  unfold wX12_copy_b189 at h
  refine lv_istore (lv' := [(9, .int y0), (0, .ref (ad 0)), (1, .int x1), (2, .int x2), (3, .int x3), (4, .int x4), (5, .int x5), (7, .int x7), (8, .int x8)]) hx hb dX12_copy_189 hl (by decide) rfl (fun ls hl => ?_)
  refine lv_aload_n hx hb dX12_copy_191 rfl (lv_at hl 1 rfl) ?_
  refine o_get X S 0 3 (by decide) rfl rfl in_12 (by decide) k_870 rfl dX12_copy_192 ?_
  refine lv_bipush (v := 20) hx hb dX12_copy_195 (by decide) ?_
  refine lv_iload_n hx hb dX12_copy_197 rfl (lv_at hl 4 rfl) ?_
  refine lv_imul hx hb dX12_copy_198 ?_
  refine lv_iload hx hb dX12_copy_199 (lv_at hl 5 rfl) ?_
  refine lv_iadd hx hb dX12_copy_201 ?_
  refine lv_iload hx hb dX12_copy_202 (lv_at hl 0 rfl) ?_
  refine lv_iadd hx hb dX12_copy_204 ?_
  refine lv_aload_n hx hb dX12_copy_205 rfl (lv_at hl 1 rfl) ?_
  refine o_get X S 0 3 (by decide) rfl rfl in_12 (by decide) k_870 rfl dX12_copy_206 ?_
  refine lv_bipush (v := 20) hx hb dX12_copy_209 (by decide) ?_
  refine lv_iload_n hx hb dX12_copy_211 rfl (lv_at hl 2 rfl) ?_
  refine lv_imul hx hb dX12_copy_212 ?_
  refine lv_iload_n hx hb dX12_copy_213 rfl (lv_at hl 3 rfl) ?_
  refine lv_iadd hx hb dX12_copy_214 ?_
  refine lv_iload hx hb dX12_copy_215 (lv_at hl 0 rfl) ?_
  refine lv_iadd hx hb dX12_copy_217 ?_
  refine o_iald X S 3 0 (by decide) (fun _ => rfl) rfl h.1 dX12_copy_218 ?_
  replace h := h.2
  refine o_iast X S 3 0 (by decide) (fun _ => rfl) rfl h.1 dX12_copy_219 (fun σ_24 H locs eσ_24 S => ?_)
  replace h := h.2 σ_24 eσ_24
  obtain ⟨x8_25, ex8_25⟩ : ∃ y : Int32, y = x8 + 1 := ⟨_, rfl⟩
  replace h := h x8_25 ex8_25
  refine lv_iinc (v := x8_25) (lv' := [(8, .int x8_25), (9, .int y0), (0, .ref (ad 0)), (1, .int x1), (2, .int x2), (3, .int x3), (4, .int x4), (5, .int x5), (7, .int x7)]) hx hb dX12_copy_220 hl (k := 8) rfl (by rw [ex8_25]; rfl) (by decide) rfl (fun ls hl => ?_)
  refine lv_goto (tgt := 165) hx hb dX12_copy_223 (by decide) ?_
  exact hkb165 _ _ _ _ _ S (lv_sub hl [2, 3, 4, 5, 6, 7, 8, 0] rfl) h
set_option maxHeartbeats 4000000 in
set_option maxRecDepth 100000 in
theorem mX12_copy_L165 {D : va_G} {cy : Nat → ClassId} {ad : Nat → Nat} (l : Launch) {p : Program} {e : Env} {s : State} {m : MethodId} {args : Array Value} {below : List Frame} {meth : Method} {c : Code} {A : Nat → Prop} {k226 : Sg → Prop} {Q : Int64 → Sg → Prop} (X : Fx D (tyM cy) EvM p s m args meth c cX12_copy 10 "BackBayModel" A) (hr : meth.sig.returnType = some .long) (x1 : Int32) (x2 : Int32) (x3 : Int32) (x4 : Int32) (x5 : Int32) (x7 : Int32) (hk226 : ∀ (σ : Sg) (H : Heap) (locs : List Loc) (ls : Array Slot), St D ad 34 (shM cy ad) A s σ H locs → lv_has ls 10 [(5, .int x5)] → k226 σ → W p l e ({ frames := 2, cells := 0, slots := 0, locals := 42 }) s m args below meth c H locs 0 0 (MQ below (va_Ql Q (PosW D (tyM cy) ad 34 (shM cy ad) A) A) args s 0 0 A) (F0 m 226 ls [])) : ∀ (n : Nat) (x8 : Int32) (σ : Sg) (H : Heap) (locs : List Loc) (ls : Array Slot), St D ad 34 (shM cy ad) A s σ H locs → lv_has ls 10 [(0, .ref (ad 0)), (1, .int x1), (2, .int x2), (3, .int x3), (4, .int x4), (5, .int x5), (7, .int x7), (8, .int x8)] → wX12_copy_L165 x1 x2 x3 x4 x5 x7 k226 Q n x8 σ → W p l e ({ frames := 2, cells := 0, slots := 0, locals := 42 }) s m args below meth c H locs 0 0 (MQ below (va_Ql Q (PosW D (tyM cy) ad 34 (shM cy ad) A) A) args s 0 0 A) (F0 m 165 ls []) := by
  have hx := X.1
  have hb := X.2.1
  intro n
  induction n with
  | zero =>
    intro _ _ _ _ _ _ _ h
    exact absurd h (by unfold wX12_copy_L165; exact id)
  | succ n ih =>
    intro x8 σ H locs ls S hl h
    unfold wX12_copy_L165 at h
    refine lv_iload hx hb dX12_copy_165 (lv_at hl 7 rfl) ?_
    refine lv_iload hx hb dX12_copy_167 (lv_at hl 5 rfl) ?_
    refine lv_icmp_ge (tgt := 226) hx hb dX12_copy_169 (by decide) (fun q_22 => ?_) (fun q_22 => ?_)
    · replace h := h.1 q_22
      exact hk226 _ _ _ _ S (lv_sub hl [5] rfl) h
    · replace h := h.2 q_22
      refine lv_iload hx hb dX12_copy_172 (lv_at hl 6 rfl) ?_
      refine lv_if_eq (tgt := 187) hx hb dX12_copy_174 (by decide) (fun q_23 => ?_) (fun q_23 => ?_)
      · replace h := h.1 q_23
        refine lv_iload hx hb dX12_copy_187 (lv_at hl 7 rfl) ?_
        exact mX12_copy_b189 l X hr x1 x2 x3 x4 x5 x7 x8 x8 hk226 ih S (lv_sub hl [0, 1, 2, 3, 4, 5, 6, 7] rfl) h
      · replace h := h.2 q_23
        refine lv_iload hx hb dX12_copy_177 (lv_at hl 5 rfl) ?_
        refine lv_iconst (v := 1) hx hb dX12_copy_179 (by decide) ?_
        refine lv_isub hx hb dX12_copy_180 ?_
        refine lv_iload hx hb dX12_copy_181 (lv_at hl 7 rfl) ?_
        refine lv_isub hx hb dX12_copy_183 ?_
        refine lv_goto (tgt := 189) hx hb dX12_copy_184 (by decide) ?_
        exact mX12_copy_b189 l X hr x1 x2 x3 x4 x5 x7 x8 ((x5 - 1) - x8) hk226 ih S (lv_sub hl [0, 1, 2, 3, 4, 5, 6, 7] rfl) h
set_option maxHeartbeats 4000000 in
set_option maxRecDepth 100000 in
theorem mX12_copy_b160 {D : va_G} {cy : Nat → ClassId} {ad : Nat → Nat} (l : Launch) {p : Program} {e : Env} {s : State} {m : MethodId} {args : Array Value} {below : List Frame} {meth : Method} {c : Code} {A : Nat → Prop} {Q : Int64 → Sg → Prop} (X : Fx D (tyM cy) EvM p s m args meth c cX12_copy 10 "BackBayModel" A) (hr : meth.sig.returnType = some .long) (x1 : Int32) (x2 : Int32) (x3 : Int32) (x4 : Int32) (x5 : Int32) (y0 : Int32) {σ : Sg} {H : Heap} {locs : List Loc} {ls : Array Slot} (S : St D ad 34 (shM cy ad) A s σ H locs) (hl : lv_has ls 10 [(0, .ref (ad 0)), (1, .int x1), (2, .int x2), (3, .int x3), (4, .int x4), (5, .int x5)]) (h : wX12_copy_b160 x1 x2 x3 x4 x5 y0 σ Q) : W p l e ({ frames := 2, cells := 0, slots := 0, locals := 42 }) s m args below meth c H locs 0 0 (MQ below (va_Ql Q (PosW D (tyM cy) ad 34 (shM cy ad) A) A) args s 0 0 A) (F0 m 160 ls [.int y0]) := by
  have hx := X.1
  have hb := X.2.1
  unfold wX12_copy_b160 at h
  refine lv_istore (lv' := [(7, .int y0), (0, .ref (ad 0)), (1, .int x1), (2, .int x2), (3, .int x3), (4, .int x4), (5, .int x5)]) hx hb dX12_copy_160 hl (by decide) rfl (fun ls hl => ?_)
  refine lv_iconst (v := 0) hx hb dX12_copy_162 (by decide) ?_
  refine lv_istore (lv' := [(8, .int 0), (7, .int y0), (0, .ref (ad 0)), (1, .int x1), (2, .int x2), (3, .int x3), (4, .int x4), (5, .int x5)]) hx hb dX12_copy_163 hl (by decide) rfl (fun ls hl => ?_)
  obtain ⟨n_165, h⟩ := h
  refine mX12_copy_L165 l X hr x1 x2 x3 x4 x5 y0 ?_ n_165 _ _ _ _ _ S (lv_sub hl [2, 3, 4, 5, 6, 7, 1, 0] rfl) h
  · intro σ_26 H locs ls S hl h
    refine lv_iload hx hb dX12_copy_226 (lv_at hl 0 rfl) ?_
    refine lv_i2l hx hb dX12_copy_228 rfl ?_
    exact o_lret X S hr h dX12_copy_229
set_option maxHeartbeats 4000000 in
set_option maxRecDepth 100000 in
theorem mX12_copy_b104 {D : va_G} {cy : Nat → ClassId} {ad : Nat → Nat} (l : Launch) {p : Program} {e : Env} {s : State} {m : MethodId} {args : Array Value} {below : List Frame} {meth : Method} {c : Code} {A : Nat → Prop} {Q : Int64 → Sg → Prop} (X : Fx D (tyM cy) EvM p s m args meth c cX12_copy 10 "BackBayModel" A) (hr : meth.sig.returnType = some .long) (x1 : Int32) (x2 : Int32) (x3 : Int32) (x4 : Int32) (x5 : Int32) (y0 : Int32) {σ : Sg} {H : Heap} {locs : List Loc} {ls : Array Slot} (S : St D ad 34 (shM cy ad) A s σ H locs) (hl : lv_has ls 10 [(0, .ref (ad 0)), (1, .int x1), (2, .int x2), (3, .int x3), (4, .int x4), (5, .int x5)]) (h : wX12_copy_b104 x1 x2 x3 x4 x5 y0 σ Q) : W p l e ({ frames := 2, cells := 0, slots := 0, locals := 42 }) s m args below meth c H locs 0 0 (MQ below (va_Ql Q (PosW D (tyM cy) ad 34 (shM cy ad) A) A) args s 0 0 A) (F0 m 104 ls [.int y0]) := by
  have hx := X.1
  have hb := X.2.1
  unfold wX12_copy_b104 at h
  refine lv_istore (lv' := [(6, .int y0), (0, .ref (ad 0)), (1, .int x1), (2, .int x2), (3, .int x3), (4, .int x4), (5, .int x5)]) hx hb dX12_copy_104 hl (by decide) rfl (fun ls hl => ?_)
  refine lv_iload hx hb dX12_copy_106 (lv_at hl 0 rfl) ?_
  refine lv_if_eq (tgt := 138) hx hb dX12_copy_108 (by decide) (fun q_15 => ?_) (fun q_15 => ?_)
  · replace h := h.1 q_15
    exact mX12_copy_b138 l X hr S (lv_sub hl [1] rfl) h
  · replace h := h.2 q_15
    refine lv_iload hx hb dX12_copy_111 (lv_at hl 6 rfl) ?_
    refine lv_aload_n hx hb dX12_copy_113 rfl (lv_at hl 1 rfl) ?_
    refine o_get X S 0 2 (by decide) rfl rfl in_12 (by decide) k_869 rfl dX12_copy_114 ?_
    refine lv_iload_n hx hb dX12_copy_117 rfl (lv_at hl 2 rfl) ?_
    refine o_iald X S 2 0 (by decide) (fun _ => rfl) rfl h.1 dX12_copy_118 ?_
    replace h := h.2
    refine lv_iload_n hx hb dX12_copy_119 rfl (lv_at hl 3 rfl) ?_
    refine lv_isub hx hb dX12_copy_120 ?_
    refine lv_icmp_gt (tgt := 138) hx hb dX12_copy_121 (by decide) (fun q_18 => ?_) (fun q_18 => ?_)
    · replace h := h.1 q_18
      exact mX12_copy_b138 l X hr S (lv_sub hl [1] rfl) h
    · replace h := h.2 q_18
      refine lv_iload hx hb dX12_copy_124 (lv_at hl 6 rfl) ?_
      refine lv_aload_n hx hb dX12_copy_126 rfl (lv_at hl 1 rfl) ?_
      refine o_get X S 0 2 (by decide) rfl rfl in_12 (by decide) k_869 rfl dX12_copy_127 ?_
      refine lv_iload_n hx hb dX12_copy_130 rfl (lv_at hl 4 rfl) ?_
      refine o_iald X S 2 0 (by decide) (fun _ => rfl) rfl h.1 dX12_copy_131 ?_
      replace h := h.2
      refine lv_iload hx hb dX12_copy_132 (lv_at hl 5 rfl) ?_
      refine lv_isub hx hb dX12_copy_134 ?_
      refine lv_icmp_le (tgt := 144) hx hb dX12_copy_135 (by decide) (fun q_19 => ?_) (fun q_19 => ?_)
      · replace h := h.1 q_19
        refine lv_aload_n hx hb dX12_copy_144 rfl (lv_at hl 1 rfl) ?_
        refine lv_iconst (v := 0) hx hb dX12_copy_145 (by decide) ?_
        refine o_puti X S (fs := fun c => [.int (c 0), .ref (ad 1), .ref (ad 2), .ref (ad 3), .ref (ad 4), .int (c 5), .int (c 6), .int (c 7), .ref (ad 5), .ref (ad 6), .ref (ad 7), .ref (ad 8), .int (c 12), .int (c 13), .int (c 14), .int (c 15), .ref (ad 9), .int (c 17), .int (c 18), .int (c 19), .ref (ad 10), .ref (ad 11), .ref (ad 12), .ref (ad 13), .ref (ad 14), .ref (ad 15), .ref (ad 16), .int (c 27), .int (c 28), .ref (ad 17), .ref (ad 18), .ref (ad 19), .ref (ad 20), .ref (ad 21), .ref (ad 22), .ref (ad 23), .ref (ad 24), .ref (ad 25), .ref (ad 26), .ref (ad 27), .ref (ad 28), .ref (ad 29), .int (c 42), .ref (ad 30), .ref (ad 31), .ref (ad 32), .ref (ad 33), .int (c 47)]) 0 0 (by decide) (fun _ => rfl) (fun _ _ => rfl) rfl in_12 tyX12_ok nmX12 (by decide) k_867 rfl rfl rfl rfl (fun _ => Nat.le_of_ble_eq_true rfl) dX12_copy_146 (fun σ_20 H locs eσ_20 S => ?_)
        replace h := h σ_20 eσ_20
        refine lv_iload_n hx hb dX12_copy_149 rfl (lv_at hl 3 rfl) ?_
        refine lv_iload hx hb dX12_copy_150 (lv_at hl 5 rfl) ?_
        refine lv_icmp_ge (tgt := 159) hx hb dX12_copy_152 (by decide) (fun q_21 => ?_) (fun q_21 => ?_)
        · replace h := h.1 q_21
          refine lv_iconst (v := 0) hx hb dX12_copy_159 (by decide) ?_
          exact mX12_copy_b160 l X hr x1 x2 x3 x4 x5 0 S (lv_sub hl [1, 2, 3, 4, 5, 6] rfl) h
        · replace h := h.2 q_21
          refine lv_iconst (v := 1) hx hb dX12_copy_155 (by decide) ?_
          refine lv_goto (tgt := 160) hx hb dX12_copy_156 (by decide) ?_
          exact mX12_copy_b160 l X hr x1 x2 x3 x4 x5 1 S (lv_sub hl [1, 2, 3, 4, 5, 6] rfl) h
      · replace h := h.2 q_19
        exact mX12_copy_b138 l X hr S (lv_sub hl [1] rfl) h
set_option maxHeartbeats 4000000 in
set_option maxRecDepth 100000 in
theorem mX12_copy_b103 {D : va_G} {cy : Nat → ClassId} {ad : Nat → Nat} (l : Launch) {p : Program} {e : Env} {s : State} {m : MethodId} {args : Array Value} {below : List Frame} {meth : Method} {c : Code} {A : Nat → Prop} {Q : Int64 → Sg → Prop} (X : Fx D (tyM cy) EvM p s m args meth c cX12_copy 10 "BackBayModel" A) (hr : meth.sig.returnType = some .long) (x1 : Int32) (x2 : Int32) (x3 : Int32) (x4 : Int32) (x5 : Int32) {σ : Sg} {H : Heap} {locs : List Loc} {ls : Array Slot} (S : St D ad 34 (shM cy ad) A s σ H locs) (hl : lv_has ls 10 [(0, .ref (ad 0)), (1, .int x1), (2, .int x2), (3, .int x3), (4, .int x4), (5, .int x5)]) (h : wX12_copy_b103 x1 x2 x3 x4 x5 σ Q) : W p l e ({ frames := 2, cells := 0, slots := 0, locals := 42 }) s m args below meth c H locs 0 0 (MQ below (va_Ql Q (PosW D (tyM cy) ad 34 (shM cy ad) A) A) args s 0 0 A) (F0 m 103 ls []) := by
  have hx := X.1
  have hb := X.2.1
  unfold wX12_copy_b103 at h
  refine lv_iconst (v := 0) hx hb dX12_copy_103 (by decide) ?_
  exact mX12_copy_b104 l X hr x1 x2 x3 x4 x5 0 S (lv_sub hl [0, 1, 2, 3, 4, 5] rfl) h
set_option maxHeartbeats 4000000 in
set_option maxRecDepth 100000 in
theorem mX12_copy {D : va_G} {cy : Nat → ClassId} {ad : Nat → Nat} (l : Launch) (x1 : Int32) (x2 : Int32) (x3 : Int32) (x4 : Int32) (x5 : Int32) (σ : Sg) (Q : Int64 → Sg → Prop) (h : wX12_copy x1 x2 x3 x4 x5 σ Q) : MLM D cy ad l yX12_copy (.code yX12_copy cX12_copy 10 (some .long) :: gT) ({ frames := 2, cells := 0, slots := 0, locals := 42 }) [.ref (ad 0), .int x1, .int x2, .int x3, .int x4, .int x5] σ Q := by
  refine metL_of (by decide +kernel) (Nat.le_of_ble_eq_true rfl) ?_
  intro p e s m args below meth c A ls X hr hl S
  have X : Fx D (tyM cy) EvM p s m args meth c cX12_copy 10 "BackBayModel" A := X
  have hl : lv_has ls 10 [(0, .ref (ad 0)), (1, .int x1), (2, .int x2), (3, .int x3), (4, .int x4), (5, .int x5)] := hl
  have hx := X.1
  have hb := X.2.1
  unfold wX12_copy at h
  refine lv_iload_n hx hb dX12_copy_0 rfl (lv_at hl 1 rfl) ?_
  refine o_callSi (k := 1) EvM_ok X S (mX12_isRow l x1 σ _ h) k_1018 k_1016 k_1017 k_14 ⟨by decide, by decide, by decide +kernel⟩ ⟨rfl, rfl⟩ ⟨Nat.le_of_ble_eq_true rfl, Nat.le_of_ble_eq_true rfl⟩ rfl hl.1 rfl (Nat.le_of_ble_eq_true rfl) dX12_copy_1 (fun r_1 σ_2 H locs h S => ?_)
  refine lv_if_eq (tgt := 14) hx hb dX12_copy_4 (by decide) (fun q_3 => ?_) (fun q_3 => ?_)
  · replace h := h.1 q_3
    exact mX12_copy_b14 l X hr S (lv_sub hl [] rfl) h
  · replace h := h.2 q_3
    refine lv_iload_n hx hb dX12_copy_7 rfl (lv_at hl 3 rfl) ?_
    refine o_callSi (k := 1) EvM_ok X S (mX12_isRow l x3 σ_2 _ h) k_1018 k_1016 k_1017 k_14 ⟨by decide, by decide, by decide +kernel⟩ ⟨rfl, rfl⟩ ⟨Nat.le_of_ble_eq_true rfl, Nat.le_of_ble_eq_true rfl⟩ rfl hl.1 rfl (Nat.le_of_ble_eq_true rfl) dX12_copy_8 (fun r_6 σ_7 H locs h S => ?_)
    refine lv_if_ne (tgt := 19) hx hb dX12_copy_11 (by decide) (fun q_8 => ?_) (fun q_8 => ?_)
    · replace h := h.2 q_8
      refine lv_aload_n hx hb dX12_copy_19 rfl (lv_at hl 0 rfl) ?_
      refine o_get X S 0 1 (by decide) rfl rfl in_12 (by decide) k_868 rfl dX12_copy_20 ?_
      refine lv_iload_n hx hb dX12_copy_23 rfl (lv_at hl 1 rfl) ?_
      refine o_iald X S 1 0 (by decide) (fun _ => rfl) rfl h.1 dX12_copy_24 ?_
      replace h := h.2
      refine lv_if_lt (tgt := 37) hx hb dX12_copy_25 (by decide) (fun q_9 => ?_) (fun q_9 => ?_)
      · replace h := h.1 q_9
        exact mX12_copy_b37 l X hr S (lv_sub hl [0] rfl) h
      · replace h := h.2 q_9
        refine lv_aload_n hx hb dX12_copy_28 rfl (lv_at hl 0 rfl) ?_
        refine o_get X S 0 1 (by decide) rfl rfl in_12 (by decide) k_868 rfl dX12_copy_29 ?_
        refine lv_iload_n hx hb dX12_copy_32 rfl (lv_at hl 3 rfl) ?_
        refine o_iald X S 1 0 (by decide) (fun _ => rfl) rfl h.1 dX12_copy_33 ?_
        replace h := h.2
        refine lv_if_ge (tgt := 43) hx hb dX12_copy_34 (by decide) (fun q_12 => ?_) (fun q_12 => ?_)
        · replace h := h.1 q_12
          refine lv_aload_n hx hb dX12_copy_43 rfl (lv_at hl 0 rfl) ?_
          refine o_get X S 0 1 (by decide) rfl rfl in_12 (by decide) k_868 rfl dX12_copy_44 ?_
          refine lv_iload_n hx hb dX12_copy_47 rfl (lv_at hl 1 rfl) ?_
          refine o_iald X S 1 0 (by decide) (fun _ => rfl) rfl h.1 dX12_copy_48 ?_
          replace h := h.2
          refine lv_aload_n hx hb dX12_copy_49 rfl (lv_at hl 0 rfl) ?_
          refine o_get X S 0 1 (by decide) rfl rfl in_12 (by decide) k_868 rfl dX12_copy_50 ?_
          refine lv_iload_n hx hb dX12_copy_53 rfl (lv_at hl 3 rfl) ?_
          refine o_iald X S 1 0 (by decide) (fun _ => rfl) rfl h.1 dX12_copy_54 ?_
          replace h := h.2
          refine lv_icmp_eq (tgt := 64) hx hb dX12_copy_55 (by decide) (fun q_13 => ?_) (fun q_13 => ?_)
          · replace h := h.1 q_13
            refine lv_iload_n hx hb dX12_copy_64 rfl (lv_at hl 2 rfl) ?_
            refine lv_if_lt (tgt := 103) hx hb dX12_copy_65 (by decide) (fun q_14 => ?_) (fun q_14 => ?_)
            · replace h := h.1 q_14
              exact mX12_copy_b103 l X hr x1 x2 x3 x4 x5 S (lv_sub hl [0, 1, 2, 3, 4, 5] rfl) h
            · replace h := h.2 q_14
              refine lv_iload hx hb dX12_copy_68 (lv_at hl 4 rfl) ?_
              refine lv_if_lt (tgt := 103) hx hb dX12_copy_70 (by decide) (fun q_27 => ?_) (fun q_27 => ?_)
              · replace h := h.1 q_27
                exact mX12_copy_b103 l X hr x1 x2 x3 x4 x5 S (lv_sub hl [0, 1, 2, 3, 4, 5] rfl) h
              · replace h := h.2 q_27
                refine lv_iload hx hb dX12_copy_73 (lv_at hl 5 rfl) ?_
                refine lv_if_lt (tgt := 103) hx hb dX12_copy_75 (by decide) (fun q_28 => ?_) (fun q_28 => ?_)
                · replace h := h.1 q_28
                  exact mX12_copy_b103 l X hr x1 x2 x3 x4 x5 S (lv_sub hl [0, 1, 2, 3, 4, 5] rfl) h
                · replace h := h.2 q_28
                  refine lv_iload_n hx hb dX12_copy_78 rfl (lv_at hl 2 rfl) ?_
                  refine lv_aload_n hx hb dX12_copy_79 rfl (lv_at hl 0 rfl) ?_
                  refine o_get X S 0 2 (by decide) rfl rfl in_12 (by decide) k_869 rfl dX12_copy_80 ?_
                  refine lv_iload_n hx hb dX12_copy_83 rfl (lv_at hl 1 rfl) ?_
                  refine o_iald X S 2 0 (by decide) (fun _ => rfl) rfl h.1 dX12_copy_84 ?_
                  replace h := h.2
                  refine lv_icmp_gt (tgt := 103) hx hb dX12_copy_85 (by decide) (fun q_29 => ?_) (fun q_29 => ?_)
                  · replace h := h.1 q_29
                    exact mX12_copy_b103 l X hr x1 x2 x3 x4 x5 S (lv_sub hl [0, 1, 2, 3, 4, 5] rfl) h
                  · replace h := h.2 q_29
                    refine lv_iload hx hb dX12_copy_88 (lv_at hl 4 rfl) ?_
                    refine lv_aload_n hx hb dX12_copy_90 rfl (lv_at hl 0 rfl) ?_
                    refine o_get X S 0 2 (by decide) rfl rfl in_12 (by decide) k_869 rfl dX12_copy_91 ?_
                    refine lv_iload_n hx hb dX12_copy_94 rfl (lv_at hl 3 rfl) ?_
                    refine o_iald X S 2 0 (by decide) (fun _ => rfl) rfl h.1 dX12_copy_95 ?_
                    replace h := h.2
                    refine lv_icmp_gt (tgt := 103) hx hb dX12_copy_96 (by decide) (fun q_30 => ?_) (fun q_30 => ?_)
                    · replace h := h.1 q_30
                      exact mX12_copy_b103 l X hr x1 x2 x3 x4 x5 S (lv_sub hl [0, 1, 2, 3, 4, 5] rfl) h
                    · replace h := h.2 q_30
                      refine lv_iconst (v := 1) hx hb dX12_copy_99 (by decide) ?_
                      refine lv_goto (tgt := 104) hx hb dX12_copy_100 (by decide) ?_
                      exact mX12_copy_b104 l X hr x1 x2 x3 x4 x5 1 S (lv_sub hl [0, 1, 2, 3, 4, 5] rfl) h
          · replace h := h.2 q_13
            refine lv_aload_n hx hb dX12_copy_58 rfl (lv_at hl 0 rfl) ?_
            refine lv_iconst (v := 5) hx hb dX12_copy_59 (by decide) ?_
            refine o_callVl (k := 1) EvM_ok X S (mX12_finds l 5 σ_7 _ h) (by decide) rfl rfl k_1029 k_1026 k_1028 ks_34 k_14 ⟨rfl, by decide, by decide, by decide +kernel⟩ ⟨rfl, rfl⟩ ⟨Nat.le_of_ble_eq_true rfl, Nat.le_of_ble_eq_true rfl⟩ rfl hl.1 rfl (Nat.le_of_ble_eq_true rfl) dX12_copy_60 (fun r_31 σ_32 H locs h S => ?_)
            exact o_lret X S hr h dX12_copy_63
        · replace h := h.2 q_12
          exact mX12_copy_b37 l X hr S (lv_sub hl [0] rfl) h
    · replace h := h.1 q_8
      exact mX12_copy_b14 l X hr S (lv_sub hl [] rfl) h
def wX12_drop (x1 : Int32) (σ : Sg) (Q : Int64 → Sg → Prop) : Prop :=
  (wX12_isRow x1 σ (fun r_1 σ_2 => ((r_1 = 0 → (wX12_refused 1 σ_2 (fun r_9 σ_10 => Q r_9 σ_10))) ∧ (¬ r_1 = 0 → (vp_in x1 8 ∧ ((0 ≤ (σ_2 1 x1.toNatClampNeg) → (∀ σ_5, σ_5 = sto σ_2 0 0 0 → (vp_in x1 8 ∧ ∀ σ_6, σ_6 = sto σ_5 1 x1.toNatClampNeg (-1) → (vp_in x1 8 ∧ Q ((σ_6 2 x1.toNatClampNeg).toInt64) σ_6)))) ∧ (¬ 0 ≤ (σ_2 1 x1.toNatClampNeg) → (wX12_finds 1 σ_2 (fun r_7 σ_8 => Q r_7 σ_8)))))))))
set_option maxHeartbeats 4000000 in
set_option maxRecDepth 100000 in
theorem mX12_drop {D : va_G} {cy : Nat → ClassId} {ad : Nat → Nat} (l : Launch) (x1 : Int32) (σ : Sg) (Q : Int64 → Sg → Prop) (h : wX12_drop x1 σ Q) : MLM D cy ad l yX12_drop (.code yX12_drop cX12_drop 2 (some .long) :: gT) ({ frames := 2, cells := 0, slots := 0, locals := 42 }) [.ref (ad 0), .int x1] σ Q := by
  refine metL_of (by decide +kernel) (Nat.le_of_ble_eq_true rfl) ?_
  intro p e s m args below meth c A ls X hr hl S
  have X : Fx D (tyM cy) EvM p s m args meth c cX12_drop 2 "BackBayModel" A := X
  have hl : lv_has ls 2 [(0, .ref (ad 0)), (1, .int x1)] := hl
  have hx := X.1
  have hb := X.2.1
  unfold wX12_drop at h
  refine lv_iload_n hx hb dX12_drop_0 rfl (lv_at hl 1 rfl) ?_
  refine o_callSi (k := 1) EvM_ok X S (mX12_isRow l x1 σ _ h) k_1018 k_1016 k_1017 k_14 ⟨by decide, by decide, by decide +kernel⟩ ⟨rfl, rfl⟩ ⟨Nat.le_of_ble_eq_true rfl, Nat.le_of_ble_eq_true rfl⟩ rfl hl.1 rfl (Nat.le_of_ble_eq_true rfl) dX12_drop_1 (fun r_1 σ_2 H locs h S => ?_)
  refine lv_if_ne (tgt := 12) hx hb dX12_drop_4 (by decide) (fun q_3 => ?_) (fun q_3 => ?_)
  · replace h := h.2 q_3
    refine lv_aload_n hx hb dX12_drop_12 rfl (lv_at hl 0 rfl) ?_
    refine o_get X S 0 1 (by decide) rfl rfl in_12 (by decide) k_868 rfl dX12_drop_13 ?_
    refine lv_iload_n hx hb dX12_drop_16 rfl (lv_at hl 1 rfl) ?_
    refine o_iald X S 1 0 (by decide) (fun _ => rfl) rfl h.1 dX12_drop_17 ?_
    replace h := h.2
    refine lv_if_ge (tgt := 27) hx hb dX12_drop_18 (by decide) (fun q_4 => ?_) (fun q_4 => ?_)
    · replace h := h.1 q_4
      refine lv_aload_n hx hb dX12_drop_27 rfl (lv_at hl 0 rfl) ?_
      refine lv_iconst (v := 0) hx hb dX12_drop_28 (by decide) ?_
      refine o_puti X S (fs := fun c => [.int (c 0), .ref (ad 1), .ref (ad 2), .ref (ad 3), .ref (ad 4), .int (c 5), .int (c 6), .int (c 7), .ref (ad 5), .ref (ad 6), .ref (ad 7), .ref (ad 8), .int (c 12), .int (c 13), .int (c 14), .int (c 15), .ref (ad 9), .int (c 17), .int (c 18), .int (c 19), .ref (ad 10), .ref (ad 11), .ref (ad 12), .ref (ad 13), .ref (ad 14), .ref (ad 15), .ref (ad 16), .int (c 27), .int (c 28), .ref (ad 17), .ref (ad 18), .ref (ad 19), .ref (ad 20), .ref (ad 21), .ref (ad 22), .ref (ad 23), .ref (ad 24), .ref (ad 25), .ref (ad 26), .ref (ad 27), .ref (ad 28), .ref (ad 29), .int (c 42), .ref (ad 30), .ref (ad 31), .ref (ad 32), .ref (ad 33), .int (c 47)]) 0 0 (by decide) (fun _ => rfl) (fun _ _ => rfl) rfl in_12 tyX12_ok nmX12 (by decide) k_867 rfl rfl rfl rfl (fun _ => Nat.le_of_ble_eq_true rfl) dX12_drop_29 (fun σ_5 H locs eσ_5 S => ?_)
      replace h := h σ_5 eσ_5
      refine lv_aload_n hx hb dX12_drop_32 rfl (lv_at hl 0 rfl) ?_
      refine o_get X S 0 1 (by decide) rfl rfl in_12 (by decide) k_868 rfl dX12_drop_33 ?_
      refine lv_iload_n hx hb dX12_drop_36 rfl (lv_at hl 1 rfl) ?_
      refine lv_iconst (v := (-1)) hx hb dX12_drop_37 (by decide) ?_
      refine o_iast X S 1 0 (by decide) (fun _ => rfl) rfl h.1 dX12_drop_38 (fun σ_6 H locs eσ_6 S => ?_)
      replace h := h.2 σ_6 eσ_6
      refine lv_aload_n hx hb dX12_drop_39 rfl (lv_at hl 0 rfl) ?_
      refine o_get X S 0 2 (by decide) rfl rfl in_12 (by decide) k_869 rfl dX12_drop_40 ?_
      refine lv_iload_n hx hb dX12_drop_43 rfl (lv_at hl 1 rfl) ?_
      refine o_iald X S 2 0 (by decide) (fun _ => rfl) rfl h.1 dX12_drop_44 ?_
      replace h := h.2
      refine lv_i2l hx hb dX12_drop_45 rfl ?_
      exact o_lret X S hr h dX12_drop_46
    · replace h := h.2 q_4
      refine lv_aload_n hx hb dX12_drop_21 rfl (lv_at hl 0 rfl) ?_
      refine lv_iconst (v := 1) hx hb dX12_drop_22 (by decide) ?_
      refine o_callVl (k := 1) EvM_ok X S (mX12_finds l 1 σ_2 _ h) (by decide) rfl rfl k_1029 k_1026 k_1028 ks_34 k_14 ⟨rfl, by decide, by decide, by decide +kernel⟩ ⟨rfl, rfl⟩ ⟨Nat.le_of_ble_eq_true rfl, Nat.le_of_ble_eq_true rfl⟩ rfl hl.1 rfl (Nat.le_of_ble_eq_true rfl) dX12_drop_23 (fun r_7 σ_8 H locs h S => ?_)
      exact o_lret X S hr h dX12_drop_26
  · replace h := h.1 q_3
    refine lv_iconst (v := 1) hx hb dX12_drop_7 (by decide) ?_
    refine o_callSl (k := 1) EvM_ok X S (mX12_refused l 1 σ_2 _ h) k_1024 k_1022 k_1023 k_14 ⟨by decide, by decide, by decide +kernel⟩ ⟨rfl, rfl⟩ ⟨Nat.le_of_ble_eq_true rfl, Nat.le_of_ble_eq_true rfl⟩ rfl hl.1 rfl (Nat.le_of_ble_eq_true rfl) dX12_drop_8 (fun r_9 σ_10 H locs h S => ?_)
    exact o_lret X S hr h dX12_drop_11
def wX12_feed_L37 (x1 : Int64) (k79 : Sg → Prop) (Q : Int64 → Sg → Prop) : Nat → Int32 → Sg → Prop
  | 0, _, _ => False
  | nn37 + 1, x4, σ =>
  ((x4 < 0 → k79 σ) ∧ (¬ x4 < 0 → (vp_in (σ 0 5) 300 ∧ ∀ σ_7, σ_7 = sto σ 4 (σ 0 5).toNatClampNeg (((x1 >>> ((8 * x4).toInt64 &&& 63)).toInt32) &&& 255) → (∀ σ_8, σ_8 = sto σ_7 0 5 ((σ_7 0 5) + 1) → (∀ x4_9 : Int32, x4_9 = x4 + (-1) → wX12_feed_L37 x1 k79 Q nn37 x4_9 σ_8)))))
def wX12_feed (x1 : Int64) (x3 : Int32) (σ : Sg) (Q : Int64 → Sg → Prop) : Prop :=
  (wX12_within x3 1 8 σ (fun r_1 σ_2 => ((r_1 = 0 → (wX12_refused 1 σ_2 (fun r_13 σ_14 => Q r_13 σ_14))) ∧ (¬ r_1 = 0 → ((((σ_2 0 5) + x3) ≤ 300 → (∀ x4_5, x4_5 = (x3 - 1) → (∃ nf, wX12_feed_L37 x1 (fun σ_10 => Q ((σ_10 0 5).toInt64) σ_10) Q nf x4_5 σ_2))) ∧ (¬ ((σ_2 0 5) + x3) ≤ 300 → (wX12_refused 3 σ_2 (fun r_11 σ_12 => Q r_11 σ_12))))))))
set_option maxHeartbeats 4000000 in
set_option maxRecDepth 100000 in
theorem mX12_feed_L37 {D : va_G} {cy : Nat → ClassId} {ad : Nat → Nat} (l : Launch) {p : Program} {e : Env} {s : State} {m : MethodId} {args : Array Value} {below : List Frame} {meth : Method} {c : Code} {A : Nat → Prop} {k79 : Sg → Prop} {Q : Int64 → Sg → Prop} (X : Fx D (tyM cy) EvM p s m args meth c cX12_feed 5 "BackBayModel" A) (hr : meth.sig.returnType = some .long) (x1 : Int64) (hk79 : ∀ (σ : Sg) (H : Heap) (locs : List Loc) (ls : Array Slot), St D ad 34 (shM cy ad) A s σ H locs → lv_has ls 5 [(0, .ref (ad 0))] → k79 σ → W p l e ({ frames := 1, cells := 0, slots := 0, locals := 22 }) s m args below meth c H locs 0 0 (MQ below (va_Ql Q (PosW D (tyM cy) ad 34 (shM cy ad) A) A) args s 0 0 A) (F0 m 79 ls [])) : ∀ (n : Nat) (x4 : Int32) (σ : Sg) (H : Heap) (locs : List Loc) (ls : Array Slot), St D ad 34 (shM cy ad) A s σ H locs → lv_has ls 5 [(0, .ref (ad 0)), (1, .long x1), (4, .int x4)] → wX12_feed_L37 x1 k79 Q n x4 σ → W p l e ({ frames := 1, cells := 0, slots := 0, locals := 22 }) s m args below meth c H locs 0 0 (MQ below (va_Ql Q (PosW D (tyM cy) ad 34 (shM cy ad) A) A) args s 0 0 A) (F0 m 37 ls []) := by
  have hx := X.1
  have hb := X.2.1
  intro n
  induction n with
  | zero =>
    intro _ _ _ _ _ _ _ h
    exact absurd h (by unfold wX12_feed_L37; exact id)
  | succ n ih =>
    intro x4 σ H locs ls S hl h
    unfold wX12_feed_L37 at h
    refine lv_iload hx hb dX12_feed_37 (lv_at hl 2 rfl) ?_
    refine lv_if_lt (tgt := 79) hx hb dX12_feed_39 (by decide) (fun q_6 => ?_) (fun q_6 => ?_)
    · replace h := h.1 q_6
      exact hk79 _ _ _ _ S (lv_sub hl [0] rfl) h
    · replace h := h.2 q_6
      refine lv_aload_n hx hb dX12_feed_42 rfl (lv_at hl 0 rfl) ?_
      refine o_get X S 0 4 (by decide) rfl rfl in_12 (by decide) k_871 rfl dX12_feed_43 ?_
      refine lv_aload_n hx hb dX12_feed_46 rfl (lv_at hl 0 rfl) ?_
      refine o_get X S 0 5 (by decide) rfl rfl in_12 (by decide) k_872 rfl dX12_feed_47 ?_
      refine lv_lload_n hx hb dX12_feed_50 rfl (lv_at hl 1 rfl) ?_
      refine lv_bipush (v := 8) hx hb dX12_feed_51 (by decide) ?_
      refine lv_iload hx hb dX12_feed_53 (lv_at hl 2 rfl) ?_
      refine lv_imul hx hb dX12_feed_55 ?_
      refine lv_lshr hx hb dX12_feed_56 rfl ?_
      refine lv_l2i hx hb dX12_feed_57 rfl ?_
      refine lv_sipush (v := 255) hx hb dX12_feed_58 (by decide) ?_
      refine lv_iand hx hb dX12_feed_61 ?_
      refine o_iast X S 4 0 (by decide) (fun _ => rfl) rfl h.1 dX12_feed_62 (fun σ_7 H locs eσ_7 S => ?_)
      replace h := h.2 σ_7 eσ_7
      refine lv_aload_n hx hb dX12_feed_63 rfl (lv_at hl 0 rfl) ?_
      refine lv_dup hx hb dX12_feed_64 rfl ?_
      refine o_get X S 0 5 (by decide) rfl rfl in_12 (by decide) k_872 rfl dX12_feed_65 ?_
      refine lv_iconst (v := 1) hx hb dX12_feed_68 (by decide) ?_
      refine lv_iadd hx hb dX12_feed_69 ?_
      refine o_puti X S (fs := fun c => [.int (c 0), .ref (ad 1), .ref (ad 2), .ref (ad 3), .ref (ad 4), .int (c 5), .int (c 6), .int (c 7), .ref (ad 5), .ref (ad 6), .ref (ad 7), .ref (ad 8), .int (c 12), .int (c 13), .int (c 14), .int (c 15), .ref (ad 9), .int (c 17), .int (c 18), .int (c 19), .ref (ad 10), .ref (ad 11), .ref (ad 12), .ref (ad 13), .ref (ad 14), .ref (ad 15), .ref (ad 16), .int (c 27), .int (c 28), .ref (ad 17), .ref (ad 18), .ref (ad 19), .ref (ad 20), .ref (ad 21), .ref (ad 22), .ref (ad 23), .ref (ad 24), .ref (ad 25), .ref (ad 26), .ref (ad 27), .ref (ad 28), .ref (ad 29), .int (c 42), .ref (ad 30), .ref (ad 31), .ref (ad 32), .ref (ad 33), .int (c 47)]) 0 5 (by decide) (fun _ => rfl) (fun _ _ => rfl) rfl in_12 tyX12_ok nmX12 (by decide) k_872 rfl rfl rfl rfl (fun _ => Nat.le_of_ble_eq_true rfl) dX12_feed_70 (fun σ_8 H locs eσ_8 S => ?_)
      replace h := h σ_8 eσ_8
      obtain ⟨x4_9, ex4_9⟩ : ∃ y : Int32, y = x4 + (-1) := ⟨_, rfl⟩
      replace h := h x4_9 ex4_9
      refine lv_iinc (v := x4_9) (lv' := [(4, .int x4_9), (0, .ref (ad 0)), (1, .long x1)]) hx hb dX12_feed_73 hl (k := 2) rfl (by rw [ex4_9]; rfl) (by decide) rfl (fun ls hl => ?_)
      refine lv_goto (tgt := 37) hx hb dX12_feed_76 (by decide) ?_
      exact ih _ _ _ _ _ S (lv_sub hl [1, 2, 0] rfl) h
set_option maxHeartbeats 4000000 in
set_option maxRecDepth 100000 in
theorem mX12_feed {D : va_G} {cy : Nat → ClassId} {ad : Nat → Nat} (l : Launch) (x1 : Int64) (x3 : Int32) (σ : Sg) (Q : Int64 → Sg → Prop) (h : wX12_feed x1 x3 σ Q) : MLM D cy ad l yX12_feed (.code yX12_feed cX12_feed 5 (some .long) :: gT) ({ frames := 1, cells := 0, slots := 0, locals := 22 }) [.ref (ad 0), .long x1, .int x3] σ Q := by
  refine metL_of (by decide +kernel) (Nat.le_of_ble_eq_true rfl) ?_
  intro p e s m args below meth c A ls X hr hl S
  have X : Fx D (tyM cy) EvM p s m args meth c cX12_feed 5 "BackBayModel" A := X
  have hl : lv_has ls 5 [(0, .ref (ad 0)), (1, .long x1), (3, .int x3)] := hl
  have hx := X.1
  have hb := X.2.1
  unfold wX12_feed at h
  refine lv_iload_n hx hb dX12_feed_0 rfl (lv_at hl 2 rfl) ?_
  refine lv_iconst (v := 1) hx hb dX12_feed_1 (by decide) ?_
  refine lv_bipush (v := 8) hx hb dX12_feed_2 (by decide) ?_
  refine o_callSi (k := 3) EvM_ok X S (mX12_within l x3 1 8 σ _ h) k_1021 k_1019 k_1020 k_14 ⟨by decide, by decide, by decide +kernel⟩ ⟨rfl, rfl⟩ ⟨Nat.le_of_ble_eq_true rfl, Nat.le_of_ble_eq_true rfl⟩ rfl hl.1 rfl (Nat.le_of_ble_eq_true rfl) dX12_feed_4 (fun r_1 σ_2 H locs h S => ?_)
  refine lv_if_ne (tgt := 15) hx hb dX12_feed_7 (by decide) (fun q_3 => ?_) (fun q_3 => ?_)
  · replace h := h.2 q_3
    refine lv_aload_n hx hb dX12_feed_15 rfl (lv_at hl 0 rfl) ?_
    refine o_get X S 0 5 (by decide) rfl rfl in_12 (by decide) k_872 rfl dX12_feed_16 ?_
    refine lv_iload_n hx hb dX12_feed_19 rfl (lv_at hl 2 rfl) ?_
    refine lv_iadd hx hb dX12_feed_20 ?_
    refine lv_sipush (v := 300) hx hb dX12_feed_21 (by decide) ?_
    refine lv_icmp_le (tgt := 32) hx hb dX12_feed_24 (by decide) (fun q_4 => ?_) (fun q_4 => ?_)
    · replace h := h.1 q_4
      refine lv_iload_n hx hb dX12_feed_32 rfl (lv_at hl 2 rfl) ?_
      refine lv_iconst (v := 1) hx hb dX12_feed_33 (by decide) ?_
      refine lv_isub hx hb dX12_feed_34 ?_
      refine lv_topi (fun x4_5 ex4_5 => ?_)
      replace h := h x4_5 ex4_5
      refine lv_istore (lv' := [(4, .int x4_5), (0, .ref (ad 0)), (1, .long x1), (3, .int x3)]) hx hb dX12_feed_35 hl (by decide) rfl (fun ls hl => ?_)
      obtain ⟨n_37, h⟩ := h
      refine mX12_feed_L37 l X hr x1 ?_ n_37 _ _ _ _ _ S (lv_sub hl [1, 2, 0] rfl) h
      · intro σ_10 H locs ls S hl h
        refine lv_aload_n hx hb dX12_feed_79 rfl (lv_at hl 0 rfl) ?_
        refine o_get X S 0 5 (by decide) rfl rfl in_12 (by decide) k_872 rfl dX12_feed_80 ?_
        refine lv_i2l hx hb dX12_feed_83 rfl ?_
        exact o_lret X S hr h dX12_feed_84
    · replace h := h.2 q_4
      refine lv_iconst (v := 3) hx hb dX12_feed_27 (by decide) ?_
      refine o_callSl (k := 1) EvM_ok X S (mX12_refused l 3 σ_2 _ h) k_1024 k_1022 k_1023 k_14 ⟨by decide, by decide, by decide +kernel⟩ ⟨rfl, rfl⟩ ⟨Nat.le_of_ble_eq_true rfl, Nat.le_of_ble_eq_true rfl⟩ rfl hl.1 rfl (Nat.le_of_ble_eq_true rfl) dX12_feed_28 (fun r_11 σ_12 H locs h S => ?_)
      exact o_lret X S hr h dX12_feed_31
  · replace h := h.1 q_3
    refine lv_iconst (v := 1) hx hb dX12_feed_10 (by decide) ?_
    refine o_callSl (k := 1) EvM_ok X S (mX12_refused l 1 σ_2 _ h) k_1024 k_1022 k_1023 k_14 ⟨by decide, by decide, by decide +kernel⟩ ⟨rfl, rfl⟩ ⟨Nat.le_of_ble_eq_true rfl, Nat.le_of_ble_eq_true rfl⟩ rfl hl.1 rfl (Nat.le_of_ble_eq_true rfl) dX12_feed_11 (fun r_13 σ_14 H locs h S => ?_)
    exact o_lret X S hr h dX12_feed_14
def wX12_isLetter (x0 : Int32) (σ : Sg) (Q : Int32 → Sg → Prop) : Prop :=
  (wX12_within x0 97 122 σ (fun r_1 σ_2 => (bok r_1 ∧ Q r_1 σ_2)))
set_option maxHeartbeats 4000000 in
set_option maxRecDepth 100000 in
theorem mX12_isLetter {D : va_G} {cy : Nat → ClassId} {ad : Nat → Nat} (l : Launch) (x0 : Int32) (σ : Sg) (Q : Int32 → Sg → Prop) (h : wX12_isLetter x0 σ Q) : MIM D cy ad l yX12_isLetter (.code yX12_isLetter cX12_isLetter 1 (some .boolean) :: gT) ({ frames := 1, cells := 0, slots := 0, locals := 22 }) [.int x0] σ Q := by
  refine metI_of (by decide +kernel) (Nat.le_of_ble_eq_true rfl) ?_
  intro p e s m args below meth c A ls X hr hl S
  have X : Fx D (tyM cy) EvM p s m args meth c cX12_isLetter 1 "BackBayModel" A := X
  have hl : lv_has ls 1 [(0, .int x0)] := hl
  have hx := X.1
  have hb := X.2.1
  unfold wX12_isLetter at h
  refine lv_iload_n hx hb dX12_isLetter_0 rfl (lv_at hl 0 rfl) ?_
  refine lv_bipush (v := 97) hx hb dX12_isLetter_1 (by decide) ?_
  refine lv_bipush (v := 122) hx hb dX12_isLetter_3 (by decide) ?_
  refine o_callSi (k := 3) EvM_ok X S (mX12_within l x0 97 122 σ _ h) k_1021 k_1019 k_1020 k_14 ⟨by decide, by decide, by decide +kernel⟩ ⟨rfl, rfl⟩ ⟨Nat.le_of_ble_eq_true rfl, Nat.le_of_ble_eq_true rfl⟩ rfl hl.1 rfl (Nat.le_of_ble_eq_true rfl) dX12_isLetter_5 (fun r_1 σ_2 H locs h S => ?_)
  exact o_zret X S hr h.1 h.2 dX12_isLetter_8
def wX12_isDigit (x0 : Int32) (σ : Sg) (Q : Int32 → Sg → Prop) : Prop :=
  (wX12_within x0 48 57 σ (fun r_1 σ_2 => (bok r_1 ∧ Q r_1 σ_2)))
set_option maxHeartbeats 4000000 in
set_option maxRecDepth 100000 in
theorem mX12_isDigit {D : va_G} {cy : Nat → ClassId} {ad : Nat → Nat} (l : Launch) (x0 : Int32) (σ : Sg) (Q : Int32 → Sg → Prop) (h : wX12_isDigit x0 σ Q) : MIM D cy ad l yX12_isDigit (.code yX12_isDigit cX12_isDigit 1 (some .boolean) :: gT) ({ frames := 1, cells := 0, slots := 0, locals := 22 }) [.int x0] σ Q := by
  refine metI_of (by decide +kernel) (Nat.le_of_ble_eq_true rfl) ?_
  intro p e s m args below meth c A ls X hr hl S
  have X : Fx D (tyM cy) EvM p s m args meth c cX12_isDigit 1 "BackBayModel" A := X
  have hl : lv_has ls 1 [(0, .int x0)] := hl
  have hx := X.1
  have hb := X.2.1
  unfold wX12_isDigit at h
  refine lv_iload_n hx hb dX12_isDigit_0 rfl (lv_at hl 0 rfl) ?_
  refine lv_bipush (v := 48) hx hb dX12_isDigit_1 (by decide) ?_
  refine lv_bipush (v := 57) hx hb dX12_isDigit_3 (by decide) ?_
  refine o_callSi (k := 3) EvM_ok X S (mX12_within l x0 48 57 σ _ h) k_1021 k_1019 k_1020 k_14 ⟨by decide, by decide, by decide +kernel⟩ ⟨rfl, rfl⟩ ⟨Nat.le_of_ble_eq_true rfl, Nat.le_of_ble_eq_true rfl⟩ rfl hl.1 rfl (Nat.le_of_ble_eq_true rfl) dX12_isDigit_5 (fun r_1 σ_2 H locs h S => ?_)
  exact o_zret X S hr h.1 h.2 dX12_isDigit_8
def wX12_token_b39 (σ : Sg) (k52 : Sg → Prop) (kb0 : Sg → Prop) (Q : Int32 → Sg → Prop) : Prop :=
  (∀ σ_3, σ_3 = sto σ 0 13 ((σ 0 13) + 1) → kb0 σ_3)
def wX12_token_L0 (k52 : Sg → Prop) (Q : Int32 → Sg → Prop) : Nat → Sg → Prop
  | 0, _ => False
  | nn0 + 1, σ =>
  (((σ 0 5) ≤ (σ 0 13) → k52 σ) ∧ (¬ (σ 0 5) ≤ (σ 0 13) → (vp_in (σ 0 13) 300 ∧ (((σ 4 (σ 0 13).toNatClampNeg) = 32 → wX12_token_b39 σ k52 (wX12_token_L0 k52 Q nn0) Q) ∧ (¬ (σ 4 (σ 0 13).toNatClampNeg) = 32 → (vp_in (σ 0 13) 300 ∧ (((σ 4 (σ 0 13).toNatClampNeg) = 10 → wX12_token_b39 σ k52 (wX12_token_L0 k52 Q nn0) Q) ∧ (¬ (σ 4 (σ 0 13).toNatClampNeg) = 10 → k52 σ))))))))
def wX12_token_b318 (y0 : Int32) (σ : Sg) (Q : Int32 → Sg → Prop) : Prop :=
  Q y0 σ
def wX12_token_b313 (σ : Sg) (Q : Int32 → Sg → Prop) : Prop :=
  wX12_token_b318 3 σ Q
def wX12_token_b245 (y0 : Int32) (σ : Sg) (k261 : Sg → Prop) (kb181 : Sg → Prop) (Q : Int32 → Sg → Prop) : Prop :=
  (∀ σ_27, σ_27 = sto σ 0 15 y0 → (∀ σ_28, σ_28 = sto σ_27 0 13 ((σ_27 0 13) + 1) → kb181 σ_28))
def wX12_token_L181 (k261 : Sg → Prop) (Q : Int32 → Sg → Prop) : Nat → Sg → Prop
  | 0, _ => False
  | nn181 + 1, σ =>
  (((σ 0 5) ≤ (σ 0 13) → k261 σ) ∧ (¬ (σ 0 5) ≤ (σ 0 13) → (vp_in (σ 0 13) 300 ∧ (wX12_isDigit (σ 4 (σ 0 13).toNatClampNeg) σ (fun r_23 σ_24 => ((r_23 = 0 → k261 σ_24) ∧ (¬ r_23 = 0 → ((((σ_24 0 14) + 4) ≤ (σ_24 0 13) → wX12_token_b245 (-1) σ_24 k261 (wX12_token_L181 k261 Q nn181) Q) ∧ (¬ ((σ_24 0 14) + 4) ≤ (σ_24 0 13) → (vp_in (σ_24 0 13) 300 ∧ wX12_token_b245 (((10 * (σ_24 0 15)) + (σ_24 4 (σ_24 0 13).toNatClampNeg)) - 48) σ_24 k261 (wX12_token_L181 k261 Q nn181) Q))))))))))
def wX12_token_b273 (y0 : Int32) (σ : Sg) (Q : Int32 → Sg → Prop) : Prop :=
  Q y0 σ
def wX12_token_b261 (σ : Sg) (Q : Int32 → Sg → Prop) : Prop :=
  ((0 ≤ (σ 0 15) → wX12_token_b273 2 σ Q) ∧ (¬ 0 ≤ (σ 0 15) → wX12_token_b273 4 σ Q))
def wX12_token_b153 (x2 : Int32) (y0 : Int32) (σ : Sg) (k172 : Sg → Prop) (kb97 : Int32 → Sg → Prop) (Q : Int32 → Sg → Prop) : Prop :=
  (∀ σ_36, σ_36 = sto σ 0 15 y0 → (∀ x2_37 : Int32, x2_37 = x2 + 1 → (∀ σ_38, σ_38 = sto σ_36 0 13 ((σ_36 0 13) + 1) → kb97 x2_37 σ_38)))
def wX12_token_L97 (k172 : Sg → Prop) (Q : Int32 → Sg → Prop) : Nat → Int32 → Sg → Prop
  | 0, _, _ => False
  | nn97 + 1, x2, σ =>
  (((σ 0 5) ≤ (σ 0 13) → k172 σ) ∧ (¬ (σ 0 5) ≤ (σ 0 13) → (vp_in (σ 0 13) 300 ∧ (wX12_isLetter (σ 4 (σ 0 13).toNatClampNeg) σ (fun r_32 σ_33 => ((r_32 = 0 → k172 σ_33) ∧ (¬ r_32 = 0 → ((4 ≤ x2 → wX12_token_b153 x2 (-1) σ_33 k172 (wX12_token_L97 k172 Q nn97) Q) ∧ (¬ 4 ≤ x2 → (vp_in (σ_33 0 13) 300 ∧ wX12_token_b153 x2 (((27 * (σ_33 0 15)) + (σ_33 4 (σ_33 0 13).toNatClampNeg)) - 96) σ_33 k172 (wX12_token_L97 k172 Q nn97) Q))))))))))
def wX12_token_b172 (σ : Sg) (Q : Int32 → Sg → Prop) : Prop :=
  Q 1 σ
def wX12_token_b52 (σ : Sg) (Q : Int32 → Sg → Prop) : Prop :=
  (∀ σ_6, σ_6 = sto σ 0 14 (σ 0 13) → (((σ_6 0 13) = (σ_6 0 5) → Q 0 σ_6) ∧ (¬ (σ_6 0 13) = (σ_6 0 5) → (vp_in (σ_6 0 13) 300 ∧ (∀ x1_8, x1_8 = (σ_6 4 (σ_6 0 13).toNatClampNeg) → (∀ σ_9, σ_9 = sto σ_6 0 15 0 → (wX12_isLetter x1_8 σ_9 (fun r_10 σ_11 => ((r_10 = 0 → (wX12_isDigit x1_8 σ_11 (fun r_13 σ_14 => ((r_13 = 0 → (∀ σ_16, σ_16 = sto σ_14 0 13 ((σ_14 0 13) + 1) → (∀ σ_17, σ_17 = sto σ_16 0 15 x1_8 → ((x1_8 = 59 → wX12_token_b313 σ_17 Q) ∧ (¬ x1_8 = 59 → ((x1_8 = 43 → wX12_token_b313 σ_17 Q) ∧ (¬ x1_8 = 43 → ((x1_8 = 45 → wX12_token_b313 σ_17 Q) ∧ (¬ x1_8 = 45 → ((x1_8 = 42 → wX12_token_b313 σ_17 Q) ∧ (¬ x1_8 = 42 → wX12_token_b318 4 σ_17 Q))))))))))) ∧ (¬ r_13 = 0 → (∃ nf, wX12_token_L181 (fun σ_29 => wX12_token_b261 σ_29 Q) Q nf σ_14)))))) ∧ (¬ r_10 = 0 → (∃ nf, wX12_token_L97 (fun σ_39 => wX12_token_b172 σ_39 Q) Q nf 0 σ_11)))))))))))
def wX12_token (σ : Sg) (Q : Int32 → Sg → Prop) : Prop :=
  (∃ nf, wX12_token_L0 (fun σ_5 => wX12_token_b52 σ_5 Q) Q nf σ)
set_option maxHeartbeats 4000000 in
set_option maxRecDepth 100000 in
theorem mX12_token_b39 {D : va_G} {cy : Nat → ClassId} {ad : Nat → Nat} (l : Launch) {p : Program} {e : Env} {s : State} {m : MethodId} {args : Array Value} {below : List Frame} {meth : Method} {c : Code} {A : Nat → Prop} {k52 : Sg → Prop} {kb0 : Sg → Prop} {Q : Int32 → Sg → Prop} (X : Fx D (tyM cy) EvM p s m args meth c cX12_token 3 "BackBayModel" A) (hr : meth.sig.returnType = some .int) (hk52 : ∀ (σ : Sg) (H : Heap) (locs : List Loc) (ls : Array Slot), St D ad 34 (shM cy ad) A s σ H locs → lv_has ls 3 [(0, .ref (ad 0))] → k52 σ → W p l e ({ frames := 2, cells := 0, slots := 0, locals := 42 }) s m args below meth c H locs 0 0 (MQ below (va_Qi Q (PosW D (tyM cy) ad 34 (shM cy ad) A) A) args s 0 0 A) (F0 m 52 ls [])) (hkb0 : ∀ (σ : Sg) (H : Heap) (locs : List Loc) (ls : Array Slot), St D ad 34 (shM cy ad) A s σ H locs → lv_has ls 3 [(0, .ref (ad 0))] → kb0 σ → W p l e ({ frames := 2, cells := 0, slots := 0, locals := 42 }) s m args below meth c H locs 0 0 (MQ below (va_Qi Q (PosW D (tyM cy) ad 34 (shM cy ad) A) A) args s 0 0 A) (F0 m 0 ls [])) {σ : Sg} {H : Heap} {locs : List Loc} {ls : Array Slot} (S : St D ad 34 (shM cy ad) A s σ H locs) (hl : lv_has ls 3 [(0, .ref (ad 0))]) (h : wX12_token_b39 σ k52 kb0 Q) : W p l e ({ frames := 2, cells := 0, slots := 0, locals := 42 }) s m args below meth c H locs 0 0 (MQ below (va_Qi Q (PosW D (tyM cy) ad 34 (shM cy ad) A) A) args s 0 0 A) (F0 m 39 ls []) := by
  have hx := X.1
  have hb := X.2.1
  unfold wX12_token_b39 at h
  refine lv_aload_n hx hb dX12_token_39 rfl (lv_at hl 0 rfl) ?_
  refine lv_dup hx hb dX12_token_40 rfl ?_
  refine o_get X S 0 13 (by decide) rfl rfl in_12 (by decide) k_880 rfl dX12_token_41 ?_
  refine lv_iconst (v := 1) hx hb dX12_token_44 (by decide) ?_
  refine lv_iadd hx hb dX12_token_45 ?_
  refine o_puti X S (fs := fun c => [.int (c 0), .ref (ad 1), .ref (ad 2), .ref (ad 3), .ref (ad 4), .int (c 5), .int (c 6), .int (c 7), .ref (ad 5), .ref (ad 6), .ref (ad 7), .ref (ad 8), .int (c 12), .int (c 13), .int (c 14), .int (c 15), .ref (ad 9), .int (c 17), .int (c 18), .int (c 19), .ref (ad 10), .ref (ad 11), .ref (ad 12), .ref (ad 13), .ref (ad 14), .ref (ad 15), .ref (ad 16), .int (c 27), .int (c 28), .ref (ad 17), .ref (ad 18), .ref (ad 19), .ref (ad 20), .ref (ad 21), .ref (ad 22), .ref (ad 23), .ref (ad 24), .ref (ad 25), .ref (ad 26), .ref (ad 27), .ref (ad 28), .ref (ad 29), .int (c 42), .ref (ad 30), .ref (ad 31), .ref (ad 32), .ref (ad 33), .int (c 47)]) 0 13 (by decide) (fun _ => rfl) (fun _ _ => rfl) rfl in_12 tyX12_ok nmX12 (by decide) k_880 rfl rfl rfl rfl (fun _ => Nat.le_of_ble_eq_true rfl) dX12_token_46 (fun σ_3 H locs eσ_3 S => ?_)
  replace h := h σ_3 eσ_3
  refine lv_goto (tgt := 0) hx hb dX12_token_49 (by decide) ?_
  exact hkb0 _ _ _ _ S (lv_sub hl [0] rfl) h
set_option maxHeartbeats 4000000 in
set_option maxRecDepth 100000 in
theorem mX12_token_L0 {D : va_G} {cy : Nat → ClassId} {ad : Nat → Nat} (l : Launch) {p : Program} {e : Env} {s : State} {m : MethodId} {args : Array Value} {below : List Frame} {meth : Method} {c : Code} {A : Nat → Prop} {k52 : Sg → Prop} {Q : Int32 → Sg → Prop} (X : Fx D (tyM cy) EvM p s m args meth c cX12_token 3 "BackBayModel" A) (hr : meth.sig.returnType = some .int) (hk52 : ∀ (σ : Sg) (H : Heap) (locs : List Loc) (ls : Array Slot), St D ad 34 (shM cy ad) A s σ H locs → lv_has ls 3 [(0, .ref (ad 0))] → k52 σ → W p l e ({ frames := 2, cells := 0, slots := 0, locals := 42 }) s m args below meth c H locs 0 0 (MQ below (va_Qi Q (PosW D (tyM cy) ad 34 (shM cy ad) A) A) args s 0 0 A) (F0 m 52 ls [])) : ∀ (n : Nat) (σ : Sg) (H : Heap) (locs : List Loc) (ls : Array Slot), St D ad 34 (shM cy ad) A s σ H locs → lv_has ls 3 [(0, .ref (ad 0))] → wX12_token_L0 k52 Q n σ → W p l e ({ frames := 2, cells := 0, slots := 0, locals := 42 }) s m args below meth c H locs 0 0 (MQ below (va_Qi Q (PosW D (tyM cy) ad 34 (shM cy ad) A) A) args s 0 0 A) (F0 m 0 ls []) := by
  have hx := X.1
  have hb := X.2.1
  intro n
  induction n with
  | zero =>
    intro _ _ _ _ _ _ h
    exact absurd h (by unfold wX12_token_L0; exact id)
  | succ n ih =>
    intro σ H locs ls S hl h
    unfold wX12_token_L0 at h
    refine lv_aload_n hx hb dX12_token_0 rfl (lv_at hl 0 rfl) ?_
    refine o_get X S 0 13 (by decide) rfl rfl in_12 (by decide) k_880 rfl dX12_token_1 ?_
    refine lv_aload_n hx hb dX12_token_4 rfl (lv_at hl 0 rfl) ?_
    refine o_get X S 0 5 (by decide) rfl rfl in_12 (by decide) k_872 rfl dX12_token_5 ?_
    refine lv_icmp_ge (tgt := 52) hx hb dX12_token_8 (by decide) (fun q_1 => ?_) (fun q_1 => ?_)
    · replace h := h.1 q_1
      exact hk52 _ _ _ _ S (lv_sub hl [0] rfl) h
    · replace h := h.2 q_1
      refine lv_aload_n hx hb dX12_token_11 rfl (lv_at hl 0 rfl) ?_
      refine o_get X S 0 4 (by decide) rfl rfl in_12 (by decide) k_871 rfl dX12_token_12 ?_
      refine lv_aload_n hx hb dX12_token_15 rfl (lv_at hl 0 rfl) ?_
      refine o_get X S 0 13 (by decide) rfl rfl in_12 (by decide) k_880 rfl dX12_token_16 ?_
      refine o_iald X S 4 0 (by decide) (fun _ => rfl) rfl h.1 dX12_token_19 ?_
      replace h := h.2
      refine lv_bipush (v := 32) hx hb dX12_token_20 (by decide) ?_
      refine lv_icmp_eq (tgt := 39) hx hb dX12_token_22 (by decide) (fun q_2 => ?_) (fun q_2 => ?_)
      · replace h := h.1 q_2
        exact mX12_token_b39 l X hr hk52 ih S (lv_sub hl [0] rfl) h
      · replace h := h.2 q_2
        refine lv_aload_n hx hb dX12_token_25 rfl (lv_at hl 0 rfl) ?_
        refine o_get X S 0 4 (by decide) rfl rfl in_12 (by decide) k_871 rfl dX12_token_26 ?_
        refine lv_aload_n hx hb dX12_token_29 rfl (lv_at hl 0 rfl) ?_
        refine o_get X S 0 13 (by decide) rfl rfl in_12 (by decide) k_880 rfl dX12_token_30 ?_
        refine o_iald X S 4 0 (by decide) (fun _ => rfl) rfl h.1 dX12_token_33 ?_
        replace h := h.2
        refine lv_bipush (v := 10) hx hb dX12_token_34 (by decide) ?_
        refine lv_icmp_ne (tgt := 52) hx hb dX12_token_36 (by decide) (fun q_4 => ?_) (fun q_4 => ?_)
        · replace h := h.2 q_4
          exact hk52 _ _ _ _ S (lv_sub hl [0] rfl) h
        · replace h := h.1 q_4
          exact mX12_token_b39 l X hr hk52 ih S (lv_sub hl [0] rfl) h
set_option maxHeartbeats 4000000 in
set_option maxRecDepth 100000 in
theorem mX12_token_b318 {D : va_G} {cy : Nat → ClassId} {ad : Nat → Nat} (l : Launch) {p : Program} {e : Env} {s : State} {m : MethodId} {args : Array Value} {below : List Frame} {meth : Method} {c : Code} {A : Nat → Prop} {Q : Int32 → Sg → Prop} (X : Fx D (tyM cy) EvM p s m args meth c cX12_token 3 "BackBayModel" A) (hr : meth.sig.returnType = some .int) (y0 : Int32) {σ : Sg} {H : Heap} {locs : List Loc} {ls : Array Slot} (S : St D ad 34 (shM cy ad) A s σ H locs) (hl : lv_has ls 3 []) (h : wX12_token_b318 y0 σ Q) : W p l e ({ frames := 2, cells := 0, slots := 0, locals := 42 }) s m args below meth c H locs 0 0 (MQ below (va_Qi Q (PosW D (tyM cy) ad 34 (shM cy ad) A) A) args s 0 0 A) (F0 m 318 ls [.int y0]) := by
  have hx := X.1
  have hb := X.2.1
  unfold wX12_token_b318 at h
  exact o_iret X S hr h dX12_token_318
set_option maxHeartbeats 4000000 in
set_option maxRecDepth 100000 in
theorem mX12_token_b313 {D : va_G} {cy : Nat → ClassId} {ad : Nat → Nat} (l : Launch) {p : Program} {e : Env} {s : State} {m : MethodId} {args : Array Value} {below : List Frame} {meth : Method} {c : Code} {A : Nat → Prop} {Q : Int32 → Sg → Prop} (X : Fx D (tyM cy) EvM p s m args meth c cX12_token 3 "BackBayModel" A) (hr : meth.sig.returnType = some .int) {σ : Sg} {H : Heap} {locs : List Loc} {ls : Array Slot} (S : St D ad 34 (shM cy ad) A s σ H locs) (hl : lv_has ls 3 []) (h : wX12_token_b313 σ Q) : W p l e ({ frames := 2, cells := 0, slots := 0, locals := 42 }) s m args below meth c H locs 0 0 (MQ below (va_Qi Q (PosW D (tyM cy) ad 34 (shM cy ad) A) A) args s 0 0 A) (F0 m 313 ls []) := by
  have hx := X.1
  have hb := X.2.1
  unfold wX12_token_b313 at h
  refine lv_iconst (v := 3) hx hb dX12_token_313 (by decide) ?_
  refine lv_goto (tgt := 318) hx hb dX12_token_314 (by decide) ?_
  exact mX12_token_b318 l X hr 3 S (lv_sub hl [] rfl) h
set_option maxHeartbeats 4000000 in
set_option maxRecDepth 100000 in
theorem mX12_token_b245 {D : va_G} {cy : Nat → ClassId} {ad : Nat → Nat} (l : Launch) {p : Program} {e : Env} {s : State} {m : MethodId} {args : Array Value} {below : List Frame} {meth : Method} {c : Code} {A : Nat → Prop} {k261 : Sg → Prop} {kb181 : Sg → Prop} {Q : Int32 → Sg → Prop} (X : Fx D (tyM cy) EvM p s m args meth c cX12_token 3 "BackBayModel" A) (hr : meth.sig.returnType = some .int) (y0 : Int32) (hk261 : ∀ (σ : Sg) (H : Heap) (locs : List Loc) (ls : Array Slot), St D ad 34 (shM cy ad) A s σ H locs → lv_has ls 3 [(0, .ref (ad 0))] → k261 σ → W p l e ({ frames := 2, cells := 0, slots := 0, locals := 42 }) s m args below meth c H locs 0 0 (MQ below (va_Qi Q (PosW D (tyM cy) ad 34 (shM cy ad) A) A) args s 0 0 A) (F0 m 261 ls [])) (hkb181 : ∀ (σ : Sg) (H : Heap) (locs : List Loc) (ls : Array Slot), St D ad 34 (shM cy ad) A s σ H locs → lv_has ls 3 [(0, .ref (ad 0))] → kb181 σ → W p l e ({ frames := 2, cells := 0, slots := 0, locals := 42 }) s m args below meth c H locs 0 0 (MQ below (va_Qi Q (PosW D (tyM cy) ad 34 (shM cy ad) A) A) args s 0 0 A) (F0 m 181 ls [])) {σ : Sg} {H : Heap} {locs : List Loc} {ls : Array Slot} (S : St D ad 34 (shM cy ad) A s σ H locs) (hl : lv_has ls 3 [(0, .ref (ad 0))]) (h : wX12_token_b245 y0 σ k261 kb181 Q) : W p l e ({ frames := 2, cells := 0, slots := 0, locals := 42 }) s m args below meth c H locs 0 0 (MQ below (va_Qi Q (PosW D (tyM cy) ad 34 (shM cy ad) A) A) args s 0 0 A) (F0 m 245 ls [.int y0, .ref (ad 0)]) := by
  have hx := X.1
  have hb := X.2.1
  unfold wX12_token_b245 at h
  refine o_puti X S (fs := fun c => [.int (c 0), .ref (ad 1), .ref (ad 2), .ref (ad 3), .ref (ad 4), .int (c 5), .int (c 6), .int (c 7), .ref (ad 5), .ref (ad 6), .ref (ad 7), .ref (ad 8), .int (c 12), .int (c 13), .int (c 14), .int (c 15), .ref (ad 9), .int (c 17), .int (c 18), .int (c 19), .ref (ad 10), .ref (ad 11), .ref (ad 12), .ref (ad 13), .ref (ad 14), .ref (ad 15), .ref (ad 16), .int (c 27), .int (c 28), .ref (ad 17), .ref (ad 18), .ref (ad 19), .ref (ad 20), .ref (ad 21), .ref (ad 22), .ref (ad 23), .ref (ad 24), .ref (ad 25), .ref (ad 26), .ref (ad 27), .ref (ad 28), .ref (ad 29), .int (c 42), .ref (ad 30), .ref (ad 31), .ref (ad 32), .ref (ad 33), .int (c 47)]) 0 15 (by decide) (fun _ => rfl) (fun _ _ => rfl) rfl in_12 tyX12_ok nmX12 (by decide) k_882 rfl rfl rfl rfl (fun _ => Nat.le_of_ble_eq_true rfl) dX12_token_245 (fun σ_27 H locs eσ_27 S => ?_)
  replace h := h σ_27 eσ_27
  refine lv_aload_n hx hb dX12_token_248 rfl (lv_at hl 0 rfl) ?_
  refine lv_dup hx hb dX12_token_249 rfl ?_
  refine o_get X S 0 13 (by decide) rfl rfl in_12 (by decide) k_880 rfl dX12_token_250 ?_
  refine lv_iconst (v := 1) hx hb dX12_token_253 (by decide) ?_
  refine lv_iadd hx hb dX12_token_254 ?_
  refine o_puti X S (fs := fun c => [.int (c 0), .ref (ad 1), .ref (ad 2), .ref (ad 3), .ref (ad 4), .int (c 5), .int (c 6), .int (c 7), .ref (ad 5), .ref (ad 6), .ref (ad 7), .ref (ad 8), .int (c 12), .int (c 13), .int (c 14), .int (c 15), .ref (ad 9), .int (c 17), .int (c 18), .int (c 19), .ref (ad 10), .ref (ad 11), .ref (ad 12), .ref (ad 13), .ref (ad 14), .ref (ad 15), .ref (ad 16), .int (c 27), .int (c 28), .ref (ad 17), .ref (ad 18), .ref (ad 19), .ref (ad 20), .ref (ad 21), .ref (ad 22), .ref (ad 23), .ref (ad 24), .ref (ad 25), .ref (ad 26), .ref (ad 27), .ref (ad 28), .ref (ad 29), .int (c 42), .ref (ad 30), .ref (ad 31), .ref (ad 32), .ref (ad 33), .int (c 47)]) 0 13 (by decide) (fun _ => rfl) (fun _ _ => rfl) rfl in_12 tyX12_ok nmX12 (by decide) k_880 rfl rfl rfl rfl (fun _ => Nat.le_of_ble_eq_true rfl) dX12_token_255 (fun σ_28 H locs eσ_28 S => ?_)
  replace h := h σ_28 eσ_28
  refine lv_goto (tgt := 181) hx hb dX12_token_258 (by decide) ?_
  exact hkb181 _ _ _ _ S (lv_sub hl [0] rfl) h
set_option maxHeartbeats 4000000 in
set_option maxRecDepth 100000 in
theorem mX12_token_L181 {D : va_G} {cy : Nat → ClassId} {ad : Nat → Nat} (l : Launch) {p : Program} {e : Env} {s : State} {m : MethodId} {args : Array Value} {below : List Frame} {meth : Method} {c : Code} {A : Nat → Prop} {k261 : Sg → Prop} {Q : Int32 → Sg → Prop} (X : Fx D (tyM cy) EvM p s m args meth c cX12_token 3 "BackBayModel" A) (hr : meth.sig.returnType = some .int) (hk261 : ∀ (σ : Sg) (H : Heap) (locs : List Loc) (ls : Array Slot), St D ad 34 (shM cy ad) A s σ H locs → lv_has ls 3 [(0, .ref (ad 0))] → k261 σ → W p l e ({ frames := 2, cells := 0, slots := 0, locals := 42 }) s m args below meth c H locs 0 0 (MQ below (va_Qi Q (PosW D (tyM cy) ad 34 (shM cy ad) A) A) args s 0 0 A) (F0 m 261 ls [])) : ∀ (n : Nat) (σ : Sg) (H : Heap) (locs : List Loc) (ls : Array Slot), St D ad 34 (shM cy ad) A s σ H locs → lv_has ls 3 [(0, .ref (ad 0))] → wX12_token_L181 k261 Q n σ → W p l e ({ frames := 2, cells := 0, slots := 0, locals := 42 }) s m args below meth c H locs 0 0 (MQ below (va_Qi Q (PosW D (tyM cy) ad 34 (shM cy ad) A) A) args s 0 0 A) (F0 m 181 ls []) := by
  have hx := X.1
  have hb := X.2.1
  intro n
  induction n with
  | zero =>
    intro _ _ _ _ _ _ h
    exact absurd h (by unfold wX12_token_L181; exact id)
  | succ n ih =>
    intro σ H locs ls S hl h
    unfold wX12_token_L181 at h
    refine lv_aload_n hx hb dX12_token_181 rfl (lv_at hl 0 rfl) ?_
    refine o_get X S 0 13 (by decide) rfl rfl in_12 (by decide) k_880 rfl dX12_token_182 ?_
    refine lv_aload_n hx hb dX12_token_185 rfl (lv_at hl 0 rfl) ?_
    refine o_get X S 0 5 (by decide) rfl rfl in_12 (by decide) k_872 rfl dX12_token_186 ?_
    refine lv_icmp_ge (tgt := 261) hx hb dX12_token_189 (by decide) (fun q_22 => ?_) (fun q_22 => ?_)
    · replace h := h.1 q_22
      exact hk261 _ _ _ _ S (lv_sub hl [0] rfl) h
    · replace h := h.2 q_22
      refine lv_aload_n hx hb dX12_token_192 rfl (lv_at hl 0 rfl) ?_
      refine o_get X S 0 4 (by decide) rfl rfl in_12 (by decide) k_871 rfl dX12_token_193 ?_
      refine lv_aload_n hx hb dX12_token_196 rfl (lv_at hl 0 rfl) ?_
      refine o_get X S 0 13 (by decide) rfl rfl in_12 (by decide) k_880 rfl dX12_token_197 ?_
      refine o_iald X S 4 0 (by decide) (fun _ => rfl) rfl h.1 dX12_token_200 ?_
      replace h := h.2
      refine o_callSi (k := 1) EvM_ok X S (mX12_isDigit l (σ 4 (σ 0 13).toNatClampNeg) σ _ h) k_1067 k_1065 k_1066 k_14 ⟨by decide, by decide, by decide +kernel⟩ ⟨rfl, rfl⟩ ⟨Nat.le_of_ble_eq_true rfl, Nat.le_of_ble_eq_true rfl⟩ rfl hl.1 rfl (Nat.le_of_ble_eq_true rfl) dX12_token_201 (fun r_23 σ_24 H locs h S => ?_)
      refine lv_if_eq (tgt := 261) hx hb dX12_token_204 (by decide) (fun q_25 => ?_) (fun q_25 => ?_)
      · replace h := h.1 q_25
        exact hk261 _ _ _ _ S (lv_sub hl [0] rfl) h
      · replace h := h.2 q_25
        refine lv_aload_n hx hb dX12_token_207 rfl (lv_at hl 0 rfl) ?_
        refine lv_aload_n hx hb dX12_token_208 rfl (lv_at hl 0 rfl) ?_
        refine o_get X S 0 13 (by decide) rfl rfl in_12 (by decide) k_880 rfl dX12_token_209 ?_
        refine lv_aload_n hx hb dX12_token_212 rfl (lv_at hl 0 rfl) ?_
        refine o_get X S 0 14 (by decide) rfl rfl in_12 (by decide) k_881 rfl dX12_token_213 ?_
        refine lv_iconst (v := 4) hx hb dX12_token_216 (by decide) ?_
        refine lv_iadd hx hb dX12_token_217 ?_
        refine lv_icmp_ge (tgt := 244) hx hb dX12_token_218 (by decide) (fun q_26 => ?_) (fun q_26 => ?_)
        · replace h := h.1 q_26
          refine lv_iconst (v := (-1)) hx hb dX12_token_244 (by decide) ?_
          exact mX12_token_b245 l X hr (-1) hk261 ih S (lv_sub hl [0] rfl) h
        · replace h := h.2 q_26
          refine lv_bipush (v := 10) hx hb dX12_token_221 (by decide) ?_
          refine lv_aload_n hx hb dX12_token_223 rfl (lv_at hl 0 rfl) ?_
          refine o_get X S 0 15 (by decide) rfl rfl in_12 (by decide) k_882 rfl dX12_token_224 ?_
          refine lv_imul hx hb dX12_token_227 ?_
          refine lv_aload_n hx hb dX12_token_228 rfl (lv_at hl 0 rfl) ?_
          refine o_get X S 0 4 (by decide) rfl rfl in_12 (by decide) k_871 rfl dX12_token_229 ?_
          refine lv_aload_n hx hb dX12_token_232 rfl (lv_at hl 0 rfl) ?_
          refine o_get X S 0 13 (by decide) rfl rfl in_12 (by decide) k_880 rfl dX12_token_233 ?_
          refine o_iald X S 4 0 (by decide) (fun _ => rfl) rfl h.1 dX12_token_236 ?_
          replace h := h.2
          refine lv_iadd hx hb dX12_token_237 ?_
          refine lv_bipush (v := 48) hx hb dX12_token_238 (by decide) ?_
          refine lv_isub hx hb dX12_token_240 ?_
          refine lv_goto (tgt := 245) hx hb dX12_token_241 (by decide) ?_
          exact mX12_token_b245 l X hr (((10 * (σ_24 0 15)) + (σ_24 4 (σ_24 0 13).toNatClampNeg)) - 48) hk261 ih S (lv_sub hl [0] rfl) h
set_option maxHeartbeats 4000000 in
set_option maxRecDepth 100000 in
theorem mX12_token_b273 {D : va_G} {cy : Nat → ClassId} {ad : Nat → Nat} (l : Launch) {p : Program} {e : Env} {s : State} {m : MethodId} {args : Array Value} {below : List Frame} {meth : Method} {c : Code} {A : Nat → Prop} {Q : Int32 → Sg → Prop} (X : Fx D (tyM cy) EvM p s m args meth c cX12_token 3 "BackBayModel" A) (hr : meth.sig.returnType = some .int) (y0 : Int32) {σ : Sg} {H : Heap} {locs : List Loc} {ls : Array Slot} (S : St D ad 34 (shM cy ad) A s σ H locs) (hl : lv_has ls 3 []) (h : wX12_token_b273 y0 σ Q) : W p l e ({ frames := 2, cells := 0, slots := 0, locals := 42 }) s m args below meth c H locs 0 0 (MQ below (va_Qi Q (PosW D (tyM cy) ad 34 (shM cy ad) A) A) args s 0 0 A) (F0 m 273 ls [.int y0]) := by
  have hx := X.1
  have hb := X.2.1
  unfold wX12_token_b273 at h
  exact o_iret X S hr h dX12_token_273
set_option maxHeartbeats 4000000 in
set_option maxRecDepth 100000 in
theorem mX12_token_b261 {D : va_G} {cy : Nat → ClassId} {ad : Nat → Nat} (l : Launch) {p : Program} {e : Env} {s : State} {m : MethodId} {args : Array Value} {below : List Frame} {meth : Method} {c : Code} {A : Nat → Prop} {Q : Int32 → Sg → Prop} (X : Fx D (tyM cy) EvM p s m args meth c cX12_token 3 "BackBayModel" A) (hr : meth.sig.returnType = some .int) {σ : Sg} {H : Heap} {locs : List Loc} {ls : Array Slot} (S : St D ad 34 (shM cy ad) A s σ H locs) (hl : lv_has ls 3 [(0, .ref (ad 0))]) (h : wX12_token_b261 σ Q) : W p l e ({ frames := 2, cells := 0, slots := 0, locals := 42 }) s m args below meth c H locs 0 0 (MQ below (va_Qi Q (PosW D (tyM cy) ad 34 (shM cy ad) A) A) args s 0 0 A) (F0 m 261 ls []) := by
  have hx := X.1
  have hb := X.2.1
  unfold wX12_token_b261 at h
  refine lv_aload_n hx hb dX12_token_261 rfl (lv_at hl 0 rfl) ?_
  refine o_get X S 0 15 (by decide) rfl rfl in_12 (by decide) k_882 rfl dX12_token_262 ?_
  refine lv_if_ge (tgt := 272) hx hb dX12_token_265 (by decide) (fun q_30 => ?_) (fun q_30 => ?_)
  · replace h := h.1 q_30
    refine lv_iconst (v := 2) hx hb dX12_token_272 (by decide) ?_
    exact mX12_token_b273 l X hr 2 S (lv_sub hl [] rfl) h
  · replace h := h.2 q_30
    refine lv_iconst (v := 4) hx hb dX12_token_268 (by decide) ?_
    refine lv_goto (tgt := 273) hx hb dX12_token_269 (by decide) ?_
    exact mX12_token_b273 l X hr 4 S (lv_sub hl [] rfl) h
set_option maxHeartbeats 4000000 in
set_option maxRecDepth 100000 in
theorem mX12_token_b153 {D : va_G} {cy : Nat → ClassId} {ad : Nat → Nat} (l : Launch) {p : Program} {e : Env} {s : State} {m : MethodId} {args : Array Value} {below : List Frame} {meth : Method} {c : Code} {A : Nat → Prop} {k172 : Sg → Prop} {kb97 : Int32 → Sg → Prop} {Q : Int32 → Sg → Prop} (X : Fx D (tyM cy) EvM p s m args meth c cX12_token 3 "BackBayModel" A) (hr : meth.sig.returnType = some .int) (x2 : Int32) (y0 : Int32) (hk172 : ∀ (σ : Sg) (H : Heap) (locs : List Loc) (ls : Array Slot), St D ad 34 (shM cy ad) A s σ H locs → lv_has ls 3 [] → k172 σ → W p l e ({ frames := 2, cells := 0, slots := 0, locals := 42 }) s m args below meth c H locs 0 0 (MQ below (va_Qi Q (PosW D (tyM cy) ad 34 (shM cy ad) A) A) args s 0 0 A) (F0 m 172 ls [])) (hkb97 : ∀ (x2 : Int32) (σ : Sg) (H : Heap) (locs : List Loc) (ls : Array Slot), St D ad 34 (shM cy ad) A s σ H locs → lv_has ls 3 [(0, .ref (ad 0)), (2, .int x2)] → kb97 x2 σ → W p l e ({ frames := 2, cells := 0, slots := 0, locals := 42 }) s m args below meth c H locs 0 0 (MQ below (va_Qi Q (PosW D (tyM cy) ad 34 (shM cy ad) A) A) args s 0 0 A) (F0 m 97 ls [])) {σ : Sg} {H : Heap} {locs : List Loc} {ls : Array Slot} (S : St D ad 34 (shM cy ad) A s σ H locs) (hl : lv_has ls 3 [(0, .ref (ad 0)), (2, .int x2)]) (h : wX12_token_b153 x2 y0 σ k172 kb97 Q) : W p l e ({ frames := 2, cells := 0, slots := 0, locals := 42 }) s m args below meth c H locs 0 0 (MQ below (va_Qi Q (PosW D (tyM cy) ad 34 (shM cy ad) A) A) args s 0 0 A) (F0 m 153 ls [.int y0, .ref (ad 0)]) := by
  have hx := X.1
  have hb := X.2.1
  unfold wX12_token_b153 at h
  refine o_puti X S (fs := fun c => [.int (c 0), .ref (ad 1), .ref (ad 2), .ref (ad 3), .ref (ad 4), .int (c 5), .int (c 6), .int (c 7), .ref (ad 5), .ref (ad 6), .ref (ad 7), .ref (ad 8), .int (c 12), .int (c 13), .int (c 14), .int (c 15), .ref (ad 9), .int (c 17), .int (c 18), .int (c 19), .ref (ad 10), .ref (ad 11), .ref (ad 12), .ref (ad 13), .ref (ad 14), .ref (ad 15), .ref (ad 16), .int (c 27), .int (c 28), .ref (ad 17), .ref (ad 18), .ref (ad 19), .ref (ad 20), .ref (ad 21), .ref (ad 22), .ref (ad 23), .ref (ad 24), .ref (ad 25), .ref (ad 26), .ref (ad 27), .ref (ad 28), .ref (ad 29), .int (c 42), .ref (ad 30), .ref (ad 31), .ref (ad 32), .ref (ad 33), .int (c 47)]) 0 15 (by decide) (fun _ => rfl) (fun _ _ => rfl) rfl in_12 tyX12_ok nmX12 (by decide) k_882 rfl rfl rfl rfl (fun _ => Nat.le_of_ble_eq_true rfl) dX12_token_153 (fun σ_36 H locs eσ_36 S => ?_)
  replace h := h σ_36 eσ_36
  obtain ⟨x2_37, ex2_37⟩ : ∃ y : Int32, y = x2 + 1 := ⟨_, rfl⟩
  replace h := h x2_37 ex2_37
  refine lv_iinc (v := x2_37) (lv' := [(2, .int x2_37), (0, .ref (ad 0))]) hx hb dX12_token_156 hl (k := 1) rfl (by rw [ex2_37]; rfl) (by decide) rfl (fun ls hl => ?_)
  refine lv_aload_n hx hb dX12_token_159 rfl (lv_at hl 1 rfl) ?_
  refine lv_dup hx hb dX12_token_160 rfl ?_
  refine o_get X S 0 13 (by decide) rfl rfl in_12 (by decide) k_880 rfl dX12_token_161 ?_
  refine lv_iconst (v := 1) hx hb dX12_token_164 (by decide) ?_
  refine lv_iadd hx hb dX12_token_165 ?_
  refine o_puti X S (fs := fun c => [.int (c 0), .ref (ad 1), .ref (ad 2), .ref (ad 3), .ref (ad 4), .int (c 5), .int (c 6), .int (c 7), .ref (ad 5), .ref (ad 6), .ref (ad 7), .ref (ad 8), .int (c 12), .int (c 13), .int (c 14), .int (c 15), .ref (ad 9), .int (c 17), .int (c 18), .int (c 19), .ref (ad 10), .ref (ad 11), .ref (ad 12), .ref (ad 13), .ref (ad 14), .ref (ad 15), .ref (ad 16), .int (c 27), .int (c 28), .ref (ad 17), .ref (ad 18), .ref (ad 19), .ref (ad 20), .ref (ad 21), .ref (ad 22), .ref (ad 23), .ref (ad 24), .ref (ad 25), .ref (ad 26), .ref (ad 27), .ref (ad 28), .ref (ad 29), .int (c 42), .ref (ad 30), .ref (ad 31), .ref (ad 32), .ref (ad 33), .int (c 47)]) 0 13 (by decide) (fun _ => rfl) (fun _ _ => rfl) rfl in_12 tyX12_ok nmX12 (by decide) k_880 rfl rfl rfl rfl (fun _ => Nat.le_of_ble_eq_true rfl) dX12_token_166 (fun σ_38 H locs eσ_38 S => ?_)
  replace h := h σ_38 eσ_38
  refine lv_goto (tgt := 97) hx hb dX12_token_169 (by decide) ?_
  exact hkb97 _ _ _ _ _ S (lv_sub hl [1, 0] rfl) h
set_option maxHeartbeats 4000000 in
set_option maxRecDepth 100000 in
theorem mX12_token_L97 {D : va_G} {cy : Nat → ClassId} {ad : Nat → Nat} (l : Launch) {p : Program} {e : Env} {s : State} {m : MethodId} {args : Array Value} {below : List Frame} {meth : Method} {c : Code} {A : Nat → Prop} {k172 : Sg → Prop} {Q : Int32 → Sg → Prop} (X : Fx D (tyM cy) EvM p s m args meth c cX12_token 3 "BackBayModel" A) (hr : meth.sig.returnType = some .int) (hk172 : ∀ (σ : Sg) (H : Heap) (locs : List Loc) (ls : Array Slot), St D ad 34 (shM cy ad) A s σ H locs → lv_has ls 3 [] → k172 σ → W p l e ({ frames := 2, cells := 0, slots := 0, locals := 42 }) s m args below meth c H locs 0 0 (MQ below (va_Qi Q (PosW D (tyM cy) ad 34 (shM cy ad) A) A) args s 0 0 A) (F0 m 172 ls [])) : ∀ (n : Nat) (x2 : Int32) (σ : Sg) (H : Heap) (locs : List Loc) (ls : Array Slot), St D ad 34 (shM cy ad) A s σ H locs → lv_has ls 3 [(0, .ref (ad 0)), (2, .int x2)] → wX12_token_L97 k172 Q n x2 σ → W p l e ({ frames := 2, cells := 0, slots := 0, locals := 42 }) s m args below meth c H locs 0 0 (MQ below (va_Qi Q (PosW D (tyM cy) ad 34 (shM cy ad) A) A) args s 0 0 A) (F0 m 97 ls []) := by
  have hx := X.1
  have hb := X.2.1
  intro n
  induction n with
  | zero =>
    intro _ _ _ _ _ _ _ h
    exact absurd h (by unfold wX12_token_L97; exact id)
  | succ n ih =>
    intro x2 σ H locs ls S hl h
    unfold wX12_token_L97 at h
    refine lv_aload_n hx hb dX12_token_97 rfl (lv_at hl 0 rfl) ?_
    refine o_get X S 0 13 (by decide) rfl rfl in_12 (by decide) k_880 rfl dX12_token_98 ?_
    refine lv_aload_n hx hb dX12_token_101 rfl (lv_at hl 0 rfl) ?_
    refine o_get X S 0 5 (by decide) rfl rfl in_12 (by decide) k_872 rfl dX12_token_102 ?_
    refine lv_icmp_ge (tgt := 172) hx hb dX12_token_105 (by decide) (fun q_31 => ?_) (fun q_31 => ?_)
    · replace h := h.1 q_31
      exact hk172 _ _ _ _ S (lv_sub hl [] rfl) h
    · replace h := h.2 q_31
      refine lv_aload_n hx hb dX12_token_108 rfl (lv_at hl 0 rfl) ?_
      refine o_get X S 0 4 (by decide) rfl rfl in_12 (by decide) k_871 rfl dX12_token_109 ?_
      refine lv_aload_n hx hb dX12_token_112 rfl (lv_at hl 0 rfl) ?_
      refine o_get X S 0 13 (by decide) rfl rfl in_12 (by decide) k_880 rfl dX12_token_113 ?_
      refine o_iald X S 4 0 (by decide) (fun _ => rfl) rfl h.1 dX12_token_116 ?_
      replace h := h.2
      refine o_callSi (k := 1) EvM_ok X S (mX12_isLetter l (σ 4 (σ 0 13).toNatClampNeg) σ _ h) k_1064 k_1062 k_1063 k_14 ⟨by decide, by decide, by decide +kernel⟩ ⟨rfl, rfl⟩ ⟨Nat.le_of_ble_eq_true rfl, Nat.le_of_ble_eq_true rfl⟩ rfl hl.1 rfl (Nat.le_of_ble_eq_true rfl) dX12_token_117 (fun r_32 σ_33 H locs h S => ?_)
      refine lv_if_eq (tgt := 172) hx hb dX12_token_120 (by decide) (fun q_34 => ?_) (fun q_34 => ?_)
      · replace h := h.1 q_34
        exact hk172 _ _ _ _ S (lv_sub hl [] rfl) h
      · replace h := h.2 q_34
        refine lv_aload_n hx hb dX12_token_123 rfl (lv_at hl 0 rfl) ?_
        refine lv_iload_n hx hb dX12_token_124 rfl (lv_at hl 1 rfl) ?_
        refine lv_iconst (v := 4) hx hb dX12_token_125 (by decide) ?_
        refine lv_icmp_ge (tgt := 152) hx hb dX12_token_126 (by decide) (fun q_35 => ?_) (fun q_35 => ?_)
        · replace h := h.1 q_35
          refine lv_iconst (v := (-1)) hx hb dX12_token_152 (by decide) ?_
          exact mX12_token_b153 l X hr x2 (-1) hk172 ih S (lv_sub hl [0, 1] rfl) h
        · replace h := h.2 q_35
          refine lv_bipush (v := 27) hx hb dX12_token_129 (by decide) ?_
          refine lv_aload_n hx hb dX12_token_131 rfl (lv_at hl 0 rfl) ?_
          refine o_get X S 0 15 (by decide) rfl rfl in_12 (by decide) k_882 rfl dX12_token_132 ?_
          refine lv_imul hx hb dX12_token_135 ?_
          refine lv_aload_n hx hb dX12_token_136 rfl (lv_at hl 0 rfl) ?_
          refine o_get X S 0 4 (by decide) rfl rfl in_12 (by decide) k_871 rfl dX12_token_137 ?_
          refine lv_aload_n hx hb dX12_token_140 rfl (lv_at hl 0 rfl) ?_
          refine o_get X S 0 13 (by decide) rfl rfl in_12 (by decide) k_880 rfl dX12_token_141 ?_
          refine o_iald X S 4 0 (by decide) (fun _ => rfl) rfl h.1 dX12_token_144 ?_
          replace h := h.2
          refine lv_iadd hx hb dX12_token_145 ?_
          refine lv_bipush (v := 96) hx hb dX12_token_146 (by decide) ?_
          refine lv_isub hx hb dX12_token_148 ?_
          refine lv_goto (tgt := 153) hx hb dX12_token_149 (by decide) ?_
          exact mX12_token_b153 l X hr x2 (((27 * (σ_33 0 15)) + (σ_33 4 (σ_33 0 13).toNatClampNeg)) - 96) hk172 ih S (lv_sub hl [0, 1] rfl) h
set_option maxHeartbeats 4000000 in
set_option maxRecDepth 100000 in
theorem mX12_token_b172 {D : va_G} {cy : Nat → ClassId} {ad : Nat → Nat} (l : Launch) {p : Program} {e : Env} {s : State} {m : MethodId} {args : Array Value} {below : List Frame} {meth : Method} {c : Code} {A : Nat → Prop} {Q : Int32 → Sg → Prop} (X : Fx D (tyM cy) EvM p s m args meth c cX12_token 3 "BackBayModel" A) (hr : meth.sig.returnType = some .int) {σ : Sg} {H : Heap} {locs : List Loc} {ls : Array Slot} (S : St D ad 34 (shM cy ad) A s σ H locs) (hl : lv_has ls 3 []) (h : wX12_token_b172 σ Q) : W p l e ({ frames := 2, cells := 0, slots := 0, locals := 42 }) s m args below meth c H locs 0 0 (MQ below (va_Qi Q (PosW D (tyM cy) ad 34 (shM cy ad) A) A) args s 0 0 A) (F0 m 172 ls []) := by
  have hx := X.1
  have hb := X.2.1
  unfold wX12_token_b172 at h
  refine lv_iconst (v := 1) hx hb dX12_token_172 (by decide) ?_
  exact o_iret X S hr h dX12_token_173
set_option maxHeartbeats 4000000 in
set_option maxRecDepth 100000 in
theorem mX12_token_b52 {D : va_G} {cy : Nat → ClassId} {ad : Nat → Nat} (l : Launch) {p : Program} {e : Env} {s : State} {m : MethodId} {args : Array Value} {below : List Frame} {meth : Method} {c : Code} {A : Nat → Prop} {Q : Int32 → Sg → Prop} (X : Fx D (tyM cy) EvM p s m args meth c cX12_token 3 "BackBayModel" A) (hr : meth.sig.returnType = some .int) {σ : Sg} {H : Heap} {locs : List Loc} {ls : Array Slot} (S : St D ad 34 (shM cy ad) A s σ H locs) (hl : lv_has ls 3 [(0, .ref (ad 0))]) (h : wX12_token_b52 σ Q) : W p l e ({ frames := 2, cells := 0, slots := 0, locals := 42 }) s m args below meth c H locs 0 0 (MQ below (va_Qi Q (PosW D (tyM cy) ad 34 (shM cy ad) A) A) args s 0 0 A) (F0 m 52 ls []) := by
  have hx := X.1
  have hb := X.2.1
  unfold wX12_token_b52 at h
  refine lv_aload_n hx hb dX12_token_52 rfl (lv_at hl 0 rfl) ?_
  refine lv_aload_n hx hb dX12_token_53 rfl (lv_at hl 0 rfl) ?_
  refine o_get X S 0 13 (by decide) rfl rfl in_12 (by decide) k_880 rfl dX12_token_54 ?_
  refine o_puti X S (fs := fun c => [.int (c 0), .ref (ad 1), .ref (ad 2), .ref (ad 3), .ref (ad 4), .int (c 5), .int (c 6), .int (c 7), .ref (ad 5), .ref (ad 6), .ref (ad 7), .ref (ad 8), .int (c 12), .int (c 13), .int (c 14), .int (c 15), .ref (ad 9), .int (c 17), .int (c 18), .int (c 19), .ref (ad 10), .ref (ad 11), .ref (ad 12), .ref (ad 13), .ref (ad 14), .ref (ad 15), .ref (ad 16), .int (c 27), .int (c 28), .ref (ad 17), .ref (ad 18), .ref (ad 19), .ref (ad 20), .ref (ad 21), .ref (ad 22), .ref (ad 23), .ref (ad 24), .ref (ad 25), .ref (ad 26), .ref (ad 27), .ref (ad 28), .ref (ad 29), .int (c 42), .ref (ad 30), .ref (ad 31), .ref (ad 32), .ref (ad 33), .int (c 47)]) 0 14 (by decide) (fun _ => rfl) (fun _ _ => rfl) rfl in_12 tyX12_ok nmX12 (by decide) k_881 rfl rfl rfl rfl (fun _ => Nat.le_of_ble_eq_true rfl) dX12_token_57 (fun σ_6 H locs eσ_6 S => ?_)
  replace h := h σ_6 eσ_6
  refine lv_aload_n hx hb dX12_token_60 rfl (lv_at hl 0 rfl) ?_
  refine o_get X S 0 13 (by decide) rfl rfl in_12 (by decide) k_880 rfl dX12_token_61 ?_
  refine lv_aload_n hx hb dX12_token_64 rfl (lv_at hl 0 rfl) ?_
  refine o_get X S 0 5 (by decide) rfl rfl in_12 (by decide) k_872 rfl dX12_token_65 ?_
  refine lv_icmp_ne (tgt := 73) hx hb dX12_token_68 (by decide) (fun q_7 => ?_) (fun q_7 => ?_)
  · replace h := h.2 q_7
    refine lv_aload_n hx hb dX12_token_73 rfl (lv_at hl 0 rfl) ?_
    refine o_get X S 0 4 (by decide) rfl rfl in_12 (by decide) k_871 rfl dX12_token_74 ?_
    refine lv_aload_n hx hb dX12_token_77 rfl (lv_at hl 0 rfl) ?_
    refine o_get X S 0 13 (by decide) rfl rfl in_12 (by decide) k_880 rfl dX12_token_78 ?_
    refine o_iald X S 4 0 (by decide) (fun _ => rfl) rfl h.1 dX12_token_81 ?_
    replace h := h.2
    refine lv_topi (fun x1_8 ex1_8 => ?_)
    replace h := h x1_8 ex1_8
    refine lv_istore_n (lv' := [(1, .int x1_8), (0, .ref (ad 0))]) hx hb dX12_token_82 rfl hl (by decide) rfl (fun ls hl => ?_)
    refine lv_aload_n hx hb dX12_token_83 rfl (lv_at hl 1 rfl) ?_
    refine lv_iconst (v := 0) hx hb dX12_token_84 (by decide) ?_
    refine o_puti X S (fs := fun c => [.int (c 0), .ref (ad 1), .ref (ad 2), .ref (ad 3), .ref (ad 4), .int (c 5), .int (c 6), .int (c 7), .ref (ad 5), .ref (ad 6), .ref (ad 7), .ref (ad 8), .int (c 12), .int (c 13), .int (c 14), .int (c 15), .ref (ad 9), .int (c 17), .int (c 18), .int (c 19), .ref (ad 10), .ref (ad 11), .ref (ad 12), .ref (ad 13), .ref (ad 14), .ref (ad 15), .ref (ad 16), .int (c 27), .int (c 28), .ref (ad 17), .ref (ad 18), .ref (ad 19), .ref (ad 20), .ref (ad 21), .ref (ad 22), .ref (ad 23), .ref (ad 24), .ref (ad 25), .ref (ad 26), .ref (ad 27), .ref (ad 28), .ref (ad 29), .int (c 42), .ref (ad 30), .ref (ad 31), .ref (ad 32), .ref (ad 33), .int (c 47)]) 0 15 (by decide) (fun _ => rfl) (fun _ _ => rfl) rfl in_12 tyX12_ok nmX12 (by decide) k_882 rfl rfl rfl rfl (fun _ => Nat.le_of_ble_eq_true rfl) dX12_token_85 (fun σ_9 H locs eσ_9 S => ?_)
    replace h := h σ_9 eσ_9
    refine lv_iload_n hx hb dX12_token_88 rfl (lv_at hl 0 rfl) ?_
    refine o_callSi (k := 1) EvM_ok X S (mX12_isLetter l x1_8 σ_9 _ h) k_1064 k_1062 k_1063 k_14 ⟨by decide, by decide, by decide +kernel⟩ ⟨rfl, rfl⟩ ⟨Nat.le_of_ble_eq_true rfl, Nat.le_of_ble_eq_true rfl⟩ rfl hl.1 rfl (Nat.le_of_ble_eq_true rfl) dX12_token_89 (fun r_10 σ_11 H locs h S => ?_)
    refine lv_if_eq (tgt := 174) hx hb dX12_token_92 (by decide) (fun q_12 => ?_) (fun q_12 => ?_)
    · replace h := h.1 q_12
      refine lv_iload_n hx hb dX12_token_174 rfl (lv_at hl 0 rfl) ?_
      refine o_callSi (k := 1) EvM_ok X S (mX12_isDigit l x1_8 σ_11 _ h) k_1067 k_1065 k_1066 k_14 ⟨by decide, by decide, by decide +kernel⟩ ⟨rfl, rfl⟩ ⟨Nat.le_of_ble_eq_true rfl, Nat.le_of_ble_eq_true rfl⟩ rfl hl.1 rfl (Nat.le_of_ble_eq_true rfl) dX12_token_175 (fun r_13 σ_14 H locs h S => ?_)
      refine lv_if_eq (tgt := 274) hx hb dX12_token_178 (by decide) (fun q_15 => ?_) (fun q_15 => ?_)
      · replace h := h.1 q_15
        refine lv_aload_n hx hb dX12_token_274 rfl (lv_at hl 1 rfl) ?_
        refine lv_dup hx hb dX12_token_275 rfl ?_
        refine o_get X S 0 13 (by decide) rfl rfl in_12 (by decide) k_880 rfl dX12_token_276 ?_
        refine lv_iconst (v := 1) hx hb dX12_token_279 (by decide) ?_
        refine lv_iadd hx hb dX12_token_280 ?_
        refine o_puti X S (fs := fun c => [.int (c 0), .ref (ad 1), .ref (ad 2), .ref (ad 3), .ref (ad 4), .int (c 5), .int (c 6), .int (c 7), .ref (ad 5), .ref (ad 6), .ref (ad 7), .ref (ad 8), .int (c 12), .int (c 13), .int (c 14), .int (c 15), .ref (ad 9), .int (c 17), .int (c 18), .int (c 19), .ref (ad 10), .ref (ad 11), .ref (ad 12), .ref (ad 13), .ref (ad 14), .ref (ad 15), .ref (ad 16), .int (c 27), .int (c 28), .ref (ad 17), .ref (ad 18), .ref (ad 19), .ref (ad 20), .ref (ad 21), .ref (ad 22), .ref (ad 23), .ref (ad 24), .ref (ad 25), .ref (ad 26), .ref (ad 27), .ref (ad 28), .ref (ad 29), .int (c 42), .ref (ad 30), .ref (ad 31), .ref (ad 32), .ref (ad 33), .int (c 47)]) 0 13 (by decide) (fun _ => rfl) (fun _ _ => rfl) rfl in_12 tyX12_ok nmX12 (by decide) k_880 rfl rfl rfl rfl (fun _ => Nat.le_of_ble_eq_true rfl) dX12_token_281 (fun σ_16 H locs eσ_16 S => ?_)
        replace h := h σ_16 eσ_16
        refine lv_aload_n hx hb dX12_token_284 rfl (lv_at hl 1 rfl) ?_
        refine lv_iload_n hx hb dX12_token_285 rfl (lv_at hl 0 rfl) ?_
        refine o_puti X S (fs := fun c => [.int (c 0), .ref (ad 1), .ref (ad 2), .ref (ad 3), .ref (ad 4), .int (c 5), .int (c 6), .int (c 7), .ref (ad 5), .ref (ad 6), .ref (ad 7), .ref (ad 8), .int (c 12), .int (c 13), .int (c 14), .int (c 15), .ref (ad 9), .int (c 17), .int (c 18), .int (c 19), .ref (ad 10), .ref (ad 11), .ref (ad 12), .ref (ad 13), .ref (ad 14), .ref (ad 15), .ref (ad 16), .int (c 27), .int (c 28), .ref (ad 17), .ref (ad 18), .ref (ad 19), .ref (ad 20), .ref (ad 21), .ref (ad 22), .ref (ad 23), .ref (ad 24), .ref (ad 25), .ref (ad 26), .ref (ad 27), .ref (ad 28), .ref (ad 29), .int (c 42), .ref (ad 30), .ref (ad 31), .ref (ad 32), .ref (ad 33), .int (c 47)]) 0 15 (by decide) (fun _ => rfl) (fun _ _ => rfl) rfl in_12 tyX12_ok nmX12 (by decide) k_882 rfl rfl rfl rfl (fun _ => Nat.le_of_ble_eq_true rfl) dX12_token_286 (fun σ_17 H locs eσ_17 S => ?_)
        replace h := h σ_17 eσ_17
        refine lv_iload_n hx hb dX12_token_289 rfl (lv_at hl 0 rfl) ?_
        refine lv_bipush (v := 59) hx hb dX12_token_290 (by decide) ?_
        refine lv_icmp_eq (tgt := 313) hx hb dX12_token_292 (by decide) (fun q_18 => ?_) (fun q_18 => ?_)
        · replace h := h.1 q_18
          exact mX12_token_b313 l X hr S (lv_sub hl [] rfl) h
        · replace h := h.2 q_18
          refine lv_iload_n hx hb dX12_token_295 rfl (lv_at hl 0 rfl) ?_
          refine lv_bipush (v := 43) hx hb dX12_token_296 (by decide) ?_
          refine lv_icmp_eq (tgt := 313) hx hb dX12_token_298 (by decide) (fun q_19 => ?_) (fun q_19 => ?_)
          · replace h := h.1 q_19
            exact mX12_token_b313 l X hr S (lv_sub hl [] rfl) h
          · replace h := h.2 q_19
            refine lv_iload_n hx hb dX12_token_301 rfl (lv_at hl 0 rfl) ?_
            refine lv_bipush (v := 45) hx hb dX12_token_302 (by decide) ?_
            refine lv_icmp_eq (tgt := 313) hx hb dX12_token_304 (by decide) (fun q_20 => ?_) (fun q_20 => ?_)
            · replace h := h.1 q_20
              exact mX12_token_b313 l X hr S (lv_sub hl [] rfl) h
            · replace h := h.2 q_20
              refine lv_iload_n hx hb dX12_token_307 rfl (lv_at hl 0 rfl) ?_
              refine lv_bipush (v := 42) hx hb dX12_token_308 (by decide) ?_
              refine lv_icmp_ne (tgt := 317) hx hb dX12_token_310 (by decide) (fun q_21 => ?_) (fun q_21 => ?_)
              · replace h := h.2 q_21
                refine lv_iconst (v := 4) hx hb dX12_token_317 (by decide) ?_
                exact mX12_token_b318 l X hr 4 S (lv_sub hl [] rfl) h
              · replace h := h.1 q_21
                exact mX12_token_b313 l X hr S (lv_sub hl [] rfl) h
      · replace h := h.2 q_15
        obtain ⟨n_181, h⟩ := h
        refine mX12_token_L181 l X hr ?_ n_181 _ _ _ _ S (lv_sub hl [1] rfl) h
        · intro σ_29 H locs ls S hl h
          exact mX12_token_b261 l X hr S (lv_sub hl [0] rfl) h
    · replace h := h.2 q_12
      refine lv_iconst (v := 0) hx hb dX12_token_95 (by decide) ?_
      refine lv_istore_n (lv' := [(2, .int 0), (1, .int x1_8), (0, .ref (ad 0))]) hx hb dX12_token_96 rfl hl (by decide) rfl (fun ls hl => ?_)
      obtain ⟨n_97, h⟩ := h
      refine mX12_token_L97 l X hr ?_ n_97 _ _ _ _ _ S (lv_sub hl [2, 0] rfl) h
      · intro σ_39 H locs ls S hl h
        exact mX12_token_b172 l X hr S (lv_sub hl [] rfl) h
  · replace h := h.1 q_7
    refine lv_iconst (v := 0) hx hb dX12_token_71 (by decide) ?_
    exact o_iret X S hr h dX12_token_72
set_option maxHeartbeats 4000000 in
set_option maxRecDepth 100000 in
theorem mX12_token {D : va_G} {cy : Nat → ClassId} {ad : Nat → Nat} (l : Launch) (σ : Sg) (Q : Int32 → Sg → Prop) (h : wX12_token σ Q) : MIM D cy ad l yX12_token (.code yX12_token cX12_token 3 (some .int) :: gT) ({ frames := 2, cells := 0, slots := 0, locals := 42 }) [.ref (ad 0)] σ Q := by
  refine metI_of (by decide +kernel) (Nat.le_of_ble_eq_true rfl) ?_
  intro p e s m args below meth c A ls X hr hl S
  have X : Fx D (tyM cy) EvM p s m args meth c cX12_token 3 "BackBayModel" A := X
  have hl : lv_has ls 3 [(0, .ref (ad 0))] := hl
  have hx := X.1
  have hb := X.2.1
  unfold wX12_token at h
  obtain ⟨n_0, h⟩ := h
  refine mX12_token_L0 l X hr ?_ n_0 _ _ _ _ S (lv_sub hl [0] rfl) h
  · intro σ_5 H locs ls S hl h
    exact mX12_token_b52 l X hr S (lv_sub hl [0] rfl) h
def wX12_wordOf_b55 (y0 : Int32) (σ : Sg) (Q : Int32 → Sg → Prop) : Prop :=
  Q y0 σ
def wX12_wordOf_b37 (x3 : Int32) (y0 : Int32) (σ : Sg) (Q : Int32 → Sg → Prop) : Prop :=
  ((x3 = 0 → wX12_wordOf_b55 y0 σ Q) ∧ (¬ x3 = 0 → wX12_wordOf_b55 ((27 * y0) + x3) σ Q))
def wX12_wordOf_b19 (x2 : Int32) (x3 : Int32) (y0 : Int32) (σ : Sg) (Q : Int32 → Sg → Prop) : Prop :=
  ((x2 = 0 → wX12_wordOf_b37 x3 y0 σ Q) ∧ (¬ x2 = 0 → wX12_wordOf_b37 x3 ((27 * y0) + x2) σ Q))
def wX12_wordOf (x0 : Int32) (x1 : Int32) (x2 : Int32) (x3 : Int32) (σ : Sg) (Q : Int32 → Sg → Prop) : Prop :=
  ((x1 = 0 → wX12_wordOf_b19 x2 x3 x0 σ Q) ∧ (¬ x1 = 0 → wX12_wordOf_b19 x2 x3 ((27 * x0) + x1) σ Q))
set_option maxHeartbeats 4000000 in
set_option maxRecDepth 100000 in
theorem mX12_wordOf_b55 {D : va_G} {cy : Nat → ClassId} {ad : Nat → Nat} (l : Launch) {p : Program} {e : Env} {s : State} {m : MethodId} {args : Array Value} {below : List Frame} {meth : Method} {c : Code} {A : Nat → Prop} {Q : Int32 → Sg → Prop} (X : Fx D (tyM cy) EvM p s m args meth c cX12_wordOf 5 "BackBayModel" A) (hr : meth.sig.returnType = some .int) (y0 : Int32) {σ : Sg} {H : Heap} {locs : List Loc} {ls : Array Slot} (S : St D ad 34 (shM cy ad) A s σ H locs) (hl : lv_has ls 5 []) (h : wX12_wordOf_b55 y0 σ Q) : W p l e ({ frames := 0, cells := 0, slots := 0, locals := 0 }) s m args below meth c H locs 0 0 (MQ below (va_Qi Q (PosW D (tyM cy) ad 34 (shM cy ad) A) A) args s 0 0 A) (F0 m 55 ls [.int y0]) := by
  have hx := X.1
  have hb := X.2.1
  unfold wX12_wordOf_b55 at h
  exact o_iret X S hr h dX12_wordOf_55
set_option maxHeartbeats 4000000 in
set_option maxRecDepth 100000 in
theorem mX12_wordOf_b37 {D : va_G} {cy : Nat → ClassId} {ad : Nat → Nat} (l : Launch) {p : Program} {e : Env} {s : State} {m : MethodId} {args : Array Value} {below : List Frame} {meth : Method} {c : Code} {A : Nat → Prop} {Q : Int32 → Sg → Prop} (X : Fx D (tyM cy) EvM p s m args meth c cX12_wordOf 5 "BackBayModel" A) (hr : meth.sig.returnType = some .int) (x3 : Int32) (y0 : Int32) {σ : Sg} {H : Heap} {locs : List Loc} {ls : Array Slot} (S : St D ad 34 (shM cy ad) A s σ H locs) (hl : lv_has ls 5 [(3, .int x3)]) (h : wX12_wordOf_b37 x3 y0 σ Q) : W p l e ({ frames := 0, cells := 0, slots := 0, locals := 0 }) s m args below meth c H locs 0 0 (MQ below (va_Qi Q (PosW D (tyM cy) ad 34 (shM cy ad) A) A) args s 0 0 A) (F0 m 37 ls [.int y0]) := by
  have hx := X.1
  have hb := X.2.1
  unfold wX12_wordOf_b37 at h
  refine lv_istore (lv' := [(4, .int y0), (3, .int x3)]) hx hb dX12_wordOf_37 hl (by decide) rfl (fun ls hl => ?_)
  refine lv_iload_n hx hb dX12_wordOf_39 rfl (lv_at hl 1 rfl) ?_
  refine lv_if_ne (tgt := 48) hx hb dX12_wordOf_40 (by decide) (fun q_3 => ?_) (fun q_3 => ?_)
  · replace h := h.2 q_3
    refine lv_bipush (v := 27) hx hb dX12_wordOf_48 (by decide) ?_
    refine lv_iload hx hb dX12_wordOf_50 (lv_at hl 0 rfl) ?_
    refine lv_imul hx hb dX12_wordOf_52 ?_
    refine lv_iload_n hx hb dX12_wordOf_53 rfl (lv_at hl 1 rfl) ?_
    refine lv_iadd hx hb dX12_wordOf_54 ?_
    exact mX12_wordOf_b55 l X hr ((27 * y0) + x3) S (lv_sub hl [] rfl) h
  · replace h := h.1 q_3
    refine lv_iload hx hb dX12_wordOf_43 (lv_at hl 0 rfl) ?_
    refine lv_goto (tgt := 55) hx hb dX12_wordOf_45 (by decide) ?_
    exact mX12_wordOf_b55 l X hr y0 S (lv_sub hl [] rfl) h
set_option maxHeartbeats 4000000 in
set_option maxRecDepth 100000 in
theorem mX12_wordOf_b19 {D : va_G} {cy : Nat → ClassId} {ad : Nat → Nat} (l : Launch) {p : Program} {e : Env} {s : State} {m : MethodId} {args : Array Value} {below : List Frame} {meth : Method} {c : Code} {A : Nat → Prop} {Q : Int32 → Sg → Prop} (X : Fx D (tyM cy) EvM p s m args meth c cX12_wordOf 5 "BackBayModel" A) (hr : meth.sig.returnType = some .int) (x2 : Int32) (x3 : Int32) (y0 : Int32) {σ : Sg} {H : Heap} {locs : List Loc} {ls : Array Slot} (S : St D ad 34 (shM cy ad) A s σ H locs) (hl : lv_has ls 5 [(2, .int x2), (3, .int x3)]) (h : wX12_wordOf_b19 x2 x3 y0 σ Q) : W p l e ({ frames := 0, cells := 0, slots := 0, locals := 0 }) s m args below meth c H locs 0 0 (MQ below (va_Qi Q (PosW D (tyM cy) ad 34 (shM cy ad) A) A) args s 0 0 A) (F0 m 19 ls [.int y0]) := by
  have hx := X.1
  have hb := X.2.1
  unfold wX12_wordOf_b19 at h
  refine lv_istore (lv' := [(4, .int y0), (2, .int x2), (3, .int x3)]) hx hb dX12_wordOf_19 hl (by decide) rfl (fun ls hl => ?_)
  refine lv_iload_n hx hb dX12_wordOf_21 rfl (lv_at hl 1 rfl) ?_
  refine lv_if_ne (tgt := 30) hx hb dX12_wordOf_22 (by decide) (fun q_2 => ?_) (fun q_2 => ?_)
  · replace h := h.2 q_2
    refine lv_bipush (v := 27) hx hb dX12_wordOf_30 (by decide) ?_
    refine lv_iload hx hb dX12_wordOf_32 (lv_at hl 0 rfl) ?_
    refine lv_imul hx hb dX12_wordOf_34 ?_
    refine lv_iload_n hx hb dX12_wordOf_35 rfl (lv_at hl 1 rfl) ?_
    refine lv_iadd hx hb dX12_wordOf_36 ?_
    exact mX12_wordOf_b37 l X hr x3 ((27 * y0) + x2) S (lv_sub hl [2] rfl) h
  · replace h := h.1 q_2
    refine lv_iload hx hb dX12_wordOf_25 (lv_at hl 0 rfl) ?_
    refine lv_goto (tgt := 37) hx hb dX12_wordOf_27 (by decide) ?_
    exact mX12_wordOf_b37 l X hr x3 y0 S (lv_sub hl [2] rfl) h
set_option maxHeartbeats 4000000 in
set_option maxRecDepth 100000 in
theorem mX12_wordOf {D : va_G} {cy : Nat → ClassId} {ad : Nat → Nat} (l : Launch) (x0 : Int32) (x1 : Int32) (x2 : Int32) (x3 : Int32) (σ : Sg) (Q : Int32 → Sg → Prop) (h : wX12_wordOf x0 x1 x2 x3 σ Q) : MIM D cy ad l yX12_wordOf (.code yX12_wordOf cX12_wordOf 5 (some .int) :: gT) ({ frames := 0, cells := 0, slots := 0, locals := 0 }) [.int x0, .int x1, .int x2, .int x3] σ Q := by
  refine metI_of (by decide +kernel) (Nat.le_of_ble_eq_true rfl) ?_
  intro p e s m args below meth c A ls X hr hl S
  have X : Fx D (tyM cy) EvM p s m args meth c cX12_wordOf 5 "BackBayModel" A := X
  have hl : lv_has ls 5 [(0, .int x0), (1, .int x1), (2, .int x2), (3, .int x3)] := hl
  have hx := X.1
  have hb := X.2.1
  unfold wX12_wordOf at h
  refine lv_iload_n hx hb dX12_wordOf_0 rfl (lv_at hl 0 rfl) ?_
  refine lv_istore (lv' := [(4, .int x0), (0, .int x0), (1, .int x1), (2, .int x2), (3, .int x3)]) hx hb dX12_wordOf_1 hl (by decide) rfl (fun ls hl => ?_)
  refine lv_iload_n hx hb dX12_wordOf_3 rfl (lv_at hl 2 rfl) ?_
  refine lv_if_ne (tgt := 12) hx hb dX12_wordOf_4 (by decide) (fun q_1 => ?_) (fun q_1 => ?_)
  · replace h := h.2 q_1
    refine lv_bipush (v := 27) hx hb dX12_wordOf_12 (by decide) ?_
    refine lv_iload hx hb dX12_wordOf_14 (lv_at hl 0 rfl) ?_
    refine lv_imul hx hb dX12_wordOf_16 ?_
    refine lv_iload_n hx hb dX12_wordOf_17 rfl (lv_at hl 2 rfl) ?_
    refine lv_iadd hx hb dX12_wordOf_18 ?_
    exact mX12_wordOf_b19 l X hr x2 x3 ((27 * x0) + x1) S (lv_sub hl [3, 4] rfl) h
  · replace h := h.1 q_1
    refine lv_iload hx hb dX12_wordOf_7 (lv_at hl 0 rfl) ?_
    refine lv_goto (tgt := 19) hx hb dX12_wordOf_9 (by decide) ?_
    exact mX12_wordOf_b19 l X hr x2 x3 x0 S (lv_sub hl [3, 4] rfl) h
def wX12_kindOf_b180 (y0 : Int32) (y1 : Int32) (σ : Sg) (Q : Int32 → Sg → Prop) : Prop :=
  (vp_in y1 120 ∧ ∀ σ_15, σ_15 = sto σ 7 y1.toNatClampNeg y0 → Q 4 σ_15)
def wX12_kindOf_b153 (x2 : Int32) (σ : Sg) (Q : Int32 → Sg → Prop) : Prop :=
  (wX12_wordOf 13 9 14 0 σ (fun r_12 σ_13 => (((σ 0 15) = r_12 → wX12_kindOf_b180 1 x2 σ_13 Q) ∧ (¬ (σ 0 15) = r_12 → wX12_kindOf_b180 2 x2 σ_13 Q))))
def wX12_kindOf_b204 (y0 : Int32) (σ : Sg) (Q : Int32 → Sg → Prop) : Prop :=
  Q y0 σ
def wX12_kindOf_b106 (x2 : Int32) (y0 : Int32) (σ : Sg) (Q : Int32 → Sg → Prop) : Prop :=
  ((y0 < 0 → (wX12_wordOf 13 9 14 0 σ (fun r_9 σ_10 => (((σ 0 15) = r_9 → wX12_kindOf_b153 x2 σ_10 Q) ∧ (¬ (σ 0 15) = r_9 → (wX12_wordOf 13 1 24 0 σ_10 (fun r_16 σ_17 => (((σ_10 0 15) = r_16 → wX12_kindOf_b153 x2 σ_17 Q) ∧ (¬ (σ_10 0 15) = r_16 → (wX12_wordOf 9 6 0 0 σ_17 (fun r_19 σ_20 => (((σ_17 0 15) = r_19 → wX12_kindOf_b204 5 σ_20 Q) ∧ (¬ (σ_17 0 15) = r_19 → wX12_kindOf_b204 0 σ_20 Q))))))))))))) ∧ (¬ y0 < 0 → (vp_in x2 120 ∧ ∀ σ_22, σ_22 = sto σ 7 x2.toNatClampNeg y0 → Q 2 σ_22)))
def wX12_kindOf_b46 (y0 : Int32) (σ : Sg) (Q : Int32 → Sg → Prop) : Prop :=
  Q y0 σ
def wX12_kindOf (x1 : Int32) (x2 : Int32) (σ : Sg) (Q : Int32 → Sg → Prop) : Prop :=
  ((x1 = 2 → (vp_in x2 120 ∧ ∀ σ_25, σ_25 = sto σ 7 x2.toNatClampNeg (σ 0 15) → Q 1 σ_25)) ∧ (¬ x1 = 2 → ((x1 = 3 → (vp_in x2 120 ∧ ∀ σ_23, σ_23 = sto σ 7 x2.toNatClampNeg (σ 0 15) → (((σ_23 0 15) = 59 → wX12_kindOf_b46 0 σ_23 Q) ∧ (¬ (σ_23 0 15) = 59 → wX12_kindOf_b46 3 σ_23 Q)))) ∧ (¬ x1 = 3 → ((x1 = 1 → (((σ 0 15) = 12 → wX12_kindOf_b106 x2 0 σ Q) ∧ (¬ (σ 0 15) = 12 → (((σ 0 15) = 3 → wX12_kindOf_b106 x2 1 σ Q) ∧ (¬ (σ 0 15) = 3 → (((σ 0 15) = 18 → wX12_kindOf_b106 x2 2 σ Q) ∧ (¬ (σ 0 15) = 18 → (((σ 0 15) = 11 → wX12_kindOf_b106 x2 3 σ Q) ∧ (¬ (σ 0 15) = 11 → wX12_kindOf_b106 x2 (-1) σ Q))))))))) ∧ (¬ x1 = 1 → Q 0 σ))))))
set_option maxHeartbeats 4000000 in
set_option maxRecDepth 100000 in
theorem mX12_kindOf_b180 {D : va_G} {cy : Nat → ClassId} {ad : Nat → Nat} (l : Launch) {p : Program} {e : Env} {s : State} {m : MethodId} {args : Array Value} {below : List Frame} {meth : Method} {c : Code} {A : Nat → Prop} {Q : Int32 → Sg → Prop} (X : Fx D (tyM cy) EvM p s m args meth c cX12_kindOf 4 "BackBayModel" A) (hr : meth.sig.returnType = some .int) (y0 : Int32) (y1 : Int32) {σ : Sg} {H : Heap} {locs : List Loc} {ls : Array Slot} (S : St D ad 34 (shM cy ad) A s σ H locs) (hl : lv_has ls 4 []) (h : wX12_kindOf_b180 y0 y1 σ Q) : W p l e ({ frames := 1, cells := 0, slots := 0, locals := 24 }) s m args below meth c H locs 0 0 (MQ below (va_Qi Q (PosW D (tyM cy) ad 34 (shM cy ad) A) A) args s 0 0 A) (F0 m 180 ls [.int y0, .int y1, .ref (ad 7)]) := by
  have hx := X.1
  have hb := X.2.1
  unfold wX12_kindOf_b180 at h
  refine o_iast X S 7 0 (by decide) (fun _ => rfl) rfl h.1 dX12_kindOf_180 (fun σ_15 H locs eσ_15 S => ?_)
  replace h := h.2 σ_15 eσ_15
  refine lv_iconst (v := 4) hx hb dX12_kindOf_181 (by decide) ?_
  exact o_iret X S hr h dX12_kindOf_182
set_option maxHeartbeats 4000000 in
set_option maxRecDepth 100000 in
theorem mX12_kindOf_b153 {D : va_G} {cy : Nat → ClassId} {ad : Nat → Nat} (l : Launch) {p : Program} {e : Env} {s : State} {m : MethodId} {args : Array Value} {below : List Frame} {meth : Method} {c : Code} {A : Nat → Prop} {Q : Int32 → Sg → Prop} (X : Fx D (tyM cy) EvM p s m args meth c cX12_kindOf 4 "BackBayModel" A) (hr : meth.sig.returnType = some .int) (x2 : Int32) {σ : Sg} {H : Heap} {locs : List Loc} {ls : Array Slot} (S : St D ad 34 (shM cy ad) A s σ H locs) (hl : lv_has ls 4 [(0, .ref (ad 0)), (2, .int x2)]) (h : wX12_kindOf_b153 x2 σ Q) : W p l e ({ frames := 1, cells := 0, slots := 0, locals := 24 }) s m args below meth c H locs 0 0 (MQ below (va_Qi Q (PosW D (tyM cy) ad 34 (shM cy ad) A) A) args s 0 0 A) (F0 m 153 ls []) := by
  have hx := X.1
  have hb := X.2.1
  unfold wX12_kindOf_b153 at h
  refine lv_aload_n hx hb dX12_kindOf_153 rfl (lv_at hl 0 rfl) ?_
  refine o_get X S 0 10 (by decide) rfl rfl in_12 (by decide) k_877 rfl dX12_kindOf_154 ?_
  refine lv_iload_n hx hb dX12_kindOf_157 rfl (lv_at hl 1 rfl) ?_
  refine lv_aload_n hx hb dX12_kindOf_158 rfl (lv_at hl 0 rfl) ?_
  refine o_get X S 0 15 (by decide) rfl rfl in_12 (by decide) k_882 rfl dX12_kindOf_159 ?_
  refine lv_bipush (v := 13) hx hb dX12_kindOf_162 (by decide) ?_
  refine lv_bipush (v := 9) hx hb dX12_kindOf_164 (by decide) ?_
  refine lv_bipush (v := 14) hx hb dX12_kindOf_166 (by decide) ?_
  refine lv_iconst (v := 0) hx hb dX12_kindOf_168 (by decide) ?_
  refine o_callSi (k := 4) EvM_ok X S (mX12_wordOf l 13 9 14 0 σ _ h) k_1070 k_1068 k_1069 k_14 ⟨by decide, by decide, by decide +kernel⟩ ⟨rfl, rfl⟩ ⟨Nat.le_of_ble_eq_true rfl, Nat.le_of_ble_eq_true rfl⟩ rfl hl.1 rfl (Nat.le_of_ble_eq_true rfl) dX12_kindOf_169 (fun r_12 σ_13 H locs h S => ?_)
  refine lv_icmp_ne (tgt := 179) hx hb dX12_kindOf_172 (by decide) (fun q_14 => ?_) (fun q_14 => ?_)
  · replace h := h.2 q_14
    refine lv_iconst (v := 2) hx hb dX12_kindOf_179 (by decide) ?_
    exact mX12_kindOf_b180 l X hr 2 x2 S (lv_sub hl [] rfl) h
  · replace h := h.1 q_14
    refine lv_iconst (v := 1) hx hb dX12_kindOf_175 (by decide) ?_
    refine lv_goto (tgt := 180) hx hb dX12_kindOf_176 (by decide) ?_
    exact mX12_kindOf_b180 l X hr 1 x2 S (lv_sub hl [] rfl) h
set_option maxHeartbeats 4000000 in
set_option maxRecDepth 100000 in
theorem mX12_kindOf_b204 {D : va_G} {cy : Nat → ClassId} {ad : Nat → Nat} (l : Launch) {p : Program} {e : Env} {s : State} {m : MethodId} {args : Array Value} {below : List Frame} {meth : Method} {c : Code} {A : Nat → Prop} {Q : Int32 → Sg → Prop} (X : Fx D (tyM cy) EvM p s m args meth c cX12_kindOf 4 "BackBayModel" A) (hr : meth.sig.returnType = some .int) (y0 : Int32) {σ : Sg} {H : Heap} {locs : List Loc} {ls : Array Slot} (S : St D ad 34 (shM cy ad) A s σ H locs) (hl : lv_has ls 4 []) (h : wX12_kindOf_b204 y0 σ Q) : W p l e ({ frames := 1, cells := 0, slots := 0, locals := 24 }) s m args below meth c H locs 0 0 (MQ below (va_Qi Q (PosW D (tyM cy) ad 34 (shM cy ad) A) A) args s 0 0 A) (F0 m 204 ls [.int y0]) := by
  have hx := X.1
  have hb := X.2.1
  unfold wX12_kindOf_b204 at h
  exact o_iret X S hr h dX12_kindOf_204
set_option maxHeartbeats 4000000 in
set_option maxRecDepth 100000 in
theorem mX12_kindOf_b106 {D : va_G} {cy : Nat → ClassId} {ad : Nat → Nat} (l : Launch) {p : Program} {e : Env} {s : State} {m : MethodId} {args : Array Value} {below : List Frame} {meth : Method} {c : Code} {A : Nat → Prop} {Q : Int32 → Sg → Prop} (X : Fx D (tyM cy) EvM p s m args meth c cX12_kindOf 4 "BackBayModel" A) (hr : meth.sig.returnType = some .int) (x2 : Int32) (y0 : Int32) {σ : Sg} {H : Heap} {locs : List Loc} {ls : Array Slot} (S : St D ad 34 (shM cy ad) A s σ H locs) (hl : lv_has ls 4 [(0, .ref (ad 0)), (2, .int x2)]) (h : wX12_kindOf_b106 x2 y0 σ Q) : W p l e ({ frames := 1, cells := 0, slots := 0, locals := 24 }) s m args below meth c H locs 0 0 (MQ below (va_Qi Q (PosW D (tyM cy) ad 34 (shM cy ad) A) A) args s 0 0 A) (F0 m 106 ls [.int y0]) := by
  have hx := X.1
  have hb := X.2.1
  unfold wX12_kindOf_b106 at h
  refine lv_istore_n (lv' := [(3, .int y0), (0, .ref (ad 0)), (2, .int x2)]) hx hb dX12_kindOf_106 rfl hl (by decide) rfl (fun ls hl => ?_)
  refine lv_iload_n hx hb dX12_kindOf_107 rfl (lv_at hl 0 rfl) ?_
  refine lv_if_lt (tgt := 120) hx hb dX12_kindOf_108 (by decide) (fun q_8 => ?_) (fun q_8 => ?_)
  · replace h := h.1 q_8
    refine lv_aload_n hx hb dX12_kindOf_120 rfl (lv_at hl 1 rfl) ?_
    refine o_get X S 0 15 (by decide) rfl rfl in_12 (by decide) k_882 rfl dX12_kindOf_121 ?_
    refine lv_bipush (v := 13) hx hb dX12_kindOf_124 (by decide) ?_
    refine lv_bipush (v := 9) hx hb dX12_kindOf_126 (by decide) ?_
    refine lv_bipush (v := 14) hx hb dX12_kindOf_128 (by decide) ?_
    refine lv_iconst (v := 0) hx hb dX12_kindOf_130 (by decide) ?_
    refine o_callSi (k := 4) EvM_ok X S (mX12_wordOf l 13 9 14 0 σ _ h) k_1070 k_1068 k_1069 k_14 ⟨by decide, by decide, by decide +kernel⟩ ⟨rfl, rfl⟩ ⟨Nat.le_of_ble_eq_true rfl, Nat.le_of_ble_eq_true rfl⟩ rfl hl.1 rfl (Nat.le_of_ble_eq_true rfl) dX12_kindOf_131 (fun r_9 σ_10 H locs h S => ?_)
    refine lv_icmp_eq (tgt := 153) hx hb dX12_kindOf_134 (by decide) (fun q_11 => ?_) (fun q_11 => ?_)
    · replace h := h.1 q_11
      exact mX12_kindOf_b153 l X hr x2 S (lv_sub hl [1, 2] rfl) h
    · replace h := h.2 q_11
      refine lv_aload_n hx hb dX12_kindOf_137 rfl (lv_at hl 1 rfl) ?_
      refine o_get X S 0 15 (by decide) rfl rfl in_12 (by decide) k_882 rfl dX12_kindOf_138 ?_
      refine lv_bipush (v := 13) hx hb dX12_kindOf_141 (by decide) ?_
      refine lv_iconst (v := 1) hx hb dX12_kindOf_143 (by decide) ?_
      refine lv_bipush (v := 24) hx hb dX12_kindOf_144 (by decide) ?_
      refine lv_iconst (v := 0) hx hb dX12_kindOf_146 (by decide) ?_
      refine o_callSi (k := 4) EvM_ok X S (mX12_wordOf l 13 1 24 0 σ_10 _ h) k_1070 k_1068 k_1069 k_14 ⟨by decide, by decide, by decide +kernel⟩ ⟨rfl, rfl⟩ ⟨Nat.le_of_ble_eq_true rfl, Nat.le_of_ble_eq_true rfl⟩ rfl hl.1 rfl (Nat.le_of_ble_eq_true rfl) dX12_kindOf_147 (fun r_16 σ_17 H locs h S => ?_)
      refine lv_icmp_ne (tgt := 183) hx hb dX12_kindOf_150 (by decide) (fun q_18 => ?_) (fun q_18 => ?_)
      · replace h := h.2 q_18
        refine lv_aload_n hx hb dX12_kindOf_183 rfl (lv_at hl 1 rfl) ?_
        refine o_get X S 0 15 (by decide) rfl rfl in_12 (by decide) k_882 rfl dX12_kindOf_184 ?_
        refine lv_bipush (v := 9) hx hb dX12_kindOf_187 (by decide) ?_
        refine lv_bipush (v := 6) hx hb dX12_kindOf_189 (by decide) ?_
        refine lv_iconst (v := 0) hx hb dX12_kindOf_191 (by decide) ?_
        refine lv_iconst (v := 0) hx hb dX12_kindOf_192 (by decide) ?_
        refine o_callSi (k := 4) EvM_ok X S (mX12_wordOf l 9 6 0 0 σ_17 _ h) k_1070 k_1068 k_1069 k_14 ⟨by decide, by decide, by decide +kernel⟩ ⟨rfl, rfl⟩ ⟨Nat.le_of_ble_eq_true rfl, Nat.le_of_ble_eq_true rfl⟩ rfl hl.1 rfl (Nat.le_of_ble_eq_true rfl) dX12_kindOf_193 (fun r_19 σ_20 H locs h S => ?_)
        refine lv_icmp_ne (tgt := 203) hx hb dX12_kindOf_196 (by decide) (fun q_21 => ?_) (fun q_21 => ?_)
        · replace h := h.2 q_21
          refine lv_iconst (v := 0) hx hb dX12_kindOf_203 (by decide) ?_
          exact mX12_kindOf_b204 l X hr 0 S (lv_sub hl [] rfl) h
        · replace h := h.1 q_21
          refine lv_iconst (v := 5) hx hb dX12_kindOf_199 (by decide) ?_
          refine lv_goto (tgt := 204) hx hb dX12_kindOf_200 (by decide) ?_
          exact mX12_kindOf_b204 l X hr 5 S (lv_sub hl [] rfl) h
      · replace h := h.1 q_18
        exact mX12_kindOf_b153 l X hr x2 S (lv_sub hl [1, 2] rfl) h
  · replace h := h.2 q_8
    refine lv_aload_n hx hb dX12_kindOf_111 rfl (lv_at hl 1 rfl) ?_
    refine o_get X S 0 10 (by decide) rfl rfl in_12 (by decide) k_877 rfl dX12_kindOf_112 ?_
    refine lv_iload_n hx hb dX12_kindOf_115 rfl (lv_at hl 2 rfl) ?_
    refine lv_iload_n hx hb dX12_kindOf_116 rfl (lv_at hl 0 rfl) ?_
    refine o_iast X S 7 0 (by decide) (fun _ => rfl) rfl h.1 dX12_kindOf_117 (fun σ_22 H locs eσ_22 S => ?_)
    replace h := h.2 σ_22 eσ_22
    refine lv_iconst (v := 2) hx hb dX12_kindOf_118 (by decide) ?_
    exact o_iret X S hr h dX12_kindOf_119
set_option maxHeartbeats 4000000 in
set_option maxRecDepth 100000 in
theorem mX12_kindOf_b46 {D : va_G} {cy : Nat → ClassId} {ad : Nat → Nat} (l : Launch) {p : Program} {e : Env} {s : State} {m : MethodId} {args : Array Value} {below : List Frame} {meth : Method} {c : Code} {A : Nat → Prop} {Q : Int32 → Sg → Prop} (X : Fx D (tyM cy) EvM p s m args meth c cX12_kindOf 4 "BackBayModel" A) (hr : meth.sig.returnType = some .int) (y0 : Int32) {σ : Sg} {H : Heap} {locs : List Loc} {ls : Array Slot} (S : St D ad 34 (shM cy ad) A s σ H locs) (hl : lv_has ls 4 []) (h : wX12_kindOf_b46 y0 σ Q) : W p l e ({ frames := 1, cells := 0, slots := 0, locals := 24 }) s m args below meth c H locs 0 0 (MQ below (va_Qi Q (PosW D (tyM cy) ad 34 (shM cy ad) A) A) args s 0 0 A) (F0 m 46 ls [.int y0]) := by
  have hx := X.1
  have hb := X.2.1
  unfold wX12_kindOf_b46 at h
  exact o_iret X S hr h dX12_kindOf_46
set_option maxHeartbeats 4000000 in
set_option maxRecDepth 100000 in
theorem mX12_kindOf {D : va_G} {cy : Nat → ClassId} {ad : Nat → Nat} (l : Launch) (x1 : Int32) (x2 : Int32) (σ : Sg) (Q : Int32 → Sg → Prop) (h : wX12_kindOf x1 x2 σ Q) : MIM D cy ad l yX12_kindOf (.code yX12_kindOf cX12_kindOf 4 (some .int) :: gT) ({ frames := 1, cells := 0, slots := 0, locals := 24 }) [.ref (ad 0), .int x1, .int x2] σ Q := by
  refine metI_of (by decide +kernel) (Nat.le_of_ble_eq_true rfl) ?_
  intro p e s m args below meth c A ls X hr hl S
  have X : Fx D (tyM cy) EvM p s m args meth c cX12_kindOf 4 "BackBayModel" A := X
  have hl : lv_has ls 4 [(0, .ref (ad 0)), (1, .int x1), (2, .int x2)] := hl
  have hx := X.1
  have hb := X.2.1
  unfold wX12_kindOf at h
  refine lv_iload_n hx hb dX12_kindOf_0 rfl (lv_at hl 1 rfl) ?_
  refine lv_iconst (v := 2) hx hb dX12_kindOf_1 (by decide) ?_
  refine lv_icmp_ne (tgt := 17) hx hb dX12_kindOf_2 (by decide) (fun q_1 => ?_) (fun q_1 => ?_)
  · replace h := h.2 q_1
    refine lv_iload_n hx hb dX12_kindOf_17 rfl (lv_at hl 1 rfl) ?_
    refine lv_iconst (v := 3) hx hb dX12_kindOf_18 (by decide) ?_
    refine lv_icmp_ne (tgt := 47) hx hb dX12_kindOf_19 (by decide) (fun q_2 => ?_) (fun q_2 => ?_)
    · replace h := h.2 q_2
      refine lv_iload_n hx hb dX12_kindOf_47 rfl (lv_at hl 1 rfl) ?_
      refine lv_iconst (v := 1) hx hb dX12_kindOf_48 (by decide) ?_
      refine lv_icmp_eq (tgt := 54) hx hb dX12_kindOf_49 (by decide) (fun q_3 => ?_) (fun q_3 => ?_)
      · replace h := h.1 q_3
        refine lv_aload_n hx hb dX12_kindOf_54 rfl (lv_at hl 0 rfl) ?_
        refine o_get X S 0 15 (by decide) rfl rfl in_12 (by decide) k_882 rfl dX12_kindOf_55 ?_
        refine lv_bipush (v := 12) hx hb dX12_kindOf_58 (by decide) ?_
        refine lv_icmp_ne (tgt := 67) hx hb dX12_kindOf_60 (by decide) (fun q_4 => ?_) (fun q_4 => ?_)
        · replace h := h.2 q_4
          refine lv_aload_n hx hb dX12_kindOf_67 rfl (lv_at hl 0 rfl) ?_
          refine o_get X S 0 15 (by decide) rfl rfl in_12 (by decide) k_882 rfl dX12_kindOf_68 ?_
          refine lv_iconst (v := 3) hx hb dX12_kindOf_71 (by decide) ?_
          refine lv_icmp_ne (tgt := 79) hx hb dX12_kindOf_72 (by decide) (fun q_5 => ?_) (fun q_5 => ?_)
          · replace h := h.2 q_5
            refine lv_aload_n hx hb dX12_kindOf_79 rfl (lv_at hl 0 rfl) ?_
            refine o_get X S 0 15 (by decide) rfl rfl in_12 (by decide) k_882 rfl dX12_kindOf_80 ?_
            refine lv_bipush (v := 18) hx hb dX12_kindOf_83 (by decide) ?_
            refine lv_icmp_ne (tgt := 92) hx hb dX12_kindOf_85 (by decide) (fun q_6 => ?_) (fun q_6 => ?_)
            · replace h := h.2 q_6
              refine lv_aload_n hx hb dX12_kindOf_92 rfl (lv_at hl 0 rfl) ?_
              refine o_get X S 0 15 (by decide) rfl rfl in_12 (by decide) k_882 rfl dX12_kindOf_93 ?_
              refine lv_bipush (v := 11) hx hb dX12_kindOf_96 (by decide) ?_
              refine lv_icmp_ne (tgt := 105) hx hb dX12_kindOf_98 (by decide) (fun q_7 => ?_) (fun q_7 => ?_)
              · replace h := h.2 q_7
                refine lv_iconst (v := (-1)) hx hb dX12_kindOf_105 (by decide) ?_
                exact mX12_kindOf_b106 l X hr x2 (-1) S (lv_sub hl [0, 2] rfl) h
              · replace h := h.1 q_7
                refine lv_iconst (v := 3) hx hb dX12_kindOf_101 (by decide) ?_
                refine lv_goto (tgt := 106) hx hb dX12_kindOf_102 (by decide) ?_
                exact mX12_kindOf_b106 l X hr x2 3 S (lv_sub hl [0, 2] rfl) h
            · replace h := h.1 q_6
              refine lv_iconst (v := 2) hx hb dX12_kindOf_88 (by decide) ?_
              refine lv_goto (tgt := 106) hx hb dX12_kindOf_89 (by decide) ?_
              exact mX12_kindOf_b106 l X hr x2 2 S (lv_sub hl [0, 2] rfl) h
          · replace h := h.1 q_5
            refine lv_iconst (v := 1) hx hb dX12_kindOf_75 (by decide) ?_
            refine lv_goto (tgt := 106) hx hb dX12_kindOf_76 (by decide) ?_
            exact mX12_kindOf_b106 l X hr x2 1 S (lv_sub hl [0, 2] rfl) h
        · replace h := h.1 q_4
          refine lv_iconst (v := 0) hx hb dX12_kindOf_63 (by decide) ?_
          refine lv_goto (tgt := 106) hx hb dX12_kindOf_64 (by decide) ?_
          exact mX12_kindOf_b106 l X hr x2 0 S (lv_sub hl [0, 2] rfl) h
      · replace h := h.2 q_3
        refine lv_iconst (v := 0) hx hb dX12_kindOf_52 (by decide) ?_
        exact o_iret X S hr h dX12_kindOf_53
    · replace h := h.1 q_2
      refine lv_aload_n hx hb dX12_kindOf_22 rfl (lv_at hl 0 rfl) ?_
      refine o_get X S 0 10 (by decide) rfl rfl in_12 (by decide) k_877 rfl dX12_kindOf_23 ?_
      refine lv_iload_n hx hb dX12_kindOf_26 rfl (lv_at hl 2 rfl) ?_
      refine lv_aload_n hx hb dX12_kindOf_27 rfl (lv_at hl 0 rfl) ?_
      refine o_get X S 0 15 (by decide) rfl rfl in_12 (by decide) k_882 rfl dX12_kindOf_28 ?_
      refine o_iast X S 7 0 (by decide) (fun _ => rfl) rfl h.1 dX12_kindOf_31 (fun σ_23 H locs eσ_23 S => ?_)
      replace h := h.2 σ_23 eσ_23
      refine lv_aload_n hx hb dX12_kindOf_32 rfl (lv_at hl 0 rfl) ?_
      refine o_get X S 0 15 (by decide) rfl rfl in_12 (by decide) k_882 rfl dX12_kindOf_33 ?_
      refine lv_bipush (v := 59) hx hb dX12_kindOf_36 (by decide) ?_
      refine lv_icmp_ne (tgt := 45) hx hb dX12_kindOf_38 (by decide) (fun q_24 => ?_) (fun q_24 => ?_)
      · replace h := h.2 q_24
        refine lv_iconst (v := 3) hx hb dX12_kindOf_45 (by decide) ?_
        exact mX12_kindOf_b46 l X hr 3 S (lv_sub hl [] rfl) h
      · replace h := h.1 q_24
        refine lv_iconst (v := 0) hx hb dX12_kindOf_41 (by decide) ?_
        refine lv_goto (tgt := 46) hx hb dX12_kindOf_42 (by decide) ?_
        exact mX12_kindOf_b46 l X hr 0 S (lv_sub hl [] rfl) h
  · replace h := h.1 q_1
    refine lv_aload_n hx hb dX12_kindOf_5 rfl (lv_at hl 0 rfl) ?_
    refine o_get X S 0 10 (by decide) rfl rfl in_12 (by decide) k_877 rfl dX12_kindOf_6 ?_
    refine lv_iload_n hx hb dX12_kindOf_9 rfl (lv_at hl 2 rfl) ?_
    refine lv_aload_n hx hb dX12_kindOf_10 rfl (lv_at hl 0 rfl) ?_
    refine o_get X S 0 15 (by decide) rfl rfl in_12 (by decide) k_882 rfl dX12_kindOf_11 ?_
    refine o_iast X S 7 0 (by decide) (fun _ => rfl) rfl h.1 dX12_kindOf_14 (fun σ_25 H locs eσ_25 S => ?_)
    replace h := h.2 σ_25 eσ_25
    refine lv_iconst (v := 1) hx hb dX12_kindOf_15 (by decide) ?_
    exact o_iret X S hr h dX12_kindOf_16
def wX12_children_b19 (y0 : Int32) (σ : Sg) (Q : Int32 → Sg → Prop) : Prop :=
  Q y0 σ
def wX12_children (x0 : Int32) (σ : Sg) (Q : Int32 → Sg → Prop) : Prop :=
  ((x0 = 5 → wX12_children_b19 4 σ Q) ∧ (¬ x0 = 5 → ((x0 < 3 → wX12_children_b19 0 σ Q) ∧ (¬ x0 < 3 → wX12_children_b19 2 σ Q))))
set_option maxHeartbeats 4000000 in
set_option maxRecDepth 100000 in
theorem mX12_children_b19 {D : va_G} {cy : Nat → ClassId} {ad : Nat → Nat} (l : Launch) {p : Program} {e : Env} {s : State} {m : MethodId} {args : Array Value} {below : List Frame} {meth : Method} {c : Code} {A : Nat → Prop} {Q : Int32 → Sg → Prop} (X : Fx D (tyM cy) EvM p s m args meth c cX12_children 1 "BackBayModel" A) (hr : meth.sig.returnType = some .int) (y0 : Int32) {σ : Sg} {H : Heap} {locs : List Loc} {ls : Array Slot} (S : St D ad 34 (shM cy ad) A s σ H locs) (hl : lv_has ls 1 []) (h : wX12_children_b19 y0 σ Q) : W p l e ({ frames := 0, cells := 0, slots := 0, locals := 0 }) s m args below meth c H locs 0 0 (MQ below (va_Qi Q (PosW D (tyM cy) ad 34 (shM cy ad) A) A) args s 0 0 A) (F0 m 19 ls [.int y0]) := by
  have hx := X.1
  have hb := X.2.1
  unfold wX12_children_b19 at h
  exact o_iret X S hr h dX12_children_19
set_option maxHeartbeats 4000000 in
set_option maxRecDepth 100000 in
theorem mX12_children {D : va_G} {cy : Nat → ClassId} {ad : Nat → Nat} (l : Launch) (x0 : Int32) (σ : Sg) (Q : Int32 → Sg → Prop) (h : wX12_children x0 σ Q) : MIM D cy ad l yX12_children (.code yX12_children cX12_children 1 (some .int) :: gT) ({ frames := 0, cells := 0, slots := 0, locals := 0 }) [.int x0] σ Q := by
  refine metI_of (by decide +kernel) (Nat.le_of_ble_eq_true rfl) ?_
  intro p e s m args below meth c A ls X hr hl S
  have X : Fx D (tyM cy) EvM p s m args meth c cX12_children 1 "BackBayModel" A := X
  have hl : lv_has ls 1 [(0, .int x0)] := hl
  have hx := X.1
  have hb := X.2.1
  unfold wX12_children at h
  refine lv_iload_n hx hb dX12_children_0 rfl (lv_at hl 0 rfl) ?_
  refine lv_iconst (v := 5) hx hb dX12_children_1 (by decide) ?_
  refine lv_icmp_ne (tgt := 9) hx hb dX12_children_2 (by decide) (fun q_1 => ?_) (fun q_1 => ?_)
  · replace h := h.2 q_1
    refine lv_iload_n hx hb dX12_children_9 rfl (lv_at hl 0 rfl) ?_
    refine lv_iconst (v := 3) hx hb dX12_children_10 (by decide) ?_
    refine lv_icmp_lt (tgt := 18) hx hb dX12_children_11 (by decide) (fun q_2 => ?_) (fun q_2 => ?_)
    · replace h := h.1 q_2
      refine lv_iconst (v := 0) hx hb dX12_children_18 (by decide) ?_
      exact mX12_children_b19 l X hr 0 S (lv_sub hl [] rfl) h
    · replace h := h.2 q_2
      refine lv_iconst (v := 2) hx hb dX12_children_14 (by decide) ?_
      refine lv_goto (tgt := 19) hx hb dX12_children_15 (by decide) ?_
      exact mX12_children_b19 l X hr 2 S (lv_sub hl [] rfl) h
  · replace h := h.1 q_1
    refine lv_iconst (v := 4) hx hb dX12_children_5 (by decide) ?_
    refine lv_goto (tgt := 19) hx hb dX12_children_6 (by decide) ?_
    exact mX12_children_b19 l X hr 4 S (lv_sub hl [] rfl) h
def wX12_readAll_b141 (x2 : Int32) (x3 : Int32) (y0 : Int32) (y1 : Int32) (y2 : Int32) (σ : Sg) (k224 : Sg → Prop) (k152 : Sg → Prop) (k171 : Sg → Prop) (kb95 : Int32 → Sg → Prop) (Q : Int32 → Sg → Prop) : Prop :=
  (wX12_kindOf y2 (y1 + y0) σ (fun r_20 σ_21 => ((r_20 = 0 → k152 σ_21) ∧ (¬ r_20 = 0 → ((((σ_21 0 17) - x2) = 20 → k171 σ_21) ∧ (¬ ((σ_21 0 17) - x2) = 20 → ((x3 = 6 → k171 σ_21) ∧ (¬ x3 = 6 → (vp_in (60 + (σ_21 0 17)) 120 ∧ ∀ σ_25, σ_25 = sto σ_21 6 (60 + (σ_21 0 17)).toNatClampNeg r_20 → (∀ σ_26, σ_26 = sto σ_25 0 17 ((σ_25 0 17) + 1) → (vp_in x3 8 ∧ (vp_in x3 8 ∧ ∀ σ_27, σ_27 = sto σ_26 9 x3.toNatClampNeg ((σ_26 9 x3.toNatClampNeg) - 1) → (∀ x3_28 : Int32, x3_28 = x3 + 1 → (wX12_children r_20 σ_27 (fun r_29 σ_30 => (vp_in x3_28 8 ∧ ∀ σ_31, σ_31 = sto σ_30 9 x3_28.toNatClampNeg r_29 → kb95 x3_28 σ_31))))))))))))))))
def wX12_readAll_L95 (x2 : Int32) (k224 : Sg → Prop) (k152 : Sg → Prop) (k171 : Sg → Prop) (Q : Int32 → Sg → Prop) : Nat → Int32 → Sg → Prop
  | 0, _, _ => False
  | nn95 + 1, x3, σ =>
  ((x3 < 0 → k224 σ) ∧ (¬ x3 < 0 → (vp_in x3 8 ∧ (((σ 9 x3.toNatClampNeg) = 0 → (∀ x3_32 : Int32, x3_32 = x3 + (-1) → wX12_readAll_L95 x2 k224 k152 k171 Q nn95 x3_32 σ)) ∧ (¬ (σ 9 x3.toNatClampNeg) = 0 → (wX12_token σ (fun r_17 σ_18 => ((60 ≤ (σ_18 0 17) → wX12_readAll_b141 x2 x3 59 60 r_17 σ_18 k224 k152 k171 (wX12_readAll_L95 x2 k224 k152 k171 Q nn95) Q) ∧ (¬ 60 ≤ (σ_18 0 17) → wX12_readAll_b141 x2 x3 (σ_18 0 17) 60 r_17 σ_18 k224 k152 k171 (wX12_readAll_L95 x2 k224 k152 k171 Q nn95) Q)))))))))
def wX12_readAll_b33 (x1 : Int32) (σ : Sg) (k31 : Sg → Prop) (k54 : Sg → Prop) (k64 : Sg → Prop) (k152 : Sg → Prop) (k171 : Sg → Prop) (k253 : Sg → Prop) (kb15 : Sg → Prop) (Q : Int32 → Sg → Prop) : Prop :=
  ((x1 = 1 → (wX12_wordOf 3 5 12 12 σ (fun r_8 σ_9 => (((σ 0 15) = r_8 → (((σ_9 0 18) = 3 → k64 σ_9) ∧ (¬ (σ_9 0 18) = 3 → (vp_in (4 + (σ_9 0 18)) 8 ∧ ∀ σ_12, σ_12 = sto σ_9 5 (4 + (σ_9 0 18)).toNatClampNeg (σ_9 0 17) → (∀ x2_13, x2_13 = (σ_12 0 17) → (vp_in 0 8 ∧ ∀ σ_14, σ_14 = sto σ_12 9 0 1 → (∃ nf, wX12_readAll_L95 x2_13 (fun σ_33 => (∀ σ_34, σ_34 = sto σ_33 0 18 ((σ_33 0 18) + 1) → (wX12_token σ_34 (fun r_35 σ_36 => ((r_35 = 3 → (((σ_36 0 15) = 59 → kb15 σ_36) ∧ (¬ (σ_36 0 15) = 59 → k253 σ_36))) ∧ (¬ r_35 = 3 → k253 σ_36)))))) (fun σ_39 => k152 σ_39) (fun σ_40 => k171 σ_40) Q nf 0 σ_14))))))) ∧ (¬ (σ 0 15) = r_8 → k54 σ_9))))) ∧ (¬ x1 = 1 → k54 σ))
def wX12_readAll_L15 (k31 : Sg → Prop) (k54 : Sg → Prop) (k64 : Sg → Prop) (k152 : Sg → Prop) (k171 : Sg → Prop) (k253 : Sg → Prop) (Q : Int32 → Sg → Prop) : Nat → Sg → Prop
  | 0, _ => False
  | nn15 + 1, σ =>
  (wX12_token σ (fun r_4 σ_5 => ((r_4 = 0 → (((σ_5 0 18) ≤ 0 → wX12_readAll_b33 r_4 σ_5 k31 k54 k64 k152 k171 k253 (wX12_readAll_L15 k31 k54 k64 k152 k171 k253 Q nn15) Q) ∧ (¬ (σ_5 0 18) ≤ 0 → k31 σ_5))) ∧ (¬ r_4 = 0 → wX12_readAll_b33 r_4 σ_5 k31 k54 k64 k152 k171 k253 (wX12_readAll_L15 k31 k54 k64 k152 k171 k253 Q nn15) Q))))
def wX12_readAll_b54 (σ : Sg) (Q : Int32 → Sg → Prop) : Prop :=
  Q 1 σ
def wX12_readAll_b171 (σ : Sg) (Q : Int32 → Sg → Prop) : Prop :=
  Q 3 σ
def wX12_readAll_b253 (σ : Sg) (Q : Int32 → Sg → Prop) : Prop :=
  Q 1 σ
def wX12_readAll (σ : Sg) (Q : Int32 → Sg → Prop) : Prop :=
  (∀ σ_1, σ_1 = sto σ 0 13 0 → (∀ σ_2, σ_2 = sto σ_1 0 17 0 → (∀ σ_3, σ_3 = sto σ_2 0 18 0 → (∃ nf, wX12_readAll_L15 (fun σ_42 => Q 0 σ_42) (fun σ_43 => wX12_readAll_b54 σ_43 Q) (fun σ_44 => Q 3 σ_44) (fun σ_45 => Q 1 σ_45) (fun σ_46 => wX12_readAll_b171 σ_46 Q) (fun σ_47 => wX12_readAll_b253 σ_47 Q) Q nf σ_3))))
set_option maxHeartbeats 4000000 in
set_option maxRecDepth 100000 in
theorem mX12_readAll_b141 {D : va_G} {cy : Nat → ClassId} {ad : Nat → Nat} (l : Launch) {p : Program} {e : Env} {s : State} {m : MethodId} {args : Array Value} {below : List Frame} {meth : Method} {c : Code} {A : Nat → Prop} {k224 : Sg → Prop} {k152 : Sg → Prop} {k171 : Sg → Prop} {kb95 : Int32 → Sg → Prop} {Q : Int32 → Sg → Prop} (X : Fx D (tyM cy) EvM p s m args meth c cX12_readAll 5 "BackBayModel" A) (hr : meth.sig.returnType = some .int) (x2 : Int32) (x3 : Int32) (y0 : Int32) (y1 : Int32) (y2 : Int32) (hk224 : ∀ (σ : Sg) (H : Heap) (locs : List Loc) (ls : Array Slot), St D ad 34 (shM cy ad) A s σ H locs → lv_has ls 5 [(0, .ref (ad 0))] → k224 σ → W p l e ({ frames := 3, cells := 0, slots := 0, locals := 64 }) s m args below meth c H locs 0 0 (MQ below (va_Qi Q (PosW D (tyM cy) ad 34 (shM cy ad) A) A) args s 0 0 A) (F0 m 224 ls [])) (hk152 : ∀ (σ : Sg) (H : Heap) (locs : List Loc) (ls : Array Slot), St D ad 34 (shM cy ad) A s σ H locs → lv_has ls 5 [] → k152 σ → W p l e ({ frames := 3, cells := 0, slots := 0, locals := 64 }) s m args below meth c H locs 0 0 (MQ below (va_Qi Q (PosW D (tyM cy) ad 34 (shM cy ad) A) A) args s 0 0 A) (F0 m 152 ls [])) (hk171 : ∀ (σ : Sg) (H : Heap) (locs : List Loc) (ls : Array Slot), St D ad 34 (shM cy ad) A s σ H locs → lv_has ls 5 [] → k171 σ → W p l e ({ frames := 3, cells := 0, slots := 0, locals := 64 }) s m args below meth c H locs 0 0 (MQ below (va_Qi Q (PosW D (tyM cy) ad 34 (shM cy ad) A) A) args s 0 0 A) (F0 m 171 ls [])) (hkb95 : ∀ (x3 : Int32) (σ : Sg) (H : Heap) (locs : List Loc) (ls : Array Slot), St D ad 34 (shM cy ad) A s σ H locs → lv_has ls 5 [(0, .ref (ad 0)), (2, .int x2), (3, .int x3)] → kb95 x3 σ → W p l e ({ frames := 3, cells := 0, slots := 0, locals := 64 }) s m args below meth c H locs 0 0 (MQ below (va_Qi Q (PosW D (tyM cy) ad 34 (shM cy ad) A) A) args s 0 0 A) (F0 m 95 ls [])) {σ : Sg} {H : Heap} {locs : List Loc} {ls : Array Slot} (S : St D ad 34 (shM cy ad) A s σ H locs) (hl : lv_has ls 5 [(0, .ref (ad 0)), (2, .int x2), (3, .int x3)]) (h : wX12_readAll_b141 x2 x3 y0 y1 y2 σ k224 k152 k171 kb95 Q) : W p l e ({ frames := 3, cells := 0, slots := 0, locals := 64 }) s m args below meth c H locs 0 0 (MQ below (va_Qi Q (PosW D (tyM cy) ad 34 (shM cy ad) A) A) args s 0 0 A) (F0 m 141 ls [.int y0, .int y1, .int y2, .ref (ad 0)]) := by
  have hx := X.1
  have hb := X.2.1
  unfold wX12_readAll_b141 at h
  refine lv_iadd hx hb dX12_readAll_141 ?_
  refine o_callVi (k := 2) EvM_ok X S (mX12_kindOf l y2 (y1 + y0) σ _ h) (by decide) rfl rfl k_1074 k_1071 k_1073 ks_37 k_14 ⟨rfl, by decide, by decide, by decide +kernel⟩ ⟨rfl, rfl⟩ ⟨Nat.le_of_ble_eq_true rfl, Nat.le_of_ble_eq_true rfl⟩ rfl hl.1 rfl (Nat.le_of_ble_eq_true rfl) dX12_readAll_142 (fun r_20 σ_21 H locs h S => ?_)
  refine lv_istore (lv' := [(4, .int r_20), (0, .ref (ad 0)), (2, .int x2), (3, .int x3)]) hx hb dX12_readAll_145 hl (by decide) rfl (fun ls hl => ?_)
  refine lv_iload hx hb dX12_readAll_147 (lv_at hl 0 rfl) ?_
  refine lv_if_ne (tgt := 154) hx hb dX12_readAll_149 (by decide) (fun q_22 => ?_) (fun q_22 => ?_)
  · replace h := h.2 q_22
    refine lv_aload_n hx hb dX12_readAll_154 rfl (lv_at hl 1 rfl) ?_
    refine o_get X S 0 17 (by decide) rfl rfl in_12 (by decide) k_884 rfl dX12_readAll_155 ?_
    refine lv_iload_n hx hb dX12_readAll_158 rfl (lv_at hl 2 rfl) ?_
    refine lv_isub hx hb dX12_readAll_159 ?_
    refine lv_bipush (v := 20) hx hb dX12_readAll_160 (by decide) ?_
    refine lv_icmp_eq (tgt := 171) hx hb dX12_readAll_162 (by decide) (fun q_23 => ?_) (fun q_23 => ?_)
    · replace h := h.1 q_23
      exact hk171 _ _ _ _ S (lv_sub hl [] rfl) h
    · replace h := h.2 q_23
      refine lv_iload_n hx hb dX12_readAll_165 rfl (lv_at hl 3 rfl) ?_
      refine lv_bipush (v := 6) hx hb dX12_readAll_166 (by decide) ?_
      refine lv_icmp_ne (tgt := 173) hx hb dX12_readAll_168 (by decide) (fun q_24 => ?_) (fun q_24 => ?_)
      · replace h := h.2 q_24
        refine lv_aload_n hx hb dX12_readAll_173 rfl (lv_at hl 1 rfl) ?_
        refine o_get X S 0 9 (by decide) rfl rfl in_12 (by decide) k_876 rfl dX12_readAll_174 ?_
        refine lv_bipush (v := 60) hx hb dX12_readAll_177 (by decide) ?_
        refine lv_aload_n hx hb dX12_readAll_179 rfl (lv_at hl 1 rfl) ?_
        refine o_get X S 0 17 (by decide) rfl rfl in_12 (by decide) k_884 rfl dX12_readAll_180 ?_
        refine lv_iadd hx hb dX12_readAll_183 ?_
        refine lv_iload hx hb dX12_readAll_184 (lv_at hl 0 rfl) ?_
        refine o_iast X S 6 0 (by decide) (fun _ => rfl) rfl h.1 dX12_readAll_186 (fun σ_25 H locs eσ_25 S => ?_)
        replace h := h.2 σ_25 eσ_25
        refine lv_aload_n hx hb dX12_readAll_187 rfl (lv_at hl 1 rfl) ?_
        refine lv_dup hx hb dX12_readAll_188 rfl ?_
        refine o_get X S 0 17 (by decide) rfl rfl in_12 (by decide) k_884 rfl dX12_readAll_189 ?_
        refine lv_iconst (v := 1) hx hb dX12_readAll_192 (by decide) ?_
        refine lv_iadd hx hb dX12_readAll_193 ?_
        refine o_puti X S (fs := fun c => [.int (c 0), .ref (ad 1), .ref (ad 2), .ref (ad 3), .ref (ad 4), .int (c 5), .int (c 6), .int (c 7), .ref (ad 5), .ref (ad 6), .ref (ad 7), .ref (ad 8), .int (c 12), .int (c 13), .int (c 14), .int (c 15), .ref (ad 9), .int (c 17), .int (c 18), .int (c 19), .ref (ad 10), .ref (ad 11), .ref (ad 12), .ref (ad 13), .ref (ad 14), .ref (ad 15), .ref (ad 16), .int (c 27), .int (c 28), .ref (ad 17), .ref (ad 18), .ref (ad 19), .ref (ad 20), .ref (ad 21), .ref (ad 22), .ref (ad 23), .ref (ad 24), .ref (ad 25), .ref (ad 26), .ref (ad 27), .ref (ad 28), .ref (ad 29), .int (c 42), .ref (ad 30), .ref (ad 31), .ref (ad 32), .ref (ad 33), .int (c 47)]) 0 17 (by decide) (fun _ => rfl) (fun _ _ => rfl) rfl in_12 tyX12_ok nmX12 (by decide) k_884 rfl rfl rfl rfl (fun _ => Nat.le_of_ble_eq_true rfl) dX12_readAll_194 (fun σ_26 H locs eσ_26 S => ?_)
        replace h := h σ_26 eσ_26
        refine lv_aload_n hx hb dX12_readAll_197 rfl (lv_at hl 1 rfl) ?_
        refine o_get X S 0 16 (by decide) rfl rfl in_12 (by decide) k_883 rfl dX12_readAll_198 ?_
        refine lv_iload_n hx hb dX12_readAll_201 rfl (lv_at hl 3 rfl) ?_
        refine lv_dup2_11 hx hb dX12_readAll_202 rfl rfl ?_
        refine o_iald X S 9 0 (by decide) (fun _ => rfl) rfl h.1 dX12_readAll_203 ?_
        replace h := h.2
        refine lv_iconst (v := 1) hx hb dX12_readAll_204 (by decide) ?_
        refine lv_isub hx hb dX12_readAll_205 ?_
        refine o_iast X S 9 0 (by decide) (fun _ => rfl) rfl h.1 dX12_readAll_206 (fun σ_27 H locs eσ_27 S => ?_)
        replace h := h.2 σ_27 eσ_27
        obtain ⟨x3_28, ex3_28⟩ : ∃ y : Int32, y = x3 + 1 := ⟨_, rfl⟩
        replace h := h x3_28 ex3_28
        refine lv_iinc (v := x3_28) (lv' := [(3, .int x3_28), (4, .int r_20), (0, .ref (ad 0)), (2, .int x2)]) hx hb dX12_readAll_207 hl (k := 3) rfl (by rw [ex3_28]; rfl) (by decide) rfl (fun ls hl => ?_)
        refine lv_aload_n hx hb dX12_readAll_210 rfl (lv_at hl 2 rfl) ?_
        refine o_get X S 0 16 (by decide) rfl rfl in_12 (by decide) k_883 rfl dX12_readAll_211 ?_
        refine lv_iload_n hx hb dX12_readAll_214 rfl (lv_at hl 0 rfl) ?_
        refine lv_iload hx hb dX12_readAll_215 (lv_at hl 1 rfl) ?_
        refine o_callSi (k := 1) EvM_ok X S (mX12_children l r_20 σ_27 _ h) k_1077 k_1075 k_1076 k_14 ⟨by decide, by decide, by decide +kernel⟩ ⟨rfl, rfl⟩ ⟨Nat.le_of_ble_eq_true rfl, Nat.le_of_ble_eq_true rfl⟩ rfl hl.1 rfl (Nat.le_of_ble_eq_true rfl) dX12_readAll_217 (fun r_29 σ_30 H locs h S => ?_)
        refine o_iast X S 9 0 (by decide) (fun _ => rfl) rfl h.1 dX12_readAll_220 (fun σ_31 H locs eσ_31 S => ?_)
        replace h := h.2 σ_31 eσ_31
        refine lv_goto (tgt := 95) hx hb dX12_readAll_221 (by decide) ?_
        exact hkb95 _ _ _ _ _ S (lv_sub hl [2, 3, 0] rfl) h
      · replace h := h.1 q_24
        exact hk171 _ _ _ _ S (lv_sub hl [] rfl) h
  · replace h := h.1 q_22
    exact hk152 _ _ _ _ S (lv_sub hl [] rfl) h
set_option maxHeartbeats 4000000 in
set_option maxRecDepth 100000 in
theorem mX12_readAll_L95 {D : va_G} {cy : Nat → ClassId} {ad : Nat → Nat} (l : Launch) {p : Program} {e : Env} {s : State} {m : MethodId} {args : Array Value} {below : List Frame} {meth : Method} {c : Code} {A : Nat → Prop} {k224 : Sg → Prop} {k152 : Sg → Prop} {k171 : Sg → Prop} {Q : Int32 → Sg → Prop} (X : Fx D (tyM cy) EvM p s m args meth c cX12_readAll 5 "BackBayModel" A) (hr : meth.sig.returnType = some .int) (x2 : Int32) (hk224 : ∀ (σ : Sg) (H : Heap) (locs : List Loc) (ls : Array Slot), St D ad 34 (shM cy ad) A s σ H locs → lv_has ls 5 [(0, .ref (ad 0))] → k224 σ → W p l e ({ frames := 3, cells := 0, slots := 0, locals := 64 }) s m args below meth c H locs 0 0 (MQ below (va_Qi Q (PosW D (tyM cy) ad 34 (shM cy ad) A) A) args s 0 0 A) (F0 m 224 ls [])) (hk152 : ∀ (σ : Sg) (H : Heap) (locs : List Loc) (ls : Array Slot), St D ad 34 (shM cy ad) A s σ H locs → lv_has ls 5 [] → k152 σ → W p l e ({ frames := 3, cells := 0, slots := 0, locals := 64 }) s m args below meth c H locs 0 0 (MQ below (va_Qi Q (PosW D (tyM cy) ad 34 (shM cy ad) A) A) args s 0 0 A) (F0 m 152 ls [])) (hk171 : ∀ (σ : Sg) (H : Heap) (locs : List Loc) (ls : Array Slot), St D ad 34 (shM cy ad) A s σ H locs → lv_has ls 5 [] → k171 σ → W p l e ({ frames := 3, cells := 0, slots := 0, locals := 64 }) s m args below meth c H locs 0 0 (MQ below (va_Qi Q (PosW D (tyM cy) ad 34 (shM cy ad) A) A) args s 0 0 A) (F0 m 171 ls [])) : ∀ (n : Nat) (x3 : Int32) (σ : Sg) (H : Heap) (locs : List Loc) (ls : Array Slot), St D ad 34 (shM cy ad) A s σ H locs → lv_has ls 5 [(0, .ref (ad 0)), (2, .int x2), (3, .int x3)] → wX12_readAll_L95 x2 k224 k152 k171 Q n x3 σ → W p l e ({ frames := 3, cells := 0, slots := 0, locals := 64 }) s m args below meth c H locs 0 0 (MQ below (va_Qi Q (PosW D (tyM cy) ad 34 (shM cy ad) A) A) args s 0 0 A) (F0 m 95 ls []) := by
  have hx := X.1
  have hb := X.2.1
  intro n
  induction n with
  | zero =>
    intro _ _ _ _ _ _ _ h
    exact absurd h (by unfold wX12_readAll_L95; exact id)
  | succ n ih =>
    intro x3 σ H locs ls S hl h
    unfold wX12_readAll_L95 at h
    refine lv_iload_n hx hb dX12_readAll_95 rfl (lv_at hl 2 rfl) ?_
    refine lv_if_lt (tgt := 224) hx hb dX12_readAll_96 (by decide) (fun q_15 => ?_) (fun q_15 => ?_)
    · replace h := h.1 q_15
      exact hk224 _ _ _ _ S (lv_sub hl [0] rfl) h
    · replace h := h.2 q_15
      refine lv_aload_n hx hb dX12_readAll_99 rfl (lv_at hl 0 rfl) ?_
      refine o_get X S 0 16 (by decide) rfl rfl in_12 (by decide) k_883 rfl dX12_readAll_100 ?_
      refine lv_iload_n hx hb dX12_readAll_103 rfl (lv_at hl 2 rfl) ?_
      refine o_iald X S 9 0 (by decide) (fun _ => rfl) rfl h.1 dX12_readAll_104 ?_
      replace h := h.2
      refine lv_if_ne (tgt := 114) hx hb dX12_readAll_105 (by decide) (fun q_16 => ?_) (fun q_16 => ?_)
      · replace h := h.2 q_16
        refine lv_aload_n hx hb dX12_readAll_114 rfl (lv_at hl 0 rfl) ?_
        refine o_callVi (k := 0) EvM_ok X S (mX12_token l σ _ h) (by decide) rfl rfl k_1061 k_1058 k_1060 ks_36 k_14 ⟨rfl, by decide, by decide, by decide +kernel⟩ ⟨rfl, rfl⟩ ⟨Nat.le_of_ble_eq_true rfl, Nat.le_of_ble_eq_true rfl⟩ rfl hl.1 rfl (Nat.le_of_ble_eq_true rfl) dX12_readAll_115 (fun r_17 σ_18 H locs h S => ?_)
        refine lv_istore_n (lv' := [(1, .int r_17), (0, .ref (ad 0)), (2, .int x2), (3, .int x3)]) hx hb dX12_readAll_118 rfl hl (by decide) rfl (fun ls hl => ?_)
        refine lv_aload_n hx hb dX12_readAll_119 rfl (lv_at hl 1 rfl) ?_
        refine lv_iload_n hx hb dX12_readAll_120 rfl (lv_at hl 0 rfl) ?_
        refine lv_bipush (v := 60) hx hb dX12_readAll_121 (by decide) ?_
        refine lv_aload_n hx hb dX12_readAll_123 rfl (lv_at hl 1 rfl) ?_
        refine o_get X S 0 17 (by decide) rfl rfl in_12 (by decide) k_884 rfl dX12_readAll_124 ?_
        refine lv_bipush (v := 60) hx hb dX12_readAll_127 (by decide) ?_
        refine lv_icmp_ge (tgt := 139) hx hb dX12_readAll_129 (by decide) (fun q_19 => ?_) (fun q_19 => ?_)
        · replace h := h.1 q_19
          refine lv_bipush (v := 59) hx hb dX12_readAll_139 (by decide) ?_
          exact mX12_readAll_b141 l X hr x2 x3 59 60 r_17 hk224 hk152 hk171 ih S (lv_sub hl [1, 2, 3] rfl) h
        · replace h := h.2 q_19
          refine lv_aload_n hx hb dX12_readAll_132 rfl (lv_at hl 1 rfl) ?_
          refine o_get X S 0 17 (by decide) rfl rfl in_12 (by decide) k_884 rfl dX12_readAll_133 ?_
          refine lv_goto (tgt := 141) hx hb dX12_readAll_136 (by decide) ?_
          exact mX12_readAll_b141 l X hr x2 x3 (σ_18 0 17) 60 r_17 hk224 hk152 hk171 ih S (lv_sub hl [1, 2, 3] rfl) h
      · replace h := h.1 q_16
        obtain ⟨x3_32, ex3_32⟩ : ∃ y : Int32, y = x3 + (-1) := ⟨_, rfl⟩
        replace h := h x3_32 ex3_32
        refine lv_iinc (v := x3_32) (lv' := [(3, .int x3_32), (0, .ref (ad 0)), (2, .int x2)]) hx hb dX12_readAll_108 hl (k := 2) rfl (by rw [ex3_32]; rfl) (by decide) rfl (fun ls hl => ?_)
        refine lv_goto (tgt := 95) hx hb dX12_readAll_111 (by decide) ?_
        exact ih _ _ _ _ _ S (lv_sub hl [1, 2, 0] rfl) h
set_option maxHeartbeats 4000000 in
set_option maxRecDepth 100000 in
theorem mX12_readAll_b33 {D : va_G} {cy : Nat → ClassId} {ad : Nat → Nat} (l : Launch) {p : Program} {e : Env} {s : State} {m : MethodId} {args : Array Value} {below : List Frame} {meth : Method} {c : Code} {A : Nat → Prop} {k31 : Sg → Prop} {k54 : Sg → Prop} {k64 : Sg → Prop} {k152 : Sg → Prop} {k171 : Sg → Prop} {k253 : Sg → Prop} {kb15 : Sg → Prop} {Q : Int32 → Sg → Prop} (X : Fx D (tyM cy) EvM p s m args meth c cX12_readAll 5 "BackBayModel" A) (hr : meth.sig.returnType = some .int) (x1 : Int32) (hk31 : ∀ (σ : Sg) (H : Heap) (locs : List Loc) (ls : Array Slot), St D ad 34 (shM cy ad) A s σ H locs → lv_has ls 5 [] → k31 σ → W p l e ({ frames := 3, cells := 0, slots := 0, locals := 64 }) s m args below meth c H locs 0 0 (MQ below (va_Qi Q (PosW D (tyM cy) ad 34 (shM cy ad) A) A) args s 0 0 A) (F0 m 31 ls [])) (hk54 : ∀ (σ : Sg) (H : Heap) (locs : List Loc) (ls : Array Slot), St D ad 34 (shM cy ad) A s σ H locs → lv_has ls 5 [] → k54 σ → W p l e ({ frames := 3, cells := 0, slots := 0, locals := 64 }) s m args below meth c H locs 0 0 (MQ below (va_Qi Q (PosW D (tyM cy) ad 34 (shM cy ad) A) A) args s 0 0 A) (F0 m 54 ls [])) (hk64 : ∀ (σ : Sg) (H : Heap) (locs : List Loc) (ls : Array Slot), St D ad 34 (shM cy ad) A s σ H locs → lv_has ls 5 [] → k64 σ → W p l e ({ frames := 3, cells := 0, slots := 0, locals := 64 }) s m args below meth c H locs 0 0 (MQ below (va_Qi Q (PosW D (tyM cy) ad 34 (shM cy ad) A) A) args s 0 0 A) (F0 m 64 ls [])) (hk152 : ∀ (σ : Sg) (H : Heap) (locs : List Loc) (ls : Array Slot), St D ad 34 (shM cy ad) A s σ H locs → lv_has ls 5 [] → k152 σ → W p l e ({ frames := 3, cells := 0, slots := 0, locals := 64 }) s m args below meth c H locs 0 0 (MQ below (va_Qi Q (PosW D (tyM cy) ad 34 (shM cy ad) A) A) args s 0 0 A) (F0 m 152 ls [])) (hk171 : ∀ (σ : Sg) (H : Heap) (locs : List Loc) (ls : Array Slot), St D ad 34 (shM cy ad) A s σ H locs → lv_has ls 5 [] → k171 σ → W p l e ({ frames := 3, cells := 0, slots := 0, locals := 64 }) s m args below meth c H locs 0 0 (MQ below (va_Qi Q (PosW D (tyM cy) ad 34 (shM cy ad) A) A) args s 0 0 A) (F0 m 171 ls [])) (hk253 : ∀ (σ : Sg) (H : Heap) (locs : List Loc) (ls : Array Slot), St D ad 34 (shM cy ad) A s σ H locs → lv_has ls 5 [] → k253 σ → W p l e ({ frames := 3, cells := 0, slots := 0, locals := 64 }) s m args below meth c H locs 0 0 (MQ below (va_Qi Q (PosW D (tyM cy) ad 34 (shM cy ad) A) A) args s 0 0 A) (F0 m 253 ls [])) (hkb15 : ∀ (σ : Sg) (H : Heap) (locs : List Loc) (ls : Array Slot), St D ad 34 (shM cy ad) A s σ H locs → lv_has ls 5 [(0, .ref (ad 0))] → kb15 σ → W p l e ({ frames := 3, cells := 0, slots := 0, locals := 64 }) s m args below meth c H locs 0 0 (MQ below (va_Qi Q (PosW D (tyM cy) ad 34 (shM cy ad) A) A) args s 0 0 A) (F0 m 15 ls [])) {σ : Sg} {H : Heap} {locs : List Loc} {ls : Array Slot} (S : St D ad 34 (shM cy ad) A s σ H locs) (hl : lv_has ls 5 [(0, .ref (ad 0)), (1, .int x1)]) (h : wX12_readAll_b33 x1 σ k31 k54 k64 k152 k171 k253 kb15 Q) : W p l e ({ frames := 3, cells := 0, slots := 0, locals := 64 }) s m args below meth c H locs 0 0 (MQ below (va_Qi Q (PosW D (tyM cy) ad 34 (shM cy ad) A) A) args s 0 0 A) (F0 m 33 ls []) := by
  have hx := X.1
  have hb := X.2.1
  unfold wX12_readAll_b33 at h
  refine lv_iload_n hx hb dX12_readAll_33 rfl (lv_at hl 1 rfl) ?_
  refine lv_iconst (v := 1) hx hb dX12_readAll_34 (by decide) ?_
  refine lv_icmp_ne (tgt := 54) hx hb dX12_readAll_35 (by decide) (fun q_7 => ?_) (fun q_7 => ?_)
  · replace h := h.2 q_7
    exact hk54 _ _ _ _ S (lv_sub hl [] rfl) h
  · replace h := h.1 q_7
    refine lv_aload_n hx hb dX12_readAll_38 rfl (lv_at hl 0 rfl) ?_
    refine o_get X S 0 15 (by decide) rfl rfl in_12 (by decide) k_882 rfl dX12_readAll_39 ?_
    refine lv_iconst (v := 3) hx hb dX12_readAll_42 (by decide) ?_
    refine lv_iconst (v := 5) hx hb dX12_readAll_43 (by decide) ?_
    refine lv_bipush (v := 12) hx hb dX12_readAll_44 (by decide) ?_
    refine lv_bipush (v := 12) hx hb dX12_readAll_46 (by decide) ?_
    refine o_callSi (k := 4) EvM_ok X S (mX12_wordOf l 3 5 12 12 σ _ h) k_1070 k_1068 k_1069 k_14 ⟨by decide, by decide, by decide +kernel⟩ ⟨rfl, rfl⟩ ⟨Nat.le_of_ble_eq_true rfl, Nat.le_of_ble_eq_true rfl⟩ rfl hl.1 rfl (Nat.le_of_ble_eq_true rfl) dX12_readAll_48 (fun r_8 σ_9 H locs h S => ?_)
    refine lv_icmp_eq (tgt := 56) hx hb dX12_readAll_51 (by decide) (fun q_10 => ?_) (fun q_10 => ?_)
    · replace h := h.1 q_10
      refine lv_aload_n hx hb dX12_readAll_56 rfl (lv_at hl 0 rfl) ?_
      refine o_get X S 0 18 (by decide) rfl rfl in_12 (by decide) k_885 rfl dX12_readAll_57 ?_
      refine lv_iconst (v := 3) hx hb dX12_readAll_60 (by decide) ?_
      refine lv_icmp_ne (tgt := 66) hx hb dX12_readAll_61 (by decide) (fun q_11 => ?_) (fun q_11 => ?_)
      · replace h := h.2 q_11
        refine lv_aload_n hx hb dX12_readAll_66 rfl (lv_at hl 0 rfl) ?_
        refine o_get X S 0 8 (by decide) rfl rfl in_12 (by decide) k_875 rfl dX12_readAll_67 ?_
        refine lv_iconst (v := 4) hx hb dX12_readAll_70 (by decide) ?_
        refine lv_aload_n hx hb dX12_readAll_71 rfl (lv_at hl 0 rfl) ?_
        refine o_get X S 0 18 (by decide) rfl rfl in_12 (by decide) k_885 rfl dX12_readAll_72 ?_
        refine lv_iadd hx hb dX12_readAll_75 ?_
        refine lv_aload_n hx hb dX12_readAll_76 rfl (lv_at hl 0 rfl) ?_
        refine o_get X S 0 17 (by decide) rfl rfl in_12 (by decide) k_884 rfl dX12_readAll_77 ?_
        refine o_iast X S 5 0 (by decide) (fun _ => rfl) rfl h.1 dX12_readAll_80 (fun σ_12 H locs eσ_12 S => ?_)
        replace h := h.2 σ_12 eσ_12
        refine lv_aload_n hx hb dX12_readAll_81 rfl (lv_at hl 0 rfl) ?_
        refine o_get X S 0 17 (by decide) rfl rfl in_12 (by decide) k_884 rfl dX12_readAll_82 ?_
        refine lv_topi (fun x2_13 ex2_13 => ?_)
        replace h := h x2_13 ex2_13
        refine lv_istore_n (lv' := [(2, .int x2_13), (0, .ref (ad 0)), (1, .int x1)]) hx hb dX12_readAll_85 rfl hl (by decide) rfl (fun ls hl => ?_)
        refine lv_iconst (v := 0) hx hb dX12_readAll_86 (by decide) ?_
        refine lv_istore_n (lv' := [(3, .int 0), (2, .int x2_13), (0, .ref (ad 0)), (1, .int x1)]) hx hb dX12_readAll_87 rfl hl (by decide) rfl (fun ls hl => ?_)
        refine lv_aload_n hx hb dX12_readAll_88 rfl (lv_at hl 2 rfl) ?_
        refine o_get X S 0 16 (by decide) rfl rfl in_12 (by decide) k_883 rfl dX12_readAll_89 ?_
        refine lv_iconst (v := 0) hx hb dX12_readAll_92 (by decide) ?_
        refine lv_iconst (v := 1) hx hb dX12_readAll_93 (by decide) ?_
        refine o_iast X S 9 0 (by decide) (fun _ => rfl) rfl h.1 dX12_readAll_94 (fun σ_14 H locs eσ_14 S => ?_)
        replace h := h.2 σ_14 eσ_14
        obtain ⟨n_95, h⟩ := h
        refine mX12_readAll_L95 l X hr x2_13 ?_ ?_ ?_ n_95 _ _ _ _ _ S (lv_sub hl [2, 1, 0] rfl) h
        · intro σ_33 H locs ls S hl h
          refine lv_aload_n hx hb dX12_readAll_224 rfl (lv_at hl 0 rfl) ?_
          refine lv_dup hx hb dX12_readAll_225 rfl ?_
          refine o_get X S 0 18 (by decide) rfl rfl in_12 (by decide) k_885 rfl dX12_readAll_226 ?_
          refine lv_iconst (v := 1) hx hb dX12_readAll_229 (by decide) ?_
          refine lv_iadd hx hb dX12_readAll_230 ?_
          refine o_puti X S (fs := fun c => [.int (c 0), .ref (ad 1), .ref (ad 2), .ref (ad 3), .ref (ad 4), .int (c 5), .int (c 6), .int (c 7), .ref (ad 5), .ref (ad 6), .ref (ad 7), .ref (ad 8), .int (c 12), .int (c 13), .int (c 14), .int (c 15), .ref (ad 9), .int (c 17), .int (c 18), .int (c 19), .ref (ad 10), .ref (ad 11), .ref (ad 12), .ref (ad 13), .ref (ad 14), .ref (ad 15), .ref (ad 16), .int (c 27), .int (c 28), .ref (ad 17), .ref (ad 18), .ref (ad 19), .ref (ad 20), .ref (ad 21), .ref (ad 22), .ref (ad 23), .ref (ad 24), .ref (ad 25), .ref (ad 26), .ref (ad 27), .ref (ad 28), .ref (ad 29), .int (c 42), .ref (ad 30), .ref (ad 31), .ref (ad 32), .ref (ad 33), .int (c 47)]) 0 18 (by decide) (fun _ => rfl) (fun _ _ => rfl) rfl in_12 tyX12_ok nmX12 (by decide) k_885 rfl rfl rfl rfl (fun _ => Nat.le_of_ble_eq_true rfl) dX12_readAll_231 (fun σ_34 H locs eσ_34 S => ?_)
          replace h := h σ_34 eσ_34
          refine lv_aload_n hx hb dX12_readAll_234 rfl (lv_at hl 0 rfl) ?_
          refine o_callVi (k := 0) EvM_ok X S (mX12_token l σ_34 _ h) (by decide) rfl rfl k_1061 k_1058 k_1060 ks_36 k_14 ⟨rfl, by decide, by decide, by decide +kernel⟩ ⟨rfl, rfl⟩ ⟨Nat.le_of_ble_eq_true rfl, Nat.le_of_ble_eq_true rfl⟩ rfl hl.1 rfl (Nat.le_of_ble_eq_true rfl) dX12_readAll_235 (fun r_35 σ_36 H locs h S => ?_)
          refine lv_istore_n (lv' := [(1, .int r_35), (0, .ref (ad 0))]) hx hb dX12_readAll_238 rfl hl (by decide) rfl (fun ls hl => ?_)
          refine lv_iload_n hx hb dX12_readAll_239 rfl (lv_at hl 0 rfl) ?_
          refine lv_iconst (v := 3) hx hb dX12_readAll_240 (by decide) ?_
          refine lv_icmp_ne (tgt := 253) hx hb dX12_readAll_241 (by decide) (fun q_37 => ?_) (fun q_37 => ?_)
          · replace h := h.2 q_37
            exact hk253 _ _ _ _ S (lv_sub hl [] rfl) h
          · replace h := h.1 q_37
            refine lv_aload_n hx hb dX12_readAll_244 rfl (lv_at hl 1 rfl) ?_
            refine o_get X S 0 15 (by decide) rfl rfl in_12 (by decide) k_882 rfl dX12_readAll_245 ?_
            refine lv_bipush (v := 59) hx hb dX12_readAll_248 (by decide) ?_
            refine lv_icmp_eq (tgt := 255) hx hb dX12_readAll_250 (by decide) (fun q_38 => ?_) (fun q_38 => ?_)
            · replace h := h.1 q_38
              refine lv_goto (tgt := 15) hx hb dX12_readAll_255 (by decide) ?_
              exact hkb15 _ _ _ _ S (lv_sub hl [1] rfl) h
            · replace h := h.2 q_38
              exact hk253 _ _ _ _ S (lv_sub hl [] rfl) h
        · intro σ_39 H locs ls S hl h
          exact hk152 _ _ _ _ S (lv_sub hl [] rfl) h
        · intro σ_40 H locs ls S hl h
          exact hk171 _ _ _ _ S (lv_sub hl [] rfl) h
      · replace h := h.1 q_11
        exact hk64 _ _ _ _ S (lv_sub hl [] rfl) h
    · replace h := h.2 q_10
      exact hk54 _ _ _ _ S (lv_sub hl [] rfl) h
set_option maxHeartbeats 4000000 in
set_option maxRecDepth 100000 in
theorem mX12_readAll_L15 {D : va_G} {cy : Nat → ClassId} {ad : Nat → Nat} (l : Launch) {p : Program} {e : Env} {s : State} {m : MethodId} {args : Array Value} {below : List Frame} {meth : Method} {c : Code} {A : Nat → Prop} {k31 : Sg → Prop} {k54 : Sg → Prop} {k64 : Sg → Prop} {k152 : Sg → Prop} {k171 : Sg → Prop} {k253 : Sg → Prop} {Q : Int32 → Sg → Prop} (X : Fx D (tyM cy) EvM p s m args meth c cX12_readAll 5 "BackBayModel" A) (hr : meth.sig.returnType = some .int) (hk31 : ∀ (σ : Sg) (H : Heap) (locs : List Loc) (ls : Array Slot), St D ad 34 (shM cy ad) A s σ H locs → lv_has ls 5 [] → k31 σ → W p l e ({ frames := 3, cells := 0, slots := 0, locals := 64 }) s m args below meth c H locs 0 0 (MQ below (va_Qi Q (PosW D (tyM cy) ad 34 (shM cy ad) A) A) args s 0 0 A) (F0 m 31 ls [])) (hk54 : ∀ (σ : Sg) (H : Heap) (locs : List Loc) (ls : Array Slot), St D ad 34 (shM cy ad) A s σ H locs → lv_has ls 5 [] → k54 σ → W p l e ({ frames := 3, cells := 0, slots := 0, locals := 64 }) s m args below meth c H locs 0 0 (MQ below (va_Qi Q (PosW D (tyM cy) ad 34 (shM cy ad) A) A) args s 0 0 A) (F0 m 54 ls [])) (hk64 : ∀ (σ : Sg) (H : Heap) (locs : List Loc) (ls : Array Slot), St D ad 34 (shM cy ad) A s σ H locs → lv_has ls 5 [] → k64 σ → W p l e ({ frames := 3, cells := 0, slots := 0, locals := 64 }) s m args below meth c H locs 0 0 (MQ below (va_Qi Q (PosW D (tyM cy) ad 34 (shM cy ad) A) A) args s 0 0 A) (F0 m 64 ls [])) (hk152 : ∀ (σ : Sg) (H : Heap) (locs : List Loc) (ls : Array Slot), St D ad 34 (shM cy ad) A s σ H locs → lv_has ls 5 [] → k152 σ → W p l e ({ frames := 3, cells := 0, slots := 0, locals := 64 }) s m args below meth c H locs 0 0 (MQ below (va_Qi Q (PosW D (tyM cy) ad 34 (shM cy ad) A) A) args s 0 0 A) (F0 m 152 ls [])) (hk171 : ∀ (σ : Sg) (H : Heap) (locs : List Loc) (ls : Array Slot), St D ad 34 (shM cy ad) A s σ H locs → lv_has ls 5 [] → k171 σ → W p l e ({ frames := 3, cells := 0, slots := 0, locals := 64 }) s m args below meth c H locs 0 0 (MQ below (va_Qi Q (PosW D (tyM cy) ad 34 (shM cy ad) A) A) args s 0 0 A) (F0 m 171 ls [])) (hk253 : ∀ (σ : Sg) (H : Heap) (locs : List Loc) (ls : Array Slot), St D ad 34 (shM cy ad) A s σ H locs → lv_has ls 5 [] → k253 σ → W p l e ({ frames := 3, cells := 0, slots := 0, locals := 64 }) s m args below meth c H locs 0 0 (MQ below (va_Qi Q (PosW D (tyM cy) ad 34 (shM cy ad) A) A) args s 0 0 A) (F0 m 253 ls [])) : ∀ (n : Nat) (σ : Sg) (H : Heap) (locs : List Loc) (ls : Array Slot), St D ad 34 (shM cy ad) A s σ H locs → lv_has ls 5 [(0, .ref (ad 0))] → wX12_readAll_L15 k31 k54 k64 k152 k171 k253 Q n σ → W p l e ({ frames := 3, cells := 0, slots := 0, locals := 64 }) s m args below meth c H locs 0 0 (MQ below (va_Qi Q (PosW D (tyM cy) ad 34 (shM cy ad) A) A) args s 0 0 A) (F0 m 15 ls []) := by
  have hx := X.1
  have hb := X.2.1
  intro n
  induction n with
  | zero =>
    intro _ _ _ _ _ _ h
    exact absurd h (by unfold wX12_readAll_L15; exact id)
  | succ n ih =>
    intro σ H locs ls S hl h
    unfold wX12_readAll_L15 at h
    refine lv_aload_n hx hb dX12_readAll_15 rfl (lv_at hl 0 rfl) ?_
    refine o_callVi (k := 0) EvM_ok X S (mX12_token l σ _ h) (by decide) rfl rfl k_1061 k_1058 k_1060 ks_36 k_14 ⟨rfl, by decide, by decide, by decide +kernel⟩ ⟨rfl, rfl⟩ ⟨Nat.le_of_ble_eq_true rfl, Nat.le_of_ble_eq_true rfl⟩ rfl hl.1 rfl (Nat.le_of_ble_eq_true rfl) dX12_readAll_16 (fun r_4 σ_5 H locs h S => ?_)
    refine lv_istore_n (lv' := [(1, .int r_4), (0, .ref (ad 0))]) hx hb dX12_readAll_19 rfl hl (by decide) rfl (fun ls hl => ?_)
    refine lv_iload_n hx hb dX12_readAll_20 rfl (lv_at hl 0 rfl) ?_
    refine lv_if_ne (tgt := 33) hx hb dX12_readAll_21 (by decide) (fun q_6 => ?_) (fun q_6 => ?_)
    · replace h := h.2 q_6
      exact mX12_readAll_b33 l X hr r_4 hk31 hk54 hk64 hk152 hk171 hk253 ih S (lv_sub hl [1, 0] rfl) h
    · replace h := h.1 q_6
      refine lv_aload_n hx hb dX12_readAll_24 rfl (lv_at hl 1 rfl) ?_
      refine o_get X S 0 18 (by decide) rfl rfl in_12 (by decide) k_885 rfl dX12_readAll_25 ?_
      refine lv_if_le (tgt := 33) hx hb dX12_readAll_28 (by decide) (fun q_41 => ?_) (fun q_41 => ?_)
      · replace h := h.1 q_41
        exact mX12_readAll_b33 l X hr r_4 hk31 hk54 hk64 hk152 hk171 hk253 ih S (lv_sub hl [1, 0] rfl) h
      · replace h := h.2 q_41
        exact hk31 _ _ _ _ S (lv_sub hl [] rfl) h
set_option maxHeartbeats 4000000 in
set_option maxRecDepth 100000 in
theorem mX12_readAll_b54 {D : va_G} {cy : Nat → ClassId} {ad : Nat → Nat} (l : Launch) {p : Program} {e : Env} {s : State} {m : MethodId} {args : Array Value} {below : List Frame} {meth : Method} {c : Code} {A : Nat → Prop} {Q : Int32 → Sg → Prop} (X : Fx D (tyM cy) EvM p s m args meth c cX12_readAll 5 "BackBayModel" A) (hr : meth.sig.returnType = some .int) {σ : Sg} {H : Heap} {locs : List Loc} {ls : Array Slot} (S : St D ad 34 (shM cy ad) A s σ H locs) (hl : lv_has ls 5 []) (h : wX12_readAll_b54 σ Q) : W p l e ({ frames := 3, cells := 0, slots := 0, locals := 64 }) s m args below meth c H locs 0 0 (MQ below (va_Qi Q (PosW D (tyM cy) ad 34 (shM cy ad) A) A) args s 0 0 A) (F0 m 54 ls []) := by
  have hx := X.1
  have hb := X.2.1
  unfold wX12_readAll_b54 at h
  refine lv_iconst (v := 1) hx hb dX12_readAll_54 (by decide) ?_
  exact o_iret X S hr h dX12_readAll_55
set_option maxHeartbeats 4000000 in
set_option maxRecDepth 100000 in
theorem mX12_readAll_b171 {D : va_G} {cy : Nat → ClassId} {ad : Nat → Nat} (l : Launch) {p : Program} {e : Env} {s : State} {m : MethodId} {args : Array Value} {below : List Frame} {meth : Method} {c : Code} {A : Nat → Prop} {Q : Int32 → Sg → Prop} (X : Fx D (tyM cy) EvM p s m args meth c cX12_readAll 5 "BackBayModel" A) (hr : meth.sig.returnType = some .int) {σ : Sg} {H : Heap} {locs : List Loc} {ls : Array Slot} (S : St D ad 34 (shM cy ad) A s σ H locs) (hl : lv_has ls 5 []) (h : wX12_readAll_b171 σ Q) : W p l e ({ frames := 3, cells := 0, slots := 0, locals := 64 }) s m args below meth c H locs 0 0 (MQ below (va_Qi Q (PosW D (tyM cy) ad 34 (shM cy ad) A) A) args s 0 0 A) (F0 m 171 ls []) := by
  have hx := X.1
  have hb := X.2.1
  unfold wX12_readAll_b171 at h
  refine lv_iconst (v := 3) hx hb dX12_readAll_171 (by decide) ?_
  exact o_iret X S hr h dX12_readAll_172
set_option maxHeartbeats 4000000 in
set_option maxRecDepth 100000 in
theorem mX12_readAll_b253 {D : va_G} {cy : Nat → ClassId} {ad : Nat → Nat} (l : Launch) {p : Program} {e : Env} {s : State} {m : MethodId} {args : Array Value} {below : List Frame} {meth : Method} {c : Code} {A : Nat → Prop} {Q : Int32 → Sg → Prop} (X : Fx D (tyM cy) EvM p s m args meth c cX12_readAll 5 "BackBayModel" A) (hr : meth.sig.returnType = some .int) {σ : Sg} {H : Heap} {locs : List Loc} {ls : Array Slot} (S : St D ad 34 (shM cy ad) A s σ H locs) (hl : lv_has ls 5 []) (h : wX12_readAll_b253 σ Q) : W p l e ({ frames := 3, cells := 0, slots := 0, locals := 64 }) s m args below meth c H locs 0 0 (MQ below (va_Qi Q (PosW D (tyM cy) ad 34 (shM cy ad) A) A) args s 0 0 A) (F0 m 253 ls []) := by
  have hx := X.1
  have hb := X.2.1
  unfold wX12_readAll_b253 at h
  refine lv_iconst (v := 1) hx hb dX12_readAll_253 (by decide) ?_
  exact o_iret X S hr h dX12_readAll_254
set_option maxHeartbeats 4000000 in
set_option maxRecDepth 100000 in
theorem mX12_readAll {D : va_G} {cy : Nat → ClassId} {ad : Nat → Nat} (l : Launch) (σ : Sg) (Q : Int32 → Sg → Prop) (h : wX12_readAll σ Q) : MIM D cy ad l yX12_readAll (.code yX12_readAll cX12_readAll 5 (some .int) :: gT) ({ frames := 3, cells := 0, slots := 0, locals := 64 }) [.ref (ad 0)] σ Q := by
  refine metI_of (by decide +kernel) (Nat.le_of_ble_eq_true rfl) ?_
  intro p e s m args below meth c A ls X hr hl S
  have X : Fx D (tyM cy) EvM p s m args meth c cX12_readAll 5 "BackBayModel" A := X
  have hl : lv_has ls 5 [(0, .ref (ad 0))] := hl
  have hx := X.1
  have hb := X.2.1
  unfold wX12_readAll at h
  refine lv_aload_n hx hb dX12_readAll_0 rfl (lv_at hl 0 rfl) ?_
  refine lv_iconst (v := 0) hx hb dX12_readAll_1 (by decide) ?_
  refine o_puti X S (fs := fun c => [.int (c 0), .ref (ad 1), .ref (ad 2), .ref (ad 3), .ref (ad 4), .int (c 5), .int (c 6), .int (c 7), .ref (ad 5), .ref (ad 6), .ref (ad 7), .ref (ad 8), .int (c 12), .int (c 13), .int (c 14), .int (c 15), .ref (ad 9), .int (c 17), .int (c 18), .int (c 19), .ref (ad 10), .ref (ad 11), .ref (ad 12), .ref (ad 13), .ref (ad 14), .ref (ad 15), .ref (ad 16), .int (c 27), .int (c 28), .ref (ad 17), .ref (ad 18), .ref (ad 19), .ref (ad 20), .ref (ad 21), .ref (ad 22), .ref (ad 23), .ref (ad 24), .ref (ad 25), .ref (ad 26), .ref (ad 27), .ref (ad 28), .ref (ad 29), .int (c 42), .ref (ad 30), .ref (ad 31), .ref (ad 32), .ref (ad 33), .int (c 47)]) 0 13 (by decide) (fun _ => rfl) (fun _ _ => rfl) rfl in_12 tyX12_ok nmX12 (by decide) k_880 rfl rfl rfl rfl (fun _ => Nat.le_of_ble_eq_true rfl) dX12_readAll_2 (fun σ_1 H locs eσ_1 S => ?_)
  replace h := h σ_1 eσ_1
  refine lv_aload_n hx hb dX12_readAll_5 rfl (lv_at hl 0 rfl) ?_
  refine lv_iconst (v := 0) hx hb dX12_readAll_6 (by decide) ?_
  refine o_puti X S (fs := fun c => [.int (c 0), .ref (ad 1), .ref (ad 2), .ref (ad 3), .ref (ad 4), .int (c 5), .int (c 6), .int (c 7), .ref (ad 5), .ref (ad 6), .ref (ad 7), .ref (ad 8), .int (c 12), .int (c 13), .int (c 14), .int (c 15), .ref (ad 9), .int (c 17), .int (c 18), .int (c 19), .ref (ad 10), .ref (ad 11), .ref (ad 12), .ref (ad 13), .ref (ad 14), .ref (ad 15), .ref (ad 16), .int (c 27), .int (c 28), .ref (ad 17), .ref (ad 18), .ref (ad 19), .ref (ad 20), .ref (ad 21), .ref (ad 22), .ref (ad 23), .ref (ad 24), .ref (ad 25), .ref (ad 26), .ref (ad 27), .ref (ad 28), .ref (ad 29), .int (c 42), .ref (ad 30), .ref (ad 31), .ref (ad 32), .ref (ad 33), .int (c 47)]) 0 17 (by decide) (fun _ => rfl) (fun _ _ => rfl) rfl in_12 tyX12_ok nmX12 (by decide) k_884 rfl rfl rfl rfl (fun _ => Nat.le_of_ble_eq_true rfl) dX12_readAll_7 (fun σ_2 H locs eσ_2 S => ?_)
  replace h := h σ_2 eσ_2
  refine lv_aload_n hx hb dX12_readAll_10 rfl (lv_at hl 0 rfl) ?_
  refine lv_iconst (v := 0) hx hb dX12_readAll_11 (by decide) ?_
  refine o_puti X S (fs := fun c => [.int (c 0), .ref (ad 1), .ref (ad 2), .ref (ad 3), .ref (ad 4), .int (c 5), .int (c 6), .int (c 7), .ref (ad 5), .ref (ad 6), .ref (ad 7), .ref (ad 8), .int (c 12), .int (c 13), .int (c 14), .int (c 15), .ref (ad 9), .int (c 17), .int (c 18), .int (c 19), .ref (ad 10), .ref (ad 11), .ref (ad 12), .ref (ad 13), .ref (ad 14), .ref (ad 15), .ref (ad 16), .int (c 27), .int (c 28), .ref (ad 17), .ref (ad 18), .ref (ad 19), .ref (ad 20), .ref (ad 21), .ref (ad 22), .ref (ad 23), .ref (ad 24), .ref (ad 25), .ref (ad 26), .ref (ad 27), .ref (ad 28), .ref (ad 29), .int (c 42), .ref (ad 30), .ref (ad 31), .ref (ad 32), .ref (ad 33), .int (c 47)]) 0 18 (by decide) (fun _ => rfl) (fun _ _ => rfl) rfl in_12 tyX12_ok nmX12 (by decide) k_885 rfl rfl rfl rfl (fun _ => Nat.le_of_ble_eq_true rfl) dX12_readAll_12 (fun σ_3 H locs eσ_3 S => ?_)
  replace h := h σ_3 eσ_3
  obtain ⟨n_15, h⟩ := h
  refine mX12_readAll_L15 l X hr ?_ ?_ ?_ ?_ ?_ ?_ n_15 _ _ _ _ S (lv_sub hl [0] rfl) h
  · intro σ_42 H locs ls S hl h
    refine lv_iconst (v := 0) hx hb dX12_readAll_31 (by decide) ?_
    exact o_iret X S hr h dX12_readAll_32
  · intro σ_43 H locs ls S hl h
    exact mX12_readAll_b54 l X hr S (lv_sub hl [] rfl) h
  · intro σ_44 H locs ls S hl h
    refine lv_iconst (v := 3) hx hb dX12_readAll_64 (by decide) ?_
    exact o_iret X S hr h dX12_readAll_65
  · intro σ_45 H locs ls S hl h
    refine lv_iconst (v := 1) hx hb dX12_readAll_152 (by decide) ?_
    exact o_iret X S hr h dX12_readAll_153
  · intro σ_46 H locs ls S hl h
    exact mX12_readAll_b171 l X hr S (lv_sub hl [] rfl) h
  · intro σ_47 H locs ls S hl h
    exact mX12_readAll_b253 l X hr S (lv_sub hl [] rfl) h
def wX12_laySizes_L15 (x1 : Int32) (k45 : Int32 → Sg → Prop) (Q : Sg → Prop) : Nat → Int32 → Int32 → Sg → Prop
  | 0, _, _, _ => False
  | nn15 + 1, x2, x3, σ =>
  (vp_in x1 120 ∧ (wX12_children (σ 6 x1.toNatClampNeg) σ (fun r_3 σ_4 => ((r_3 ≤ x3 → k45 x2 σ_4) ∧ (¬ r_3 ≤ x3 → (vp_in (x1 + x2) 120 ∧ (∀ x2_6, x2_6 = (x2 + (σ_4 8 (x1 + x2).toNatClampNeg)) → (∀ x3_7 : Int32, x3_7 = x3 + 1 → wX12_laySizes_L15 x1 k45 Q nn15 x2_6 x3_7 σ_4))))))))
def wX12_laySizes_L7 (k58 : Sg → Prop) (Q : Sg → Prop) : Nat → Int32 → Sg → Prop
  | 0, _, _ => False
  | nn7 + 1, x1, σ =>
  ((x1 < 0 → k58 σ) ∧ (¬ x1 < 0 → (∃ nf, wX12_laySizes_L15 x1 (fun x2_8 σ_9 => (vp_in x1 120 ∧ ∀ σ_10, σ_10 = sto σ_9 8 x1.toNatClampNeg x2_8 → (∀ x1_11 : Int32, x1_11 = x1 + (-1) → wX12_laySizes_L7 k58 Q nn7 x1_11 σ_10))) Q nf 1 0 σ)))
def wX12_laySizes (σ : Sg) (Q : Sg → Prop) : Prop :=
  (∀ x1_1, x1_1 = ((σ 0 7) - 1) → (∃ nf, wX12_laySizes_L7 (fun σ_12 => Q σ_12) Q nf x1_1 σ))
set_option maxHeartbeats 4000000 in
set_option maxRecDepth 100000 in
theorem mX12_laySizes_L15 {D : va_G} {cy : Nat → ClassId} {ad : Nat → Nat} (l : Launch) {p : Program} {e : Env} {s : State} {m : MethodId} {args : Array Value} {below : List Frame} {meth : Method} {c : Code} {A : Nat → Prop} {k45 : Int32 → Sg → Prop} {Q : Sg → Prop} (X : Fx D (tyM cy) EvM p s m args meth c cX12_laySizes 4 "BackBayModel" A) (hr : meth.sig.returnType = none) (x1 : Int32) (hk45 : ∀ (x2 : Int32) (σ : Sg) (H : Heap) (locs : List Loc) (ls : Array Slot), St D ad 34 (shM cy ad) A s σ H locs → lv_has ls 4 [(0, .ref (ad 0)), (1, .int x1), (2, .int x2)] → k45 x2 σ → W p l e ({ frames := 1, cells := 0, slots := 0, locals := 20 }) s m args below meth c H locs 0 0 (MQ below (va_Qv Q (PosW D (tyM cy) ad 34 (shM cy ad) A) A) args s 0 0 A) (F0 m 45 ls [])) : ∀ (n : Nat) (x2 : Int32) (x3 : Int32) (σ : Sg) (H : Heap) (locs : List Loc) (ls : Array Slot), St D ad 34 (shM cy ad) A s σ H locs → lv_has ls 4 [(0, .ref (ad 0)), (1, .int x1), (2, .int x2), (3, .int x3)] → wX12_laySizes_L15 x1 k45 Q n x2 x3 σ → W p l e ({ frames := 1, cells := 0, slots := 0, locals := 20 }) s m args below meth c H locs 0 0 (MQ below (va_Qv Q (PosW D (tyM cy) ad 34 (shM cy ad) A) A) args s 0 0 A) (F0 m 15 ls []) := by
  have hx := X.1
  have hb := X.2.1
  intro n
  induction n with
  | zero =>
    intro _ _ _ _ _ _ _ _ h
    exact absurd h (by unfold wX12_laySizes_L15; exact id)
  | succ n ih =>
    intro x2 x3 σ H locs ls S hl h
    unfold wX12_laySizes_L15 at h
    refine lv_iload_n hx hb dX12_laySizes_15 rfl (lv_at hl 3 rfl) ?_
    refine lv_aload_n hx hb dX12_laySizes_16 rfl (lv_at hl 0 rfl) ?_
    refine o_get X S 0 9 (by decide) rfl rfl in_12 (by decide) k_876 rfl dX12_laySizes_17 ?_
    refine lv_iload_n hx hb dX12_laySizes_20 rfl (lv_at hl 1 rfl) ?_
    refine o_iald X S 6 0 (by decide) (fun _ => rfl) rfl h.1 dX12_laySizes_21 ?_
    replace h := h.2
    refine o_callSi (k := 1) EvM_ok X S (mX12_children l (σ 6 x1.toNatClampNeg) σ _ h) k_1077 k_1075 k_1076 k_14 ⟨by decide, by decide, by decide +kernel⟩ ⟨rfl, rfl⟩ ⟨Nat.le_of_ble_eq_true rfl, Nat.le_of_ble_eq_true rfl⟩ rfl hl.1 rfl (Nat.le_of_ble_eq_true rfl) dX12_laySizes_22 (fun r_3 σ_4 H locs h S => ?_)
    refine lv_icmp_ge (tgt := 45) hx hb dX12_laySizes_25 (by decide) (fun q_5 => ?_) (fun q_5 => ?_)
    · replace h := h.1 q_5
      exact hk45 _ _ _ _ _ S (lv_sub hl [0, 1, 2] rfl) h
    · replace h := h.2 q_5
      refine lv_iload_n hx hb dX12_laySizes_28 rfl (lv_at hl 2 rfl) ?_
      refine lv_aload_n hx hb dX12_laySizes_29 rfl (lv_at hl 0 rfl) ?_
      refine o_get X S 0 11 (by decide) rfl rfl in_12 (by decide) k_878 rfl dX12_laySizes_30 ?_
      refine lv_iload_n hx hb dX12_laySizes_33 rfl (lv_at hl 1 rfl) ?_
      refine lv_iload_n hx hb dX12_laySizes_34 rfl (lv_at hl 2 rfl) ?_
      refine lv_iadd hx hb dX12_laySizes_35 ?_
      refine o_iald X S 8 0 (by decide) (fun _ => rfl) rfl h.1 dX12_laySizes_36 ?_
      replace h := h.2
      refine lv_iadd hx hb dX12_laySizes_37 ?_
      refine lv_topi (fun x2_6 ex2_6 => ?_)
      replace h := h x2_6 ex2_6
      refine lv_istore_n (lv' := [(2, .int x2_6), (0, .ref (ad 0)), (1, .int x1), (3, .int x3)]) hx hb dX12_laySizes_38 rfl hl (by decide) rfl (fun ls hl => ?_)
      obtain ⟨x3_7, ex3_7⟩ : ∃ y : Int32, y = x3 + 1 := ⟨_, rfl⟩
      replace h := h x3_7 ex3_7
      refine lv_iinc (v := x3_7) (lv' := [(3, .int x3_7), (2, .int x2_6), (0, .ref (ad 0)), (1, .int x1)]) hx hb dX12_laySizes_39 hl (k := 3) rfl (by rw [ex3_7]; rfl) (by decide) rfl (fun ls hl => ?_)
      refine lv_goto (tgt := 15) hx hb dX12_laySizes_42 (by decide) ?_
      exact ih _ _ _ _ _ _ S (lv_sub hl [2, 3, 1, 0] rfl) h
set_option maxHeartbeats 4000000 in
set_option maxRecDepth 100000 in
theorem mX12_laySizes_L7 {D : va_G} {cy : Nat → ClassId} {ad : Nat → Nat} (l : Launch) {p : Program} {e : Env} {s : State} {m : MethodId} {args : Array Value} {below : List Frame} {meth : Method} {c : Code} {A : Nat → Prop} {k58 : Sg → Prop} {Q : Sg → Prop} (X : Fx D (tyM cy) EvM p s m args meth c cX12_laySizes 4 "BackBayModel" A) (hr : meth.sig.returnType = none) (hk58 : ∀ (σ : Sg) (H : Heap) (locs : List Loc) (ls : Array Slot), St D ad 34 (shM cy ad) A s σ H locs → lv_has ls 4 [] → k58 σ → W p l e ({ frames := 1, cells := 0, slots := 0, locals := 20 }) s m args below meth c H locs 0 0 (MQ below (va_Qv Q (PosW D (tyM cy) ad 34 (shM cy ad) A) A) args s 0 0 A) (F0 m 58 ls [])) : ∀ (n : Nat) (x1 : Int32) (σ : Sg) (H : Heap) (locs : List Loc) (ls : Array Slot), St D ad 34 (shM cy ad) A s σ H locs → lv_has ls 4 [(0, .ref (ad 0)), (1, .int x1)] → wX12_laySizes_L7 k58 Q n x1 σ → W p l e ({ frames := 1, cells := 0, slots := 0, locals := 20 }) s m args below meth c H locs 0 0 (MQ below (va_Qv Q (PosW D (tyM cy) ad 34 (shM cy ad) A) A) args s 0 0 A) (F0 m 7 ls []) := by
  have hx := X.1
  have hb := X.2.1
  intro n
  induction n with
  | zero =>
    intro _ _ _ _ _ _ _ h
    exact absurd h (by unfold wX12_laySizes_L7; exact id)
  | succ n ih =>
    intro x1 σ H locs ls S hl h
    unfold wX12_laySizes_L7 at h
    refine lv_iload_n hx hb dX12_laySizes_7 rfl (lv_at hl 1 rfl) ?_
    refine lv_if_lt (tgt := 58) hx hb dX12_laySizes_8 (by decide) (fun q_2 => ?_) (fun q_2 => ?_)
    · replace h := h.1 q_2
      exact hk58 _ _ _ _ S (lv_sub hl [] rfl) h
    · replace h := h.2 q_2
      refine lv_iconst (v := 1) hx hb dX12_laySizes_11 (by decide) ?_
      refine lv_istore_n (lv' := [(2, .int 1), (0, .ref (ad 0)), (1, .int x1)]) hx hb dX12_laySizes_12 rfl hl (by decide) rfl (fun ls hl => ?_)
      refine lv_iconst (v := 0) hx hb dX12_laySizes_13 (by decide) ?_
      refine lv_istore_n (lv' := [(3, .int 0), (2, .int 1), (0, .ref (ad 0)), (1, .int x1)]) hx hb dX12_laySizes_14 rfl hl (by decide) rfl (fun ls hl => ?_)
      obtain ⟨n_15, h⟩ := h
      refine mX12_laySizes_L15 l X hr x1 ?_ n_15 _ _ _ _ _ _ S (lv_sub hl [2, 3, 1, 0] rfl) h
      · intro x2_8 σ_9 H locs ls S hl h
        refine lv_aload_n hx hb dX12_laySizes_45 rfl (lv_at hl 0 rfl) ?_
        refine o_get X S 0 11 (by decide) rfl rfl in_12 (by decide) k_878 rfl dX12_laySizes_46 ?_
        refine lv_iload_n hx hb dX12_laySizes_49 rfl (lv_at hl 1 rfl) ?_
        refine lv_iload_n hx hb dX12_laySizes_50 rfl (lv_at hl 2 rfl) ?_
        refine o_iast X S 8 0 (by decide) (fun _ => rfl) rfl h.1 dX12_laySizes_51 (fun σ_10 H locs eσ_10 S => ?_)
        replace h := h.2 σ_10 eσ_10
        obtain ⟨x1_11, ex1_11⟩ : ∃ y : Int32, y = x1 + (-1) := ⟨_, rfl⟩
        replace h := h x1_11 ex1_11
        refine lv_iinc (v := x1_11) (lv' := [(1, .int x1_11), (0, .ref (ad 0)), (2, .int x2_8)]) hx hb dX12_laySizes_52 hl (k := 1) rfl (by rw [ex1_11]; rfl) (by decide) rfl (fun ls hl => ?_)
        refine lv_goto (tgt := 7) hx hb dX12_laySizes_55 (by decide) ?_
        exact ih _ _ _ _ _ S (lv_sub hl [1, 0] rfl) h
set_option maxHeartbeats 4000000 in
set_option maxRecDepth 100000 in
theorem mX12_laySizes {D : va_G} {cy : Nat → ClassId} {ad : Nat → Nat} (l : Launch) (σ : Sg) (Q : Sg → Prop) (h : wX12_laySizes σ Q) : MVM D cy ad l yX12_laySizes (.code yX12_laySizes cX12_laySizes 4 none :: gT) ({ frames := 1, cells := 0, slots := 0, locals := 20 }) [.ref (ad 0)] σ Q := by
  refine metV_of (by decide +kernel) (Nat.le_of_ble_eq_true rfl) ?_
  intro p e s m args below meth c A ls X hr hl S
  have X : Fx D (tyM cy) EvM p s m args meth c cX12_laySizes 4 "BackBayModel" A := X
  have hl : lv_has ls 4 [(0, .ref (ad 0))] := hl
  have hx := X.1
  have hb := X.2.1
  unfold wX12_laySizes at h
  refine lv_aload_n hx hb dX12_laySizes_0 rfl (lv_at hl 0 rfl) ?_
  refine o_get X S 0 7 (by decide) rfl rfl in_12 (by decide) k_874 rfl dX12_laySizes_1 ?_
  refine lv_iconst (v := 1) hx hb dX12_laySizes_4 (by decide) ?_
  refine lv_isub hx hb dX12_laySizes_5 ?_
  refine lv_topi (fun x1_1 ex1_1 => ?_)
  replace h := h x1_1 ex1_1
  refine lv_istore_n (lv' := [(1, .int x1_1), (0, .ref (ad 0))]) hx hb dX12_laySizes_6 rfl hl (by decide) rfl (fun ls hl => ?_)
  obtain ⟨n_7, h⟩ := h
  refine mX12_laySizes_L7 l X hr ?_ n_7 _ _ _ _ _ S (lv_sub hl [1, 0] rfl) h
  · intro σ_12 H locs ls S hl h
    exact o_vret X S hr h dX12_laySizes_58
def wX12_stencils_L47 (k91 : Sg → Prop) (Q : Int64 → Sg → Prop) : Nat → Int32 → Sg → Prop
  | 0, _, _ => False
  | nn47 + 1, x2, σ =>
  (((σ 0 7) ≤ x2 → k91 σ) ∧ (¬ (σ 0 7) ≤ x2 → (vp_in (60 + x2) 120 ∧ (vp_in x2 120 ∧ ∀ σ_8, σ_8 = sto σ 6 x2.toNatClampNeg (σ 6 (60 + x2).toNatClampNeg) → (vp_in (60 + x2) 120 ∧ (vp_in x2 120 ∧ ∀ σ_9, σ_9 = sto σ_8 7 x2.toNatClampNeg (σ_8 7 (60 + x2).toNatClampNeg) → (∀ x2_10 : Int32, x2_10 = x2 + 1 → wX12_stencils_L47 k91 Q nn47 x2_10 σ_9)))))))
def wX12_stencils_L93 (k121 : Sg → Prop) (Q : Int64 → Sg → Prop) : Nat → Int32 → Sg → Prop
  | 0, _, _ => False
  | nn93 + 1, x2, σ =>
  (((σ 0 6) ≤ x2 → k121 σ) ∧ (¬ (σ 0 6) ≤ x2 → (vp_in (4 + x2) 8 ∧ (vp_in x2 8 ∧ ∀ σ_13, σ_13 = sto σ 5 x2.toNatClampNeg (σ 5 (4 + x2).toNatClampNeg) → (∀ x2_14 : Int32, x2_14 = x2 + 1 → wX12_stencils_L93 k121 Q nn93 x2_14 σ_13)))))
def wX12_stencils (σ : Sg) (Q : Int64 → Sg → Prop) : Prop :=
  (wX12_readAll σ (fun r_1 σ_2 => (∀ σ_3, σ_3 = sto σ_2 0 5 0 → ((r_1 ≤ 0 → (∀ σ_5, σ_5 = sto σ_3 0 6 (σ_3 0 18) → (∀ σ_6, σ_6 = sto σ_5 0 7 (σ_5 0 17) → (∃ nf, wX12_stencils_L47 (fun σ_11 => (∃ nf, wX12_stencils_L93 (fun σ_15 => (vp_in (σ_15 0 6) 8 ∧ ∀ σ_16, σ_16 = sto σ_15 5 (σ_15 0 6).toNatClampNeg (σ_15 0 7) → (wX12_laySizes σ_16 (fun σ_18 => Q ((σ_18 0 7).toInt64) σ_18)))) Q nf 0 σ_11)) Q nf 0 σ_6)))) ∧ (¬ r_1 ≤ 0 → (∀ σ_19, σ_19 = sto σ_3 0 12 r_1 → Q ((-9000000000000000100 : Int64) - ((σ_19 0 14).toInt64)) σ_19))))))
set_option maxHeartbeats 4000000 in
set_option maxRecDepth 100000 in
theorem mX12_stencils_L47 {D : va_G} {cy : Nat → ClassId} {ad : Nat → Nat} (l : Launch) {p : Program} {e : Env} {s : State} {m : MethodId} {args : Array Value} {below : List Frame} {meth : Method} {c : Code} {A : Nat → Prop} {k91 : Sg → Prop} {Q : Int64 → Sg → Prop} (X : Fx D (tyM cy) EvM p s m args meth c cX12_stencils 3 "BackBayModel" A) (hr : meth.sig.returnType = some .long) (hk91 : ∀ (σ : Sg) (H : Heap) (locs : List Loc) (ls : Array Slot), St D ad 34 (shM cy ad) A s σ H locs → lv_has ls 3 [(0, .ref (ad 0))] → k91 σ → W p l e ({ frames := 4, cells := 0, slots := 0, locals := 88 }) s m args below meth c H locs 0 0 (MQ below (va_Ql Q (PosW D (tyM cy) ad 34 (shM cy ad) A) A) args s 0 0 A) (F0 m 91 ls [])) : ∀ (n : Nat) (x2 : Int32) (σ : Sg) (H : Heap) (locs : List Loc) (ls : Array Slot), St D ad 34 (shM cy ad) A s σ H locs → lv_has ls 3 [(0, .ref (ad 0)), (2, .int x2)] → wX12_stencils_L47 k91 Q n x2 σ → W p l e ({ frames := 4, cells := 0, slots := 0, locals := 88 }) s m args below meth c H locs 0 0 (MQ below (va_Ql Q (PosW D (tyM cy) ad 34 (shM cy ad) A) A) args s 0 0 A) (F0 m 47 ls []) := by
  have hx := X.1
  have hb := X.2.1
  intro n
  induction n with
  | zero =>
    intro _ _ _ _ _ _ _ h
    exact absurd h (by unfold wX12_stencils_L47; exact id)
  | succ n ih =>
    intro x2 σ H locs ls S hl h
    unfold wX12_stencils_L47 at h
    refine lv_iload_n hx hb dX12_stencils_47 rfl (lv_at hl 1 rfl) ?_
    refine lv_aload_n hx hb dX12_stencils_48 rfl (lv_at hl 0 rfl) ?_
    refine o_get X S 0 7 (by decide) rfl rfl in_12 (by decide) k_874 rfl dX12_stencils_49 ?_
    refine lv_icmp_ge (tgt := 91) hx hb dX12_stencils_52 (by decide) (fun q_7 => ?_) (fun q_7 => ?_)
    · replace h := h.1 q_7
      exact hk91 _ _ _ _ S (lv_sub hl [0] rfl) h
    · replace h := h.2 q_7
      refine lv_aload_n hx hb dX12_stencils_55 rfl (lv_at hl 0 rfl) ?_
      refine o_get X S 0 9 (by decide) rfl rfl in_12 (by decide) k_876 rfl dX12_stencils_56 ?_
      refine lv_iload_n hx hb dX12_stencils_59 rfl (lv_at hl 1 rfl) ?_
      refine lv_aload_n hx hb dX12_stencils_60 rfl (lv_at hl 0 rfl) ?_
      refine o_get X S 0 9 (by decide) rfl rfl in_12 (by decide) k_876 rfl dX12_stencils_61 ?_
      refine lv_bipush (v := 60) hx hb dX12_stencils_64 (by decide) ?_
      refine lv_iload_n hx hb dX12_stencils_66 rfl (lv_at hl 1 rfl) ?_
      refine lv_iadd hx hb dX12_stencils_67 ?_
      refine o_iald X S 6 0 (by decide) (fun _ => rfl) rfl h.1 dX12_stencils_68 ?_
      replace h := h.2
      refine o_iast X S 6 0 (by decide) (fun _ => rfl) rfl h.1 dX12_stencils_69 (fun σ_8 H locs eσ_8 S => ?_)
      replace h := h.2 σ_8 eσ_8
      refine lv_aload_n hx hb dX12_stencils_70 rfl (lv_at hl 0 rfl) ?_
      refine o_get X S 0 10 (by decide) rfl rfl in_12 (by decide) k_877 rfl dX12_stencils_71 ?_
      refine lv_iload_n hx hb dX12_stencils_74 rfl (lv_at hl 1 rfl) ?_
      refine lv_aload_n hx hb dX12_stencils_75 rfl (lv_at hl 0 rfl) ?_
      refine o_get X S 0 10 (by decide) rfl rfl in_12 (by decide) k_877 rfl dX12_stencils_76 ?_
      refine lv_bipush (v := 60) hx hb dX12_stencils_79 (by decide) ?_
      refine lv_iload_n hx hb dX12_stencils_81 rfl (lv_at hl 1 rfl) ?_
      refine lv_iadd hx hb dX12_stencils_82 ?_
      refine o_iald X S 7 0 (by decide) (fun _ => rfl) rfl h.1 dX12_stencils_83 ?_
      replace h := h.2
      refine o_iast X S 7 0 (by decide) (fun _ => rfl) rfl h.1 dX12_stencils_84 (fun σ_9 H locs eσ_9 S => ?_)
      replace h := h.2 σ_9 eσ_9
      obtain ⟨x2_10, ex2_10⟩ : ∃ y : Int32, y = x2 + 1 := ⟨_, rfl⟩
      replace h := h x2_10 ex2_10
      refine lv_iinc (v := x2_10) (lv' := [(2, .int x2_10), (0, .ref (ad 0))]) hx hb dX12_stencils_85 hl (k := 1) rfl (by rw [ex2_10]; rfl) (by decide) rfl (fun ls hl => ?_)
      refine lv_goto (tgt := 47) hx hb dX12_stencils_88 (by decide) ?_
      exact ih _ _ _ _ _ S (lv_sub hl [1, 0] rfl) h
set_option maxHeartbeats 4000000 in
set_option maxRecDepth 100000 in
theorem mX12_stencils_L93 {D : va_G} {cy : Nat → ClassId} {ad : Nat → Nat} (l : Launch) {p : Program} {e : Env} {s : State} {m : MethodId} {args : Array Value} {below : List Frame} {meth : Method} {c : Code} {A : Nat → Prop} {k121 : Sg → Prop} {Q : Int64 → Sg → Prop} (X : Fx D (tyM cy) EvM p s m args meth c cX12_stencils 3 "BackBayModel" A) (hr : meth.sig.returnType = some .long) (hk121 : ∀ (σ : Sg) (H : Heap) (locs : List Loc) (ls : Array Slot), St D ad 34 (shM cy ad) A s σ H locs → lv_has ls 3 [(0, .ref (ad 0))] → k121 σ → W p l e ({ frames := 4, cells := 0, slots := 0, locals := 88 }) s m args below meth c H locs 0 0 (MQ below (va_Ql Q (PosW D (tyM cy) ad 34 (shM cy ad) A) A) args s 0 0 A) (F0 m 121 ls [])) : ∀ (n : Nat) (x2 : Int32) (σ : Sg) (H : Heap) (locs : List Loc) (ls : Array Slot), St D ad 34 (shM cy ad) A s σ H locs → lv_has ls 3 [(0, .ref (ad 0)), (2, .int x2)] → wX12_stencils_L93 k121 Q n x2 σ → W p l e ({ frames := 4, cells := 0, slots := 0, locals := 88 }) s m args below meth c H locs 0 0 (MQ below (va_Ql Q (PosW D (tyM cy) ad 34 (shM cy ad) A) A) args s 0 0 A) (F0 m 93 ls []) := by
  have hx := X.1
  have hb := X.2.1
  intro n
  induction n with
  | zero =>
    intro _ _ _ _ _ _ _ h
    exact absurd h (by unfold wX12_stencils_L93; exact id)
  | succ n ih =>
    intro x2 σ H locs ls S hl h
    unfold wX12_stencils_L93 at h
    refine lv_iload_n hx hb dX12_stencils_93 rfl (lv_at hl 1 rfl) ?_
    refine lv_aload_n hx hb dX12_stencils_94 rfl (lv_at hl 0 rfl) ?_
    refine o_get X S 0 6 (by decide) rfl rfl in_12 (by decide) k_873 rfl dX12_stencils_95 ?_
    refine lv_icmp_ge (tgt := 121) hx hb dX12_stencils_98 (by decide) (fun q_12 => ?_) (fun q_12 => ?_)
    · replace h := h.1 q_12
      exact hk121 _ _ _ _ S (lv_sub hl [0] rfl) h
    · replace h := h.2 q_12
      refine lv_aload_n hx hb dX12_stencils_101 rfl (lv_at hl 0 rfl) ?_
      refine o_get X S 0 8 (by decide) rfl rfl in_12 (by decide) k_875 rfl dX12_stencils_102 ?_
      refine lv_iload_n hx hb dX12_stencils_105 rfl (lv_at hl 1 rfl) ?_
      refine lv_aload_n hx hb dX12_stencils_106 rfl (lv_at hl 0 rfl) ?_
      refine o_get X S 0 8 (by decide) rfl rfl in_12 (by decide) k_875 rfl dX12_stencils_107 ?_
      refine lv_iconst (v := 4) hx hb dX12_stencils_110 (by decide) ?_
      refine lv_iload_n hx hb dX12_stencils_111 rfl (lv_at hl 1 rfl) ?_
      refine lv_iadd hx hb dX12_stencils_112 ?_
      refine o_iald X S 5 0 (by decide) (fun _ => rfl) rfl h.1 dX12_stencils_113 ?_
      replace h := h.2
      refine o_iast X S 5 0 (by decide) (fun _ => rfl) rfl h.1 dX12_stencils_114 (fun σ_13 H locs eσ_13 S => ?_)
      replace h := h.2 σ_13 eσ_13
      obtain ⟨x2_14, ex2_14⟩ : ∃ y : Int32, y = x2 + 1 := ⟨_, rfl⟩
      replace h := h x2_14 ex2_14
      refine lv_iinc (v := x2_14) (lv' := [(2, .int x2_14), (0, .ref (ad 0))]) hx hb dX12_stencils_115 hl (k := 1) rfl (by rw [ex2_14]; rfl) (by decide) rfl (fun ls hl => ?_)
      refine lv_goto (tgt := 93) hx hb dX12_stencils_118 (by decide) ?_
      exact ih _ _ _ _ _ S (lv_sub hl [1, 0] rfl) h
set_option maxHeartbeats 4000000 in
set_option maxRecDepth 100000 in
theorem mX12_stencils {D : va_G} {cy : Nat → ClassId} {ad : Nat → Nat} (l : Launch) (σ : Sg) (Q : Int64 → Sg → Prop) (h : wX12_stencils σ Q) : MLM D cy ad l yX12_stencils (.code yX12_stencils cX12_stencils 3 (some .long) :: gT) ({ frames := 4, cells := 0, slots := 0, locals := 88 }) [.ref (ad 0)] σ Q := by
  refine metL_of (by decide +kernel) (Nat.le_of_ble_eq_true rfl) ?_
  intro p e s m args below meth c A ls X hr hl S
  have X : Fx D (tyM cy) EvM p s m args meth c cX12_stencils 3 "BackBayModel" A := X
  have hl : lv_has ls 3 [(0, .ref (ad 0))] := hl
  have hx := X.1
  have hb := X.2.1
  unfold wX12_stencils at h
  refine lv_aload_n hx hb dX12_stencils_0 rfl (lv_at hl 0 rfl) ?_
  refine o_callVi (k := 0) EvM_ok X S (mX12_readAll l σ _ h) (by decide) rfl rfl k_1057 k_1054 k_1056 ks_35 k_14 ⟨rfl, by decide, by decide, by decide +kernel⟩ ⟨rfl, rfl⟩ ⟨Nat.le_of_ble_eq_true rfl, Nat.le_of_ble_eq_true rfl⟩ rfl hl.1 rfl (Nat.le_of_ble_eq_true rfl) dX12_stencils_1 (fun r_1 σ_2 H locs h S => ?_)
  refine lv_istore_n (lv' := [(1, .int r_1), (0, .ref (ad 0))]) hx hb dX12_stencils_4 rfl hl (by decide) rfl (fun ls hl => ?_)
  refine lv_aload_n hx hb dX12_stencils_5 rfl (lv_at hl 1 rfl) ?_
  refine lv_iconst (v := 0) hx hb dX12_stencils_6 (by decide) ?_
  refine o_puti X S (fs := fun c => [.int (c 0), .ref (ad 1), .ref (ad 2), .ref (ad 3), .ref (ad 4), .int (c 5), .int (c 6), .int (c 7), .ref (ad 5), .ref (ad 6), .ref (ad 7), .ref (ad 8), .int (c 12), .int (c 13), .int (c 14), .int (c 15), .ref (ad 9), .int (c 17), .int (c 18), .int (c 19), .ref (ad 10), .ref (ad 11), .ref (ad 12), .ref (ad 13), .ref (ad 14), .ref (ad 15), .ref (ad 16), .int (c 27), .int (c 28), .ref (ad 17), .ref (ad 18), .ref (ad 19), .ref (ad 20), .ref (ad 21), .ref (ad 22), .ref (ad 23), .ref (ad 24), .ref (ad 25), .ref (ad 26), .ref (ad 27), .ref (ad 28), .ref (ad 29), .int (c 42), .ref (ad 30), .ref (ad 31), .ref (ad 32), .ref (ad 33), .int (c 47)]) 0 5 (by decide) (fun _ => rfl) (fun _ _ => rfl) rfl in_12 tyX12_ok nmX12 (by decide) k_872 rfl rfl rfl rfl (fun _ => Nat.le_of_ble_eq_true rfl) dX12_stencils_7 (fun σ_3 H locs eσ_3 S => ?_)
  replace h := h σ_3 eσ_3
  refine lv_iload_n hx hb dX12_stencils_10 rfl (lv_at hl 0 rfl) ?_
  refine lv_if_le (tgt := 29) hx hb dX12_stencils_11 (by decide) (fun q_4 => ?_) (fun q_4 => ?_)
  · replace h := h.1 q_4
    refine lv_aload_n hx hb dX12_stencils_29 rfl (lv_at hl 1 rfl) ?_
    refine lv_aload_n hx hb dX12_stencils_30 rfl (lv_at hl 1 rfl) ?_
    refine o_get X S 0 18 (by decide) rfl rfl in_12 (by decide) k_885 rfl dX12_stencils_31 ?_
    refine o_puti X S (fs := fun c => [.int (c 0), .ref (ad 1), .ref (ad 2), .ref (ad 3), .ref (ad 4), .int (c 5), .int (c 6), .int (c 7), .ref (ad 5), .ref (ad 6), .ref (ad 7), .ref (ad 8), .int (c 12), .int (c 13), .int (c 14), .int (c 15), .ref (ad 9), .int (c 17), .int (c 18), .int (c 19), .ref (ad 10), .ref (ad 11), .ref (ad 12), .ref (ad 13), .ref (ad 14), .ref (ad 15), .ref (ad 16), .int (c 27), .int (c 28), .ref (ad 17), .ref (ad 18), .ref (ad 19), .ref (ad 20), .ref (ad 21), .ref (ad 22), .ref (ad 23), .ref (ad 24), .ref (ad 25), .ref (ad 26), .ref (ad 27), .ref (ad 28), .ref (ad 29), .int (c 42), .ref (ad 30), .ref (ad 31), .ref (ad 32), .ref (ad 33), .int (c 47)]) 0 6 (by decide) (fun _ => rfl) (fun _ _ => rfl) rfl in_12 tyX12_ok nmX12 (by decide) k_873 rfl rfl rfl rfl (fun _ => Nat.le_of_ble_eq_true rfl) dX12_stencils_34 (fun σ_5 H locs eσ_5 S => ?_)
    replace h := h σ_5 eσ_5
    refine lv_aload_n hx hb dX12_stencils_37 rfl (lv_at hl 1 rfl) ?_
    refine lv_aload_n hx hb dX12_stencils_38 rfl (lv_at hl 1 rfl) ?_
    refine o_get X S 0 17 (by decide) rfl rfl in_12 (by decide) k_884 rfl dX12_stencils_39 ?_
    refine o_puti X S (fs := fun c => [.int (c 0), .ref (ad 1), .ref (ad 2), .ref (ad 3), .ref (ad 4), .int (c 5), .int (c 6), .int (c 7), .ref (ad 5), .ref (ad 6), .ref (ad 7), .ref (ad 8), .int (c 12), .int (c 13), .int (c 14), .int (c 15), .ref (ad 9), .int (c 17), .int (c 18), .int (c 19), .ref (ad 10), .ref (ad 11), .ref (ad 12), .ref (ad 13), .ref (ad 14), .ref (ad 15), .ref (ad 16), .int (c 27), .int (c 28), .ref (ad 17), .ref (ad 18), .ref (ad 19), .ref (ad 20), .ref (ad 21), .ref (ad 22), .ref (ad 23), .ref (ad 24), .ref (ad 25), .ref (ad 26), .ref (ad 27), .ref (ad 28), .ref (ad 29), .int (c 42), .ref (ad 30), .ref (ad 31), .ref (ad 32), .ref (ad 33), .int (c 47)]) 0 7 (by decide) (fun _ => rfl) (fun _ _ => rfl) rfl in_12 tyX12_ok nmX12 (by decide) k_874 rfl rfl rfl rfl (fun _ => Nat.le_of_ble_eq_true rfl) dX12_stencils_42 (fun σ_6 H locs eσ_6 S => ?_)
    replace h := h σ_6 eσ_6
    refine lv_iconst (v := 0) hx hb dX12_stencils_45 (by decide) ?_
    refine lv_istore_n (lv' := [(2, .int 0), (1, .int r_1), (0, .ref (ad 0))]) hx hb dX12_stencils_46 rfl hl (by decide) rfl (fun ls hl => ?_)
    obtain ⟨n_47, h⟩ := h
    refine mX12_stencils_L47 l X hr ?_ n_47 _ _ _ _ _ S (lv_sub hl [2, 0] rfl) h
    · intro σ_11 H locs ls S hl h
      refine lv_iconst (v := 0) hx hb dX12_stencils_91 (by decide) ?_
      refine lv_istore_n (lv' := [(2, .int 0), (0, .ref (ad 0))]) hx hb dX12_stencils_92 rfl hl (by decide) rfl (fun ls hl => ?_)
      obtain ⟨n_93, h⟩ := h
      refine mX12_stencils_L93 l X hr ?_ n_93 _ _ _ _ _ S (lv_sub hl [1, 0] rfl) h
      · intro σ_15 H locs ls S hl h
        refine lv_aload_n hx hb dX12_stencils_121 rfl (lv_at hl 0 rfl) ?_
        refine o_get X S 0 8 (by decide) rfl rfl in_12 (by decide) k_875 rfl dX12_stencils_122 ?_
        refine lv_aload_n hx hb dX12_stencils_125 rfl (lv_at hl 0 rfl) ?_
        refine o_get X S 0 6 (by decide) rfl rfl in_12 (by decide) k_873 rfl dX12_stencils_126 ?_
        refine lv_aload_n hx hb dX12_stencils_129 rfl (lv_at hl 0 rfl) ?_
        refine o_get X S 0 7 (by decide) rfl rfl in_12 (by decide) k_874 rfl dX12_stencils_130 ?_
        refine o_iast X S 5 0 (by decide) (fun _ => rfl) rfl h.1 dX12_stencils_133 (fun σ_16 H locs eσ_16 S => ?_)
        replace h := h.2 σ_16 eσ_16
        refine lv_aload_n hx hb dX12_stencils_134 rfl (lv_at hl 0 rfl) ?_
        refine o_callVv (k := 0) EvM_ok X S (mX12_laySizes l σ_16 _ h) (by decide) rfl rfl k_1082 k_1079 k_1081 ks_38 k_14 ⟨rfl, by decide, by decide, by decide +kernel⟩ ⟨rfl, rfl⟩ ⟨Nat.le_of_ble_eq_true rfl, Nat.le_of_ble_eq_true rfl⟩ rfl hl.1 rfl (Nat.le_of_ble_eq_true rfl) dX12_stencils_135 (fun σ_18 H locs h S => ?_)
        refine lv_aload_n hx hb dX12_stencils_138 rfl (lv_at hl 0 rfl) ?_
        refine o_get X S 0 7 (by decide) rfl rfl in_12 (by decide) k_874 rfl dX12_stencils_139 ?_
        refine lv_i2l hx hb dX12_stencils_142 rfl ?_
        exact o_lret X S hr h dX12_stencils_143
  · replace h := h.2 q_4
    refine lv_aload_n hx hb dX12_stencils_14 rfl (lv_at hl 1 rfl) ?_
    refine lv_iload_n hx hb dX12_stencils_15 rfl (lv_at hl 0 rfl) ?_
    refine o_puti X S (fs := fun c => [.int (c 0), .ref (ad 1), .ref (ad 2), .ref (ad 3), .ref (ad 4), .int (c 5), .int (c 6), .int (c 7), .ref (ad 5), .ref (ad 6), .ref (ad 7), .ref (ad 8), .int (c 12), .int (c 13), .int (c 14), .int (c 15), .ref (ad 9), .int (c 17), .int (c 18), .int (c 19), .ref (ad 10), .ref (ad 11), .ref (ad 12), .ref (ad 13), .ref (ad 14), .ref (ad 15), .ref (ad 16), .int (c 27), .int (c 28), .ref (ad 17), .ref (ad 18), .ref (ad 19), .ref (ad 20), .ref (ad 21), .ref (ad 22), .ref (ad 23), .ref (ad 24), .ref (ad 25), .ref (ad 26), .ref (ad 27), .ref (ad 28), .ref (ad 29), .int (c 42), .ref (ad 30), .ref (ad 31), .ref (ad 32), .ref (ad 33), .int (c 47)]) 0 12 (by decide) (fun _ => rfl) (fun _ _ => rfl) rfl in_12 tyX12_ok nmX12 (by decide) k_879 rfl rfl rfl rfl (fun _ => Nat.le_of_ble_eq_true rfl) dX12_stencils_16 (fun σ_19 H locs eσ_19 S => ?_)
    replace h := h σ_19 eσ_19
    refine lv_ldc2 (v := (-9000000000000000100)) hx hb X.2.2.2.1 (X.2.2.2.2.1 _ k_1078) dX12_stencils_19 ?_
    refine lv_aload_n hx hb dX12_stencils_22 rfl (lv_at hl 1 rfl) ?_
    refine o_get X S 0 14 (by decide) rfl rfl in_12 (by decide) k_881 rfl dX12_stencils_23 ?_
    refine lv_i2l hx hb dX12_stencils_26 rfl ?_
    refine lv_lsub hx hb dX12_stencils_27 ?_
    exact o_lret X S hr h dX12_stencils_28
def wX12_fault (σ : Sg) (Q : Int32 → Sg → Prop) : Prop :=
  Q (σ 0 12) σ
set_option maxHeartbeats 4000000 in
set_option maxRecDepth 100000 in
theorem mX12_fault {D : va_G} {cy : Nat → ClassId} {ad : Nat → Nat} (l : Launch) (σ : Sg) (Q : Int32 → Sg → Prop) (h : wX12_fault σ Q) : MIM D cy ad l yX12_fault (.code yX12_fault cX12_fault 1 (some .int) :: gT) ({ frames := 0, cells := 0, slots := 0, locals := 0 }) [.ref (ad 0)] σ Q := by
  refine metI_of (by decide +kernel) (Nat.le_of_ble_eq_true rfl) ?_
  intro p e s m args below meth c A ls X hr hl S
  have X : Fx D (tyM cy) EvM p s m args meth c cX12_fault 1 "BackBayModel" A := X
  have hl : lv_has ls 1 [(0, .ref (ad 0))] := hl
  have hx := X.1
  have hb := X.2.1
  unfold wX12_fault at h
  refine lv_aload_n hx hb dX12_fault_0 rfl (lv_at hl 0 rfl) ?_
  refine o_get X S 0 12 (by decide) rfl rfl in_12 (by decide) k_879 rfl dX12_fault_1 ?_
  exact o_iret X S hr h dX12_fault_4
def wX12_isCell (x1 : Int32) (σ : Sg) (Q : Int32 → Sg → Prop) : Prop :=
  (wX12_within x1 0 ((σ 0 19) - 1) σ (fun r_1 σ_2 => (bok r_1 ∧ Q r_1 σ_2)))
set_option maxHeartbeats 4000000 in
set_option maxRecDepth 100000 in
theorem mX12_isCell {D : va_G} {cy : Nat → ClassId} {ad : Nat → Nat} (l : Launch) (x1 : Int32) (σ : Sg) (Q : Int32 → Sg → Prop) (h : wX12_isCell x1 σ Q) : MIM D cy ad l yX12_isCell (.code yX12_isCell cX12_isCell 2 (some .boolean) :: gT) ({ frames := 1, cells := 0, slots := 0, locals := 22 }) [.ref (ad 0), .int x1] σ Q := by
  refine metI_of (by decide +kernel) (Nat.le_of_ble_eq_true rfl) ?_
  intro p e s m args below meth c A ls X hr hl S
  have X : Fx D (tyM cy) EvM p s m args meth c cX12_isCell 2 "BackBayModel" A := X
  have hl : lv_has ls 2 [(0, .ref (ad 0)), (1, .int x1)] := hl
  have hx := X.1
  have hb := X.2.1
  unfold wX12_isCell at h
  refine lv_iload_n hx hb dX12_isCell_0 rfl (lv_at hl 1 rfl) ?_
  refine lv_iconst (v := 0) hx hb dX12_isCell_1 (by decide) ?_
  refine lv_aload_n hx hb dX12_isCell_2 rfl (lv_at hl 0 rfl) ?_
  refine o_get X S 0 19 (by decide) rfl rfl in_12 (by decide) k_886 rfl dX12_isCell_3 ?_
  refine lv_iconst (v := 1) hx hb dX12_isCell_6 (by decide) ?_
  refine lv_isub hx hb dX12_isCell_7 ?_
  refine o_callSi (k := 3) EvM_ok X S (mX12_within l x1 0 ((σ 0 19) - 1) σ _ h) k_1021 k_1019 k_1020 k_14 ⟨by decide, by decide, by decide +kernel⟩ ⟨rfl, rfl⟩ ⟨Nat.le_of_ble_eq_true rfl, Nat.le_of_ble_eq_true rfl⟩ rfl hl.1 rfl (Nat.le_of_ble_eq_true rfl) dX12_isCell_8 (fun r_1 σ_2 H locs h S => ?_)
  exact o_zret X S hr h.1 h.2 dX12_isCell_11
def wX12_bay_L27 (x2 : Int32) (k53 : Sg → Prop) (Q : Int64 → Sg → Prop) : Nat → Int32 → Sg → Prop
  | 0, _, _ => False
  | nn27 + 1, x3, σ =>
  ((10 ≤ x3 → k53 σ) ∧ (¬ 10 ≤ x3 → (vp_in x3 10 ∧ ∀ σ_7, σ_7 = sto σ 10 x3.toNatClampNeg 0 → (vp_in x3 10 ∧ ∀ σ_8, σ_8 = sto σ_7 11 x3.toNatClampNeg 1 → (∀ x3_9 : Int32, x3_9 = x3 + 1 → wX12_bay_L27 x2 k53 Q nn27 x3_9 σ_8)))))
def wX12_bay (x1 : Int32) (σ : Sg) (Q : Int64 → Sg → Prop) : Prop :=
  (wX12_within x1 2 10 σ (fun r_1 σ_2 => ((r_1 = 0 → (wX12_refused 1 σ_2 (fun r_11 σ_12 => Q r_11 σ_12))) ∧ (¬ r_1 = 0 → (∀ x2_4, x2_4 = (σ_2 0 19) → (∀ σ_5, σ_5 = sto σ_2 0 19 x1 → (∃ nf, wX12_bay_L27 x2_4 (fun σ_10 => Q (x2_4.toInt64) σ_10) Q nf 0 σ_5)))))))
set_option maxHeartbeats 4000000 in
set_option maxRecDepth 100000 in
theorem mX12_bay_L27 {D : va_G} {cy : Nat → ClassId} {ad : Nat → Nat} (l : Launch) {p : Program} {e : Env} {s : State} {m : MethodId} {args : Array Value} {below : List Frame} {meth : Method} {c : Code} {A : Nat → Prop} {k53 : Sg → Prop} {Q : Int64 → Sg → Prop} (X : Fx D (tyM cy) EvM p s m args meth c cX12_bay 4 "BackBayModel" A) (hr : meth.sig.returnType = some .long) (x2 : Int32) (hk53 : ∀ (σ : Sg) (H : Heap) (locs : List Loc) (ls : Array Slot), St D ad 34 (shM cy ad) A s σ H locs → lv_has ls 4 [(2, .int x2)] → k53 σ → W p l e ({ frames := 1, cells := 0, slots := 0, locals := 22 }) s m args below meth c H locs 0 0 (MQ below (va_Ql Q (PosW D (tyM cy) ad 34 (shM cy ad) A) A) args s 0 0 A) (F0 m 53 ls [])) : ∀ (n : Nat) (x3 : Int32) (σ : Sg) (H : Heap) (locs : List Loc) (ls : Array Slot), St D ad 34 (shM cy ad) A s σ H locs → lv_has ls 4 [(0, .ref (ad 0)), (2, .int x2), (3, .int x3)] → wX12_bay_L27 x2 k53 Q n x3 σ → W p l e ({ frames := 1, cells := 0, slots := 0, locals := 22 }) s m args below meth c H locs 0 0 (MQ below (va_Ql Q (PosW D (tyM cy) ad 34 (shM cy ad) A) A) args s 0 0 A) (F0 m 27 ls []) := by
  have hx := X.1
  have hb := X.2.1
  intro n
  induction n with
  | zero =>
    intro _ _ _ _ _ _ _ h
    exact absurd h (by unfold wX12_bay_L27; exact id)
  | succ n ih =>
    intro x3 σ H locs ls S hl h
    unfold wX12_bay_L27 at h
    refine lv_iload_n hx hb dX12_bay_27 rfl (lv_at hl 2 rfl) ?_
    refine lv_bipush (v := 10) hx hb dX12_bay_28 (by decide) ?_
    refine lv_icmp_ge (tgt := 53) hx hb dX12_bay_30 (by decide) (fun q_6 => ?_) (fun q_6 => ?_)
    · replace h := h.1 q_6
      exact hk53 _ _ _ _ S (lv_sub hl [1] rfl) h
    · replace h := h.2 q_6
      refine lv_aload_n hx hb dX12_bay_33 rfl (lv_at hl 0 rfl) ?_
      refine o_get X S 0 20 (by decide) rfl rfl in_12 (by decide) k_887 rfl dX12_bay_34 ?_
      refine lv_iload_n hx hb dX12_bay_37 rfl (lv_at hl 2 rfl) ?_
      refine lv_iconst (v := 0) hx hb dX12_bay_38 (by decide) ?_
      refine o_iast X S 10 0 (by decide) (fun _ => rfl) rfl h.1 dX12_bay_39 (fun σ_7 H locs eσ_7 S => ?_)
      replace h := h.2 σ_7 eσ_7
      refine lv_aload_n hx hb dX12_bay_40 rfl (lv_at hl 0 rfl) ?_
      refine o_get X S 0 21 (by decide) rfl rfl in_12 (by decide) k_888 rfl dX12_bay_41 ?_
      refine lv_iload_n hx hb dX12_bay_44 rfl (lv_at hl 2 rfl) ?_
      refine lv_iconst (v := 1) hx hb dX12_bay_45 (by decide) ?_
      refine o_iast X S 11 0 (by decide) (fun _ => rfl) rfl h.1 dX12_bay_46 (fun σ_8 H locs eσ_8 S => ?_)
      replace h := h.2 σ_8 eσ_8
      obtain ⟨x3_9, ex3_9⟩ : ∃ y : Int32, y = x3 + 1 := ⟨_, rfl⟩
      replace h := h x3_9 ex3_9
      refine lv_iinc (v := x3_9) (lv' := [(3, .int x3_9), (0, .ref (ad 0)), (2, .int x2)]) hx hb dX12_bay_47 hl (k := 2) rfl (by rw [ex3_9]; rfl) (by decide) rfl (fun ls hl => ?_)
      refine lv_goto (tgt := 27) hx hb dX12_bay_50 (by decide) ?_
      exact ih _ _ _ _ _ S (lv_sub hl [1, 2, 0] rfl) h
set_option maxHeartbeats 4000000 in
set_option maxRecDepth 100000 in
theorem mX12_bay {D : va_G} {cy : Nat → ClassId} {ad : Nat → Nat} (l : Launch) (x1 : Int32) (σ : Sg) (Q : Int64 → Sg → Prop) (h : wX12_bay x1 σ Q) : MLM D cy ad l yX12_bay (.code yX12_bay cX12_bay 4 (some .long) :: gT) ({ frames := 1, cells := 0, slots := 0, locals := 22 }) [.ref (ad 0), .int x1] σ Q := by
  refine metL_of (by decide +kernel) (Nat.le_of_ble_eq_true rfl) ?_
  intro p e s m args below meth c A ls X hr hl S
  have X : Fx D (tyM cy) EvM p s m args meth c cX12_bay 4 "BackBayModel" A := X
  have hl : lv_has ls 4 [(0, .ref (ad 0)), (1, .int x1)] := hl
  have hx := X.1
  have hb := X.2.1
  unfold wX12_bay at h
  refine lv_iload_n hx hb dX12_bay_0 rfl (lv_at hl 1 rfl) ?_
  refine lv_iconst (v := 2) hx hb dX12_bay_1 (by decide) ?_
  refine lv_bipush (v := 10) hx hb dX12_bay_2 (by decide) ?_
  refine o_callSi (k := 3) EvM_ok X S (mX12_within l x1 2 10 σ _ h) k_1021 k_1019 k_1020 k_14 ⟨by decide, by decide, by decide +kernel⟩ ⟨rfl, rfl⟩ ⟨Nat.le_of_ble_eq_true rfl, Nat.le_of_ble_eq_true rfl⟩ rfl hl.1 rfl (Nat.le_of_ble_eq_true rfl) dX12_bay_4 (fun r_1 σ_2 H locs h S => ?_)
  refine lv_if_ne (tgt := 15) hx hb dX12_bay_7 (by decide) (fun q_3 => ?_) (fun q_3 => ?_)
  · replace h := h.2 q_3
    refine lv_aload_n hx hb dX12_bay_15 rfl (lv_at hl 0 rfl) ?_
    refine o_get X S 0 19 (by decide) rfl rfl in_12 (by decide) k_886 rfl dX12_bay_16 ?_
    refine lv_topi (fun x2_4 ex2_4 => ?_)
    replace h := h x2_4 ex2_4
    refine lv_istore_n (lv' := [(2, .int x2_4), (0, .ref (ad 0)), (1, .int x1)]) hx hb dX12_bay_19 rfl hl (by decide) rfl (fun ls hl => ?_)
    refine lv_aload_n hx hb dX12_bay_20 rfl (lv_at hl 1 rfl) ?_
    refine lv_iload_n hx hb dX12_bay_21 rfl (lv_at hl 2 rfl) ?_
    refine o_puti X S (fs := fun c => [.int (c 0), .ref (ad 1), .ref (ad 2), .ref (ad 3), .ref (ad 4), .int (c 5), .int (c 6), .int (c 7), .ref (ad 5), .ref (ad 6), .ref (ad 7), .ref (ad 8), .int (c 12), .int (c 13), .int (c 14), .int (c 15), .ref (ad 9), .int (c 17), .int (c 18), .int (c 19), .ref (ad 10), .ref (ad 11), .ref (ad 12), .ref (ad 13), .ref (ad 14), .ref (ad 15), .ref (ad 16), .int (c 27), .int (c 28), .ref (ad 17), .ref (ad 18), .ref (ad 19), .ref (ad 20), .ref (ad 21), .ref (ad 22), .ref (ad 23), .ref (ad 24), .ref (ad 25), .ref (ad 26), .ref (ad 27), .ref (ad 28), .ref (ad 29), .int (c 42), .ref (ad 30), .ref (ad 31), .ref (ad 32), .ref (ad 33), .int (c 47)]) 0 19 (by decide) (fun _ => rfl) (fun _ _ => rfl) rfl in_12 tyX12_ok nmX12 (by decide) k_886 rfl rfl rfl rfl (fun _ => Nat.le_of_ble_eq_true rfl) dX12_bay_22 (fun σ_5 H locs eσ_5 S => ?_)
    replace h := h σ_5 eσ_5
    refine lv_iconst (v := 0) hx hb dX12_bay_25 (by decide) ?_
    refine lv_istore_n (lv' := [(3, .int 0), (2, .int x2_4), (0, .ref (ad 0)), (1, .int x1)]) hx hb dX12_bay_26 rfl hl (by decide) rfl (fun ls hl => ?_)
    obtain ⟨n_27, h⟩ := h
    refine mX12_bay_L27 l X hr x2_4 ?_ n_27 _ _ _ _ _ S (lv_sub hl [2, 1, 0] rfl) h
    · intro σ_10 H locs ls S hl h
      refine lv_iload_n hx hb dX12_bay_53 rfl (lv_at hl 0 rfl) ?_
      refine lv_i2l hx hb dX12_bay_54 rfl ?_
      exact o_lret X S hr h dX12_bay_55
  · replace h := h.1 q_3
    refine lv_iconst (v := 1) hx hb dX12_bay_10 (by decide) ?_
    refine o_callSl (k := 1) EvM_ok X S (mX12_refused l 1 σ_2 _ h) k_1024 k_1022 k_1023 k_14 ⟨by decide, by decide, by decide +kernel⟩ ⟨rfl, rfl⟩ ⟨Nat.le_of_ble_eq_true rfl, Nat.le_of_ble_eq_true rfl⟩ rfl hl.1 rfl (Nat.le_of_ble_eq_true rfl) dX12_bay_11 (fun r_11 σ_12 H locs h S => ?_)
    exact o_lret X S hr h dX12_bay_14
def wX12_start_b56 (σ : Sg) (Q : Int64 → Sg → Prop) : Prop :=
  (wX12_finds 2 σ (fun r_6 σ_7 => Q r_6 σ_7))
def wX12_start_L69 (x1 : Int32) (x2 : Int32) (k102 : Sg → Prop) (Q : Int64 → Sg → Prop) : Nat → Int32 → Sg → Prop
  | 0, _, _ => False
  | nn69 + 1, x3, σ =>
  (((σ 0 19) ≤ x3 → k102 σ) ∧ (¬ (σ 0 19) ≤ x3 → (vp_in (((20 * x1) + x2) + x3) 160 ∧ (vp_in x3 10 ∧ ∀ σ_12, σ_12 = sto σ 10 x3.toNatClampNeg (σ 3 (((20 * x1) + x2) + x3).toNatClampNeg) → (∀ x3_13 : Int32, x3_13 = x3 + 1 → wX12_start_L69 x1 x2 k102 Q nn69 x3_13 σ_12)))))
def wX12_start (x1 : Int32) (x2 : Int32) (σ : Sg) (Q : Int64 → Sg → Prop) : Prop :=
  (wX12_isRow x1 σ (fun r_1 σ_2 => ((r_1 = 0 → (wX12_refused 1 σ_2 (fun r_17 σ_18 => Q r_17 σ_18))) ∧ (¬ r_1 = 0 → (vp_in x1 8 ∧ ((0 ≤ (σ_2 1 x1.toNatClampNeg) → ((x2 < 0 → wX12_start_b56 σ_2 Q) ∧ (¬ x2 < 0 → (vp_in x1 8 ∧ (((σ_2 2 x1.toNatClampNeg) < x2 → wX12_start_b56 σ_2 Q) ∧ (¬ (σ_2 2 x1.toNatClampNeg) < x2 → (vp_in x1 8 ∧ (((σ_2 0 19) ≤ ((σ_2 2 x1.toNatClampNeg) - x2) → (∀ σ_10, σ_10 = sto σ_2 0 0 0 → (∃ nf, wX12_start_L69 x1 x2 (fun σ_14 => Q ((σ_14 0 19).toInt64) σ_14) Q nf 0 σ_10))) ∧ (¬ (σ_2 0 19) ≤ ((σ_2 2 x1.toNatClampNeg) - x2) → wX12_start_b56 σ_2 Q))))))))) ∧ (¬ 0 ≤ (σ_2 1 x1.toNatClampNeg) → (wX12_finds 1 σ_2 (fun r_15 σ_16 => Q r_15 σ_16)))))))))
set_option maxHeartbeats 4000000 in
set_option maxRecDepth 100000 in
theorem mX12_start_b56 {D : va_G} {cy : Nat → ClassId} {ad : Nat → Nat} (l : Launch) {p : Program} {e : Env} {s : State} {m : MethodId} {args : Array Value} {below : List Frame} {meth : Method} {c : Code} {A : Nat → Prop} {Q : Int64 → Sg → Prop} (X : Fx D (tyM cy) EvM p s m args meth c cX12_start 4 "BackBayModel" A) (hr : meth.sig.returnType = some .long) {σ : Sg} {H : Heap} {locs : List Loc} {ls : Array Slot} (S : St D ad 34 (shM cy ad) A s σ H locs) (hl : lv_has ls 4 [(0, .ref (ad 0))]) (h : wX12_start_b56 σ Q) : W p l e ({ frames := 2, cells := 0, slots := 0, locals := 42 }) s m args below meth c H locs 0 0 (MQ below (va_Ql Q (PosW D (tyM cy) ad 34 (shM cy ad) A) A) args s 0 0 A) (F0 m 56 ls []) := by
  have hx := X.1
  have hb := X.2.1
  unfold wX12_start_b56 at h
  refine lv_aload_n hx hb dX12_start_56 rfl (lv_at hl 0 rfl) ?_
  refine lv_iconst (v := 2) hx hb dX12_start_57 (by decide) ?_
  refine o_callVl (k := 1) EvM_ok X S (mX12_finds l 2 σ _ h) (by decide) rfl rfl k_1029 k_1026 k_1028 ks_34 k_14 ⟨rfl, by decide, by decide, by decide +kernel⟩ ⟨rfl, rfl⟩ ⟨Nat.le_of_ble_eq_true rfl, Nat.le_of_ble_eq_true rfl⟩ rfl hl.1 rfl (Nat.le_of_ble_eq_true rfl) dX12_start_58 (fun r_6 σ_7 H locs h S => ?_)
  exact o_lret X S hr h dX12_start_61
set_option maxHeartbeats 4000000 in
set_option maxRecDepth 100000 in
theorem mX12_start_L69 {D : va_G} {cy : Nat → ClassId} {ad : Nat → Nat} (l : Launch) {p : Program} {e : Env} {s : State} {m : MethodId} {args : Array Value} {below : List Frame} {meth : Method} {c : Code} {A : Nat → Prop} {k102 : Sg → Prop} {Q : Int64 → Sg → Prop} (X : Fx D (tyM cy) EvM p s m args meth c cX12_start 4 "BackBayModel" A) (hr : meth.sig.returnType = some .long) (x1 : Int32) (x2 : Int32) (hk102 : ∀ (σ : Sg) (H : Heap) (locs : List Loc) (ls : Array Slot), St D ad 34 (shM cy ad) A s σ H locs → lv_has ls 4 [(0, .ref (ad 0))] → k102 σ → W p l e ({ frames := 2, cells := 0, slots := 0, locals := 42 }) s m args below meth c H locs 0 0 (MQ below (va_Ql Q (PosW D (tyM cy) ad 34 (shM cy ad) A) A) args s 0 0 A) (F0 m 102 ls [])) : ∀ (n : Nat) (x3 : Int32) (σ : Sg) (H : Heap) (locs : List Loc) (ls : Array Slot), St D ad 34 (shM cy ad) A s σ H locs → lv_has ls 4 [(0, .ref (ad 0)), (1, .int x1), (2, .int x2), (3, .int x3)] → wX12_start_L69 x1 x2 k102 Q n x3 σ → W p l e ({ frames := 2, cells := 0, slots := 0, locals := 42 }) s m args below meth c H locs 0 0 (MQ below (va_Ql Q (PosW D (tyM cy) ad 34 (shM cy ad) A) A) args s 0 0 A) (F0 m 69 ls []) := by
  have hx := X.1
  have hb := X.2.1
  intro n
  induction n with
  | zero =>
    intro _ _ _ _ _ _ _ h
    exact absurd h (by unfold wX12_start_L69; exact id)
  | succ n ih =>
    intro x3 σ H locs ls S hl h
    unfold wX12_start_L69 at h
    refine lv_iload_n hx hb dX12_start_69 rfl (lv_at hl 3 rfl) ?_
    refine lv_aload_n hx hb dX12_start_70 rfl (lv_at hl 0 rfl) ?_
    refine o_get X S 0 19 (by decide) rfl rfl in_12 (by decide) k_886 rfl dX12_start_71 ?_
    refine lv_icmp_ge (tgt := 102) hx hb dX12_start_74 (by decide) (fun q_11 => ?_) (fun q_11 => ?_)
    · replace h := h.1 q_11
      exact hk102 _ _ _ _ S (lv_sub hl [0] rfl) h
    · replace h := h.2 q_11
      refine lv_aload_n hx hb dX12_start_77 rfl (lv_at hl 0 rfl) ?_
      refine o_get X S 0 20 (by decide) rfl rfl in_12 (by decide) k_887 rfl dX12_start_78 ?_
      refine lv_iload_n hx hb dX12_start_81 rfl (lv_at hl 3 rfl) ?_
      refine lv_aload_n hx hb dX12_start_82 rfl (lv_at hl 0 rfl) ?_
      refine o_get X S 0 3 (by decide) rfl rfl in_12 (by decide) k_870 rfl dX12_start_83 ?_
      refine lv_bipush (v := 20) hx hb dX12_start_86 (by decide) ?_
      refine lv_iload_n hx hb dX12_start_88 rfl (lv_at hl 1 rfl) ?_
      refine lv_imul hx hb dX12_start_89 ?_
      refine lv_iload_n hx hb dX12_start_90 rfl (lv_at hl 2 rfl) ?_
      refine lv_iadd hx hb dX12_start_91 ?_
      refine lv_iload_n hx hb dX12_start_92 rfl (lv_at hl 3 rfl) ?_
      refine lv_iadd hx hb dX12_start_93 ?_
      refine o_iald X S 3 0 (by decide) (fun _ => rfl) rfl h.1 dX12_start_94 ?_
      replace h := h.2
      refine o_iast X S 10 0 (by decide) (fun _ => rfl) rfl h.1 dX12_start_95 (fun σ_12 H locs eσ_12 S => ?_)
      replace h := h.2 σ_12 eσ_12
      obtain ⟨x3_13, ex3_13⟩ : ∃ y : Int32, y = x3 + 1 := ⟨_, rfl⟩
      replace h := h x3_13 ex3_13
      refine lv_iinc (v := x3_13) (lv' := [(3, .int x3_13), (0, .ref (ad 0)), (1, .int x1), (2, .int x2)]) hx hb dX12_start_96 hl (k := 3) rfl (by rw [ex3_13]; rfl) (by decide) rfl (fun ls hl => ?_)
      refine lv_goto (tgt := 69) hx hb dX12_start_99 (by decide) ?_
      exact ih _ _ _ _ _ S (lv_sub hl [1, 2, 3, 0] rfl) h
set_option maxHeartbeats 4000000 in
set_option maxRecDepth 100000 in
theorem mX12_start {D : va_G} {cy : Nat → ClassId} {ad : Nat → Nat} (l : Launch) (x1 : Int32) (x2 : Int32) (σ : Sg) (Q : Int64 → Sg → Prop) (h : wX12_start x1 x2 σ Q) : MLM D cy ad l yX12_start (.code yX12_start cX12_start 4 (some .long) :: gT) ({ frames := 2, cells := 0, slots := 0, locals := 42 }) [.ref (ad 0), .int x1, .int x2] σ Q := by
  refine metL_of (by decide +kernel) (Nat.le_of_ble_eq_true rfl) ?_
  intro p e s m args below meth c A ls X hr hl S
  have X : Fx D (tyM cy) EvM p s m args meth c cX12_start 4 "BackBayModel" A := X
  have hl : lv_has ls 4 [(0, .ref (ad 0)), (1, .int x1), (2, .int x2)] := hl
  have hx := X.1
  have hb := X.2.1
  unfold wX12_start at h
  refine lv_iload_n hx hb dX12_start_0 rfl (lv_at hl 1 rfl) ?_
  refine o_callSi (k := 1) EvM_ok X S (mX12_isRow l x1 σ _ h) k_1018 k_1016 k_1017 k_14 ⟨by decide, by decide, by decide +kernel⟩ ⟨rfl, rfl⟩ ⟨Nat.le_of_ble_eq_true rfl, Nat.le_of_ble_eq_true rfl⟩ rfl hl.1 rfl (Nat.le_of_ble_eq_true rfl) dX12_start_1 (fun r_1 σ_2 H locs h S => ?_)
  refine lv_if_ne (tgt := 12) hx hb dX12_start_4 (by decide) (fun q_3 => ?_) (fun q_3 => ?_)
  · replace h := h.2 q_3
    refine lv_aload_n hx hb dX12_start_12 rfl (lv_at hl 0 rfl) ?_
    refine o_get X S 0 1 (by decide) rfl rfl in_12 (by decide) k_868 rfl dX12_start_13 ?_
    refine lv_iload_n hx hb dX12_start_16 rfl (lv_at hl 1 rfl) ?_
    refine o_iald X S 1 0 (by decide) (fun _ => rfl) rfl h.1 dX12_start_17 ?_
    replace h := h.2
    refine lv_if_ge (tgt := 27) hx hb dX12_start_18 (by decide) (fun q_4 => ?_) (fun q_4 => ?_)
    · replace h := h.1 q_4
      refine lv_iload_n hx hb dX12_start_27 rfl (lv_at hl 2 rfl) ?_
      refine lv_if_lt (tgt := 56) hx hb dX12_start_28 (by decide) (fun q_5 => ?_) (fun q_5 => ?_)
      · replace h := h.1 q_5
        exact mX12_start_b56 l X hr S (lv_sub hl [0] rfl) h
      · replace h := h.2 q_5
        refine lv_iload_n hx hb dX12_start_31 rfl (lv_at hl 2 rfl) ?_
        refine lv_aload_n hx hb dX12_start_32 rfl (lv_at hl 0 rfl) ?_
        refine o_get X S 0 2 (by decide) rfl rfl in_12 (by decide) k_869 rfl dX12_start_33 ?_
        refine lv_iload_n hx hb dX12_start_36 rfl (lv_at hl 1 rfl) ?_
        refine o_iald X S 2 0 (by decide) (fun _ => rfl) rfl h.1 dX12_start_37 ?_
        replace h := h.2
        refine lv_icmp_gt (tgt := 56) hx hb dX12_start_38 (by decide) (fun q_8 => ?_) (fun q_8 => ?_)
        · replace h := h.1 q_8
          exact mX12_start_b56 l X hr S (lv_sub hl [0] rfl) h
        · replace h := h.2 q_8
          refine lv_aload_n hx hb dX12_start_41 rfl (lv_at hl 0 rfl) ?_
          refine o_get X S 0 19 (by decide) rfl rfl in_12 (by decide) k_886 rfl dX12_start_42 ?_
          refine lv_aload_n hx hb dX12_start_45 rfl (lv_at hl 0 rfl) ?_
          refine o_get X S 0 2 (by decide) rfl rfl in_12 (by decide) k_869 rfl dX12_start_46 ?_
          refine lv_iload_n hx hb dX12_start_49 rfl (lv_at hl 1 rfl) ?_
          refine o_iald X S 2 0 (by decide) (fun _ => rfl) rfl h.1 dX12_start_50 ?_
          replace h := h.2
          refine lv_iload_n hx hb dX12_start_51 rfl (lv_at hl 2 rfl) ?_
          refine lv_isub hx hb dX12_start_52 ?_
          refine lv_icmp_le (tgt := 62) hx hb dX12_start_53 (by decide) (fun q_9 => ?_) (fun q_9 => ?_)
          · replace h := h.1 q_9
            refine lv_aload_n hx hb dX12_start_62 rfl (lv_at hl 0 rfl) ?_
            refine lv_iconst (v := 0) hx hb dX12_start_63 (by decide) ?_
            refine o_puti X S (fs := fun c => [.int (c 0), .ref (ad 1), .ref (ad 2), .ref (ad 3), .ref (ad 4), .int (c 5), .int (c 6), .int (c 7), .ref (ad 5), .ref (ad 6), .ref (ad 7), .ref (ad 8), .int (c 12), .int (c 13), .int (c 14), .int (c 15), .ref (ad 9), .int (c 17), .int (c 18), .int (c 19), .ref (ad 10), .ref (ad 11), .ref (ad 12), .ref (ad 13), .ref (ad 14), .ref (ad 15), .ref (ad 16), .int (c 27), .int (c 28), .ref (ad 17), .ref (ad 18), .ref (ad 19), .ref (ad 20), .ref (ad 21), .ref (ad 22), .ref (ad 23), .ref (ad 24), .ref (ad 25), .ref (ad 26), .ref (ad 27), .ref (ad 28), .ref (ad 29), .int (c 42), .ref (ad 30), .ref (ad 31), .ref (ad 32), .ref (ad 33), .int (c 47)]) 0 0 (by decide) (fun _ => rfl) (fun _ _ => rfl) rfl in_12 tyX12_ok nmX12 (by decide) k_867 rfl rfl rfl rfl (fun _ => Nat.le_of_ble_eq_true rfl) dX12_start_64 (fun σ_10 H locs eσ_10 S => ?_)
            replace h := h σ_10 eσ_10
            refine lv_iconst (v := 0) hx hb dX12_start_67 (by decide) ?_
            refine lv_istore_n (lv' := [(3, .int 0), (0, .ref (ad 0)), (1, .int x1), (2, .int x2)]) hx hb dX12_start_68 rfl hl (by decide) rfl (fun ls hl => ?_)
            obtain ⟨n_69, h⟩ := h
            refine mX12_start_L69 l X hr x1 x2 ?_ n_69 _ _ _ _ _ S (lv_sub hl [1, 2, 3, 0] rfl) h
            · intro σ_14 H locs ls S hl h
              refine lv_aload_n hx hb dX12_start_102 rfl (lv_at hl 0 rfl) ?_
              refine o_get X S 0 19 (by decide) rfl rfl in_12 (by decide) k_886 rfl dX12_start_103 ?_
              refine lv_i2l hx hb dX12_start_106 rfl ?_
              exact o_lret X S hr h dX12_start_107
          · replace h := h.2 q_9
            exact mX12_start_b56 l X hr S (lv_sub hl [0] rfl) h
    · replace h := h.2 q_4
      refine lv_aload_n hx hb dX12_start_21 rfl (lv_at hl 0 rfl) ?_
      refine lv_iconst (v := 1) hx hb dX12_start_22 (by decide) ?_
      refine o_callVl (k := 1) EvM_ok X S (mX12_finds l 1 σ_2 _ h) (by decide) rfl rfl k_1029 k_1026 k_1028 ks_34 k_14 ⟨rfl, by decide, by decide, by decide +kernel⟩ ⟨rfl, rfl⟩ ⟨Nat.le_of_ble_eq_true rfl, Nat.le_of_ble_eq_true rfl⟩ rfl hl.1 rfl (Nat.le_of_ble_eq_true rfl) dX12_start_23 (fun r_15 σ_16 H locs h S => ?_)
      exact o_lret X S hr h dX12_start_26
  · replace h := h.1 q_3
    refine lv_iconst (v := 1) hx hb dX12_start_7 (by decide) ?_
    refine o_callSl (k := 1) EvM_ok X S (mX12_refused l 1 σ_2 _ h) k_1024 k_1022 k_1023 k_14 ⟨by decide, by decide, by decide +kernel⟩ ⟨rfl, rfl⟩ ⟨Nat.le_of_ble_eq_true rfl, Nat.le_of_ble_eq_true rfl⟩ rfl hl.1 rfl (Nat.le_of_ble_eq_true rfl) dX12_start_8 (fun r_17 σ_18 H locs h S => ?_)
    exact o_lret X S hr h dX12_start_11
def wX12_strip_b18 (σ : Sg) (Q : Int64 → Sg → Prop) : Prop :=
  (wX12_refused 1 σ (fun r_4 σ_5 => Q r_4 σ_5))
def wX12_strip (x1 : Int32) (x2 : Int32) (σ : Sg) (Q : Int64 → Sg → Prop) : Prop :=
  (wX12_isCell x1 σ (fun r_1 σ_2 => ((r_1 = 0 → wX12_strip_b18 σ_2 Q) ∧ (¬ r_1 = 0 → (wX12_within x2 0 9 σ_2 (fun r_6 σ_7 => ((r_6 = 0 → wX12_strip_b18 σ_7 Q) ∧ (¬ r_6 = 0 → (vp_in x1 10 ∧ (∀ x3_9, x3_9 = (σ_7 11 x1.toNatClampNeg) → (vp_in x1 10 ∧ ∀ σ_10, σ_10 = sto σ_7 11 x1.toNatClampNeg x2 → Q (x3_9.toInt64) σ_10)))))))))))
set_option maxHeartbeats 4000000 in
set_option maxRecDepth 100000 in
theorem mX12_strip_b18 {D : va_G} {cy : Nat → ClassId} {ad : Nat → Nat} (l : Launch) {p : Program} {e : Env} {s : State} {m : MethodId} {args : Array Value} {below : List Frame} {meth : Method} {c : Code} {A : Nat → Prop} {Q : Int64 → Sg → Prop} (X : Fx D (tyM cy) EvM p s m args meth c cX12_strip 4 "BackBayModel" A) (hr : meth.sig.returnType = some .long) {σ : Sg} {H : Heap} {locs : List Loc} {ls : Array Slot} (S : St D ad 34 (shM cy ad) A s σ H locs) (hl : lv_has ls 4 []) (h : wX12_strip_b18 σ Q) : W p l e ({ frames := 2, cells := 0, slots := 0, locals := 43 }) s m args below meth c H locs 0 0 (MQ below (va_Ql Q (PosW D (tyM cy) ad 34 (shM cy ad) A) A) args s 0 0 A) (F0 m 18 ls []) := by
  have hx := X.1
  have hb := X.2.1
  unfold wX12_strip_b18 at h
  refine lv_iconst (v := 1) hx hb dX12_strip_18 (by decide) ?_
  refine o_callSl (k := 1) EvM_ok X S (mX12_refused l 1 σ _ h) k_1024 k_1022 k_1023 k_14 ⟨by decide, by decide, by decide +kernel⟩ ⟨rfl, rfl⟩ ⟨Nat.le_of_ble_eq_true rfl, Nat.le_of_ble_eq_true rfl⟩ rfl hl.1 rfl (Nat.le_of_ble_eq_true rfl) dX12_strip_19 (fun r_4 σ_5 H locs h S => ?_)
  exact o_lret X S hr h dX12_strip_22
set_option maxHeartbeats 4000000 in
set_option maxRecDepth 100000 in
theorem mX12_strip {D : va_G} {cy : Nat → ClassId} {ad : Nat → Nat} (l : Launch) (x1 : Int32) (x2 : Int32) (σ : Sg) (Q : Int64 → Sg → Prop) (h : wX12_strip x1 x2 σ Q) : MLM D cy ad l yX12_strip (.code yX12_strip cX12_strip 4 (some .long) :: gT) ({ frames := 2, cells := 0, slots := 0, locals := 43 }) [.ref (ad 0), .int x1, .int x2] σ Q := by
  refine metL_of (by decide +kernel) (Nat.le_of_ble_eq_true rfl) ?_
  intro p e s m args below meth c A ls X hr hl S
  have X : Fx D (tyM cy) EvM p s m args meth c cX12_strip 4 "BackBayModel" A := X
  have hl : lv_has ls 4 [(0, .ref (ad 0)), (1, .int x1), (2, .int x2)] := hl
  have hx := X.1
  have hb := X.2.1
  unfold wX12_strip at h
  refine lv_aload_n hx hb dX12_strip_0 rfl (lv_at hl 0 rfl) ?_
  refine lv_iload_n hx hb dX12_strip_1 rfl (lv_at hl 1 rfl) ?_
  refine o_callVi (k := 1) EvM_ok X S (mX12_isCell l x1 σ _ h) (by decide) rfl rfl k_1102 k_1099 k_1101 ks_39 k_14 ⟨rfl, by decide, by decide, by decide +kernel⟩ ⟨rfl, rfl⟩ ⟨Nat.le_of_ble_eq_true rfl, Nat.le_of_ble_eq_true rfl⟩ rfl hl.1 rfl (Nat.le_of_ble_eq_true rfl) dX12_strip_2 (fun r_1 σ_2 H locs h S => ?_)
  refine lv_if_eq (tgt := 18) hx hb dX12_strip_5 (by decide) (fun q_3 => ?_) (fun q_3 => ?_)
  · replace h := h.1 q_3
    exact mX12_strip_b18 l X hr S (lv_sub hl [] rfl) h
  · replace h := h.2 q_3
    refine lv_iload_n hx hb dX12_strip_8 rfl (lv_at hl 2 rfl) ?_
    refine lv_iconst (v := 0) hx hb dX12_strip_9 (by decide) ?_
    refine lv_bipush (v := 9) hx hb dX12_strip_10 (by decide) ?_
    refine o_callSi (k := 3) EvM_ok X S (mX12_within l x2 0 9 σ_2 _ h) k_1021 k_1019 k_1020 k_14 ⟨by decide, by decide, by decide +kernel⟩ ⟨rfl, rfl⟩ ⟨Nat.le_of_ble_eq_true rfl, Nat.le_of_ble_eq_true rfl⟩ rfl hl.1 rfl (Nat.le_of_ble_eq_true rfl) dX12_strip_12 (fun r_6 σ_7 H locs h S => ?_)
    refine lv_if_ne (tgt := 23) hx hb dX12_strip_15 (by decide) (fun q_8 => ?_) (fun q_8 => ?_)
    · replace h := h.2 q_8
      refine lv_aload_n hx hb dX12_strip_23 rfl (lv_at hl 0 rfl) ?_
      refine o_get X S 0 21 (by decide) rfl rfl in_12 (by decide) k_888 rfl dX12_strip_24 ?_
      refine lv_iload_n hx hb dX12_strip_27 rfl (lv_at hl 1 rfl) ?_
      refine o_iald X S 11 0 (by decide) (fun _ => rfl) rfl h.1 dX12_strip_28 ?_
      replace h := h.2
      refine lv_topi (fun x3_9 ex3_9 => ?_)
      replace h := h x3_9 ex3_9
      refine lv_istore_n (lv' := [(3, .int x3_9), (0, .ref (ad 0)), (1, .int x1), (2, .int x2)]) hx hb dX12_strip_29 rfl hl (by decide) rfl (fun ls hl => ?_)
      refine lv_aload_n hx hb dX12_strip_30 rfl (lv_at hl 1 rfl) ?_
      refine o_get X S 0 21 (by decide) rfl rfl in_12 (by decide) k_888 rfl dX12_strip_31 ?_
      refine lv_iload_n hx hb dX12_strip_34 rfl (lv_at hl 2 rfl) ?_
      refine lv_iload_n hx hb dX12_strip_35 rfl (lv_at hl 3 rfl) ?_
      refine o_iast X S 11 0 (by decide) (fun _ => rfl) rfl h.1 dX12_strip_36 (fun σ_10 H locs eσ_10 S => ?_)
      replace h := h.2 σ_10 eσ_10
      refine lv_iload_n hx hb dX12_strip_37 rfl (lv_at hl 0 rfl) ?_
      refine lv_i2l hx hb dX12_strip_38 rfl ?_
      exact o_lret X S hr h dX12_strip_39
    · replace h := h.1 q_8
      exact mX12_strip_b18 l X hr S (lv_sub hl [] rfl) h
def wX12_edge (x1 : Int32) (x2 : Int32) (σ : Sg) (Q : Int64 → Sg → Prop) : Prop :=
  (wX12_within x1 0 1 σ (fun r_1 σ_2 => ((r_1 = 0 → (wX12_refused 1 σ_2 (fun r_6 σ_7 => Q r_6 σ_7))) ∧ (¬ r_1 = 0 → (vp_in x1 2 ∧ (∀ x3_4, x3_4 = (σ_2 12 x1.toNatClampNeg) → (vp_in x1 2 ∧ ∀ σ_5, σ_5 = sto σ_2 12 x1.toNatClampNeg x2 → Q (x3_4.toInt64) σ_5)))))))
set_option maxHeartbeats 4000000 in
set_option maxRecDepth 100000 in
theorem mX12_edge {D : va_G} {cy : Nat → ClassId} {ad : Nat → Nat} (l : Launch) (x1 : Int32) (x2 : Int32) (σ : Sg) (Q : Int64 → Sg → Prop) (h : wX12_edge x1 x2 σ Q) : MLM D cy ad l yX12_edge (.code yX12_edge cX12_edge 4 (some .long) :: gT) ({ frames := 1, cells := 0, slots := 0, locals := 22 }) [.ref (ad 0), .int x1, .int x2] σ Q := by
  refine metL_of (by decide +kernel) (Nat.le_of_ble_eq_true rfl) ?_
  intro p e s m args below meth c A ls X hr hl S
  have X : Fx D (tyM cy) EvM p s m args meth c cX12_edge 4 "BackBayModel" A := X
  have hl : lv_has ls 4 [(0, .ref (ad 0)), (1, .int x1), (2, .int x2)] := hl
  have hx := X.1
  have hb := X.2.1
  unfold wX12_edge at h
  refine lv_iload_n hx hb dX12_edge_0 rfl (lv_at hl 1 rfl) ?_
  refine lv_iconst (v := 0) hx hb dX12_edge_1 (by decide) ?_
  refine lv_iconst (v := 1) hx hb dX12_edge_2 (by decide) ?_
  refine o_callSi (k := 3) EvM_ok X S (mX12_within l x1 0 1 σ _ h) k_1021 k_1019 k_1020 k_14 ⟨by decide, by decide, by decide +kernel⟩ ⟨rfl, rfl⟩ ⟨Nat.le_of_ble_eq_true rfl, Nat.le_of_ble_eq_true rfl⟩ rfl hl.1 rfl (Nat.le_of_ble_eq_true rfl) dX12_edge_3 (fun r_1 σ_2 H locs h S => ?_)
  refine lv_if_ne (tgt := 14) hx hb dX12_edge_6 (by decide) (fun q_3 => ?_) (fun q_3 => ?_)
  · replace h := h.2 q_3
    refine lv_aload_n hx hb dX12_edge_14 rfl (lv_at hl 0 rfl) ?_
    refine o_get X S 0 22 (by decide) rfl rfl in_12 (by decide) k_889 rfl dX12_edge_15 ?_
    refine lv_iload_n hx hb dX12_edge_18 rfl (lv_at hl 1 rfl) ?_
    refine o_iald X S 12 0 (by decide) (fun _ => rfl) rfl h.1 dX12_edge_19 ?_
    replace h := h.2
    refine lv_topi (fun x3_4 ex3_4 => ?_)
    replace h := h x3_4 ex3_4
    refine lv_istore_n (lv' := [(3, .int x3_4), (0, .ref (ad 0)), (1, .int x1), (2, .int x2)]) hx hb dX12_edge_20 rfl hl (by decide) rfl (fun ls hl => ?_)
    refine lv_aload_n hx hb dX12_edge_21 rfl (lv_at hl 1 rfl) ?_
    refine o_get X S 0 22 (by decide) rfl rfl in_12 (by decide) k_889 rfl dX12_edge_22 ?_
    refine lv_iload_n hx hb dX12_edge_25 rfl (lv_at hl 2 rfl) ?_
    refine lv_iload_n hx hb dX12_edge_26 rfl (lv_at hl 3 rfl) ?_
    refine o_iast X S 12 0 (by decide) (fun _ => rfl) rfl h.1 dX12_edge_27 (fun σ_5 H locs eσ_5 S => ?_)
    replace h := h.2 σ_5 eσ_5
    refine lv_iload_n hx hb dX12_edge_28 rfl (lv_at hl 0 rfl) ?_
    refine lv_i2l hx hb dX12_edge_29 rfl ?_
    exact o_lret X S hr h dX12_edge_30
  · replace h := h.1 q_3
    refine lv_iconst (v := 1) hx hb dX12_edge_9 (by decide) ?_
    refine o_callSl (k := 1) EvM_ok X S (mX12_refused l 1 σ_2 _ h) k_1024 k_1022 k_1023 k_14 ⟨by decide, by decide, by decide +kernel⟩ ⟨rfl, rfl⟩ ⟨Nat.le_of_ble_eq_true rfl, Nat.le_of_ble_eq_true rfl⟩ rfl hl.1 rfl (Nat.le_of_ble_eq_true rfl) dX12_edge_10 (fun r_6 σ_7 H locs h S => ?_)
    exact o_lret X S hr h dX12_edge_13
def wX12_seenAt_b54 (y0 : Int32) (σ : Sg) (Q : Int32 → Sg → Prop) : Prop :=
  Q y0 σ
def wX12_seenAt_b99 (y0 : Int32) (σ : Sg) (Q : Int32 → Sg → Prop) : Prop :=
  Q y0 σ
def wX12_seenAt (x1 : Int32) (x2 : Int32) (x3 : Int32) (σ : Sg) (Q : Int32 → Sg → Prop) : Prop :=
  ((x3 = 0 → ((x2 = 0 → (vp_in 0 2 ∧ wX12_seenAt_b54 (σ 12 0) σ Q)) ∧ (¬ x2 = 0 → (vp_in (((10 * x1) + x2) - 1) 1220 ∧ wX12_seenAt_b54 (σ 13 (((10 * x1) + x2) - 1).toNatClampNeg) σ Q)))) ∧ (¬ x3 = 0 → ((x3 = 1 → (vp_in ((10 * x1) + x2) 1220 ∧ Q (σ 13 ((10 * x1) + x2).toNatClampNeg) σ)) ∧ (¬ x3 = 1 → ((x3 = 2 → ((x2 = ((σ 0 19) - 1) → (vp_in 1 2 ∧ wX12_seenAt_b99 (σ 12 1) σ Q)) ∧ (¬ x2 = ((σ 0 19) - 1) → (vp_in (((10 * x1) + x2) + 1) 1220 ∧ wX12_seenAt_b99 (σ 13 (((10 * x1) + x2) + 1).toNatClampNeg) σ Q)))) ∧ (¬ x3 = 2 → (vp_in x2 10 ∧ Q (σ 11 x2.toNatClampNeg) σ)))))))
set_option maxHeartbeats 4000000 in
set_option maxRecDepth 100000 in
theorem mX12_seenAt_b54 {D : va_G} {cy : Nat → ClassId} {ad : Nat → Nat} (l : Launch) {p : Program} {e : Env} {s : State} {m : MethodId} {args : Array Value} {below : List Frame} {meth : Method} {c : Code} {A : Nat → Prop} {Q : Int32 → Sg → Prop} (X : Fx D (tyM cy) EvM p s m args meth c cX12_seenAt 4 "BackBayModel" A) (hr : meth.sig.returnType = some .int) (y0 : Int32) {σ : Sg} {H : Heap} {locs : List Loc} {ls : Array Slot} (S : St D ad 34 (shM cy ad) A s σ H locs) (hl : lv_has ls 4 []) (h : wX12_seenAt_b54 y0 σ Q) : W p l e ({ frames := 0, cells := 0, slots := 0, locals := 0 }) s m args below meth c H locs 0 0 (MQ below (va_Qi Q (PosW D (tyM cy) ad 34 (shM cy ad) A) A) args s 0 0 A) (F0 m 54 ls [.int y0]) := by
  have hx := X.1
  have hb := X.2.1
  unfold wX12_seenAt_b54 at h
  exact o_iret X S hr h dX12_seenAt_54
set_option maxHeartbeats 4000000 in
set_option maxRecDepth 100000 in
theorem mX12_seenAt_b99 {D : va_G} {cy : Nat → ClassId} {ad : Nat → Nat} (l : Launch) {p : Program} {e : Env} {s : State} {m : MethodId} {args : Array Value} {below : List Frame} {meth : Method} {c : Code} {A : Nat → Prop} {Q : Int32 → Sg → Prop} (X : Fx D (tyM cy) EvM p s m args meth c cX12_seenAt 4 "BackBayModel" A) (hr : meth.sig.returnType = some .int) (y0 : Int32) {σ : Sg} {H : Heap} {locs : List Loc} {ls : Array Slot} (S : St D ad 34 (shM cy ad) A s σ H locs) (hl : lv_has ls 4 []) (h : wX12_seenAt_b99 y0 σ Q) : W p l e ({ frames := 0, cells := 0, slots := 0, locals := 0 }) s m args below meth c H locs 0 0 (MQ below (va_Qi Q (PosW D (tyM cy) ad 34 (shM cy ad) A) A) args s 0 0 A) (F0 m 99 ls [.int y0]) := by
  have hx := X.1
  have hb := X.2.1
  unfold wX12_seenAt_b99 at h
  exact o_iret X S hr h dX12_seenAt_99
set_option maxHeartbeats 4000000 in
set_option maxRecDepth 100000 in
theorem mX12_seenAt {D : va_G} {cy : Nat → ClassId} {ad : Nat → Nat} (l : Launch) (x1 : Int32) (x2 : Int32) (x3 : Int32) (σ : Sg) (Q : Int32 → Sg → Prop) (h : wX12_seenAt x1 x2 x3 σ Q) : MIM D cy ad l yX12_seenAt (.code yX12_seenAt cX12_seenAt 4 (some .int) :: gT) ({ frames := 0, cells := 0, slots := 0, locals := 0 }) [.ref (ad 0), .int x1, .int x2, .int x3] σ Q := by
  refine metI_of (by decide +kernel) (Nat.le_of_ble_eq_true rfl) ?_
  intro p e s m args below meth c A ls X hr hl S
  have X : Fx D (tyM cy) EvM p s m args meth c cX12_seenAt 4 "BackBayModel" A := X
  have hl : lv_has ls 4 [(0, .ref (ad 0)), (1, .int x1), (2, .int x2), (3, .int x3)] := hl
  have hx := X.1
  have hb := X.2.1
  unfold wX12_seenAt at h
  refine lv_iload_n hx hb dX12_seenAt_0 rfl (lv_at hl 3 rfl) ?_
  by_cases q_1 : x3 = 0
  · refine lv_tableIn (tgt := 28) hx hb dX12_seenAt_1 (by rw [q_1] <;> decide) (by rw [q_1] <;> decide) (by rw [q_1] <;> rfl) (by decide) ?_
    replace h := h.1 q_1
    refine lv_iload_n hx hb dX12_seenAt_28 rfl (lv_at hl 2 rfl) ?_
    refine lv_if_ne (tgt := 41) hx hb dX12_seenAt_29 (by decide) (fun q_2 => ?_) (fun q_2 => ?_)
    · replace h := h.2 q_2
      refine lv_aload_n hx hb dX12_seenAt_41 rfl (lv_at hl 0 rfl) ?_
      refine o_get X S 0 23 (by decide) rfl rfl in_12 (by decide) k_890 rfl dX12_seenAt_42 ?_
      refine lv_bipush (v := 10) hx hb dX12_seenAt_45 (by decide) ?_
      refine lv_iload_n hx hb dX12_seenAt_47 rfl (lv_at hl 1 rfl) ?_
      refine lv_imul hx hb dX12_seenAt_48 ?_
      refine lv_iload_n hx hb dX12_seenAt_49 rfl (lv_at hl 2 rfl) ?_
      refine lv_iadd hx hb dX12_seenAt_50 ?_
      refine lv_iconst (v := 1) hx hb dX12_seenAt_51 (by decide) ?_
      refine lv_isub hx hb dX12_seenAt_52 ?_
      refine o_iald X S 13 0 (by decide) (fun _ => rfl) rfl h.1 dX12_seenAt_53 ?_
      replace h := h.2
      exact mX12_seenAt_b54 l X hr (σ 13 (((10 * x1) + x2) - 1).toNatClampNeg) S (lv_sub hl [] rfl) h
    · replace h := h.1 q_2
      refine lv_aload_n hx hb dX12_seenAt_32 rfl (lv_at hl 0 rfl) ?_
      refine o_get X S 0 22 (by decide) rfl rfl in_12 (by decide) k_889 rfl dX12_seenAt_33 ?_
      refine lv_iconst (v := 0) hx hb dX12_seenAt_36 (by decide) ?_
      refine o_iald X S 12 0 (by decide) (fun _ => rfl) rfl h.1 dX12_seenAt_37 ?_
      replace h := h.2
      refine lv_goto (tgt := 54) hx hb dX12_seenAt_38 (by decide) ?_
      exact mX12_seenAt_b54 l X hr (σ 12 0) S (lv_sub hl [] rfl) h
  replace h := h.2 q_1
  by_cases q_3 : x3 = 1
  · refine lv_tableIn (tgt := 55) hx hb dX12_seenAt_1 (by rw [q_3] <;> decide) (by rw [q_3] <;> decide) (by rw [q_3] <;> rfl) (by decide) ?_
    replace h := h.1 q_3
    refine lv_aload_n hx hb dX12_seenAt_55 rfl (lv_at hl 0 rfl) ?_
    refine o_get X S 0 23 (by decide) rfl rfl in_12 (by decide) k_890 rfl dX12_seenAt_56 ?_
    refine lv_bipush (v := 10) hx hb dX12_seenAt_59 (by decide) ?_
    refine lv_iload_n hx hb dX12_seenAt_61 rfl (lv_at hl 1 rfl) ?_
    refine lv_imul hx hb dX12_seenAt_62 ?_
    refine lv_iload_n hx hb dX12_seenAt_63 rfl (lv_at hl 2 rfl) ?_
    refine lv_iadd hx hb dX12_seenAt_64 ?_
    refine o_iald X S 13 0 (by decide) (fun _ => rfl) rfl h.1 dX12_seenAt_65 ?_
    replace h := h.2
    exact o_iret X S hr h dX12_seenAt_66
  replace h := h.2 q_3
  by_cases q_4 : x3 = 2
  · refine lv_tableIn (tgt := 67) hx hb dX12_seenAt_1 (by rw [q_4] <;> decide) (by rw [q_4] <;> decide) (by rw [q_4] <;> rfl) (by decide) ?_
    replace h := h.1 q_4
    refine lv_iload_n hx hb dX12_seenAt_67 rfl (lv_at hl 2 rfl) ?_
    refine lv_aload_n hx hb dX12_seenAt_68 rfl (lv_at hl 0 rfl) ?_
    refine o_get X S 0 19 (by decide) rfl rfl in_12 (by decide) k_886 rfl dX12_seenAt_69 ?_
    refine lv_iconst (v := 1) hx hb dX12_seenAt_72 (by decide) ?_
    refine lv_isub hx hb dX12_seenAt_73 ?_
    refine lv_icmp_ne (tgt := 86) hx hb dX12_seenAt_74 (by decide) (fun q_5 => ?_) (fun q_5 => ?_)
    · replace h := h.2 q_5
      refine lv_aload_n hx hb dX12_seenAt_86 rfl (lv_at hl 0 rfl) ?_
      refine o_get X S 0 23 (by decide) rfl rfl in_12 (by decide) k_890 rfl dX12_seenAt_87 ?_
      refine lv_bipush (v := 10) hx hb dX12_seenAt_90 (by decide) ?_
      refine lv_iload_n hx hb dX12_seenAt_92 rfl (lv_at hl 1 rfl) ?_
      refine lv_imul hx hb dX12_seenAt_93 ?_
      refine lv_iload_n hx hb dX12_seenAt_94 rfl (lv_at hl 2 rfl) ?_
      refine lv_iadd hx hb dX12_seenAt_95 ?_
      refine lv_iconst (v := 1) hx hb dX12_seenAt_96 (by decide) ?_
      refine lv_iadd hx hb dX12_seenAt_97 ?_
      refine o_iald X S 13 0 (by decide) (fun _ => rfl) rfl h.1 dX12_seenAt_98 ?_
      replace h := h.2
      exact mX12_seenAt_b99 l X hr (σ 13 (((10 * x1) + x2) + 1).toNatClampNeg) S (lv_sub hl [] rfl) h
    · replace h := h.1 q_5
      refine lv_aload_n hx hb dX12_seenAt_77 rfl (lv_at hl 0 rfl) ?_
      refine o_get X S 0 22 (by decide) rfl rfl in_12 (by decide) k_889 rfl dX12_seenAt_78 ?_
      refine lv_iconst (v := 1) hx hb dX12_seenAt_81 (by decide) ?_
      refine o_iald X S 12 0 (by decide) (fun _ => rfl) rfl h.1 dX12_seenAt_82 ?_
      replace h := h.2
      refine lv_goto (tgt := 99) hx hb dX12_seenAt_83 (by decide) ?_
      exact mX12_seenAt_b99 l X hr (σ 12 1) S (lv_sub hl [] rfl) h
  replace h := h.2 q_4
  refine lv_tableOut (tgt := 100) hx hb dX12_seenAt_1 (by have r0 := lv_neT (a := 0) q_1 rfl; have r1 := lv_neT (a := 1) q_3 rfl; have r2 := lv_neT (a := 2) q_4 rfl; omega) (by decide) ?_
  refine lv_aload_n hx hb dX12_seenAt_100 rfl (lv_at hl 0 rfl) ?_
  refine o_get X S 0 21 (by decide) rfl rfl in_12 (by decide) k_888 rfl dX12_seenAt_101 ?_
  refine lv_iload_n hx hb dX12_seenAt_104 rfl (lv_at hl 2 rfl) ?_
  refine o_iald X S 11 0 (by decide) (fun _ => rfl) rfl h.1 dX12_seenAt_105 ?_
  replace h := h.2
  exact o_iret X S hr h dX12_seenAt_106
def wX12_second (x1 : Int32) (σ : Sg) (Q : Int32 → Sg → Prop) : Prop :=
  (vp_in (x1 + 1) 120 ∧ Q ((x1 + 1) + (σ 8 (x1 + 1).toNatClampNeg)) σ)
set_option maxHeartbeats 4000000 in
set_option maxRecDepth 100000 in
theorem mX12_second {D : va_G} {cy : Nat → ClassId} {ad : Nat → Nat} (l : Launch) (x1 : Int32) (σ : Sg) (Q : Int32 → Sg → Prop) (h : wX12_second x1 σ Q) : MIM D cy ad l yX12_second (.code yX12_second cX12_second 2 (some .int) :: gT) ({ frames := 0, cells := 0, slots := 0, locals := 0 }) [.ref (ad 0), .int x1] σ Q := by
  refine metI_of (by decide +kernel) (Nat.le_of_ble_eq_true rfl) ?_
  intro p e s m args below meth c A ls X hr hl S
  have X : Fx D (tyM cy) EvM p s m args meth c cX12_second 2 "BackBayModel" A := X
  have hl : lv_has ls 2 [(0, .ref (ad 0)), (1, .int x1)] := hl
  have hx := X.1
  have hb := X.2.1
  unfold wX12_second at h
  refine lv_iload_n hx hb dX12_second_0 rfl (lv_at hl 1 rfl) ?_
  refine lv_iconst (v := 1) hx hb dX12_second_1 (by decide) ?_
  refine lv_iadd hx hb dX12_second_2 ?_
  refine lv_aload_n hx hb dX12_second_3 rfl (lv_at hl 0 rfl) ?_
  refine o_get X S 0 11 (by decide) rfl rfl in_12 (by decide) k_878 rfl dX12_second_4 ?_
  refine lv_iload_n hx hb dX12_second_7 rfl (lv_at hl 1 rfl) ?_
  refine lv_iconst (v := 1) hx hb dX12_second_8 (by decide) ?_
  refine lv_iadd hx hb dX12_second_9 ?_
  refine o_iald X S 8 0 (by decide) (fun _ => rfl) rfl h.1 dX12_second_10 ?_
  replace h := h.2
  refine lv_iadd hx hb dX12_second_11 ?_
  exact o_iret X S hr h dX12_second_12
def wX12_third (x1 : Int32) (σ : Sg) (Q : Int32 → Sg → Prop) : Prop :=
  (wX12_second x1 σ (fun r_1 σ_2 => (wX12_second x1 σ_2 (fun r_3 σ_4 => (vp_in r_3 120 ∧ Q (r_1 + (σ_4 8 r_3.toNatClampNeg)) σ_4)))))
set_option maxHeartbeats 4000000 in
set_option maxRecDepth 100000 in
theorem mX12_third {D : va_G} {cy : Nat → ClassId} {ad : Nat → Nat} (l : Launch) (x1 : Int32) (σ : Sg) (Q : Int32 → Sg → Prop) (h : wX12_third x1 σ Q) : MIM D cy ad l yX12_third (.code yX12_third cX12_third 2 (some .int) :: gT) ({ frames := 1, cells := 0, slots := 0, locals := 21 }) [.ref (ad 0), .int x1] σ Q := by
  refine metI_of (by decide +kernel) (Nat.le_of_ble_eq_true rfl) ?_
  intro p e s m args below meth c A ls X hr hl S
  have X : Fx D (tyM cy) EvM p s m args meth c cX12_third 2 "BackBayModel" A := X
  have hl : lv_has ls 2 [(0, .ref (ad 0)), (1, .int x1)] := hl
  have hx := X.1
  have hb := X.2.1
  unfold wX12_third at h
  refine lv_aload_n hx hb dX12_third_0 rfl (lv_at hl 0 rfl) ?_
  refine lv_iload_n hx hb dX12_third_1 rfl (lv_at hl 1 rfl) ?_
  refine o_callVi (k := 1) EvM_ok X S (mX12_second l x1 σ _ h) (by decide) rfl rfl k_1130 k_1127 k_1129 ks_44 k_14 ⟨rfl, by decide, by decide, by decide +kernel⟩ ⟨rfl, rfl⟩ ⟨Nat.le_of_ble_eq_true rfl, Nat.le_of_ble_eq_true rfl⟩ rfl hl.1 rfl (Nat.le_of_ble_eq_true rfl) dX12_third_2 (fun r_1 σ_2 H locs h S => ?_)
  refine lv_aload_n hx hb dX12_third_5 rfl (lv_at hl 0 rfl) ?_
  refine o_get X S 0 11 (by decide) rfl rfl in_12 (by decide) k_878 rfl dX12_third_6 ?_
  refine lv_aload_n hx hb dX12_third_9 rfl (lv_at hl 0 rfl) ?_
  refine lv_iload_n hx hb dX12_third_10 rfl (lv_at hl 1 rfl) ?_
  refine o_callVi (k := 1) EvM_ok X S (mX12_second l x1 σ_2 _ h) (by decide) rfl rfl k_1130 k_1127 k_1129 ks_44 k_14 ⟨rfl, by decide, by decide, by decide +kernel⟩ ⟨rfl, rfl⟩ ⟨Nat.le_of_ble_eq_true rfl, Nat.le_of_ble_eq_true rfl⟩ rfl hl.1 rfl (Nat.le_of_ble_eq_true rfl) dX12_third_11 (fun r_3 σ_4 H locs h S => ?_)
  refine o_iald X S 8 0 (by decide) (fun _ => rfl) rfl h.1 dX12_third_14 ?_
  replace h := h.2
  refine lv_iadd hx hb dX12_third_15 ?_
  exact o_iret X S hr h dX12_third_16
def wX12_fourth (x1 : Int32) (σ : Sg) (Q : Int32 → Sg → Prop) : Prop :=
  (wX12_third x1 σ (fun r_1 σ_2 => (wX12_third x1 σ_2 (fun r_3 σ_4 => (vp_in r_3 120 ∧ Q (r_1 + (σ_4 8 r_3.toNatClampNeg)) σ_4)))))
set_option maxHeartbeats 4000000 in
set_option maxRecDepth 100000 in
theorem mX12_fourth {D : va_G} {cy : Nat → ClassId} {ad : Nat → Nat} (l : Launch) (x1 : Int32) (σ : Sg) (Q : Int32 → Sg → Prop) (h : wX12_fourth x1 σ Q) : MIM D cy ad l yX12_fourth (.code yX12_fourth cX12_fourth 2 (some .int) :: gT) ({ frames := 2, cells := 0, slots := 0, locals := 42 }) [.ref (ad 0), .int x1] σ Q := by
  refine metI_of (by decide +kernel) (Nat.le_of_ble_eq_true rfl) ?_
  intro p e s m args below meth c A ls X hr hl S
  have X : Fx D (tyM cy) EvM p s m args meth c cX12_fourth 2 "BackBayModel" A := X
  have hl : lv_has ls 2 [(0, .ref (ad 0)), (1, .int x1)] := hl
  have hx := X.1
  have hb := X.2.1
  unfold wX12_fourth at h
  refine lv_aload_n hx hb dX12_fourth_0 rfl (lv_at hl 0 rfl) ?_
  refine lv_iload_n hx hb dX12_fourth_1 rfl (lv_at hl 1 rfl) ?_
  refine o_callVi (k := 1) EvM_ok X S (mX12_third l x1 σ _ h) (by decide) rfl rfl k_1138 k_1135 k_1137 ks_46 k_14 ⟨rfl, by decide, by decide, by decide +kernel⟩ ⟨rfl, rfl⟩ ⟨Nat.le_of_ble_eq_true rfl, Nat.le_of_ble_eq_true rfl⟩ rfl hl.1 rfl (Nat.le_of_ble_eq_true rfl) dX12_fourth_2 (fun r_1 σ_2 H locs h S => ?_)
  refine lv_aload_n hx hb dX12_fourth_5 rfl (lv_at hl 0 rfl) ?_
  refine o_get X S 0 11 (by decide) rfl rfl in_12 (by decide) k_878 rfl dX12_fourth_6 ?_
  refine lv_aload_n hx hb dX12_fourth_9 rfl (lv_at hl 0 rfl) ?_
  refine lv_iload_n hx hb dX12_fourth_10 rfl (lv_at hl 1 rfl) ?_
  refine o_callVi (k := 1) EvM_ok X S (mX12_third l x1 σ_2 _ h) (by decide) rfl rfl k_1138 k_1135 k_1137 ks_46 k_14 ⟨rfl, by decide, by decide, by decide +kernel⟩ ⟨rfl, rfl⟩ ⟨Nat.le_of_ble_eq_true rfl, Nat.le_of_ble_eq_true rfl⟩ rfl hl.1 rfl (Nat.le_of_ble_eq_true rfl) dX12_fourth_11 (fun r_3 σ_4 H locs h S => ?_)
  refine o_iald X S 8 0 (by decide) (fun _ => rfl) rfl h.1 dX12_fourth_14 ?_
  replace h := h.2
  refine lv_iadd hx hb dX12_fourth_15 ?_
  exact o_iret X S hr h dX12_fourth_16
def wX12_takenOf_b100 (y0 : Int32) (σ : Sg) (Q : Int32 → Sg → Prop) : Prop :=
  Q y0 σ
def wX12_takenOf_b82 (x1 : Int32) (y0 : Int32) (σ : Sg) (Q : Int32 → Sg → Prop) : Prop :=
  ((y0 = 0 → (wX12_second x1 σ (fun r_9 σ_10 => wX12_takenOf_b100 r_9 σ_10 Q))) ∧ (¬ y0 = 0 → wX12_takenOf_b100 (x1 + 1) σ Q))
def wX12_takenOf_b48 (y0 : Int32) (σ : Sg) (Q : Int32 → Sg → Prop) : Prop :=
  Q y0 σ
def wX12_takenOf (x1 : Int32) (σ : Sg) (Q : Int32 → Sg → Prop) : Prop :=
  (vp_in (x1 + 1) 60 ∧ (∀ x2_1, x2_1 = (σ 14 (x1 + 1).toNatClampNeg) → (wX12_second x1 σ (fun r_2 σ_3 => (vp_in r_2 60 ∧ (∀ x3_4, x3_4 = (σ_3 14 r_2.toNatClampNeg) → (vp_in x1 120 ∧ (((σ_3 6 x1.toNatClampNeg) = 5 → ((x2_1 ≤ x3_4 → (wX12_fourth x1 σ_3 (fun r_13 σ_14 => wX12_takenOf_b48 r_13 σ_14 Q))) ∧ (¬ x2_1 ≤ x3_4 → (wX12_third x1 σ_3 (fun r_15 σ_16 => wX12_takenOf_b48 r_15 σ_16 Q))))) ∧ (¬ (σ_3 6 x1.toNatClampNeg) = 5 → (vp_in x1 120 ∧ (((σ_3 7 x1.toNatClampNeg) = 1 → ((x3_4 < x2_1 → wX12_takenOf_b82 x1 0 σ_3 Q) ∧ (¬ x3_4 < x2_1 → wX12_takenOf_b82 x1 1 σ_3 Q))) ∧ (¬ (σ_3 7 x1.toNatClampNeg) = 1 → ((x2_1 < x3_4 → wX12_takenOf_b82 x1 0 σ_3 Q) ∧ (¬ x2_1 < x3_4 → wX12_takenOf_b82 x1 1 σ_3 Q))))))))))))))
set_option maxHeartbeats 4000000 in
set_option maxRecDepth 100000 in
theorem mX12_takenOf_b100 {D : va_G} {cy : Nat → ClassId} {ad : Nat → Nat} (l : Launch) {p : Program} {e : Env} {s : State} {m : MethodId} {args : Array Value} {below : List Frame} {meth : Method} {c : Code} {A : Nat → Prop} {Q : Int32 → Sg → Prop} (X : Fx D (tyM cy) EvM p s m args meth c cX12_takenOf 5 "BackBayModel" A) (hr : meth.sig.returnType = some .int) (y0 : Int32) {σ : Sg} {H : Heap} {locs : List Loc} {ls : Array Slot} (S : St D ad 34 (shM cy ad) A s σ H locs) (hl : lv_has ls 5 []) (h : wX12_takenOf_b100 y0 σ Q) : W p l e ({ frames := 3, cells := 0, slots := 0, locals := 63 }) s m args below meth c H locs 0 0 (MQ below (va_Qi Q (PosW D (tyM cy) ad 34 (shM cy ad) A) A) args s 0 0 A) (F0 m 100 ls [.int y0]) := by
  have hx := X.1
  have hb := X.2.1
  unfold wX12_takenOf_b100 at h
  exact o_iret X S hr h dX12_takenOf_100
set_option maxHeartbeats 4000000 in
set_option maxRecDepth 100000 in
theorem mX12_takenOf_b82 {D : va_G} {cy : Nat → ClassId} {ad : Nat → Nat} (l : Launch) {p : Program} {e : Env} {s : State} {m : MethodId} {args : Array Value} {below : List Frame} {meth : Method} {c : Code} {A : Nat → Prop} {Q : Int32 → Sg → Prop} (X : Fx D (tyM cy) EvM p s m args meth c cX12_takenOf 5 "BackBayModel" A) (hr : meth.sig.returnType = some .int) (x1 : Int32) (y0 : Int32) {σ : Sg} {H : Heap} {locs : List Loc} {ls : Array Slot} (S : St D ad 34 (shM cy ad) A s σ H locs) (hl : lv_has ls 5 [(0, .ref (ad 0)), (1, .int x1)]) (h : wX12_takenOf_b82 x1 y0 σ Q) : W p l e ({ frames := 3, cells := 0, slots := 0, locals := 63 }) s m args below meth c H locs 0 0 (MQ below (va_Qi Q (PosW D (tyM cy) ad 34 (shM cy ad) A) A) args s 0 0 A) (F0 m 82 ls [.int y0]) := by
  have hx := X.1
  have hb := X.2.1
  unfold wX12_takenOf_b82 at h
  refine lv_istore (lv' := [(4, .int y0), (0, .ref (ad 0)), (1, .int x1)]) hx hb dX12_takenOf_82 hl (by decide) rfl (fun ls hl => ?_)
  refine lv_iload hx hb dX12_takenOf_84 (lv_at hl 0 rfl) ?_
  refine lv_if_eq (tgt := 95) hx hb dX12_takenOf_86 (by decide) (fun q_8 => ?_) (fun q_8 => ?_)
  · replace h := h.1 q_8
    refine lv_aload_n hx hb dX12_takenOf_95 rfl (lv_at hl 1 rfl) ?_
    refine lv_iload_n hx hb dX12_takenOf_96 rfl (lv_at hl 2 rfl) ?_
    refine o_callVi (k := 1) EvM_ok X S (mX12_second l x1 σ _ h) (by decide) rfl rfl k_1130 k_1127 k_1129 ks_44 k_14 ⟨rfl, by decide, by decide, by decide +kernel⟩ ⟨rfl, rfl⟩ ⟨Nat.le_of_ble_eq_true rfl, Nat.le_of_ble_eq_true rfl⟩ rfl hl.1 rfl (Nat.le_of_ble_eq_true rfl) dX12_takenOf_97 (fun r_9 σ_10 H locs h S => ?_)
    exact mX12_takenOf_b100 l X hr r_9 S (lv_sub hl [] rfl) h
  · replace h := h.2 q_8
    refine lv_iload_n hx hb dX12_takenOf_89 rfl (lv_at hl 2 rfl) ?_
    refine lv_iconst (v := 1) hx hb dX12_takenOf_90 (by decide) ?_
    refine lv_iadd hx hb dX12_takenOf_91 ?_
    refine lv_goto (tgt := 100) hx hb dX12_takenOf_92 (by decide) ?_
    exact mX12_takenOf_b100 l X hr (x1 + 1) S (lv_sub hl [] rfl) h
set_option maxHeartbeats 4000000 in
set_option maxRecDepth 100000 in
theorem mX12_takenOf_b48 {D : va_G} {cy : Nat → ClassId} {ad : Nat → Nat} (l : Launch) {p : Program} {e : Env} {s : State} {m : MethodId} {args : Array Value} {below : List Frame} {meth : Method} {c : Code} {A : Nat → Prop} {Q : Int32 → Sg → Prop} (X : Fx D (tyM cy) EvM p s m args meth c cX12_takenOf 5 "BackBayModel" A) (hr : meth.sig.returnType = some .int) (y0 : Int32) {σ : Sg} {H : Heap} {locs : List Loc} {ls : Array Slot} (S : St D ad 34 (shM cy ad) A s σ H locs) (hl : lv_has ls 5 []) (h : wX12_takenOf_b48 y0 σ Q) : W p l e ({ frames := 3, cells := 0, slots := 0, locals := 63 }) s m args below meth c H locs 0 0 (MQ below (va_Qi Q (PosW D (tyM cy) ad 34 (shM cy ad) A) A) args s 0 0 A) (F0 m 48 ls [.int y0]) := by
  have hx := X.1
  have hb := X.2.1
  unfold wX12_takenOf_b48 at h
  exact o_iret X S hr h dX12_takenOf_48
set_option maxHeartbeats 4000000 in
set_option maxRecDepth 100000 in
theorem mX12_takenOf {D : va_G} {cy : Nat → ClassId} {ad : Nat → Nat} (l : Launch) (x1 : Int32) (σ : Sg) (Q : Int32 → Sg → Prop) (h : wX12_takenOf x1 σ Q) : MIM D cy ad l yX12_takenOf (.code yX12_takenOf cX12_takenOf 5 (some .int) :: gT) ({ frames := 3, cells := 0, slots := 0, locals := 63 }) [.ref (ad 0), .int x1] σ Q := by
  refine metI_of (by decide +kernel) (Nat.le_of_ble_eq_true rfl) ?_
  intro p e s m args below meth c A ls X hr hl S
  have X : Fx D (tyM cy) EvM p s m args meth c cX12_takenOf 5 "BackBayModel" A := X
  have hl : lv_has ls 5 [(0, .ref (ad 0)), (1, .int x1)] := hl
  have hx := X.1
  have hb := X.2.1
  unfold wX12_takenOf at h
  refine lv_aload_n hx hb dX12_takenOf_0 rfl (lv_at hl 0 rfl) ?_
  refine o_get X S 0 24 (by decide) rfl rfl in_12 (by decide) k_891 rfl dX12_takenOf_1 ?_
  refine lv_iload_n hx hb dX12_takenOf_4 rfl (lv_at hl 1 rfl) ?_
  refine lv_iconst (v := 1) hx hb dX12_takenOf_5 (by decide) ?_
  refine lv_iadd hx hb dX12_takenOf_6 ?_
  refine o_iald X S 14 0 (by decide) (fun _ => rfl) rfl h.1 dX12_takenOf_7 ?_
  replace h := h.2
  refine lv_topi (fun x2_1 ex2_1 => ?_)
  replace h := h x2_1 ex2_1
  refine lv_istore_n (lv' := [(2, .int x2_1), (0, .ref (ad 0)), (1, .int x1)]) hx hb dX12_takenOf_8 rfl hl (by decide) rfl (fun ls hl => ?_)
  refine lv_aload_n hx hb dX12_takenOf_9 rfl (lv_at hl 1 rfl) ?_
  refine o_get X S 0 24 (by decide) rfl rfl in_12 (by decide) k_891 rfl dX12_takenOf_10 ?_
  refine lv_aload_n hx hb dX12_takenOf_13 rfl (lv_at hl 1 rfl) ?_
  refine lv_iload_n hx hb dX12_takenOf_14 rfl (lv_at hl 2 rfl) ?_
  refine o_callVi (k := 1) EvM_ok X S (mX12_second l x1 σ _ h) (by decide) rfl rfl k_1130 k_1127 k_1129 ks_44 k_14 ⟨rfl, by decide, by decide, by decide +kernel⟩ ⟨rfl, rfl⟩ ⟨Nat.le_of_ble_eq_true rfl, Nat.le_of_ble_eq_true rfl⟩ rfl hl.1 rfl (Nat.le_of_ble_eq_true rfl) dX12_takenOf_15 (fun r_2 σ_3 H locs h S => ?_)
  refine o_iald X S 14 0 (by decide) (fun _ => rfl) rfl h.1 dX12_takenOf_18 ?_
  replace h := h.2
  refine lv_topi (fun x3_4 ex3_4 => ?_)
  replace h := h x3_4 ex3_4
  refine lv_istore_n (lv' := [(3, .int x3_4), (2, .int x2_1), (0, .ref (ad 0)), (1, .int x1)]) hx hb dX12_takenOf_19 rfl hl (by decide) rfl (fun ls hl => ?_)
  refine lv_aload_n hx hb dX12_takenOf_20 rfl (lv_at hl 2 rfl) ?_
  refine o_get X S 0 9 (by decide) rfl rfl in_12 (by decide) k_876 rfl dX12_takenOf_21 ?_
  refine lv_iload_n hx hb dX12_takenOf_24 rfl (lv_at hl 3 rfl) ?_
  refine o_iald X S 6 0 (by decide) (fun _ => rfl) rfl h.1 dX12_takenOf_25 ?_
  replace h := h.2
  refine lv_iconst (v := 5) hx hb dX12_takenOf_26 (by decide) ?_
  refine lv_icmp_ne (tgt := 49) hx hb dX12_takenOf_27 (by decide) (fun q_5 => ?_) (fun q_5 => ?_)
  · replace h := h.2 q_5
    refine lv_aload_n hx hb dX12_takenOf_49 rfl (lv_at hl 2 rfl) ?_
    refine o_get X S 0 10 (by decide) rfl rfl in_12 (by decide) k_877 rfl dX12_takenOf_50 ?_
    refine lv_iload_n hx hb dX12_takenOf_53 rfl (lv_at hl 3 rfl) ?_
    refine o_iald X S 7 0 (by decide) (fun _ => rfl) rfl h.1 dX12_takenOf_54 ?_
    replace h := h.2
    refine lv_iconst (v := 1) hx hb dX12_takenOf_55 (by decide) ?_
    refine lv_icmp_ne (tgt := 72) hx hb dX12_takenOf_56 (by decide) (fun q_6 => ?_) (fun q_6 => ?_)
    · replace h := h.2 q_6
      refine lv_iload_n hx hb dX12_takenOf_72 rfl (lv_at hl 1 rfl) ?_
      refine lv_iload_n hx hb dX12_takenOf_73 rfl (lv_at hl 0 rfl) ?_
      refine lv_icmp_lt (tgt := 81) hx hb dX12_takenOf_74 (by decide) (fun q_7 => ?_) (fun q_7 => ?_)
      · replace h := h.1 q_7
        refine lv_iconst (v := 0) hx hb dX12_takenOf_81 (by decide) ?_
        exact mX12_takenOf_b82 l X hr x1 0 S (lv_sub hl [2, 3] rfl) h
      · replace h := h.2 q_7
        refine lv_iconst (v := 1) hx hb dX12_takenOf_77 (by decide) ?_
        refine lv_goto (tgt := 82) hx hb dX12_takenOf_78 (by decide) ?_
        exact mX12_takenOf_b82 l X hr x1 1 S (lv_sub hl [2, 3] rfl) h
    · replace h := h.1 q_6
      refine lv_iload_n hx hb dX12_takenOf_59 rfl (lv_at hl 1 rfl) ?_
      refine lv_iload_n hx hb dX12_takenOf_60 rfl (lv_at hl 0 rfl) ?_
      refine lv_icmp_gt (tgt := 68) hx hb dX12_takenOf_61 (by decide) (fun q_11 => ?_) (fun q_11 => ?_)
      · replace h := h.1 q_11
        refine lv_iconst (v := 0) hx hb dX12_takenOf_68 (by decide) ?_
        refine lv_goto (tgt := 82) hx hb dX12_takenOf_69 (by decide) ?_
        exact mX12_takenOf_b82 l X hr x1 0 S (lv_sub hl [2, 3] rfl) h
      · replace h := h.2 q_11
        refine lv_iconst (v := 1) hx hb dX12_takenOf_64 (by decide) ?_
        refine lv_goto (tgt := 82) hx hb dX12_takenOf_65 (by decide) ?_
        exact mX12_takenOf_b82 l X hr x1 1 S (lv_sub hl [2, 3] rfl) h
  · replace h := h.1 q_5
    refine lv_iload_n hx hb dX12_takenOf_30 rfl (lv_at hl 1 rfl) ?_
    refine lv_iload_n hx hb dX12_takenOf_31 rfl (lv_at hl 0 rfl) ?_
    refine lv_icmp_le (tgt := 43) hx hb dX12_takenOf_32 (by decide) (fun q_12 => ?_) (fun q_12 => ?_)
    · replace h := h.1 q_12
      refine lv_aload_n hx hb dX12_takenOf_43 rfl (lv_at hl 2 rfl) ?_
      refine lv_iload_n hx hb dX12_takenOf_44 rfl (lv_at hl 3 rfl) ?_
      refine o_callVi (k := 1) EvM_ok X S (mX12_fourth l x1 σ_3 _ h) (by decide) rfl rfl k_1142 k_1139 k_1141 ks_47 k_14 ⟨rfl, by decide, by decide, by decide +kernel⟩ ⟨rfl, rfl⟩ ⟨Nat.le_of_ble_eq_true rfl, Nat.le_of_ble_eq_true rfl⟩ rfl hl.1 rfl (Nat.le_of_ble_eq_true rfl) dX12_takenOf_45 (fun r_13 σ_14 H locs h S => ?_)
      exact mX12_takenOf_b48 l X hr r_13 S (lv_sub hl [] rfl) h
    · replace h := h.2 q_12
      refine lv_aload_n hx hb dX12_takenOf_35 rfl (lv_at hl 2 rfl) ?_
      refine lv_iload_n hx hb dX12_takenOf_36 rfl (lv_at hl 3 rfl) ?_
      refine o_callVi (k := 1) EvM_ok X S (mX12_third l x1 σ_3 _ h) (by decide) rfl rfl k_1138 k_1135 k_1137 ks_46 k_14 ⟨rfl, by decide, by decide, by decide +kernel⟩ ⟨rfl, rfl⟩ ⟨Nat.le_of_ble_eq_true rfl, Nat.le_of_ble_eq_true rfl⟩ rfl hl.1 rfl (Nat.le_of_ble_eq_true rfl) dX12_takenOf_37 (fun r_15 σ_16 H locs h S => ?_)
      refine lv_goto (tgt := 48) hx hb dX12_takenOf_40 (by decide) ?_
      exact mX12_takenOf_b48 l X hr r_15 S (lv_sub hl [] rfl) h
def wX12_valueOf_b117 (y0 : Int32) (σ : Sg) (Q : Int32 → Sg → Prop) : Prop :=
  Q y0 σ
def wX12_valueOf (x1 : Int32) (x2 : Int32) (x3 : Int32) (σ : Sg) (Q : Int32 → Sg → Prop) : Prop :=
  (vp_in x1 120 ∧ (((σ 6 x1.toNatClampNeg) = 1 → (vp_in x1 120 ∧ Q (σ 7 x1.toNatClampNeg) σ)) ∧ (¬ (σ 6 x1.toNatClampNeg) = 1 → (((σ 6 x1.toNatClampNeg) = 2 → (vp_in x1 120 ∧ (wX12_seenAt x2 x3 (σ 7 x1.toNatClampNeg) σ (fun r_3 σ_4 => Q r_3 σ_4)))) ∧ (¬ (σ 6 x1.toNatClampNeg) = 2 → (((σ 6 x1.toNatClampNeg) = 3 → (vp_in (x1 + 1) 60 ∧ (∀ x4_6, x4_6 = (σ 14 (x1 + 1).toNatClampNeg) → (wX12_second x1 σ (fun r_7 σ_8 => (vp_in r_7 60 ∧ (∀ x5_9, x5_9 = (σ_8 14 r_7.toNatClampNeg) → (vp_in x1 120 ∧ (((σ_8 7 x1.toNatClampNeg) = 43 → wX12_valueOf_b117 (x4_6 + x5_9) σ_8 Q) ∧ (¬ (σ_8 7 x1.toNatClampNeg) = 43 → (vp_in x1 120 ∧ (((σ_8 7 x1.toNatClampNeg) = 45 → wX12_valueOf_b117 (x4_6 - x5_9) σ_8 Q) ∧ (¬ (σ_8 7 x1.toNatClampNeg) = 45 → wX12_valueOf_b117 (x4_6 * x5_9) σ_8 Q))))))))))))) ∧ (¬ (σ 6 x1.toNatClampNeg) = 3 → (wX12_takenOf x1 σ (fun r_12 σ_13 => (vp_in r_12 60 ∧ Q (σ_13 14 r_12.toNatClampNeg) σ_13))))))))))
set_option maxHeartbeats 4000000 in
set_option maxRecDepth 100000 in
theorem mX12_valueOf_b117 {D : va_G} {cy : Nat → ClassId} {ad : Nat → Nat} (l : Launch) {p : Program} {e : Env} {s : State} {m : MethodId} {args : Array Value} {below : List Frame} {meth : Method} {c : Code} {A : Nat → Prop} {Q : Int32 → Sg → Prop} (X : Fx D (tyM cy) EvM p s m args meth c cX12_valueOf 6 "BackBayModel" A) (hr : meth.sig.returnType = some .int) (y0 : Int32) {σ : Sg} {H : Heap} {locs : List Loc} {ls : Array Slot} (S : St D ad 34 (shM cy ad) A s σ H locs) (hl : lv_has ls 6 []) (h : wX12_valueOf_b117 y0 σ Q) : W p l e ({ frames := 4, cells := 0, slots := 0, locals := 87 }) s m args below meth c H locs 0 0 (MQ below (va_Qi Q (PosW D (tyM cy) ad 34 (shM cy ad) A) A) args s 0 0 A) (F0 m 117 ls [.int y0]) := by
  have hx := X.1
  have hb := X.2.1
  unfold wX12_valueOf_b117 at h
  exact o_iret X S hr h dX12_valueOf_117
set_option maxHeartbeats 4000000 in
set_option maxRecDepth 100000 in
theorem mX12_valueOf {D : va_G} {cy : Nat → ClassId} {ad : Nat → Nat} (l : Launch) (x1 : Int32) (x2 : Int32) (x3 : Int32) (σ : Sg) (Q : Int32 → Sg → Prop) (h : wX12_valueOf x1 x2 x3 σ Q) : MIM D cy ad l yX12_valueOf (.code yX12_valueOf cX12_valueOf 6 (some .int) :: gT) ({ frames := 4, cells := 0, slots := 0, locals := 87 }) [.ref (ad 0), .int x1, .int x2, .int x3] σ Q := by
  refine metI_of (by decide +kernel) (Nat.le_of_ble_eq_true rfl) ?_
  intro p e s m args below meth c A ls X hr hl S
  have X : Fx D (tyM cy) EvM p s m args meth c cX12_valueOf 6 "BackBayModel" A := X
  have hl : lv_has ls 6 [(0, .ref (ad 0)), (1, .int x1), (2, .int x2), (3, .int x3)] := hl
  have hx := X.1
  have hb := X.2.1
  unfold wX12_valueOf at h
  refine lv_aload_n hx hb dX12_valueOf_0 rfl (lv_at hl 0 rfl) ?_
  refine o_get X S 0 9 (by decide) rfl rfl in_12 (by decide) k_876 rfl dX12_valueOf_1 ?_
  refine lv_iload_n hx hb dX12_valueOf_4 rfl (lv_at hl 1 rfl) ?_
  refine o_iald X S 6 0 (by decide) (fun _ => rfl) rfl h.1 dX12_valueOf_5 ?_
  replace h := h.2
  by_cases q_1 : (σ 6 x1.toNatClampNeg) = 1
  · refine lv_tableIn (tgt := 32) hx hb dX12_valueOf_6 (by rw [q_1] <;> decide) (by rw [q_1] <;> decide) (by rw [q_1] <;> rfl) (by decide) ?_
    replace h := h.1 q_1
    refine lv_aload_n hx hb dX12_valueOf_32 rfl (lv_at hl 0 rfl) ?_
    refine o_get X S 0 10 (by decide) rfl rfl in_12 (by decide) k_877 rfl dX12_valueOf_33 ?_
    refine lv_iload_n hx hb dX12_valueOf_36 rfl (lv_at hl 1 rfl) ?_
    refine o_iald X S 7 0 (by decide) (fun _ => rfl) rfl h.1 dX12_valueOf_37 ?_
    replace h := h.2
    exact o_iret X S hr h dX12_valueOf_38
  replace h := h.2 q_1
  by_cases q_2 : (σ 6 x1.toNatClampNeg) = 2
  · refine lv_tableIn (tgt := 39) hx hb dX12_valueOf_6 (by rw [q_2] <;> decide) (by rw [q_2] <;> decide) (by rw [q_2] <;> rfl) (by decide) ?_
    replace h := h.1 q_2
    refine lv_aload_n hx hb dX12_valueOf_39 rfl (lv_at hl 0 rfl) ?_
    refine lv_iload_n hx hb dX12_valueOf_40 rfl (lv_at hl 2 rfl) ?_
    refine lv_iload_n hx hb dX12_valueOf_41 rfl (lv_at hl 3 rfl) ?_
    refine lv_aload_n hx hb dX12_valueOf_42 rfl (lv_at hl 0 rfl) ?_
    refine o_get X S 0 10 (by decide) rfl rfl in_12 (by decide) k_877 rfl dX12_valueOf_43 ?_
    refine lv_iload_n hx hb dX12_valueOf_46 rfl (lv_at hl 1 rfl) ?_
    refine o_iald X S 7 0 (by decide) (fun _ => rfl) rfl h.1 dX12_valueOf_47 ?_
    replace h := h.2
    refine o_callVi (k := 3) EvM_ok X S (mX12_seenAt l x2 x3 (σ 7 x1.toNatClampNeg) σ _ h) (by decide) rfl rfl k_1126 k_1123 k_1125 ks_43 k_14 ⟨rfl, by decide, by decide, by decide +kernel⟩ ⟨rfl, rfl⟩ ⟨Nat.le_of_ble_eq_true rfl, Nat.le_of_ble_eq_true rfl⟩ rfl hl.1 rfl (Nat.le_of_ble_eq_true rfl) dX12_valueOf_48 (fun r_3 σ_4 H locs h S => ?_)
    exact o_iret X S hr h dX12_valueOf_51
  replace h := h.2 q_2
  by_cases q_5 : (σ 6 x1.toNatClampNeg) = 3
  · refine lv_tableIn (tgt := 52) hx hb dX12_valueOf_6 (by rw [q_5] <;> decide) (by rw [q_5] <;> decide) (by rw [q_5] <;> rfl) (by decide) ?_
    replace h := h.1 q_5
    refine lv_aload_n hx hb dX12_valueOf_52 rfl (lv_at hl 0 rfl) ?_
    refine o_get X S 0 24 (by decide) rfl rfl in_12 (by decide) k_891 rfl dX12_valueOf_53 ?_
    refine lv_iload_n hx hb dX12_valueOf_56 rfl (lv_at hl 1 rfl) ?_
    refine lv_iconst (v := 1) hx hb dX12_valueOf_57 (by decide) ?_
    refine lv_iadd hx hb dX12_valueOf_58 ?_
    refine o_iald X S 14 0 (by decide) (fun _ => rfl) rfl h.1 dX12_valueOf_59 ?_
    replace h := h.2
    refine lv_topi (fun x4_6 ex4_6 => ?_)
    replace h := h x4_6 ex4_6
    refine lv_istore (lv' := [(4, .int x4_6), (0, .ref (ad 0)), (1, .int x1), (2, .int x2), (3, .int x3)]) hx hb dX12_valueOf_60 hl (by decide) rfl (fun ls hl => ?_)
    refine lv_aload_n hx hb dX12_valueOf_62 rfl (lv_at hl 1 rfl) ?_
    refine o_get X S 0 24 (by decide) rfl rfl in_12 (by decide) k_891 rfl dX12_valueOf_63 ?_
    refine lv_aload_n hx hb dX12_valueOf_66 rfl (lv_at hl 1 rfl) ?_
    refine lv_iload_n hx hb dX12_valueOf_67 rfl (lv_at hl 2 rfl) ?_
    refine o_callVi (k := 1) EvM_ok X S (mX12_second l x1 σ _ h) (by decide) rfl rfl k_1130 k_1127 k_1129 ks_44 k_14 ⟨rfl, by decide, by decide, by decide +kernel⟩ ⟨rfl, rfl⟩ ⟨Nat.le_of_ble_eq_true rfl, Nat.le_of_ble_eq_true rfl⟩ rfl hl.1 rfl (Nat.le_of_ble_eq_true rfl) dX12_valueOf_68 (fun r_7 σ_8 H locs h S => ?_)
    refine o_iald X S 14 0 (by decide) (fun _ => rfl) rfl h.1 dX12_valueOf_71 ?_
    replace h := h.2
    refine lv_topi (fun x5_9 ex5_9 => ?_)
    replace h := h x5_9 ex5_9
    refine lv_istore (lv' := [(5, .int x5_9), (4, .int x4_6), (0, .ref (ad 0)), (1, .int x1), (2, .int x2), (3, .int x3)]) hx hb dX12_valueOf_72 hl (by decide) rfl (fun ls hl => ?_)
    refine lv_aload_n hx hb dX12_valueOf_74 rfl (lv_at hl 2 rfl) ?_
    refine o_get X S 0 10 (by decide) rfl rfl in_12 (by decide) k_877 rfl dX12_valueOf_75 ?_
    refine lv_iload_n hx hb dX12_valueOf_78 rfl (lv_at hl 3 rfl) ?_
    refine o_iald X S 7 0 (by decide) (fun _ => rfl) rfl h.1 dX12_valueOf_79 ?_
    replace h := h.2
    refine lv_bipush (v := 43) hx hb dX12_valueOf_80 (by decide) ?_
    refine lv_icmp_ne (tgt := 93) hx hb dX12_valueOf_82 (by decide) (fun q_10 => ?_) (fun q_10 => ?_)
    · replace h := h.2 q_10
      refine lv_aload_n hx hb dX12_valueOf_93 rfl (lv_at hl 2 rfl) ?_
      refine o_get X S 0 10 (by decide) rfl rfl in_12 (by decide) k_877 rfl dX12_valueOf_94 ?_
      refine lv_iload_n hx hb dX12_valueOf_97 rfl (lv_at hl 3 rfl) ?_
      refine o_iald X S 7 0 (by decide) (fun _ => rfl) rfl h.1 dX12_valueOf_98 ?_
      replace h := h.2
      refine lv_bipush (v := 45) hx hb dX12_valueOf_99 (by decide) ?_
      refine lv_icmp_ne (tgt := 112) hx hb dX12_valueOf_101 (by decide) (fun q_11 => ?_) (fun q_11 => ?_)
      · replace h := h.2 q_11
        refine lv_iload hx hb dX12_valueOf_112 (lv_at hl 1 rfl) ?_
        refine lv_iload hx hb dX12_valueOf_114 (lv_at hl 0 rfl) ?_
        refine lv_imul hx hb dX12_valueOf_116 ?_
        exact mX12_valueOf_b117 l X hr (x4_6 * x5_9) S (lv_sub hl [] rfl) h
      · replace h := h.1 q_11
        refine lv_iload hx hb dX12_valueOf_104 (lv_at hl 1 rfl) ?_
        refine lv_iload hx hb dX12_valueOf_106 (lv_at hl 0 rfl) ?_
        refine lv_isub hx hb dX12_valueOf_108 ?_
        refine lv_goto (tgt := 117) hx hb dX12_valueOf_109 (by decide) ?_
        exact mX12_valueOf_b117 l X hr (x4_6 - x5_9) S (lv_sub hl [] rfl) h
    · replace h := h.1 q_10
      refine lv_iload hx hb dX12_valueOf_85 (lv_at hl 1 rfl) ?_
      refine lv_iload hx hb dX12_valueOf_87 (lv_at hl 0 rfl) ?_
      refine lv_iadd hx hb dX12_valueOf_89 ?_
      refine lv_goto (tgt := 117) hx hb dX12_valueOf_90 (by decide) ?_
      exact mX12_valueOf_b117 l X hr (x4_6 + x5_9) S (lv_sub hl [] rfl) h
  replace h := h.2 q_5
  refine lv_tableOut (tgt := 118) hx hb dX12_valueOf_6 (by have r0 := lv_neT (a := 1) q_1 rfl; have r1 := lv_neT (a := 2) q_2 rfl; have r2 := lv_neT (a := 3) q_5 rfl; omega) (by decide) ?_
  refine lv_aload_n hx hb dX12_valueOf_118 rfl (lv_at hl 0 rfl) ?_
  refine o_get X S 0 24 (by decide) rfl rfl in_12 (by decide) k_891 rfl dX12_valueOf_119 ?_
  refine lv_aload_n hx hb dX12_valueOf_122 rfl (lv_at hl 0 rfl) ?_
  refine lv_iload_n hx hb dX12_valueOf_123 rfl (lv_at hl 1 rfl) ?_
  refine o_callVi (k := 1) EvM_ok X S (mX12_takenOf l x1 σ _ h) (by decide) rfl rfl k_1134 k_1131 k_1133 ks_45 k_14 ⟨rfl, by decide, by decide, by decide +kernel⟩ ⟨rfl, rfl⟩ ⟨Nat.le_of_ble_eq_true rfl, Nat.le_of_ble_eq_true rfl⟩ rfl hl.1 rfl (Nat.le_of_ble_eq_true rfl) dX12_valueOf_124 (fun r_12 σ_13 H locs h S => ?_)
  refine o_iald X S 14 0 (by decide) (fun _ => rfl) rfl h.1 dX12_valueOf_127 ?_
  replace h := h.2
  exact o_iret X S hr h dX12_valueOf_128
def wX12_work_L12 (x1 : Int32) (x2 : Int32) (x3 : Int32) (k44 : Sg → Prop) (Q : Int32 → Sg → Prop) : Nat → Int32 → Sg → Prop
  | 0, _, _ => False
  | nn12 + 1, x4, σ =>
  (vp_in x1 8 ∧ ((x4 < (σ 5 x1.toNatClampNeg) → k44 σ) ∧ (¬ x4 < (σ 5 x1.toNatClampNeg) → (wX12_valueOf x4 x2 x3 σ (fun r_3 σ_4 => (vp_in x4 60 ∧ ∀ σ_5, σ_5 = sto σ_4 14 x4.toNatClampNeg r_3 → (∀ x4_6 : Int32, x4_6 = x4 + (-1) → wX12_work_L12 x1 x2 x3 k44 Q nn12 x4_6 σ_5)))))))
def wX12_work (x1 : Int32) (x2 : Int32) (x3 : Int32) (σ : Sg) (Q : Int32 → Sg → Prop) : Prop :=
  (vp_in (x1 + 1) 8 ∧ (∀ x4_1, x4_1 = ((σ 5 (x1 + 1).toNatClampNeg) - 1) → (∃ nf, wX12_work_L12 x1 x2 x3 (fun σ_7 => (vp_in x1 8 ∧ (vp_in (σ_7 5 x1.toNatClampNeg) 60 ∧ Q (σ_7 14 (σ_7 5 x1.toNatClampNeg).toNatClampNeg) σ_7))) Q nf x4_1 σ)))
set_option maxHeartbeats 4000000 in
set_option maxRecDepth 100000 in
theorem mX12_work_L12 {D : va_G} {cy : Nat → ClassId} {ad : Nat → Nat} (l : Launch) {p : Program} {e : Env} {s : State} {m : MethodId} {args : Array Value} {below : List Frame} {meth : Method} {c : Code} {A : Nat → Prop} {k44 : Sg → Prop} {Q : Int32 → Sg → Prop} (X : Fx D (tyM cy) EvM p s m args meth c cX12_work 5 "BackBayModel" A) (hr : meth.sig.returnType = some .int) (x1 : Int32) (x2 : Int32) (x3 : Int32) (hk44 : ∀ (σ : Sg) (H : Heap) (locs : List Loc) (ls : Array Slot), St D ad 34 (shM cy ad) A s σ H locs → lv_has ls 5 [(0, .ref (ad 0)), (1, .int x1)] → k44 σ → W p l e ({ frames := 5, cells := 0, slots := 0, locals := 112 }) s m args below meth c H locs 0 0 (MQ below (va_Qi Q (PosW D (tyM cy) ad 34 (shM cy ad) A) A) args s 0 0 A) (F0 m 44 ls [])) : ∀ (n : Nat) (x4 : Int32) (σ : Sg) (H : Heap) (locs : List Loc) (ls : Array Slot), St D ad 34 (shM cy ad) A s σ H locs → lv_has ls 5 [(0, .ref (ad 0)), (1, .int x1), (2, .int x2), (3, .int x3), (4, .int x4)] → wX12_work_L12 x1 x2 x3 k44 Q n x4 σ → W p l e ({ frames := 5, cells := 0, slots := 0, locals := 112 }) s m args below meth c H locs 0 0 (MQ below (va_Qi Q (PosW D (tyM cy) ad 34 (shM cy ad) A) A) args s 0 0 A) (F0 m 12 ls []) := by
  have hx := X.1
  have hb := X.2.1
  intro n
  induction n with
  | zero =>
    intro _ _ _ _ _ _ _ h
    exact absurd h (by unfold wX12_work_L12; exact id)
  | succ n ih =>
    intro x4 σ H locs ls S hl h
    unfold wX12_work_L12 at h
    refine lv_iload hx hb dX12_work_12 (lv_at hl 4 rfl) ?_
    refine lv_aload_n hx hb dX12_work_14 rfl (lv_at hl 0 rfl) ?_
    refine o_get X S 0 8 (by decide) rfl rfl in_12 (by decide) k_875 rfl dX12_work_15 ?_
    refine lv_iload_n hx hb dX12_work_18 rfl (lv_at hl 1 rfl) ?_
    refine o_iald X S 5 0 (by decide) (fun _ => rfl) rfl h.1 dX12_work_19 ?_
    replace h := h.2
    refine lv_icmp_lt (tgt := 44) hx hb dX12_work_20 (by decide) (fun q_2 => ?_) (fun q_2 => ?_)
    · replace h := h.1 q_2
      exact hk44 _ _ _ _ S (lv_sub hl [0, 1] rfl) h
    · replace h := h.2 q_2
      refine lv_aload_n hx hb dX12_work_23 rfl (lv_at hl 0 rfl) ?_
      refine o_get X S 0 24 (by decide) rfl rfl in_12 (by decide) k_891 rfl dX12_work_24 ?_
      refine lv_iload hx hb dX12_work_27 (lv_at hl 4 rfl) ?_
      refine lv_aload_n hx hb dX12_work_29 rfl (lv_at hl 0 rfl) ?_
      refine lv_iload hx hb dX12_work_30 (lv_at hl 4 rfl) ?_
      refine lv_iload_n hx hb dX12_work_32 rfl (lv_at hl 2 rfl) ?_
      refine lv_iload_n hx hb dX12_work_33 rfl (lv_at hl 3 rfl) ?_
      refine o_callVi (k := 3) EvM_ok X S (mX12_valueOf l x4 x2 x3 σ _ h) (by decide) rfl rfl k_1122 k_1119 k_1121 ks_42 k_14 ⟨rfl, by decide, by decide, by decide +kernel⟩ ⟨rfl, rfl⟩ ⟨Nat.le_of_ble_eq_true rfl, Nat.le_of_ble_eq_true rfl⟩ rfl hl.1 rfl (Nat.le_of_ble_eq_true rfl) dX12_work_34 (fun r_3 σ_4 H locs h S => ?_)
      refine o_iast X S 14 0 (by decide) (fun _ => rfl) rfl h.1 dX12_work_37 (fun σ_5 H locs eσ_5 S => ?_)
      replace h := h.2 σ_5 eσ_5
      obtain ⟨x4_6, ex4_6⟩ : ∃ y : Int32, y = x4 + (-1) := ⟨_, rfl⟩
      replace h := h x4_6 ex4_6
      refine lv_iinc (v := x4_6) (lv' := [(4, .int x4_6), (0, .ref (ad 0)), (1, .int x1), (2, .int x2), (3, .int x3)]) hx hb dX12_work_38 hl (k := 4) rfl (by rw [ex4_6]; rfl) (by decide) rfl (fun ls hl => ?_)
      refine lv_goto (tgt := 12) hx hb dX12_work_41 (by decide) ?_
      exact ih _ _ _ _ _ S (lv_sub hl [1, 2, 3, 4, 0] rfl) h
set_option maxHeartbeats 4000000 in
set_option maxRecDepth 100000 in
theorem mX12_work {D : va_G} {cy : Nat → ClassId} {ad : Nat → Nat} (l : Launch) (x1 : Int32) (x2 : Int32) (x3 : Int32) (σ : Sg) (Q : Int32 → Sg → Prop) (h : wX12_work x1 x2 x3 σ Q) : MIM D cy ad l yX12_work (.code yX12_work cX12_work 5 (some .int) :: gT) ({ frames := 5, cells := 0, slots := 0, locals := 112 }) [.ref (ad 0), .int x1, .int x2, .int x3] σ Q := by
  refine metI_of (by decide +kernel) (Nat.le_of_ble_eq_true rfl) ?_
  intro p e s m args below meth c A ls X hr hl S
  have X : Fx D (tyM cy) EvM p s m args meth c cX12_work 5 "BackBayModel" A := X
  have hl : lv_has ls 5 [(0, .ref (ad 0)), (1, .int x1), (2, .int x2), (3, .int x3)] := hl
  have hx := X.1
  have hb := X.2.1
  unfold wX12_work at h
  refine lv_aload_n hx hb dX12_work_0 rfl (lv_at hl 0 rfl) ?_
  refine o_get X S 0 8 (by decide) rfl rfl in_12 (by decide) k_875 rfl dX12_work_1 ?_
  refine lv_iload_n hx hb dX12_work_4 rfl (lv_at hl 1 rfl) ?_
  refine lv_iconst (v := 1) hx hb dX12_work_5 (by decide) ?_
  refine lv_iadd hx hb dX12_work_6 ?_
  refine o_iald X S 5 0 (by decide) (fun _ => rfl) rfl h.1 dX12_work_7 ?_
  replace h := h.2
  refine lv_iconst (v := 1) hx hb dX12_work_8 (by decide) ?_
  refine lv_isub hx hb dX12_work_9 ?_
  refine lv_topi (fun x4_1 ex4_1 => ?_)
  replace h := h x4_1 ex4_1
  refine lv_istore (lv' := [(4, .int x4_1), (0, .ref (ad 0)), (1, .int x1), (2, .int x2), (3, .int x3)]) hx hb dX12_work_10 hl (by decide) rfl (fun ls hl => ?_)
  obtain ⟨n_12, h⟩ := h
  refine mX12_work_L12 l X hr x1 x2 x3 ?_ n_12 _ _ _ _ _ S (lv_sub hl [1, 2, 3, 4, 0] rfl) h
  · intro σ_7 H locs ls S hl h
    refine lv_aload_n hx hb dX12_work_44 rfl (lv_at hl 0 rfl) ?_
    refine o_get X S 0 24 (by decide) rfl rfl in_12 (by decide) k_891 rfl dX12_work_45 ?_
    refine lv_aload_n hx hb dX12_work_48 rfl (lv_at hl 0 rfl) ?_
    refine o_get X S 0 8 (by decide) rfl rfl in_12 (by decide) k_875 rfl dX12_work_49 ?_
    refine lv_iload_n hx hb dX12_work_52 rfl (lv_at hl 1 rfl) ?_
    refine o_iald X S 5 0 (by decide) (fun _ => rfl) rfl h.1 dX12_work_53 ?_
    replace h := h.2
    refine o_iald X S 14 0 (by decide) (fun _ => rfl) rfl h.1 dX12_work_54 ?_
    replace h := h.2
    exact o_iret X S hr h dX12_work_55
def wX12_countKnots_b39 (x1 : Int32) (x2 : Int32) (y0 : Int32) (y1 : Int32) (σ : Sg) (k46 : Sg → Prop) (kb7 : Int32 → Sg → Prop) (Q : Sg → Prop) : Prop :=
  (vp_in y1 60 ∧ ∀ σ_4, σ_4 = sto σ 15 y1.toNatClampNeg (vp_nar .boolean y0) → (∀ x2_5 : Int32, x2_5 = x2 + 1 → kb7 x2_5 σ_4))
def wX12_countKnots_L7 (x1 : Int32) (k46 : Sg → Prop) (Q : Sg → Prop) : Nat → Int32 → Sg → Prop
  | 0, _, _ => False
  | nn7 + 1, x2, σ =>
  (vp_in (x1 + 1) 8 ∧ (((σ 5 (x1 + 1).toNatClampNeg) ≤ x2 → k46 σ) ∧ (¬ (σ 5 (x1 + 1).toNatClampNeg) ≤ x2 → (vp_in x1 8 ∧ ((x2 = (σ 5 x1.toNatClampNeg) → wX12_countKnots_b39 x1 x2 1 x2 σ k46 (wX12_countKnots_L7 x1 k46 Q nn7) Q) ∧ (¬ x2 = (σ 5 x1.toNatClampNeg) → wX12_countKnots_b39 x1 x2 0 x2 σ k46 (wX12_countKnots_L7 x1 k46 Q nn7) Q))))))
def wX12_countKnots_b165 (x1 : Int32) (x2 : Int32) (σ : Sg) (k171 : Sg → Prop) (kb53 : Int32 → Sg → Prop) (Q : Sg → Prop) : Prop :=
  (∀ x2_11 : Int32, x2_11 = x2 + 1 → kb53 x2_11 σ)
def wX12_countKnots_b161 (x1 : Int32) (x2 : Int32) (y0 : Int32) (y1 : Int32) (σ : Sg) (k171 : Sg → Prop) (kb53 : Int32 → Sg → Prop) (Q : Sg → Prop) : Prop :=
  (∀ σ_19, σ_19 = sto σ 0 27 (y1 + y0) → wX12_countKnots_b165 x1 x2 σ_19 k171 kb53 Q)
def wX12_countKnots_b160 (x1 : Int32) (x2 : Int32) (y0 : Int32) (σ : Sg) (k171 : Sg → Prop) (kb53 : Int32 → Sg → Prop) (Q : Sg → Prop) : Prop :=
  wX12_countKnots_b161 x1 x2 0 y0 σ k171 kb53 Q
def wX12_countKnots_b125 (x1 : Int32) (x2 : Int32) (x3 : Int32) (σ : Sg) (k171 : Sg → Prop) (kb53 : Int32 → Sg → Prop) (Q : Sg → Prop) : Prop :=
  ((x3 = 3 → wX12_countKnots_b160 x1 x2 (σ 0 27) σ k171 kb53 Q) ∧ (¬ x3 = 3 → (vp_in (x2 + 1) 60 ∧ (wX12_second x2 σ (fun r_20 σ_21 => (vp_in r_20 60 ∧ (((σ 14 (x2 + 1).toNatClampNeg) = (σ_21 14 r_20.toNatClampNeg) → wX12_countKnots_b161 x1 x2 1 (σ 0 27) σ_21 k171 kb53 Q) ∧ (¬ (σ 14 (x2 + 1).toNatClampNeg) = (σ_21 14 r_20.toNatClampNeg) → wX12_countKnots_b160 x1 x2 (σ 0 27) σ_21 k171 kb53 Q))))))))
def wX12_countKnots_L53 (x1 : Int32) (k171 : Sg → Prop) (Q : Sg → Prop) : Nat → Int32 → Sg → Prop
  | 0, _, _ => False
  | nn53 + 1, x2, σ =>
  (vp_in (x1 + 1) 8 ∧ (((σ 5 (x1 + 1).toNatClampNeg) ≤ x2 → k171 σ) ∧ (¬ (σ 5 (x1 + 1).toNatClampNeg) ≤ x2 → (vp_in x2 120 ∧ (∀ x3_9, x3_9 = (σ 6 x2.toNatClampNeg) → (vp_in x2 60 ∧ (((σ 15 x2.toNatClampNeg) = 0 → wX12_countKnots_b165 x1 x2 σ k171 (wX12_countKnots_L53 x1 k171 Q nn53) Q) ∧ (¬ (σ 15 x2.toNatClampNeg) = 0 → ((3 ≤ x3_9 → (vp_in (x2 + 1) 60 ∧ ∀ σ_13, σ_13 = sto σ 15 (x2 + 1).toNatClampNeg (vp_nar .boolean 1) → (wX12_second x2 σ_13 (fun r_14 σ_15 => (vp_in r_14 60 ∧ ∀ σ_16, σ_16 = sto σ_15 15 r_14.toNatClampNeg (vp_nar .boolean 1) → ((x3_9 = 5 → (wX12_takenOf x2 σ_16 (fun r_23 σ_24 => (vp_in r_23 60 ∧ ∀ σ_25, σ_25 = sto σ_24 15 r_23.toNatClampNeg (vp_nar .boolean 1) → wX12_countKnots_b125 x1 x2 x3_9 σ_25 k171 (wX12_countKnots_L53 x1 k171 Q nn53) Q)))) ∧ (¬ x3_9 = 5 → wX12_countKnots_b125 x1 x2 x3_9 σ_16 k171 (wX12_countKnots_L53 x1 k171 Q nn53) Q))))))) ∧ (¬ 3 ≤ x3_9 → wX12_countKnots_b165 x1 x2 σ k171 (wX12_countKnots_L53 x1 k171 Q nn53) Q))))))))))
def wX12_countKnots (x1 : Int32) (σ : Sg) (Q : Sg → Prop) : Prop :=
  (vp_in x1 8 ∧ (∀ x2_1, x2_1 = (σ 5 x1.toNatClampNeg) → (∃ nf, wX12_countKnots_L7 x1 (fun σ_6 => (vp_in x1 8 ∧ (∀ x2_7, x2_7 = (σ_6 5 x1.toNatClampNeg) → (∃ nf, wX12_countKnots_L53 x1 (fun σ_26 => Q σ_26) Q nf x2_7 σ_6)))) Q nf x2_1 σ)))
set_option maxHeartbeats 4000000 in
set_option maxRecDepth 100000 in
theorem mX12_countKnots_b39 {D : va_G} {cy : Nat → ClassId} {ad : Nat → Nat} (l : Launch) {p : Program} {e : Env} {s : State} {m : MethodId} {args : Array Value} {below : List Frame} {meth : Method} {c : Code} {A : Nat → Prop} {k46 : Sg → Prop} {kb7 : Int32 → Sg → Prop} {Q : Sg → Prop} (X : Fx D (tyM cy) EvM p s m args meth c cX12_countKnots 4 "BackBayModel" A) (hr : meth.sig.returnType = none) (x1 : Int32) (x2 : Int32) (y0 : Int32) (y1 : Int32) (hk46 : ∀ (σ : Sg) (H : Heap) (locs : List Loc) (ls : Array Slot), St D ad 34 (shM cy ad) A s σ H locs → lv_has ls 4 [(0, .ref (ad 0)), (1, .int x1)] → k46 σ → W p l e ({ frames := 4, cells := 0, slots := 0, locals := 87 }) s m args below meth c H locs 0 0 (MQ below (va_Qv Q (PosW D (tyM cy) ad 34 (shM cy ad) A) A) args s 0 0 A) (F0 m 46 ls [])) (hkb7 : ∀ (x2 : Int32) (σ : Sg) (H : Heap) (locs : List Loc) (ls : Array Slot), St D ad 34 (shM cy ad) A s σ H locs → lv_has ls 4 [(0, .ref (ad 0)), (1, .int x1), (2, .int x2)] → kb7 x2 σ → W p l e ({ frames := 4, cells := 0, slots := 0, locals := 87 }) s m args below meth c H locs 0 0 (MQ below (va_Qv Q (PosW D (tyM cy) ad 34 (shM cy ad) A) A) args s 0 0 A) (F0 m 7 ls [])) {σ : Sg} {H : Heap} {locs : List Loc} {ls : Array Slot} (S : St D ad 34 (shM cy ad) A s σ H locs) (hl : lv_has ls 4 [(0, .ref (ad 0)), (1, .int x1), (2, .int x2)]) (h : wX12_countKnots_b39 x1 x2 y0 y1 σ k46 kb7 Q) : W p l e ({ frames := 4, cells := 0, slots := 0, locals := 87 }) s m args below meth c H locs 0 0 (MQ below (va_Qv Q (PosW D (tyM cy) ad 34 (shM cy ad) A) A) args s 0 0 A) (F0 m 39 ls [.int y0, .int y1, .ref (ad 15)]) := by
  have hx := X.1
  have hb := X.2.1
  unfold wX12_countKnots_b39 at h
  refine o_zast X S 15 1 (by decide) (fun _ => rfl) rfl h.1 dX12_countKnots_39 (fun σ_4 H locs eσ_4 S => ?_)
  replace h := h.2 σ_4 eσ_4
  obtain ⟨x2_5, ex2_5⟩ : ∃ y : Int32, y = x2 + 1 := ⟨_, rfl⟩
  replace h := h x2_5 ex2_5
  refine lv_iinc (v := x2_5) (lv' := [(2, .int x2_5), (0, .ref (ad 0)), (1, .int x1)]) hx hb dX12_countKnots_40 hl (k := 2) rfl (by rw [ex2_5]; rfl) (by decide) rfl (fun ls hl => ?_)
  refine lv_goto (tgt := 7) hx hb dX12_countKnots_43 (by decide) ?_
  exact hkb7 _ _ _ _ _ S (lv_sub hl [1, 2, 0] rfl) h
set_option maxHeartbeats 4000000 in
set_option maxRecDepth 100000 in
theorem mX12_countKnots_L7 {D : va_G} {cy : Nat → ClassId} {ad : Nat → Nat} (l : Launch) {p : Program} {e : Env} {s : State} {m : MethodId} {args : Array Value} {below : List Frame} {meth : Method} {c : Code} {A : Nat → Prop} {k46 : Sg → Prop} {Q : Sg → Prop} (X : Fx D (tyM cy) EvM p s m args meth c cX12_countKnots 4 "BackBayModel" A) (hr : meth.sig.returnType = none) (x1 : Int32) (hk46 : ∀ (σ : Sg) (H : Heap) (locs : List Loc) (ls : Array Slot), St D ad 34 (shM cy ad) A s σ H locs → lv_has ls 4 [(0, .ref (ad 0)), (1, .int x1)] → k46 σ → W p l e ({ frames := 4, cells := 0, slots := 0, locals := 87 }) s m args below meth c H locs 0 0 (MQ below (va_Qv Q (PosW D (tyM cy) ad 34 (shM cy ad) A) A) args s 0 0 A) (F0 m 46 ls [])) : ∀ (n : Nat) (x2 : Int32) (σ : Sg) (H : Heap) (locs : List Loc) (ls : Array Slot), St D ad 34 (shM cy ad) A s σ H locs → lv_has ls 4 [(0, .ref (ad 0)), (1, .int x1), (2, .int x2)] → wX12_countKnots_L7 x1 k46 Q n x2 σ → W p l e ({ frames := 4, cells := 0, slots := 0, locals := 87 }) s m args below meth c H locs 0 0 (MQ below (va_Qv Q (PosW D (tyM cy) ad 34 (shM cy ad) A) A) args s 0 0 A) (F0 m 7 ls []) := by
  have hx := X.1
  have hb := X.2.1
  intro n
  induction n with
  | zero =>
    intro _ _ _ _ _ _ _ h
    exact absurd h (by unfold wX12_countKnots_L7; exact id)
  | succ n ih =>
    intro x2 σ H locs ls S hl h
    unfold wX12_countKnots_L7 at h
    refine lv_iload_n hx hb dX12_countKnots_7 rfl (lv_at hl 2 rfl) ?_
    refine lv_aload_n hx hb dX12_countKnots_8 rfl (lv_at hl 0 rfl) ?_
    refine o_get X S 0 8 (by decide) rfl rfl in_12 (by decide) k_875 rfl dX12_countKnots_9 ?_
    refine lv_iload_n hx hb dX12_countKnots_12 rfl (lv_at hl 1 rfl) ?_
    refine lv_iconst (v := 1) hx hb dX12_countKnots_13 (by decide) ?_
    refine lv_iadd hx hb dX12_countKnots_14 ?_
    refine o_iald X S 5 0 (by decide) (fun _ => rfl) rfl h.1 dX12_countKnots_15 ?_
    replace h := h.2
    refine lv_icmp_ge (tgt := 46) hx hb dX12_countKnots_16 (by decide) (fun q_2 => ?_) (fun q_2 => ?_)
    · replace h := h.1 q_2
      exact hk46 _ _ _ _ S (lv_sub hl [0, 1] rfl) h
    · replace h := h.2 q_2
      refine lv_aload_n hx hb dX12_countKnots_19 rfl (lv_at hl 0 rfl) ?_
      refine o_get X S 0 25 (by decide) rfl rfl in_12 (by decide) k_892 rfl dX12_countKnots_20 ?_
      refine lv_iload_n hx hb dX12_countKnots_23 rfl (lv_at hl 2 rfl) ?_
      refine lv_iload_n hx hb dX12_countKnots_24 rfl (lv_at hl 2 rfl) ?_
      refine lv_aload_n hx hb dX12_countKnots_25 rfl (lv_at hl 0 rfl) ?_
      refine o_get X S 0 8 (by decide) rfl rfl in_12 (by decide) k_875 rfl dX12_countKnots_26 ?_
      refine lv_iload_n hx hb dX12_countKnots_29 rfl (lv_at hl 1 rfl) ?_
      refine o_iald X S 5 0 (by decide) (fun _ => rfl) rfl h.1 dX12_countKnots_30 ?_
      replace h := h.2
      refine lv_icmp_ne (tgt := 38) hx hb dX12_countKnots_31 (by decide) (fun q_3 => ?_) (fun q_3 => ?_)
      · replace h := h.2 q_3
        refine lv_iconst (v := 0) hx hb dX12_countKnots_38 (by decide) ?_
        exact mX12_countKnots_b39 l X hr x1 x2 0 x2 hk46 ih S (lv_sub hl [0, 1, 2] rfl) h
      · replace h := h.1 q_3
        refine lv_iconst (v := 1) hx hb dX12_countKnots_34 (by decide) ?_
        refine lv_goto (tgt := 39) hx hb dX12_countKnots_35 (by decide) ?_
        exact mX12_countKnots_b39 l X hr x1 x2 1 x2 hk46 ih S (lv_sub hl [0, 1, 2] rfl) h
set_option maxHeartbeats 4000000 in
set_option maxRecDepth 100000 in
theorem mX12_countKnots_b165 {D : va_G} {cy : Nat → ClassId} {ad : Nat → Nat} (l : Launch) {p : Program} {e : Env} {s : State} {m : MethodId} {args : Array Value} {below : List Frame} {meth : Method} {c : Code} {A : Nat → Prop} {k171 : Sg → Prop} {kb53 : Int32 → Sg → Prop} {Q : Sg → Prop} (X : Fx D (tyM cy) EvM p s m args meth c cX12_countKnots 4 "BackBayModel" A) (hr : meth.sig.returnType = none) (x1 : Int32) (x2 : Int32) (hk171 : ∀ (σ : Sg) (H : Heap) (locs : List Loc) (ls : Array Slot), St D ad 34 (shM cy ad) A s σ H locs → lv_has ls 4 [] → k171 σ → W p l e ({ frames := 4, cells := 0, slots := 0, locals := 87 }) s m args below meth c H locs 0 0 (MQ below (va_Qv Q (PosW D (tyM cy) ad 34 (shM cy ad) A) A) args s 0 0 A) (F0 m 171 ls [])) (hkb53 : ∀ (x2 : Int32) (σ : Sg) (H : Heap) (locs : List Loc) (ls : Array Slot), St D ad 34 (shM cy ad) A s σ H locs → lv_has ls 4 [(0, .ref (ad 0)), (1, .int x1), (2, .int x2)] → kb53 x2 σ → W p l e ({ frames := 4, cells := 0, slots := 0, locals := 87 }) s m args below meth c H locs 0 0 (MQ below (va_Qv Q (PosW D (tyM cy) ad 34 (shM cy ad) A) A) args s 0 0 A) (F0 m 53 ls [])) {σ : Sg} {H : Heap} {locs : List Loc} {ls : Array Slot} (S : St D ad 34 (shM cy ad) A s σ H locs) (hl : lv_has ls 4 [(0, .ref (ad 0)), (1, .int x1), (2, .int x2)]) (h : wX12_countKnots_b165 x1 x2 σ k171 kb53 Q) : W p l e ({ frames := 4, cells := 0, slots := 0, locals := 87 }) s m args below meth c H locs 0 0 (MQ below (va_Qv Q (PosW D (tyM cy) ad 34 (shM cy ad) A) A) args s 0 0 A) (F0 m 165 ls []) := by
  have hx := X.1
  have hb := X.2.1
  unfold wX12_countKnots_b165 at h
  obtain ⟨x2_11, ex2_11⟩ : ∃ y : Int32, y = x2 + 1 := ⟨_, rfl⟩
  replace h := h x2_11 ex2_11
  refine lv_iinc (v := x2_11) (lv' := [(2, .int x2_11), (0, .ref (ad 0)), (1, .int x1)]) hx hb dX12_countKnots_165 hl (k := 2) rfl (by rw [ex2_11]; rfl) (by decide) rfl (fun ls hl => ?_)
  refine lv_goto (tgt := 53) hx hb dX12_countKnots_168 (by decide) ?_
  exact hkb53 _ _ _ _ _ S (lv_sub hl [1, 2, 0] rfl) h
set_option maxHeartbeats 4000000 in
set_option maxRecDepth 100000 in
theorem mX12_countKnots_b161 {D : va_G} {cy : Nat → ClassId} {ad : Nat → Nat} (l : Launch) {p : Program} {e : Env} {s : State} {m : MethodId} {args : Array Value} {below : List Frame} {meth : Method} {c : Code} {A : Nat → Prop} {k171 : Sg → Prop} {kb53 : Int32 → Sg → Prop} {Q : Sg → Prop} (X : Fx D (tyM cy) EvM p s m args meth c cX12_countKnots 4 "BackBayModel" A) (hr : meth.sig.returnType = none) (x1 : Int32) (x2 : Int32) (y0 : Int32) (y1 : Int32) (hk171 : ∀ (σ : Sg) (H : Heap) (locs : List Loc) (ls : Array Slot), St D ad 34 (shM cy ad) A s σ H locs → lv_has ls 4 [] → k171 σ → W p l e ({ frames := 4, cells := 0, slots := 0, locals := 87 }) s m args below meth c H locs 0 0 (MQ below (va_Qv Q (PosW D (tyM cy) ad 34 (shM cy ad) A) A) args s 0 0 A) (F0 m 171 ls [])) (hkb53 : ∀ (x2 : Int32) (σ : Sg) (H : Heap) (locs : List Loc) (ls : Array Slot), St D ad 34 (shM cy ad) A s σ H locs → lv_has ls 4 [(0, .ref (ad 0)), (1, .int x1), (2, .int x2)] → kb53 x2 σ → W p l e ({ frames := 4, cells := 0, slots := 0, locals := 87 }) s m args below meth c H locs 0 0 (MQ below (va_Qv Q (PosW D (tyM cy) ad 34 (shM cy ad) A) A) args s 0 0 A) (F0 m 53 ls [])) {σ : Sg} {H : Heap} {locs : List Loc} {ls : Array Slot} (S : St D ad 34 (shM cy ad) A s σ H locs) (hl : lv_has ls 4 [(0, .ref (ad 0)), (1, .int x1), (2, .int x2)]) (h : wX12_countKnots_b161 x1 x2 y0 y1 σ k171 kb53 Q) : W p l e ({ frames := 4, cells := 0, slots := 0, locals := 87 }) s m args below meth c H locs 0 0 (MQ below (va_Qv Q (PosW D (tyM cy) ad 34 (shM cy ad) A) A) args s 0 0 A) (F0 m 161 ls [.int y0, .int y1, .ref (ad 0)]) := by
  have hx := X.1
  have hb := X.2.1
  unfold wX12_countKnots_b161 at h
  refine lv_iadd hx hb dX12_countKnots_161 ?_
  refine o_puti X S (fs := fun c => [.int (c 0), .ref (ad 1), .ref (ad 2), .ref (ad 3), .ref (ad 4), .int (c 5), .int (c 6), .int (c 7), .ref (ad 5), .ref (ad 6), .ref (ad 7), .ref (ad 8), .int (c 12), .int (c 13), .int (c 14), .int (c 15), .ref (ad 9), .int (c 17), .int (c 18), .int (c 19), .ref (ad 10), .ref (ad 11), .ref (ad 12), .ref (ad 13), .ref (ad 14), .ref (ad 15), .ref (ad 16), .int (c 27), .int (c 28), .ref (ad 17), .ref (ad 18), .ref (ad 19), .ref (ad 20), .ref (ad 21), .ref (ad 22), .ref (ad 23), .ref (ad 24), .ref (ad 25), .ref (ad 26), .ref (ad 27), .ref (ad 28), .ref (ad 29), .int (c 42), .ref (ad 30), .ref (ad 31), .ref (ad 32), .ref (ad 33), .int (c 47)]) 0 27 (by decide) (fun _ => rfl) (fun _ _ => rfl) rfl in_12 tyX12_ok nmX12 (by decide) k_894 rfl rfl rfl rfl (fun _ => Nat.le_of_ble_eq_true rfl) dX12_countKnots_162 (fun σ_19 H locs eσ_19 S => ?_)
  replace h := h σ_19 eσ_19
  exact mX12_countKnots_b165 l X hr x1 x2 hk171 hkb53 S (lv_sub hl [0, 1, 2] rfl) h
set_option maxHeartbeats 4000000 in
set_option maxRecDepth 100000 in
theorem mX12_countKnots_b160 {D : va_G} {cy : Nat → ClassId} {ad : Nat → Nat} (l : Launch) {p : Program} {e : Env} {s : State} {m : MethodId} {args : Array Value} {below : List Frame} {meth : Method} {c : Code} {A : Nat → Prop} {k171 : Sg → Prop} {kb53 : Int32 → Sg → Prop} {Q : Sg → Prop} (X : Fx D (tyM cy) EvM p s m args meth c cX12_countKnots 4 "BackBayModel" A) (hr : meth.sig.returnType = none) (x1 : Int32) (x2 : Int32) (y0 : Int32) (hk171 : ∀ (σ : Sg) (H : Heap) (locs : List Loc) (ls : Array Slot), St D ad 34 (shM cy ad) A s σ H locs → lv_has ls 4 [] → k171 σ → W p l e ({ frames := 4, cells := 0, slots := 0, locals := 87 }) s m args below meth c H locs 0 0 (MQ below (va_Qv Q (PosW D (tyM cy) ad 34 (shM cy ad) A) A) args s 0 0 A) (F0 m 171 ls [])) (hkb53 : ∀ (x2 : Int32) (σ : Sg) (H : Heap) (locs : List Loc) (ls : Array Slot), St D ad 34 (shM cy ad) A s σ H locs → lv_has ls 4 [(0, .ref (ad 0)), (1, .int x1), (2, .int x2)] → kb53 x2 σ → W p l e ({ frames := 4, cells := 0, slots := 0, locals := 87 }) s m args below meth c H locs 0 0 (MQ below (va_Qv Q (PosW D (tyM cy) ad 34 (shM cy ad) A) A) args s 0 0 A) (F0 m 53 ls [])) {σ : Sg} {H : Heap} {locs : List Loc} {ls : Array Slot} (S : St D ad 34 (shM cy ad) A s σ H locs) (hl : lv_has ls 4 [(0, .ref (ad 0)), (1, .int x1), (2, .int x2)]) (h : wX12_countKnots_b160 x1 x2 y0 σ k171 kb53 Q) : W p l e ({ frames := 4, cells := 0, slots := 0, locals := 87 }) s m args below meth c H locs 0 0 (MQ below (va_Qv Q (PosW D (tyM cy) ad 34 (shM cy ad) A) A) args s 0 0 A) (F0 m 160 ls [.int y0, .ref (ad 0)]) := by
  have hx := X.1
  have hb := X.2.1
  unfold wX12_countKnots_b160 at h
  refine lv_iconst (v := 0) hx hb dX12_countKnots_160 (by decide) ?_
  exact mX12_countKnots_b161 l X hr x1 x2 0 y0 hk171 hkb53 S (lv_sub hl [0, 1, 2] rfl) h
set_option maxHeartbeats 4000000 in
set_option maxRecDepth 100000 in
theorem mX12_countKnots_b125 {D : va_G} {cy : Nat → ClassId} {ad : Nat → Nat} (l : Launch) {p : Program} {e : Env} {s : State} {m : MethodId} {args : Array Value} {below : List Frame} {meth : Method} {c : Code} {A : Nat → Prop} {k171 : Sg → Prop} {kb53 : Int32 → Sg → Prop} {Q : Sg → Prop} (X : Fx D (tyM cy) EvM p s m args meth c cX12_countKnots 4 "BackBayModel" A) (hr : meth.sig.returnType = none) (x1 : Int32) (x2 : Int32) (x3 : Int32) (hk171 : ∀ (σ : Sg) (H : Heap) (locs : List Loc) (ls : Array Slot), St D ad 34 (shM cy ad) A s σ H locs → lv_has ls 4 [] → k171 σ → W p l e ({ frames := 4, cells := 0, slots := 0, locals := 87 }) s m args below meth c H locs 0 0 (MQ below (va_Qv Q (PosW D (tyM cy) ad 34 (shM cy ad) A) A) args s 0 0 A) (F0 m 171 ls [])) (hkb53 : ∀ (x2 : Int32) (σ : Sg) (H : Heap) (locs : List Loc) (ls : Array Slot), St D ad 34 (shM cy ad) A s σ H locs → lv_has ls 4 [(0, .ref (ad 0)), (1, .int x1), (2, .int x2)] → kb53 x2 σ → W p l e ({ frames := 4, cells := 0, slots := 0, locals := 87 }) s m args below meth c H locs 0 0 (MQ below (va_Qv Q (PosW D (tyM cy) ad 34 (shM cy ad) A) A) args s 0 0 A) (F0 m 53 ls [])) {σ : Sg} {H : Heap} {locs : List Loc} {ls : Array Slot} (S : St D ad 34 (shM cy ad) A s σ H locs) (hl : lv_has ls 4 [(0, .ref (ad 0)), (1, .int x1), (2, .int x2), (3, .int x3)]) (h : wX12_countKnots_b125 x1 x2 x3 σ k171 kb53 Q) : W p l e ({ frames := 4, cells := 0, slots := 0, locals := 87 }) s m args below meth c H locs 0 0 (MQ below (va_Qv Q (PosW D (tyM cy) ad 34 (shM cy ad) A) A) args s 0 0 A) (F0 m 125 ls []) := by
  have hx := X.1
  have hb := X.2.1
  unfold wX12_countKnots_b125 at h
  refine lv_aload_n hx hb dX12_countKnots_125 rfl (lv_at hl 0 rfl) ?_
  refine lv_dup hx hb dX12_countKnots_126 rfl ?_
  refine o_get X S 0 27 (by decide) rfl rfl in_12 (by decide) k_894 rfl dX12_countKnots_127 ?_
  refine lv_iload_n hx hb dX12_countKnots_130 rfl (lv_at hl 3 rfl) ?_
  refine lv_iconst (v := 3) hx hb dX12_countKnots_131 (by decide) ?_
  refine lv_icmp_eq (tgt := 160) hx hb dX12_countKnots_132 (by decide) (fun q_18 => ?_) (fun q_18 => ?_)
  · replace h := h.1 q_18
    exact mX12_countKnots_b160 l X hr x1 x2 (σ 0 27) hk171 hkb53 S (lv_sub hl [0, 1, 2] rfl) h
  · replace h := h.2 q_18
    refine lv_aload_n hx hb dX12_countKnots_135 rfl (lv_at hl 0 rfl) ?_
    refine o_get X S 0 24 (by decide) rfl rfl in_12 (by decide) k_891 rfl dX12_countKnots_136 ?_
    refine lv_iload_n hx hb dX12_countKnots_139 rfl (lv_at hl 2 rfl) ?_
    refine lv_iconst (v := 1) hx hb dX12_countKnots_140 (by decide) ?_
    refine lv_iadd hx hb dX12_countKnots_141 ?_
    refine o_iald X S 14 0 (by decide) (fun _ => rfl) rfl h.1 dX12_countKnots_142 ?_
    replace h := h.2
    refine lv_aload_n hx hb dX12_countKnots_143 rfl (lv_at hl 0 rfl) ?_
    refine o_get X S 0 24 (by decide) rfl rfl in_12 (by decide) k_891 rfl dX12_countKnots_144 ?_
    refine lv_aload_n hx hb dX12_countKnots_147 rfl (lv_at hl 0 rfl) ?_
    refine lv_iload_n hx hb dX12_countKnots_148 rfl (lv_at hl 2 rfl) ?_
    refine o_callVi (k := 1) EvM_ok X S (mX12_second l x2 σ _ h) (by decide) rfl rfl k_1130 k_1127 k_1129 ks_44 k_14 ⟨rfl, by decide, by decide, by decide +kernel⟩ ⟨rfl, rfl⟩ ⟨Nat.le_of_ble_eq_true rfl, Nat.le_of_ble_eq_true rfl⟩ rfl hl.1 rfl (Nat.le_of_ble_eq_true rfl) dX12_countKnots_149 (fun r_20 σ_21 H locs h S => ?_)
    refine o_iald X S 14 0 (by decide) (fun _ => rfl) rfl h.1 dX12_countKnots_152 ?_
    replace h := h.2
    refine lv_icmp_ne (tgt := 160) hx hb dX12_countKnots_153 (by decide) (fun q_22 => ?_) (fun q_22 => ?_)
    · replace h := h.2 q_22
      exact mX12_countKnots_b160 l X hr x1 x2 (σ 0 27) hk171 hkb53 S (lv_sub hl [0, 1, 2] rfl) h
    · replace h := h.1 q_22
      refine lv_iconst (v := 1) hx hb dX12_countKnots_156 (by decide) ?_
      refine lv_goto (tgt := 161) hx hb dX12_countKnots_157 (by decide) ?_
      exact mX12_countKnots_b161 l X hr x1 x2 1 (σ 0 27) hk171 hkb53 S (lv_sub hl [0, 1, 2] rfl) h
set_option maxHeartbeats 4000000 in
set_option maxRecDepth 100000 in
theorem mX12_countKnots_L53 {D : va_G} {cy : Nat → ClassId} {ad : Nat → Nat} (l : Launch) {p : Program} {e : Env} {s : State} {m : MethodId} {args : Array Value} {below : List Frame} {meth : Method} {c : Code} {A : Nat → Prop} {k171 : Sg → Prop} {Q : Sg → Prop} (X : Fx D (tyM cy) EvM p s m args meth c cX12_countKnots 4 "BackBayModel" A) (hr : meth.sig.returnType = none) (x1 : Int32) (hk171 : ∀ (σ : Sg) (H : Heap) (locs : List Loc) (ls : Array Slot), St D ad 34 (shM cy ad) A s σ H locs → lv_has ls 4 [] → k171 σ → W p l e ({ frames := 4, cells := 0, slots := 0, locals := 87 }) s m args below meth c H locs 0 0 (MQ below (va_Qv Q (PosW D (tyM cy) ad 34 (shM cy ad) A) A) args s 0 0 A) (F0 m 171 ls [])) : ∀ (n : Nat) (x2 : Int32) (σ : Sg) (H : Heap) (locs : List Loc) (ls : Array Slot), St D ad 34 (shM cy ad) A s σ H locs → lv_has ls 4 [(0, .ref (ad 0)), (1, .int x1), (2, .int x2)] → wX12_countKnots_L53 x1 k171 Q n x2 σ → W p l e ({ frames := 4, cells := 0, slots := 0, locals := 87 }) s m args below meth c H locs 0 0 (MQ below (va_Qv Q (PosW D (tyM cy) ad 34 (shM cy ad) A) A) args s 0 0 A) (F0 m 53 ls []) := by
  have hx := X.1
  have hb := X.2.1
  intro n
  induction n with
  | zero =>
    intro _ _ _ _ _ _ _ h
    exact absurd h (by unfold wX12_countKnots_L53; exact id)
  | succ n ih =>
    intro x2 σ H locs ls S hl h
    unfold wX12_countKnots_L53 at h
    refine lv_iload_n hx hb dX12_countKnots_53 rfl (lv_at hl 2 rfl) ?_
    refine lv_aload_n hx hb dX12_countKnots_54 rfl (lv_at hl 0 rfl) ?_
    refine o_get X S 0 8 (by decide) rfl rfl in_12 (by decide) k_875 rfl dX12_countKnots_55 ?_
    refine lv_iload_n hx hb dX12_countKnots_58 rfl (lv_at hl 1 rfl) ?_
    refine lv_iconst (v := 1) hx hb dX12_countKnots_59 (by decide) ?_
    refine lv_iadd hx hb dX12_countKnots_60 ?_
    refine o_iald X S 5 0 (by decide) (fun _ => rfl) rfl h.1 dX12_countKnots_61 ?_
    replace h := h.2
    refine lv_icmp_ge (tgt := 171) hx hb dX12_countKnots_62 (by decide) (fun q_8 => ?_) (fun q_8 => ?_)
    · replace h := h.1 q_8
      exact hk171 _ _ _ _ S (lv_sub hl [] rfl) h
    · replace h := h.2 q_8
      refine lv_aload_n hx hb dX12_countKnots_65 rfl (lv_at hl 0 rfl) ?_
      refine o_get X S 0 9 (by decide) rfl rfl in_12 (by decide) k_876 rfl dX12_countKnots_66 ?_
      refine lv_iload_n hx hb dX12_countKnots_69 rfl (lv_at hl 2 rfl) ?_
      refine o_iald X S 6 0 (by decide) (fun _ => rfl) rfl h.1 dX12_countKnots_70 ?_
      replace h := h.2
      refine lv_topi (fun x3_9 ex3_9 => ?_)
      replace h := h x3_9 ex3_9
      refine lv_istore_n (lv' := [(3, .int x3_9), (0, .ref (ad 0)), (1, .int x1), (2, .int x2)]) hx hb dX12_countKnots_71 rfl hl (by decide) rfl (fun ls hl => ?_)
      refine lv_aload_n hx hb dX12_countKnots_72 rfl (lv_at hl 1 rfl) ?_
      refine o_get X S 0 25 (by decide) rfl rfl in_12 (by decide) k_892 rfl dX12_countKnots_73 ?_
      refine lv_iload_n hx hb dX12_countKnots_76 rfl (lv_at hl 3 rfl) ?_
      refine o_zald X S 15 1 (by decide) (fun _ => rfl) rfl h.1 dX12_countKnots_77 ?_
      replace h := h.2
      refine lv_if_eq (tgt := 165) hx hb dX12_countKnots_78 (by decide) (fun q_10 => ?_) (fun q_10 => ?_)
      · replace h := h.1 q_10
        exact mX12_countKnots_b165 l X hr x1 x2 hk171 ih S (lv_sub hl [1, 2, 3] rfl) h
      · replace h := h.2 q_10
        refine lv_iload_n hx hb dX12_countKnots_81 rfl (lv_at hl 0 rfl) ?_
        refine lv_iconst (v := 3) hx hb dX12_countKnots_82 (by decide) ?_
        refine lv_icmp_ge (tgt := 89) hx hb dX12_countKnots_83 (by decide) (fun q_12 => ?_) (fun q_12 => ?_)
        · replace h := h.1 q_12
          refine lv_aload_n hx hb dX12_countKnots_89 rfl (lv_at hl 1 rfl) ?_
          refine o_get X S 0 25 (by decide) rfl rfl in_12 (by decide) k_892 rfl dX12_countKnots_90 ?_
          refine lv_iload_n hx hb dX12_countKnots_93 rfl (lv_at hl 3 rfl) ?_
          refine lv_iconst (v := 1) hx hb dX12_countKnots_94 (by decide) ?_
          refine lv_iadd hx hb dX12_countKnots_95 ?_
          refine lv_iconst (v := 1) hx hb dX12_countKnots_96 (by decide) ?_
          refine o_zast X S 15 1 (by decide) (fun _ => rfl) rfl h.1 dX12_countKnots_97 (fun σ_13 H locs eσ_13 S => ?_)
          replace h := h.2 σ_13 eσ_13
          refine lv_aload_n hx hb dX12_countKnots_98 rfl (lv_at hl 1 rfl) ?_
          refine o_get X S 0 25 (by decide) rfl rfl in_12 (by decide) k_892 rfl dX12_countKnots_99 ?_
          refine lv_aload_n hx hb dX12_countKnots_102 rfl (lv_at hl 1 rfl) ?_
          refine lv_iload_n hx hb dX12_countKnots_103 rfl (lv_at hl 3 rfl) ?_
          refine o_callVi (k := 1) EvM_ok X S (mX12_second l x2 σ_13 _ h) (by decide) rfl rfl k_1130 k_1127 k_1129 ks_44 k_14 ⟨rfl, by decide, by decide, by decide +kernel⟩ ⟨rfl, rfl⟩ ⟨Nat.le_of_ble_eq_true rfl, Nat.le_of_ble_eq_true rfl⟩ rfl hl.1 rfl (Nat.le_of_ble_eq_true rfl) dX12_countKnots_104 (fun r_14 σ_15 H locs h S => ?_)
          refine lv_iconst (v := 1) hx hb dX12_countKnots_107 (by decide) ?_
          refine o_zast X S 15 1 (by decide) (fun _ => rfl) rfl h.1 dX12_countKnots_108 (fun σ_16 H locs eσ_16 S => ?_)
          replace h := h.2 σ_16 eσ_16
          refine lv_iload_n hx hb dX12_countKnots_109 rfl (lv_at hl 0 rfl) ?_
          refine lv_iconst (v := 5) hx hb dX12_countKnots_110 (by decide) ?_
          refine lv_icmp_ne (tgt := 125) hx hb dX12_countKnots_111 (by decide) (fun q_17 => ?_) (fun q_17 => ?_)
          · replace h := h.2 q_17
            exact mX12_countKnots_b125 l X hr x1 x2 x3_9 hk171 ih S (lv_sub hl [1, 2, 3, 0] rfl) h
          · replace h := h.1 q_17
            refine lv_aload_n hx hb dX12_countKnots_114 rfl (lv_at hl 1 rfl) ?_
            refine o_get X S 0 25 (by decide) rfl rfl in_12 (by decide) k_892 rfl dX12_countKnots_115 ?_
            refine lv_aload_n hx hb dX12_countKnots_118 rfl (lv_at hl 1 rfl) ?_
            refine lv_iload_n hx hb dX12_countKnots_119 rfl (lv_at hl 3 rfl) ?_
            refine o_callVi (k := 1) EvM_ok X S (mX12_takenOf l x2 σ_16 _ h) (by decide) rfl rfl k_1134 k_1131 k_1133 ks_45 k_14 ⟨rfl, by decide, by decide, by decide +kernel⟩ ⟨rfl, rfl⟩ ⟨Nat.le_of_ble_eq_true rfl, Nat.le_of_ble_eq_true rfl⟩ rfl hl.1 rfl (Nat.le_of_ble_eq_true rfl) dX12_countKnots_120 (fun r_23 σ_24 H locs h S => ?_)
            refine lv_iconst (v := 1) hx hb dX12_countKnots_123 (by decide) ?_
            refine o_zast X S 15 1 (by decide) (fun _ => rfl) rfl h.1 dX12_countKnots_124 (fun σ_25 H locs eσ_25 S => ?_)
            replace h := h.2 σ_25 eσ_25
            exact mX12_countKnots_b125 l X hr x1 x2 x3_9 hk171 ih S (lv_sub hl [1, 2, 3, 0] rfl) h
        · replace h := h.2 q_12
          refine lv_goto (tgt := 165) hx hb dX12_countKnots_86 (by decide) ?_
          exact mX12_countKnots_b165 l X hr x1 x2 hk171 ih S (lv_sub hl [1, 2, 3] rfl) h
set_option maxHeartbeats 4000000 in
set_option maxRecDepth 100000 in
theorem mX12_countKnots {D : va_G} {cy : Nat → ClassId} {ad : Nat → Nat} (l : Launch) (x1 : Int32) (σ : Sg) (Q : Sg → Prop) (h : wX12_countKnots x1 σ Q) : MVM D cy ad l yX12_countKnots (.code yX12_countKnots cX12_countKnots 4 none :: gT) ({ frames := 4, cells := 0, slots := 0, locals := 87 }) [.ref (ad 0), .int x1] σ Q := by
  refine metV_of (by decide +kernel) (Nat.le_of_ble_eq_true rfl) ?_
  intro p e s m args below meth c A ls X hr hl S
  have X : Fx D (tyM cy) EvM p s m args meth c cX12_countKnots 4 "BackBayModel" A := X
  have hl : lv_has ls 4 [(0, .ref (ad 0)), (1, .int x1)] := hl
  have hx := X.1
  have hb := X.2.1
  unfold wX12_countKnots at h
  refine lv_aload_n hx hb dX12_countKnots_0 rfl (lv_at hl 0 rfl) ?_
  refine o_get X S 0 8 (by decide) rfl rfl in_12 (by decide) k_875 rfl dX12_countKnots_1 ?_
  refine lv_iload_n hx hb dX12_countKnots_4 rfl (lv_at hl 1 rfl) ?_
  refine o_iald X S 5 0 (by decide) (fun _ => rfl) rfl h.1 dX12_countKnots_5 ?_
  replace h := h.2
  refine lv_topi (fun x2_1 ex2_1 => ?_)
  replace h := h x2_1 ex2_1
  refine lv_istore_n (lv' := [(2, .int x2_1), (0, .ref (ad 0)), (1, .int x1)]) hx hb dX12_countKnots_6 rfl hl (by decide) rfl (fun ls hl => ?_)
  obtain ⟨n_7, h⟩ := h
  refine mX12_countKnots_L7 l X hr x1 ?_ n_7 _ _ _ _ _ S (lv_sub hl [1, 2, 0] rfl) h
  · intro σ_6 H locs ls S hl h
    refine lv_aload_n hx hb dX12_countKnots_46 rfl (lv_at hl 0 rfl) ?_
    refine o_get X S 0 8 (by decide) rfl rfl in_12 (by decide) k_875 rfl dX12_countKnots_47 ?_
    refine lv_iload_n hx hb dX12_countKnots_50 rfl (lv_at hl 1 rfl) ?_
    refine o_iald X S 5 0 (by decide) (fun _ => rfl) rfl h.1 dX12_countKnots_51 ?_
    replace h := h.2
    refine lv_topi (fun x2_7 ex2_7 => ?_)
    replace h := h x2_7 ex2_7
    refine lv_istore_n (lv' := [(2, .int x2_7), (0, .ref (ad 0)), (1, .int x1)]) hx hb dX12_countKnots_52 rfl hl (by decide) rfl (fun ls hl => ?_)
    obtain ⟨n_53, h⟩ := h
    refine mX12_countKnots_L53 l X hr x1 ?_ n_53 _ _ _ _ _ S (lv_sub hl [1, 2, 0] rfl) h
    · intro σ_26 H locs ls S hl h
      exact o_vret X S hr h dX12_countKnots_171
def wX12_go_L7 (x1 : Int32) (k33 : Sg → Prop) (Q : Sg → Prop) : Nat → Int32 → Sg → Prop
  | 0, _, _ => False
  | nn7 + 1, x2, σ =>
  (((σ 0 19) ≤ x2 → k33 σ) ∧ (¬ (σ 0 19) ≤ x2 → (vp_in x2 10 ∧ (vp_in x2 1220 ∧ ∀ σ_3, σ_3 = sto σ 13 x2.toNatClampNeg (σ 10 x2.toNatClampNeg) → (∀ x2_4 : Int32, x2_4 = x2 + 1 → wX12_go_L7 x1 k33 Q nn7 x2_4 σ_3)))))
def wX12_go_L47 (x1 : Int32) (x2 : Int32) (k96 : Sg → Prop) (Q : Sg → Prop) : Nat → Int32 → Sg → Prop
  | 0, _, _ => False
  | nn47 + 1, x3, σ =>
  (((σ 0 19) ≤ x3 → k96 σ) ∧ (¬ (σ 0 19) ≤ x3 → (¬ ((σ 0 6) : Int32) = 0 ∧ (wX12_work (x2 - x2 / (σ 0 6) * (σ 0 6)) x2 x3 σ (fun r_8 σ_9 => (vp_in ((10 * (x2 + 1)) + x3) 1220 ∧ ∀ σ_10, σ_10 = sto σ_9 13 ((10 * (x2 + 1)) + x3).toNatClampNeg r_8 → (¬ ((σ_10 0 6) : Int32) = 0 ∧ (wX12_countKnots (x2 - x2 / (σ_10 0 6) * (σ_10 0 6)) σ_10 (fun σ_12 => (∀ x3_13 : Int32, x3_13 = x3 + 1 → wX12_go_L47 x1 x2 k96 Q nn47 x3_13 σ_12))))))))))
def wX12_go_L35 (x1 : Int32) (k102 : Sg → Prop) (Q : Sg → Prop) : Nat → Int32 → Sg → Prop
  | 0, _, _ => False
  | nn35 + 1, x2, σ =>
  (((x1 * (σ 0 6)) ≤ x2 → k102 σ) ∧ (¬ (x1 * (σ 0 6)) ≤ x2 → (∃ nf, wX12_go_L47 x1 x2 (fun σ_14 => (∀ x2_15 : Int32, x2_15 = x2 + 1 → wX12_go_L35 x1 k102 Q nn35 x2_15 σ_14)) Q nf 0 σ)))
def wX12_go (x1 : Int32) (σ : Sg) (Q : Sg → Prop) : Prop :=
  (∀ σ_1, σ_1 = sto σ 0 27 0 → (∃ nf, wX12_go_L7 x1 (fun σ_5 => (∃ nf, wX12_go_L35 x1 (fun σ_16 => Q σ_16) Q nf 0 σ_5)) Q nf 0 σ_1))
set_option maxHeartbeats 4000000 in
set_option maxRecDepth 100000 in
theorem mX12_go_L7 {D : va_G} {cy : Nat → ClassId} {ad : Nat → Nat} (l : Launch) {p : Program} {e : Env} {s : State} {m : MethodId} {args : Array Value} {below : List Frame} {meth : Method} {c : Code} {A : Nat → Prop} {k33 : Sg → Prop} {Q : Sg → Prop} (X : Fx D (tyM cy) EvM p s m args meth c cX12_go 4 "BackBayModel" A) (hr : meth.sig.returnType = none) (x1 : Int32) (hk33 : ∀ (σ : Sg) (H : Heap) (locs : List Loc) (ls : Array Slot), St D ad 34 (shM cy ad) A s σ H locs → lv_has ls 4 [(0, .ref (ad 0)), (1, .int x1)] → k33 σ → W p l e ({ frames := 6, cells := 0, slots := 0, locals := 136 }) s m args below meth c H locs 0 0 (MQ below (va_Qv Q (PosW D (tyM cy) ad 34 (shM cy ad) A) A) args s 0 0 A) (F0 m 33 ls [])) : ∀ (n : Nat) (x2 : Int32) (σ : Sg) (H : Heap) (locs : List Loc) (ls : Array Slot), St D ad 34 (shM cy ad) A s σ H locs → lv_has ls 4 [(0, .ref (ad 0)), (1, .int x1), (2, .int x2)] → wX12_go_L7 x1 k33 Q n x2 σ → W p l e ({ frames := 6, cells := 0, slots := 0, locals := 136 }) s m args below meth c H locs 0 0 (MQ below (va_Qv Q (PosW D (tyM cy) ad 34 (shM cy ad) A) A) args s 0 0 A) (F0 m 7 ls []) := by
  have hx := X.1
  have hb := X.2.1
  intro n
  induction n with
  | zero =>
    intro _ _ _ _ _ _ _ h
    exact absurd h (by unfold wX12_go_L7; exact id)
  | succ n ih =>
    intro x2 σ H locs ls S hl h
    unfold wX12_go_L7 at h
    refine lv_iload_n hx hb dX12_go_7 rfl (lv_at hl 2 rfl) ?_
    refine lv_aload_n hx hb dX12_go_8 rfl (lv_at hl 0 rfl) ?_
    refine o_get X S 0 19 (by decide) rfl rfl in_12 (by decide) k_886 rfl dX12_go_9 ?_
    refine lv_icmp_ge (tgt := 33) hx hb dX12_go_12 (by decide) (fun q_2 => ?_) (fun q_2 => ?_)
    · replace h := h.1 q_2
      exact hk33 _ _ _ _ S (lv_sub hl [0, 1] rfl) h
    · replace h := h.2 q_2
      refine lv_aload_n hx hb dX12_go_15 rfl (lv_at hl 0 rfl) ?_
      refine o_get X S 0 23 (by decide) rfl rfl in_12 (by decide) k_890 rfl dX12_go_16 ?_
      refine lv_iload_n hx hb dX12_go_19 rfl (lv_at hl 2 rfl) ?_
      refine lv_aload_n hx hb dX12_go_20 rfl (lv_at hl 0 rfl) ?_
      refine o_get X S 0 20 (by decide) rfl rfl in_12 (by decide) k_887 rfl dX12_go_21 ?_
      refine lv_iload_n hx hb dX12_go_24 rfl (lv_at hl 2 rfl) ?_
      refine o_iald X S 10 0 (by decide) (fun _ => rfl) rfl h.1 dX12_go_25 ?_
      replace h := h.2
      refine o_iast X S 13 0 (by decide) (fun _ => rfl) rfl h.1 dX12_go_26 (fun σ_3 H locs eσ_3 S => ?_)
      replace h := h.2 σ_3 eσ_3
      obtain ⟨x2_4, ex2_4⟩ : ∃ y : Int32, y = x2 + 1 := ⟨_, rfl⟩
      replace h := h x2_4 ex2_4
      refine lv_iinc (v := x2_4) (lv' := [(2, .int x2_4), (0, .ref (ad 0)), (1, .int x1)]) hx hb dX12_go_27 hl (k := 2) rfl (by rw [ex2_4]; rfl) (by decide) rfl (fun ls hl => ?_)
      refine lv_goto (tgt := 7) hx hb dX12_go_30 (by decide) ?_
      exact ih _ _ _ _ _ S (lv_sub hl [1, 2, 0] rfl) h
set_option maxHeartbeats 4000000 in
set_option maxRecDepth 100000 in
theorem mX12_go_L47 {D : va_G} {cy : Nat → ClassId} {ad : Nat → Nat} (l : Launch) {p : Program} {e : Env} {s : State} {m : MethodId} {args : Array Value} {below : List Frame} {meth : Method} {c : Code} {A : Nat → Prop} {k96 : Sg → Prop} {Q : Sg → Prop} (X : Fx D (tyM cy) EvM p s m args meth c cX12_go 4 "BackBayModel" A) (hr : meth.sig.returnType = none) (x1 : Int32) (x2 : Int32) (hk96 : ∀ (σ : Sg) (H : Heap) (locs : List Loc) (ls : Array Slot), St D ad 34 (shM cy ad) A s σ H locs → lv_has ls 4 [(0, .ref (ad 0)), (1, .int x1), (2, .int x2)] → k96 σ → W p l e ({ frames := 6, cells := 0, slots := 0, locals := 136 }) s m args below meth c H locs 0 0 (MQ below (va_Qv Q (PosW D (tyM cy) ad 34 (shM cy ad) A) A) args s 0 0 A) (F0 m 96 ls [])) : ∀ (n : Nat) (x3 : Int32) (σ : Sg) (H : Heap) (locs : List Loc) (ls : Array Slot), St D ad 34 (shM cy ad) A s σ H locs → lv_has ls 4 [(0, .ref (ad 0)), (1, .int x1), (2, .int x2), (3, .int x3)] → wX12_go_L47 x1 x2 k96 Q n x3 σ → W p l e ({ frames := 6, cells := 0, slots := 0, locals := 136 }) s m args below meth c H locs 0 0 (MQ below (va_Qv Q (PosW D (tyM cy) ad 34 (shM cy ad) A) A) args s 0 0 A) (F0 m 47 ls []) := by
  have hx := X.1
  have hb := X.2.1
  intro n
  induction n with
  | zero =>
    intro _ _ _ _ _ _ _ h
    exact absurd h (by unfold wX12_go_L47; exact id)
  | succ n ih =>
    intro x3 σ H locs ls S hl h
    unfold wX12_go_L47 at h
    refine lv_iload_n hx hb dX12_go_47 rfl (lv_at hl 3 rfl) ?_
    refine lv_aload_n hx hb dX12_go_48 rfl (lv_at hl 0 rfl) ?_
    refine o_get X S 0 19 (by decide) rfl rfl in_12 (by decide) k_886 rfl dX12_go_49 ?_
    refine lv_icmp_ge (tgt := 96) hx hb dX12_go_52 (by decide) (fun q_7 => ?_) (fun q_7 => ?_)
    · replace h := h.1 q_7
      exact hk96 _ _ _ _ S (lv_sub hl [0, 1, 2] rfl) h
    · replace h := h.2 q_7
      refine lv_aload_n hx hb dX12_go_55 rfl (lv_at hl 0 rfl) ?_
      refine o_get X S 0 23 (by decide) rfl rfl in_12 (by decide) k_890 rfl dX12_go_56 ?_
      refine lv_bipush (v := 10) hx hb dX12_go_59 (by decide) ?_
      refine lv_iload_n hx hb dX12_go_61 rfl (lv_at hl 2 rfl) ?_
      refine lv_iconst (v := 1) hx hb dX12_go_62 (by decide) ?_
      refine lv_iadd hx hb dX12_go_63 ?_
      refine lv_imul hx hb dX12_go_64 ?_
      refine lv_iload_n hx hb dX12_go_65 rfl (lv_at hl 3 rfl) ?_
      refine lv_iadd hx hb dX12_go_66 ?_
      refine lv_aload_n hx hb dX12_go_67 rfl (lv_at hl 0 rfl) ?_
      refine lv_iload_n hx hb dX12_go_68 rfl (lv_at hl 2 rfl) ?_
      refine lv_aload_n hx hb dX12_go_69 rfl (lv_at hl 0 rfl) ?_
      refine o_get X S 0 6 (by decide) rfl rfl in_12 (by decide) k_873 rfl dX12_go_70 ?_
      refine lv_irem hx hb dX12_go_73 h.1 ?_
      replace h := h.2
      refine lv_iload_n hx hb dX12_go_74 rfl (lv_at hl 2 rfl) ?_
      refine lv_iload_n hx hb dX12_go_75 rfl (lv_at hl 3 rfl) ?_
      refine o_callVi (k := 3) EvM_ok X S (mX12_work l (x2 - x2 / (σ 0 6) * (σ 0 6)) x2 x3 σ _ h) (by decide) rfl rfl k_1118 k_1115 k_1117 ks_41 k_14 ⟨rfl, by decide, by decide, by decide +kernel⟩ ⟨rfl, rfl⟩ ⟨Nat.le_of_ble_eq_true rfl, Nat.le_of_ble_eq_true rfl⟩ rfl hl.1 rfl (Nat.le_of_ble_eq_true rfl) dX12_go_76 (fun r_8 σ_9 H locs h S => ?_)
      refine o_iast X S 13 0 (by decide) (fun _ => rfl) rfl h.1 dX12_go_79 (fun σ_10 H locs eσ_10 S => ?_)
      replace h := h.2 σ_10 eσ_10
      refine lv_aload_n hx hb dX12_go_80 rfl (lv_at hl 0 rfl) ?_
      refine lv_iload_n hx hb dX12_go_81 rfl (lv_at hl 2 rfl) ?_
      refine lv_aload_n hx hb dX12_go_82 rfl (lv_at hl 0 rfl) ?_
      refine o_get X S 0 6 (by decide) rfl rfl in_12 (by decide) k_873 rfl dX12_go_83 ?_
      refine lv_irem hx hb dX12_go_86 h.1 ?_
      replace h := h.2
      refine o_callVv (k := 1) EvM_ok X S (mX12_countKnots l (x2 - x2 / (σ_10 0 6) * (σ_10 0 6)) σ_10 _ h) (by decide) rfl rfl k_1146 k_1143 k_1145 ks_48 k_14 ⟨rfl, by decide, by decide, by decide +kernel⟩ ⟨rfl, rfl⟩ ⟨Nat.le_of_ble_eq_true rfl, Nat.le_of_ble_eq_true rfl⟩ rfl hl.1 rfl (Nat.le_of_ble_eq_true rfl) dX12_go_87 (fun σ_12 H locs h S => ?_)
      obtain ⟨x3_13, ex3_13⟩ : ∃ y : Int32, y = x3 + 1 := ⟨_, rfl⟩
      replace h := h x3_13 ex3_13
      refine lv_iinc (v := x3_13) (lv' := [(3, .int x3_13), (0, .ref (ad 0)), (1, .int x1), (2, .int x2)]) hx hb dX12_go_90 hl (k := 3) rfl (by rw [ex3_13]; rfl) (by decide) rfl (fun ls hl => ?_)
      refine lv_goto (tgt := 47) hx hb dX12_go_93 (by decide) ?_
      exact ih _ _ _ _ _ S (lv_sub hl [1, 2, 3, 0] rfl) h
set_option maxHeartbeats 4000000 in
set_option maxRecDepth 100000 in
theorem mX12_go_L35 {D : va_G} {cy : Nat → ClassId} {ad : Nat → Nat} (l : Launch) {p : Program} {e : Env} {s : State} {m : MethodId} {args : Array Value} {below : List Frame} {meth : Method} {c : Code} {A : Nat → Prop} {k102 : Sg → Prop} {Q : Sg → Prop} (X : Fx D (tyM cy) EvM p s m args meth c cX12_go 4 "BackBayModel" A) (hr : meth.sig.returnType = none) (x1 : Int32) (hk102 : ∀ (σ : Sg) (H : Heap) (locs : List Loc) (ls : Array Slot), St D ad 34 (shM cy ad) A s σ H locs → lv_has ls 4 [] → k102 σ → W p l e ({ frames := 6, cells := 0, slots := 0, locals := 136 }) s m args below meth c H locs 0 0 (MQ below (va_Qv Q (PosW D (tyM cy) ad 34 (shM cy ad) A) A) args s 0 0 A) (F0 m 102 ls [])) : ∀ (n : Nat) (x2 : Int32) (σ : Sg) (H : Heap) (locs : List Loc) (ls : Array Slot), St D ad 34 (shM cy ad) A s σ H locs → lv_has ls 4 [(0, .ref (ad 0)), (1, .int x1), (2, .int x2)] → wX12_go_L35 x1 k102 Q n x2 σ → W p l e ({ frames := 6, cells := 0, slots := 0, locals := 136 }) s m args below meth c H locs 0 0 (MQ below (va_Qv Q (PosW D (tyM cy) ad 34 (shM cy ad) A) A) args s 0 0 A) (F0 m 35 ls []) := by
  have hx := X.1
  have hb := X.2.1
  intro n
  induction n with
  | zero =>
    intro _ _ _ _ _ _ _ h
    exact absurd h (by unfold wX12_go_L35; exact id)
  | succ n ih =>
    intro x2 σ H locs ls S hl h
    unfold wX12_go_L35 at h
    refine lv_iload_n hx hb dX12_go_35 rfl (lv_at hl 2 rfl) ?_
    refine lv_iload_n hx hb dX12_go_36 rfl (lv_at hl 1 rfl) ?_
    refine lv_aload_n hx hb dX12_go_37 rfl (lv_at hl 0 rfl) ?_
    refine o_get X S 0 6 (by decide) rfl rfl in_12 (by decide) k_873 rfl dX12_go_38 ?_
    refine lv_imul hx hb dX12_go_41 ?_
    refine lv_icmp_ge (tgt := 102) hx hb dX12_go_42 (by decide) (fun q_6 => ?_) (fun q_6 => ?_)
    · replace h := h.1 q_6
      exact hk102 _ _ _ _ S (lv_sub hl [] rfl) h
    · replace h := h.2 q_6
      refine lv_iconst (v := 0) hx hb dX12_go_45 (by decide) ?_
      refine lv_istore_n (lv' := [(3, .int 0), (0, .ref (ad 0)), (1, .int x1), (2, .int x2)]) hx hb dX12_go_46 rfl hl (by decide) rfl (fun ls hl => ?_)
      obtain ⟨n_47, h⟩ := h
      refine mX12_go_L47 l X hr x1 x2 ?_ n_47 _ _ _ _ _ S (lv_sub hl [1, 2, 3, 0] rfl) h
      · intro σ_14 H locs ls S hl h
        obtain ⟨x2_15, ex2_15⟩ : ∃ y : Int32, y = x2 + 1 := ⟨_, rfl⟩
        replace h := h x2_15 ex2_15
        refine lv_iinc (v := x2_15) (lv' := [(2, .int x2_15), (0, .ref (ad 0)), (1, .int x1)]) hx hb dX12_go_96 hl (k := 2) rfl (by rw [ex2_15]; rfl) (by decide) rfl (fun ls hl => ?_)
        refine lv_goto (tgt := 35) hx hb dX12_go_99 (by decide) ?_
        exact ih _ _ _ _ _ S (lv_sub hl [1, 2, 0] rfl) h
set_option maxHeartbeats 4000000 in
set_option maxRecDepth 100000 in
theorem mX12_go {D : va_G} {cy : Nat → ClassId} {ad : Nat → Nat} (l : Launch) (x1 : Int32) (σ : Sg) (Q : Sg → Prop) (h : wX12_go x1 σ Q) : MVM D cy ad l yX12_go (.code yX12_go cX12_go 4 none :: gT) ({ frames := 6, cells := 0, slots := 0, locals := 136 }) [.ref (ad 0), .int x1] σ Q := by
  refine metV_of (by decide +kernel) (Nat.le_of_ble_eq_true rfl) ?_
  intro p e s m args below meth c A ls X hr hl S
  have X : Fx D (tyM cy) EvM p s m args meth c cX12_go 4 "BackBayModel" A := X
  have hl : lv_has ls 4 [(0, .ref (ad 0)), (1, .int x1)] := hl
  have hx := X.1
  have hb := X.2.1
  unfold wX12_go at h
  refine lv_aload_n hx hb dX12_go_0 rfl (lv_at hl 0 rfl) ?_
  refine lv_iconst (v := 0) hx hb dX12_go_1 (by decide) ?_
  refine o_puti X S (fs := fun c => [.int (c 0), .ref (ad 1), .ref (ad 2), .ref (ad 3), .ref (ad 4), .int (c 5), .int (c 6), .int (c 7), .ref (ad 5), .ref (ad 6), .ref (ad 7), .ref (ad 8), .int (c 12), .int (c 13), .int (c 14), .int (c 15), .ref (ad 9), .int (c 17), .int (c 18), .int (c 19), .ref (ad 10), .ref (ad 11), .ref (ad 12), .ref (ad 13), .ref (ad 14), .ref (ad 15), .ref (ad 16), .int (c 27), .int (c 28), .ref (ad 17), .ref (ad 18), .ref (ad 19), .ref (ad 20), .ref (ad 21), .ref (ad 22), .ref (ad 23), .ref (ad 24), .ref (ad 25), .ref (ad 26), .ref (ad 27), .ref (ad 28), .ref (ad 29), .int (c 42), .ref (ad 30), .ref (ad 31), .ref (ad 32), .ref (ad 33), .int (c 47)]) 0 27 (by decide) (fun _ => rfl) (fun _ _ => rfl) rfl in_12 tyX12_ok nmX12 (by decide) k_894 rfl rfl rfl rfl (fun _ => Nat.le_of_ble_eq_true rfl) dX12_go_2 (fun σ_1 H locs eσ_1 S => ?_)
  replace h := h σ_1 eσ_1
  refine lv_iconst (v := 0) hx hb dX12_go_5 (by decide) ?_
  refine lv_istore_n (lv' := [(2, .int 0), (0, .ref (ad 0)), (1, .int x1)]) hx hb dX12_go_6 rfl hl (by decide) rfl (fun ls hl => ?_)
  obtain ⟨n_7, h⟩ := h
  refine mX12_go_L7 l X hr x1 ?_ n_7 _ _ _ _ _ S (lv_sub hl [1, 2, 0] rfl) h
  · intro σ_5 H locs ls S hl h
    refine lv_iconst (v := 0) hx hb dX12_go_33 (by decide) ?_
    refine lv_istore_n (lv' := [(2, .int 0), (0, .ref (ad 0)), (1, .int x1)]) hx hb dX12_go_34 rfl hl (by decide) rfl (fun ls hl => ?_)
    obtain ⟨n_35, h⟩ := h
    refine mX12_go_L35 l X hr x1 ?_ n_35 _ _ _ _ _ S (lv_sub hl [1, 2, 0] rfl) h
    · intro σ_16 H locs ls S hl h
      exact o_vret X S hr h dX12_go_102
def wX12_stateAt (x1 : Int32) (x2 : Int32) (σ : Sg) (Q : Int32 → Sg → Prop) : Prop :=
  (vp_in ((10 * (x1 * (σ 0 6))) + x2) 1220 ∧ Q (σ 13 ((10 * (x1 * (σ 0 6))) + x2).toNatClampNeg) σ)
set_option maxHeartbeats 4000000 in
set_option maxRecDepth 100000 in
theorem mX12_stateAt {D : va_G} {cy : Nat → ClassId} {ad : Nat → Nat} (l : Launch) (x1 : Int32) (x2 : Int32) (σ : Sg) (Q : Int32 → Sg → Prop) (h : wX12_stateAt x1 x2 σ Q) : MIM D cy ad l yX12_stateAt (.code yX12_stateAt cX12_stateAt 3 (some .int) :: gT) ({ frames := 0, cells := 0, slots := 0, locals := 0 }) [.ref (ad 0), .int x1, .int x2] σ Q := by
  refine metI_of (by decide +kernel) (Nat.le_of_ble_eq_true rfl) ?_
  intro p e s m args below meth c A ls X hr hl S
  have X : Fx D (tyM cy) EvM p s m args meth c cX12_stateAt 3 "BackBayModel" A := X
  have hl : lv_has ls 3 [(0, .ref (ad 0)), (1, .int x1), (2, .int x2)] := hl
  have hx := X.1
  have hb := X.2.1
  unfold wX12_stateAt at h
  refine lv_aload_n hx hb dX12_stateAt_0 rfl (lv_at hl 0 rfl) ?_
  refine o_get X S 0 23 (by decide) rfl rfl in_12 (by decide) k_890 rfl dX12_stateAt_1 ?_
  refine lv_bipush (v := 10) hx hb dX12_stateAt_4 (by decide) ?_
  refine lv_iload_n hx hb dX12_stateAt_6 rfl (lv_at hl 1 rfl) ?_
  refine lv_aload_n hx hb dX12_stateAt_7 rfl (lv_at hl 0 rfl) ?_
  refine o_get X S 0 6 (by decide) rfl rfl in_12 (by decide) k_873 rfl dX12_stateAt_8 ?_
  refine lv_imul hx hb dX12_stateAt_11 ?_
  refine lv_imul hx hb dX12_stateAt_12 ?_
  refine lv_iload_n hx hb dX12_stateAt_13 rfl (lv_at hl 2 rfl) ?_
  refine lv_iadd hx hb dX12_stateAt_14 ?_
  refine o_iald X S 13 0 (by decide) (fun _ => rfl) rfl h.1 dX12_stateAt_15 ?_
  replace h := h.2
  exact o_iret X S hr h dX12_stateAt_16
def wX12_cell_b18 (σ : Sg) (Q : Int64 → Sg → Prop) : Prop :=
  (wX12_refused 1 σ (fun r_4 σ_5 => Q r_4 σ_5))
def wX12_cell (x1 : Int32) (x2 : Int32) (σ : Sg) (Q : Int64 → Sg → Prop) : Prop :=
  (wX12_isCell x1 σ (fun r_1 σ_2 => ((r_1 = 0 → wX12_cell_b18 σ_2 Q) ∧ (¬ r_1 = 0 → (wX12_within x2 0 40 σ_2 (fun r_6 σ_7 => ((r_6 = 0 → wX12_cell_b18 σ_7 Q) ∧ (¬ r_6 = 0 → (wX12_go x2 σ_7 (fun σ_10 => (wX12_stateAt x2 x1 σ_10 (fun r_11 σ_12 => Q (r_11.toInt64) σ_12))))))))))))
set_option maxHeartbeats 4000000 in
set_option maxRecDepth 100000 in
theorem mX12_cell_b18 {D : va_G} {cy : Nat → ClassId} {ad : Nat → Nat} (l : Launch) {p : Program} {e : Env} {s : State} {m : MethodId} {args : Array Value} {below : List Frame} {meth : Method} {c : Code} {A : Nat → Prop} {Q : Int64 → Sg → Prop} (X : Fx D (tyM cy) EvM p s m args meth c cX12_cell 3 "BackBayModel" A) (hr : meth.sig.returnType = some .long) {σ : Sg} {H : Heap} {locs : List Loc} {ls : Array Slot} (S : St D ad 34 (shM cy ad) A s σ H locs) (hl : lv_has ls 3 []) (h : wX12_cell_b18 σ Q) : W p l e ({ frames := 7, cells := 0, slots := 0, locals := 159 }) s m args below meth c H locs 0 0 (MQ below (va_Ql Q (PosW D (tyM cy) ad 34 (shM cy ad) A) A) args s 0 0 A) (F0 m 18 ls []) := by
  have hx := X.1
  have hb := X.2.1
  unfold wX12_cell_b18 at h
  refine lv_iconst (v := 1) hx hb dX12_cell_18 (by decide) ?_
  refine o_callSl (k := 1) EvM_ok X S (mX12_refused l 1 σ _ h) k_1024 k_1022 k_1023 k_14 ⟨by decide, by decide, by decide +kernel⟩ ⟨rfl, rfl⟩ ⟨Nat.le_of_ble_eq_true rfl, Nat.le_of_ble_eq_true rfl⟩ rfl hl.1 rfl (Nat.le_of_ble_eq_true rfl) dX12_cell_19 (fun r_4 σ_5 H locs h S => ?_)
  exact o_lret X S hr h dX12_cell_22
set_option maxHeartbeats 4000000 in
set_option maxRecDepth 100000 in
theorem mX12_cell {D : va_G} {cy : Nat → ClassId} {ad : Nat → Nat} (l : Launch) (x1 : Int32) (x2 : Int32) (σ : Sg) (Q : Int64 → Sg → Prop) (h : wX12_cell x1 x2 σ Q) : MLM D cy ad l yX12_cell (.code yX12_cell cX12_cell 3 (some .long) :: gT) ({ frames := 7, cells := 0, slots := 0, locals := 159 }) [.ref (ad 0), .int x1, .int x2] σ Q := by
  refine metL_of (by decide +kernel) (Nat.le_of_ble_eq_true rfl) ?_
  intro p e s m args below meth c A ls X hr hl S
  have X : Fx D (tyM cy) EvM p s m args meth c cX12_cell 3 "BackBayModel" A := X
  have hl : lv_has ls 3 [(0, .ref (ad 0)), (1, .int x1), (2, .int x2)] := hl
  have hx := X.1
  have hb := X.2.1
  unfold wX12_cell at h
  refine lv_aload_n hx hb dX12_cell_0 rfl (lv_at hl 0 rfl) ?_
  refine lv_iload_n hx hb dX12_cell_1 rfl (lv_at hl 1 rfl) ?_
  refine o_callVi (k := 1) EvM_ok X S (mX12_isCell l x1 σ _ h) (by decide) rfl rfl k_1102 k_1099 k_1101 ks_39 k_14 ⟨rfl, by decide, by decide, by decide +kernel⟩ ⟨rfl, rfl⟩ ⟨Nat.le_of_ble_eq_true rfl, Nat.le_of_ble_eq_true rfl⟩ rfl hl.1 rfl (Nat.le_of_ble_eq_true rfl) dX12_cell_2 (fun r_1 σ_2 H locs h S => ?_)
  refine lv_if_eq (tgt := 18) hx hb dX12_cell_5 (by decide) (fun q_3 => ?_) (fun q_3 => ?_)
  · replace h := h.1 q_3
    exact mX12_cell_b18 l X hr S (lv_sub hl [] rfl) h
  · replace h := h.2 q_3
    refine lv_iload_n hx hb dX12_cell_8 rfl (lv_at hl 2 rfl) ?_
    refine lv_iconst (v := 0) hx hb dX12_cell_9 (by decide) ?_
    refine lv_bipush (v := 40) hx hb dX12_cell_10 (by decide) ?_
    refine o_callSi (k := 3) EvM_ok X S (mX12_within l x2 0 40 σ_2 _ h) k_1021 k_1019 k_1020 k_14 ⟨by decide, by decide, by decide +kernel⟩ ⟨rfl, rfl⟩ ⟨Nat.le_of_ble_eq_true rfl, Nat.le_of_ble_eq_true rfl⟩ rfl hl.1 rfl (Nat.le_of_ble_eq_true rfl) dX12_cell_12 (fun r_6 σ_7 H locs h S => ?_)
    refine lv_if_ne (tgt := 23) hx hb dX12_cell_15 (by decide) (fun q_8 => ?_) (fun q_8 => ?_)
    · replace h := h.2 q_8
      refine lv_aload_n hx hb dX12_cell_23 rfl (lv_at hl 0 rfl) ?_
      refine lv_iload_n hx hb dX12_cell_24 rfl (lv_at hl 2 rfl) ?_
      refine o_callVv (k := 1) EvM_ok X S (mX12_go l x2 σ_7 _ h) (by decide) rfl rfl k_1114 k_1111 k_1113 ks_40 k_14 ⟨rfl, by decide, by decide, by decide +kernel⟩ ⟨rfl, rfl⟩ ⟨Nat.le_of_ble_eq_true rfl, Nat.le_of_ble_eq_true rfl⟩ rfl hl.1 rfl (Nat.le_of_ble_eq_true rfl) dX12_cell_25 (fun σ_10 H locs h S => ?_)
      refine lv_aload_n hx hb dX12_cell_28 rfl (lv_at hl 0 rfl) ?_
      refine lv_iload_n hx hb dX12_cell_29 rfl (lv_at hl 2 rfl) ?_
      refine lv_iload_n hx hb dX12_cell_30 rfl (lv_at hl 1 rfl) ?_
      refine o_callVi (k := 2) EvM_ok X S (mX12_stateAt l x2 x1 σ_10 _ h) (by decide) rfl rfl k_1150 k_1147 k_1149 ks_49 k_14 ⟨rfl, by decide, by decide, by decide +kernel⟩ ⟨rfl, rfl⟩ ⟨Nat.le_of_ble_eq_true rfl, Nat.le_of_ble_eq_true rfl⟩ rfl hl.1 rfl (Nat.le_of_ble_eq_true rfl) dX12_cell_31 (fun r_11 σ_12 H locs h S => ?_)
      refine lv_i2l hx hb dX12_cell_34 rfl ?_
      exact o_lret X S hr h dX12_cell_35
    · replace h := h.1 q_8
      exact mX12_cell_b18 l X hr S (lv_sub hl [] rfl) h
def wX12_gauge_b31 (σ : Sg) (Q : Int64 → Sg → Prop) : Prop :=
  (wX12_refused 1 σ (fun r_4 σ_5 => Q r_4 σ_5))
def wX12_gauge (x1 : Int32) (x2 : Int32) (x3 : Int32) (x4 : Int32) (σ : Sg) (Q : Int64 → Sg → Prop) : Prop :=
  (wX12_within x1 0 9 σ (fun r_1 σ_2 => ((r_1 = 0 → wX12_gauge_b31 σ_2 Q) ∧ (¬ r_1 = 0 → (wX12_within x2 0 20 σ_2 (fun r_6 σ_7 => ((r_6 = 0 → wX12_gauge_b31 σ_7 Q) ∧ (¬ r_6 = 0 → (wX12_within x3 (-9) 9 σ_7 (fun r_9 σ_10 => ((r_9 = 0 → wX12_gauge_b31 σ_10 Q) ∧ (¬ r_9 = 0 → (((σ_10 0 28) = 12 → (wX12_refused 3 σ_10 (fun r_19 σ_20 => Q r_19 σ_20))) ∧ (¬ (σ_10 0 28) = 12 → (vp_in (σ_10 0 28) 12 ∧ ∀ σ_13, σ_13 = sto σ_10 17 (σ_10 0 28).toNatClampNeg x1 → (vp_in (σ_13 0 28) 12 ∧ ∀ σ_14, σ_14 = sto σ_13 18 (σ_13 0 28).toNatClampNeg x2 → (vp_in (σ_14 0 28) 12 ∧ ∀ σ_15, σ_15 = sto σ_14 19 (σ_14 0 28).toNatClampNeg x3 → (vp_in (σ_15 0 28) 12 ∧ ∀ σ_16, σ_16 = sto σ_15 20 (σ_15 0 28).toNatClampNeg x4 → (vp_in (σ_16 0 28) 12 ∧ ∀ σ_17, σ_17 = sto σ_16 21 (σ_16 0 28).toNatClampNeg (vp_nar .boolean 0) → (∀ σ_18, σ_18 = sto σ_17 0 28 ((σ_17 0 28) + 1) → Q ((σ_18 0 28).toInt64) σ_18))))))))))))))))))))
set_option maxHeartbeats 4000000 in
set_option maxRecDepth 100000 in
theorem mX12_gauge_b31 {D : va_G} {cy : Nat → ClassId} {ad : Nat → Nat} (l : Launch) {p : Program} {e : Env} {s : State} {m : MethodId} {args : Array Value} {below : List Frame} {meth : Method} {c : Code} {A : Nat → Prop} {Q : Int64 → Sg → Prop} (X : Fx D (tyM cy) EvM p s m args meth c cX12_gauge 5 "BackBayModel" A) (hr : meth.sig.returnType = some .long) {σ : Sg} {H : Heap} {locs : List Loc} {ls : Array Slot} (S : St D ad 34 (shM cy ad) A s σ H locs) (hl : lv_has ls 5 []) (h : wX12_gauge_b31 σ Q) : W p l e ({ frames := 1, cells := 0, slots := 0, locals := 22 }) s m args below meth c H locs 0 0 (MQ below (va_Ql Q (PosW D (tyM cy) ad 34 (shM cy ad) A) A) args s 0 0 A) (F0 m 31 ls []) := by
  have hx := X.1
  have hb := X.2.1
  unfold wX12_gauge_b31 at h
  refine lv_iconst (v := 1) hx hb dX12_gauge_31 (by decide) ?_
  refine o_callSl (k := 1) EvM_ok X S (mX12_refused l 1 σ _ h) k_1024 k_1022 k_1023 k_14 ⟨by decide, by decide, by decide +kernel⟩ ⟨rfl, rfl⟩ ⟨Nat.le_of_ble_eq_true rfl, Nat.le_of_ble_eq_true rfl⟩ rfl hl.1 rfl (Nat.le_of_ble_eq_true rfl) dX12_gauge_32 (fun r_4 σ_5 H locs h S => ?_)
  exact o_lret X S hr h dX12_gauge_35
set_option maxHeartbeats 4000000 in
set_option maxRecDepth 100000 in
theorem mX12_gauge {D : va_G} {cy : Nat → ClassId} {ad : Nat → Nat} (l : Launch) (x1 : Int32) (x2 : Int32) (x3 : Int32) (x4 : Int32) (σ : Sg) (Q : Int64 → Sg → Prop) (h : wX12_gauge x1 x2 x3 x4 σ Q) : MLM D cy ad l yX12_gauge (.code yX12_gauge cX12_gauge 5 (some .long) :: gT) ({ frames := 1, cells := 0, slots := 0, locals := 22 }) [.ref (ad 0), .int x1, .int x2, .int x3, .int x4] σ Q := by
  refine metL_of (by decide +kernel) (Nat.le_of_ble_eq_true rfl) ?_
  intro p e s m args below meth c A ls X hr hl S
  have X : Fx D (tyM cy) EvM p s m args meth c cX12_gauge 5 "BackBayModel" A := X
  have hl : lv_has ls 5 [(0, .ref (ad 0)), (1, .int x1), (2, .int x2), (3, .int x3), (4, .int x4)] := hl
  have hx := X.1
  have hb := X.2.1
  unfold wX12_gauge at h
  refine lv_iload_n hx hb dX12_gauge_0 rfl (lv_at hl 1 rfl) ?_
  refine lv_iconst (v := 0) hx hb dX12_gauge_1 (by decide) ?_
  refine lv_bipush (v := 9) hx hb dX12_gauge_2 (by decide) ?_
  refine o_callSi (k := 3) EvM_ok X S (mX12_within l x1 0 9 σ _ h) k_1021 k_1019 k_1020 k_14 ⟨by decide, by decide, by decide +kernel⟩ ⟨rfl, rfl⟩ ⟨Nat.le_of_ble_eq_true rfl, Nat.le_of_ble_eq_true rfl⟩ rfl hl.1 rfl (Nat.le_of_ble_eq_true rfl) dX12_gauge_4 (fun r_1 σ_2 H locs h S => ?_)
  refine lv_if_eq (tgt := 31) hx hb dX12_gauge_7 (by decide) (fun q_3 => ?_) (fun q_3 => ?_)
  · replace h := h.1 q_3
    exact mX12_gauge_b31 l X hr S (lv_sub hl [] rfl) h
  · replace h := h.2 q_3
    refine lv_iload_n hx hb dX12_gauge_10 rfl (lv_at hl 2 rfl) ?_
    refine lv_iconst (v := 0) hx hb dX12_gauge_11 (by decide) ?_
    refine lv_bipush (v := 20) hx hb dX12_gauge_12 (by decide) ?_
    refine o_callSi (k := 3) EvM_ok X S (mX12_within l x2 0 20 σ_2 _ h) k_1021 k_1019 k_1020 k_14 ⟨by decide, by decide, by decide +kernel⟩ ⟨rfl, rfl⟩ ⟨Nat.le_of_ble_eq_true rfl, Nat.le_of_ble_eq_true rfl⟩ rfl hl.1 rfl (Nat.le_of_ble_eq_true rfl) dX12_gauge_14 (fun r_6 σ_7 H locs h S => ?_)
    refine lv_if_eq (tgt := 31) hx hb dX12_gauge_17 (by decide) (fun q_8 => ?_) (fun q_8 => ?_)
    · replace h := h.1 q_8
      exact mX12_gauge_b31 l X hr S (lv_sub hl [] rfl) h
    · replace h := h.2 q_8
      refine lv_iload_n hx hb dX12_gauge_20 rfl (lv_at hl 3 rfl) ?_
      refine lv_bipush (v := (-9)) hx hb dX12_gauge_21 (by decide) ?_
      refine lv_bipush (v := 9) hx hb dX12_gauge_23 (by decide) ?_
      refine o_callSi (k := 3) EvM_ok X S (mX12_within l x3 (-9) 9 σ_7 _ h) k_1021 k_1019 k_1020 k_14 ⟨by decide, by decide, by decide +kernel⟩ ⟨rfl, rfl⟩ ⟨Nat.le_of_ble_eq_true rfl, Nat.le_of_ble_eq_true rfl⟩ rfl hl.1 rfl (Nat.le_of_ble_eq_true rfl) dX12_gauge_25 (fun r_9 σ_10 H locs h S => ?_)
      refine lv_if_ne (tgt := 36) hx hb dX12_gauge_28 (by decide) (fun q_11 => ?_) (fun q_11 => ?_)
      · replace h := h.2 q_11
        refine lv_aload_n hx hb dX12_gauge_36 rfl (lv_at hl 0 rfl) ?_
        refine o_get X S 0 28 (by decide) rfl rfl in_12 (by decide) k_895 rfl dX12_gauge_37 ?_
        refine lv_bipush (v := 12) hx hb dX12_gauge_40 (by decide) ?_
        refine lv_icmp_ne (tgt := 50) hx hb dX12_gauge_42 (by decide) (fun q_12 => ?_) (fun q_12 => ?_)
        · replace h := h.2 q_12
          refine lv_aload_n hx hb dX12_gauge_50 rfl (lv_at hl 0 rfl) ?_
          refine o_get X S 0 29 (by decide) rfl rfl in_12 (by decide) k_896 rfl dX12_gauge_51 ?_
          refine lv_aload_n hx hb dX12_gauge_54 rfl (lv_at hl 0 rfl) ?_
          refine o_get X S 0 28 (by decide) rfl rfl in_12 (by decide) k_895 rfl dX12_gauge_55 ?_
          refine lv_iload_n hx hb dX12_gauge_58 rfl (lv_at hl 1 rfl) ?_
          refine o_iast X S 17 0 (by decide) (fun _ => rfl) rfl h.1 dX12_gauge_59 (fun σ_13 H locs eσ_13 S => ?_)
          replace h := h.2 σ_13 eσ_13
          refine lv_aload_n hx hb dX12_gauge_60 rfl (lv_at hl 0 rfl) ?_
          refine o_get X S 0 30 (by decide) rfl rfl in_12 (by decide) k_897 rfl dX12_gauge_61 ?_
          refine lv_aload_n hx hb dX12_gauge_64 rfl (lv_at hl 0 rfl) ?_
          refine o_get X S 0 28 (by decide) rfl rfl in_12 (by decide) k_895 rfl dX12_gauge_65 ?_
          refine lv_iload_n hx hb dX12_gauge_68 rfl (lv_at hl 2 rfl) ?_
          refine o_iast X S 18 0 (by decide) (fun _ => rfl) rfl h.1 dX12_gauge_69 (fun σ_14 H locs eσ_14 S => ?_)
          replace h := h.2 σ_14 eσ_14
          refine lv_aload_n hx hb dX12_gauge_70 rfl (lv_at hl 0 rfl) ?_
          refine o_get X S 0 31 (by decide) rfl rfl in_12 (by decide) k_898 rfl dX12_gauge_71 ?_
          refine lv_aload_n hx hb dX12_gauge_74 rfl (lv_at hl 0 rfl) ?_
          refine o_get X S 0 28 (by decide) rfl rfl in_12 (by decide) k_895 rfl dX12_gauge_75 ?_
          refine lv_iload_n hx hb dX12_gauge_78 rfl (lv_at hl 3 rfl) ?_
          refine o_iast X S 19 0 (by decide) (fun _ => rfl) rfl h.1 dX12_gauge_79 (fun σ_15 H locs eσ_15 S => ?_)
          replace h := h.2 σ_15 eσ_15
          refine lv_aload_n hx hb dX12_gauge_80 rfl (lv_at hl 0 rfl) ?_
          refine o_get X S 0 32 (by decide) rfl rfl in_12 (by decide) k_899 rfl dX12_gauge_81 ?_
          refine lv_aload_n hx hb dX12_gauge_84 rfl (lv_at hl 0 rfl) ?_
          refine o_get X S 0 28 (by decide) rfl rfl in_12 (by decide) k_895 rfl dX12_gauge_85 ?_
          refine lv_iload hx hb dX12_gauge_88 (lv_at hl 4 rfl) ?_
          refine o_iast X S 20 0 (by decide) (fun _ => rfl) rfl h.1 dX12_gauge_90 (fun σ_16 H locs eσ_16 S => ?_)
          replace h := h.2 σ_16 eσ_16
          refine lv_aload_n hx hb dX12_gauge_91 rfl (lv_at hl 0 rfl) ?_
          refine o_get X S 0 33 (by decide) rfl rfl in_12 (by decide) k_900 rfl dX12_gauge_92 ?_
          refine lv_aload_n hx hb dX12_gauge_95 rfl (lv_at hl 0 rfl) ?_
          refine o_get X S 0 28 (by decide) rfl rfl in_12 (by decide) k_895 rfl dX12_gauge_96 ?_
          refine lv_iconst (v := 0) hx hb dX12_gauge_99 (by decide) ?_
          refine o_zast X S 21 1 (by decide) (fun _ => rfl) rfl h.1 dX12_gauge_100 (fun σ_17 H locs eσ_17 S => ?_)
          replace h := h.2 σ_17 eσ_17
          refine lv_aload_n hx hb dX12_gauge_101 rfl (lv_at hl 0 rfl) ?_
          refine lv_dup hx hb dX12_gauge_102 rfl ?_
          refine o_get X S 0 28 (by decide) rfl rfl in_12 (by decide) k_895 rfl dX12_gauge_103 ?_
          refine lv_iconst (v := 1) hx hb dX12_gauge_106 (by decide) ?_
          refine lv_iadd hx hb dX12_gauge_107 ?_
          refine o_puti X S (fs := fun c => [.int (c 0), .ref (ad 1), .ref (ad 2), .ref (ad 3), .ref (ad 4), .int (c 5), .int (c 6), .int (c 7), .ref (ad 5), .ref (ad 6), .ref (ad 7), .ref (ad 8), .int (c 12), .int (c 13), .int (c 14), .int (c 15), .ref (ad 9), .int (c 17), .int (c 18), .int (c 19), .ref (ad 10), .ref (ad 11), .ref (ad 12), .ref (ad 13), .ref (ad 14), .ref (ad 15), .ref (ad 16), .int (c 27), .int (c 28), .ref (ad 17), .ref (ad 18), .ref (ad 19), .ref (ad 20), .ref (ad 21), .ref (ad 22), .ref (ad 23), .ref (ad 24), .ref (ad 25), .ref (ad 26), .ref (ad 27), .ref (ad 28), .ref (ad 29), .int (c 42), .ref (ad 30), .ref (ad 31), .ref (ad 32), .ref (ad 33), .int (c 47)]) 0 28 (by decide) (fun _ => rfl) (fun _ _ => rfl) rfl in_12 tyX12_ok nmX12 (by decide) k_895 rfl rfl rfl rfl (fun _ => Nat.le_of_ble_eq_true rfl) dX12_gauge_108 (fun σ_18 H locs eσ_18 S => ?_)
          replace h := h σ_18 eσ_18
          refine lv_aload_n hx hb dX12_gauge_111 rfl (lv_at hl 0 rfl) ?_
          refine o_get X S 0 28 (by decide) rfl rfl in_12 (by decide) k_895 rfl dX12_gauge_112 ?_
          refine lv_i2l hx hb dX12_gauge_115 rfl ?_
          exact o_lret X S hr h dX12_gauge_116
        · replace h := h.1 q_12
          refine lv_iconst (v := 3) hx hb dX12_gauge_45 (by decide) ?_
          refine o_callSl (k := 1) EvM_ok X S (mX12_refused l 3 σ_10 _ h) k_1024 k_1022 k_1023 k_14 ⟨by decide, by decide, by decide +kernel⟩ ⟨rfl, rfl⟩ ⟨Nat.le_of_ble_eq_true rfl, Nat.le_of_ble_eq_true rfl⟩ rfl hl.1 rfl (Nat.le_of_ble_eq_true rfl) dX12_gauge_46 (fun r_19 σ_20 H locs h S => ?_)
          exact o_lret X S hr h dX12_gauge_49
      · replace h := h.1 q_11
        exact mX12_gauge_b31 l X hr S (lv_sub hl [] rfl) h
def wX12_out_b23 (σ : Sg) (Q : Int64 → Sg → Prop) : Prop :=
  (wX12_refused 1 σ (fun r_4 σ_5 => Q r_4 σ_5))
def wX12_out_b43 (y0 : Int32) (y1 : Int32) (σ : Sg) (Q : Int64 → Sg → Prop) : Prop :=
  (vp_in y1 12 ∧ ∀ σ_10, σ_10 = sto σ 21 y1.toNatClampNeg (vp_nar .boolean y0) → Q (1 : Int64) σ_10)
def wX12_out (x1 : Int32) (x2 : Int32) (σ : Sg) (Q : Int64 → Sg → Prop) : Prop :=
  (wX12_within x1 0 ((σ 0 28) - 1) σ (fun r_1 σ_2 => ((r_1 = 0 → wX12_out_b23 σ_2 Q) ∧ (¬ r_1 = 0 → (wX12_within x2 0 1 σ_2 (fun r_6 σ_7 => ((r_6 = 0 → wX12_out_b23 σ_7 Q) ∧ (¬ r_6 = 0 → ((x2 = 1 → wX12_out_b43 1 x1 σ_7 Q) ∧ (¬ x2 = 1 → wX12_out_b43 0 x1 σ_7 Q))))))))))
set_option maxHeartbeats 4000000 in
set_option maxRecDepth 100000 in
theorem mX12_out_b23 {D : va_G} {cy : Nat → ClassId} {ad : Nat → Nat} (l : Launch) {p : Program} {e : Env} {s : State} {m : MethodId} {args : Array Value} {below : List Frame} {meth : Method} {c : Code} {A : Nat → Prop} {Q : Int64 → Sg → Prop} (X : Fx D (tyM cy) EvM p s m args meth c cX12_out 3 "BackBayModel" A) (hr : meth.sig.returnType = some .long) {σ : Sg} {H : Heap} {locs : List Loc} {ls : Array Slot} (S : St D ad 34 (shM cy ad) A s σ H locs) (hl : lv_has ls 3 []) (h : wX12_out_b23 σ Q) : W p l e ({ frames := 1, cells := 0, slots := 0, locals := 22 }) s m args below meth c H locs 0 0 (MQ below (va_Ql Q (PosW D (tyM cy) ad 34 (shM cy ad) A) A) args s 0 0 A) (F0 m 23 ls []) := by
  have hx := X.1
  have hb := X.2.1
  unfold wX12_out_b23 at h
  refine lv_iconst (v := 1) hx hb dX12_out_23 (by decide) ?_
  refine o_callSl (k := 1) EvM_ok X S (mX12_refused l 1 σ _ h) k_1024 k_1022 k_1023 k_14 ⟨by decide, by decide, by decide +kernel⟩ ⟨rfl, rfl⟩ ⟨Nat.le_of_ble_eq_true rfl, Nat.le_of_ble_eq_true rfl⟩ rfl hl.1 rfl (Nat.le_of_ble_eq_true rfl) dX12_out_24 (fun r_4 σ_5 H locs h S => ?_)
  exact o_lret X S hr h dX12_out_27
set_option maxHeartbeats 4000000 in
set_option maxRecDepth 100000 in
theorem mX12_out_b43 {D : va_G} {cy : Nat → ClassId} {ad : Nat → Nat} (l : Launch) {p : Program} {e : Env} {s : State} {m : MethodId} {args : Array Value} {below : List Frame} {meth : Method} {c : Code} {A : Nat → Prop} {Q : Int64 → Sg → Prop} (X : Fx D (tyM cy) EvM p s m args meth c cX12_out 3 "BackBayModel" A) (hr : meth.sig.returnType = some .long) (y0 : Int32) (y1 : Int32) {σ : Sg} {H : Heap} {locs : List Loc} {ls : Array Slot} (S : St D ad 34 (shM cy ad) A s σ H locs) (hl : lv_has ls 3 []) (h : wX12_out_b43 y0 y1 σ Q) : W p l e ({ frames := 1, cells := 0, slots := 0, locals := 22 }) s m args below meth c H locs 0 0 (MQ below (va_Ql Q (PosW D (tyM cy) ad 34 (shM cy ad) A) A) args s 0 0 A) (F0 m 43 ls [.int y0, .int y1, .ref (ad 21)]) := by
  have hx := X.1
  have hb := X.2.1
  unfold wX12_out_b43 at h
  refine o_zast X S 21 1 (by decide) (fun _ => rfl) rfl h.1 dX12_out_43 (fun σ_10 H locs eσ_10 S => ?_)
  replace h := h.2 σ_10 eσ_10
  refine lv_lconst (v := 1) hx hb dX12_out_44 (by decide) ?_
  exact o_lret X S hr h dX12_out_45
set_option maxHeartbeats 4000000 in
set_option maxRecDepth 100000 in
theorem mX12_out {D : va_G} {cy : Nat → ClassId} {ad : Nat → Nat} (l : Launch) (x1 : Int32) (x2 : Int32) (σ : Sg) (Q : Int64 → Sg → Prop) (h : wX12_out x1 x2 σ Q) : MLM D cy ad l yX12_out (.code yX12_out cX12_out 3 (some .long) :: gT) ({ frames := 1, cells := 0, slots := 0, locals := 22 }) [.ref (ad 0), .int x1, .int x2] σ Q := by
  refine metL_of (by decide +kernel) (Nat.le_of_ble_eq_true rfl) ?_
  intro p e s m args below meth c A ls X hr hl S
  have X : Fx D (tyM cy) EvM p s m args meth c cX12_out 3 "BackBayModel" A := X
  have hl : lv_has ls 3 [(0, .ref (ad 0)), (1, .int x1), (2, .int x2)] := hl
  have hx := X.1
  have hb := X.2.1
  unfold wX12_out at h
  refine lv_iload_n hx hb dX12_out_0 rfl (lv_at hl 1 rfl) ?_
  refine lv_iconst (v := 0) hx hb dX12_out_1 (by decide) ?_
  refine lv_aload_n hx hb dX12_out_2 rfl (lv_at hl 0 rfl) ?_
  refine o_get X S 0 28 (by decide) rfl rfl in_12 (by decide) k_895 rfl dX12_out_3 ?_
  refine lv_iconst (v := 1) hx hb dX12_out_6 (by decide) ?_
  refine lv_isub hx hb dX12_out_7 ?_
  refine o_callSi (k := 3) EvM_ok X S (mX12_within l x1 0 ((σ 0 28) - 1) σ _ h) k_1021 k_1019 k_1020 k_14 ⟨by decide, by decide, by decide +kernel⟩ ⟨rfl, rfl⟩ ⟨Nat.le_of_ble_eq_true rfl, Nat.le_of_ble_eq_true rfl⟩ rfl hl.1 rfl (Nat.le_of_ble_eq_true rfl) dX12_out_8 (fun r_1 σ_2 H locs h S => ?_)
  refine lv_if_eq (tgt := 23) hx hb dX12_out_11 (by decide) (fun q_3 => ?_) (fun q_3 => ?_)
  · replace h := h.1 q_3
    exact mX12_out_b23 l X hr S (lv_sub hl [] rfl) h
  · replace h := h.2 q_3
    refine lv_iload_n hx hb dX12_out_14 rfl (lv_at hl 2 rfl) ?_
    refine lv_iconst (v := 0) hx hb dX12_out_15 (by decide) ?_
    refine lv_iconst (v := 1) hx hb dX12_out_16 (by decide) ?_
    refine o_callSi (k := 3) EvM_ok X S (mX12_within l x2 0 1 σ_2 _ h) k_1021 k_1019 k_1020 k_14 ⟨by decide, by decide, by decide +kernel⟩ ⟨rfl, rfl⟩ ⟨Nat.le_of_ble_eq_true rfl, Nat.le_of_ble_eq_true rfl⟩ rfl hl.1 rfl (Nat.le_of_ble_eq_true rfl) dX12_out_17 (fun r_6 σ_7 H locs h S => ?_)
    refine lv_if_ne (tgt := 28) hx hb dX12_out_20 (by decide) (fun q_8 => ?_) (fun q_8 => ?_)
    · replace h := h.2 q_8
      refine lv_aload_n hx hb dX12_out_28 rfl (lv_at hl 0 rfl) ?_
      refine o_get X S 0 33 (by decide) rfl rfl in_12 (by decide) k_900 rfl dX12_out_29 ?_
      refine lv_iload_n hx hb dX12_out_32 rfl (lv_at hl 1 rfl) ?_
      refine lv_iload_n hx hb dX12_out_33 rfl (lv_at hl 2 rfl) ?_
      refine lv_iconst (v := 1) hx hb dX12_out_34 (by decide) ?_
      refine lv_icmp_ne (tgt := 42) hx hb dX12_out_35 (by decide) (fun q_9 => ?_) (fun q_9 => ?_)
      · replace h := h.2 q_9
        refine lv_iconst (v := 0) hx hb dX12_out_42 (by decide) ?_
        exact mX12_out_b43 l X hr 0 x1 S (lv_sub hl [] rfl) h
      · replace h := h.1 q_9
        refine lv_iconst (v := 1) hx hb dX12_out_38 (by decide) ?_
        refine lv_goto (tgt := 43) hx hb dX12_out_39 (by decide) ?_
        exact mX12_out_b43 l X hr 1 x1 S (lv_sub hl [] rfl) h
    · replace h := h.1 q_8
      exact mX12_out_b23 l X hr S (lv_sub hl [] rfl) h
def wX12_counts_b27 (y0 : Int32) (σ : Sg) (Q : Int32 → Sg → Prop) : Prop :=
  (bok y0 ∧ Q y0 σ)
def wX12_counts_b26 (σ : Sg) (Q : Int32 → Sg → Prop) : Prop :=
  wX12_counts_b27 0 σ Q
def wX12_counts (x1 : Int32) (σ : Sg) (Q : Int32 → Sg → Prop) : Prop :=
  (vp_in x1 12 ∧ (((σ 21 x1.toNatClampNeg) = 0 → (vp_in x1 12 ∧ (((σ 0 19) ≤ (σ 17 x1.toNatClampNeg) → wX12_counts_b26 σ Q) ∧ (¬ (σ 0 19) ≤ (σ 17 x1.toNatClampNeg) → wX12_counts_b27 1 σ Q)))) ∧ (¬ (σ 21 x1.toNatClampNeg) = 0 → wX12_counts_b26 σ Q)))
set_option maxHeartbeats 4000000 in
set_option maxRecDepth 100000 in
theorem mX12_counts_b27 {D : va_G} {cy : Nat → ClassId} {ad : Nat → Nat} (l : Launch) {p : Program} {e : Env} {s : State} {m : MethodId} {args : Array Value} {below : List Frame} {meth : Method} {c : Code} {A : Nat → Prop} {Q : Int32 → Sg → Prop} (X : Fx D (tyM cy) EvM p s m args meth c cX12_counts 2 "BackBayModel" A) (hr : meth.sig.returnType = some .boolean) (y0 : Int32) {σ : Sg} {H : Heap} {locs : List Loc} {ls : Array Slot} (S : St D ad 34 (shM cy ad) A s σ H locs) (hl : lv_has ls 2 []) (h : wX12_counts_b27 y0 σ Q) : W p l e ({ frames := 0, cells := 0, slots := 0, locals := 0 }) s m args below meth c H locs 0 0 (MQ below (va_Qi Q (PosW D (tyM cy) ad 34 (shM cy ad) A) A) args s 0 0 A) (F0 m 27 ls [.int y0]) := by
  have hx := X.1
  have hb := X.2.1
  unfold wX12_counts_b27 at h
  exact o_zret X S hr h.1 h.2 dX12_counts_27
set_option maxHeartbeats 4000000 in
set_option maxRecDepth 100000 in
theorem mX12_counts_b26 {D : va_G} {cy : Nat → ClassId} {ad : Nat → Nat} (l : Launch) {p : Program} {e : Env} {s : State} {m : MethodId} {args : Array Value} {below : List Frame} {meth : Method} {c : Code} {A : Nat → Prop} {Q : Int32 → Sg → Prop} (X : Fx D (tyM cy) EvM p s m args meth c cX12_counts 2 "BackBayModel" A) (hr : meth.sig.returnType = some .boolean) {σ : Sg} {H : Heap} {locs : List Loc} {ls : Array Slot} (S : St D ad 34 (shM cy ad) A s σ H locs) (hl : lv_has ls 2 []) (h : wX12_counts_b26 σ Q) : W p l e ({ frames := 0, cells := 0, slots := 0, locals := 0 }) s m args below meth c H locs 0 0 (MQ below (va_Qi Q (PosW D (tyM cy) ad 34 (shM cy ad) A) A) args s 0 0 A) (F0 m 26 ls []) := by
  have hx := X.1
  have hb := X.2.1
  unfold wX12_counts_b26 at h
  refine lv_iconst (v := 0) hx hb dX12_counts_26 (by decide) ?_
  exact mX12_counts_b27 l X hr 0 S (lv_sub hl [] rfl) h
set_option maxHeartbeats 4000000 in
set_option maxRecDepth 100000 in
theorem mX12_counts {D : va_G} {cy : Nat → ClassId} {ad : Nat → Nat} (l : Launch) (x1 : Int32) (σ : Sg) (Q : Int32 → Sg → Prop) (h : wX12_counts x1 σ Q) : MIM D cy ad l yX12_counts (.code yX12_counts cX12_counts 2 (some .boolean) :: gT) ({ frames := 0, cells := 0, slots := 0, locals := 0 }) [.ref (ad 0), .int x1] σ Q := by
  refine metI_of (by decide +kernel) (Nat.le_of_ble_eq_true rfl) ?_
  intro p e s m args below meth c A ls X hr hl S
  have X : Fx D (tyM cy) EvM p s m args meth c cX12_counts 2 "BackBayModel" A := X
  have hl : lv_has ls 2 [(0, .ref (ad 0)), (1, .int x1)] := hl
  have hx := X.1
  have hb := X.2.1
  unfold wX12_counts at h
  refine lv_aload_n hx hb dX12_counts_0 rfl (lv_at hl 0 rfl) ?_
  refine o_get X S 0 33 (by decide) rfl rfl in_12 (by decide) k_900 rfl dX12_counts_1 ?_
  refine lv_iload_n hx hb dX12_counts_4 rfl (lv_at hl 1 rfl) ?_
  refine o_zald X S 21 1 (by decide) (fun _ => rfl) rfl h.1 dX12_counts_5 ?_
  replace h := h.2
  refine lv_if_ne (tgt := 26) hx hb dX12_counts_6 (by decide) (fun q_1 => ?_) (fun q_1 => ?_)
  · replace h := h.2 q_1
    exact mX12_counts_b26 l X hr S (lv_sub hl [] rfl) h
  · replace h := h.1 q_1
    refine lv_aload_n hx hb dX12_counts_9 rfl (lv_at hl 0 rfl) ?_
    refine o_get X S 0 29 (by decide) rfl rfl in_12 (by decide) k_896 rfl dX12_counts_10 ?_
    refine lv_iload_n hx hb dX12_counts_13 rfl (lv_at hl 1 rfl) ?_
    refine o_iald X S 17 0 (by decide) (fun _ => rfl) rfl h.1 dX12_counts_14 ?_
    replace h := h.2
    refine lv_aload_n hx hb dX12_counts_15 rfl (lv_at hl 0 rfl) ?_
    refine o_get X S 0 19 (by decide) rfl rfl in_12 (by decide) k_886 rfl dX12_counts_16 ?_
    refine lv_icmp_ge (tgt := 26) hx hb dX12_counts_19 (by decide) (fun q_2 => ?_) (fun q_2 => ?_)
    · replace h := h.1 q_2
      exact mX12_counts_b26 l X hr S (lv_sub hl [] rfl) h
    · replace h := h.2 q_2
      refine lv_iconst (v := 1) hx hb dX12_counts_22 (by decide) ?_
      refine lv_goto (tgt := 27) hx hb dX12_counts_23 (by decide) ?_
      exact mX12_counts_b27 l X hr 1 S (lv_sub hl [] rfl) h
def wX12_last_b40 (x2 : Int32) (y0 : Int32) (σ : Sg) (k47 : Int32 → Sg → Prop) (kb4 : Int32 → Int32 → Sg → Prop) (Q : Int32 → Sg → Prop) : Prop :=
  (∀ x2_5 : Int32, x2_5 = x2 + 1 → kb4 y0 x2_5 σ)
def wX12_last_b39 (x1 : Int32) (x2 : Int32) (σ : Sg) (k47 : Int32 → Sg → Prop) (kb4 : Int32 → Int32 → Sg → Prop) (Q : Int32 → Sg → Prop) : Prop :=
  wX12_last_b40 x2 x1 σ k47 kb4 Q
def wX12_last_L4 (k47 : Int32 → Sg → Prop) (Q : Int32 → Sg → Prop) : Nat → Int32 → Int32 → Sg → Prop
  | 0, _, _, _ => False
  | nn4 + 1, x1, x2, σ =>
  (((σ 0 28) ≤ x2 → k47 x1 σ) ∧ (¬ (σ 0 28) ≤ x2 → (wX12_counts x2 σ (fun r_2 σ_3 => ((r_2 = 0 → wX12_last_b39 x1 x2 σ_3 k47 (wX12_last_L4 k47 Q nn4) Q) ∧ (¬ r_2 = 0 → (vp_in x2 12 ∧ (((σ_3 18 x2.toNatClampNeg) ≤ x1 → wX12_last_b39 x1 x2 σ_3 k47 (wX12_last_L4 k47 Q nn4) Q) ∧ (¬ (σ_3 18 x2.toNatClampNeg) ≤ x1 → (vp_in x2 12 ∧ wX12_last_b40 x2 (σ_3 18 x2.toNatClampNeg) σ_3 k47 (wX12_last_L4 k47 Q nn4) Q))))))))))
def wX12_last (σ : Sg) (Q : Int32 → Sg → Prop) : Prop :=
  (∃ nf, wX12_last_L4 (fun x1_7 σ_8 => Q x1_7 σ_8) Q nf 0 0 σ)
set_option maxHeartbeats 4000000 in
set_option maxRecDepth 100000 in
theorem mX12_last_b40 {D : va_G} {cy : Nat → ClassId} {ad : Nat → Nat} (l : Launch) {p : Program} {e : Env} {s : State} {m : MethodId} {args : Array Value} {below : List Frame} {meth : Method} {c : Code} {A : Nat → Prop} {k47 : Int32 → Sg → Prop} {kb4 : Int32 → Int32 → Sg → Prop} {Q : Int32 → Sg → Prop} (X : Fx D (tyM cy) EvM p s m args meth c cX12_last 3 "BackBayModel" A) (hr : meth.sig.returnType = some .int) (x2 : Int32) (y0 : Int32) (hk47 : ∀ (x1 : Int32) (σ : Sg) (H : Heap) (locs : List Loc) (ls : Array Slot), St D ad 34 (shM cy ad) A s σ H locs → lv_has ls 3 [(1, .int x1)] → k47 x1 σ → W p l e ({ frames := 1, cells := 0, slots := 0, locals := 21 }) s m args below meth c H locs 0 0 (MQ below (va_Qi Q (PosW D (tyM cy) ad 34 (shM cy ad) A) A) args s 0 0 A) (F0 m 47 ls [])) (hkb4 : ∀ (x1 : Int32) (x2 : Int32) (σ : Sg) (H : Heap) (locs : List Loc) (ls : Array Slot), St D ad 34 (shM cy ad) A s σ H locs → lv_has ls 3 [(0, .ref (ad 0)), (1, .int x1), (2, .int x2)] → kb4 x1 x2 σ → W p l e ({ frames := 1, cells := 0, slots := 0, locals := 21 }) s m args below meth c H locs 0 0 (MQ below (va_Qi Q (PosW D (tyM cy) ad 34 (shM cy ad) A) A) args s 0 0 A) (F0 m 4 ls [])) {σ : Sg} {H : Heap} {locs : List Loc} {ls : Array Slot} (S : St D ad 34 (shM cy ad) A s σ H locs) (hl : lv_has ls 3 [(0, .ref (ad 0)), (2, .int x2)]) (h : wX12_last_b40 x2 y0 σ k47 kb4 Q) : W p l e ({ frames := 1, cells := 0, slots := 0, locals := 21 }) s m args below meth c H locs 0 0 (MQ below (va_Qi Q (PosW D (tyM cy) ad 34 (shM cy ad) A) A) args s 0 0 A) (F0 m 40 ls [.int y0]) := by
  have hx := X.1
  have hb := X.2.1
  unfold wX12_last_b40 at h
  refine lv_istore_n (lv' := [(1, .int y0), (0, .ref (ad 0)), (2, .int x2)]) hx hb dX12_last_40 rfl hl (by decide) rfl (fun ls hl => ?_)
  obtain ⟨x2_5, ex2_5⟩ : ∃ y : Int32, y = x2 + 1 := ⟨_, rfl⟩
  replace h := h x2_5 ex2_5
  refine lv_iinc (v := x2_5) (lv' := [(2, .int x2_5), (1, .int y0), (0, .ref (ad 0))]) hx hb dX12_last_41 hl (k := 2) rfl (by rw [ex2_5]; rfl) (by decide) rfl (fun ls hl => ?_)
  refine lv_goto (tgt := 4) hx hb dX12_last_44 (by decide) ?_
  exact hkb4 _ _ _ _ _ _ S (lv_sub hl [2, 1, 0] rfl) h
set_option maxHeartbeats 4000000 in
set_option maxRecDepth 100000 in
theorem mX12_last_b39 {D : va_G} {cy : Nat → ClassId} {ad : Nat → Nat} (l : Launch) {p : Program} {e : Env} {s : State} {m : MethodId} {args : Array Value} {below : List Frame} {meth : Method} {c : Code} {A : Nat → Prop} {k47 : Int32 → Sg → Prop} {kb4 : Int32 → Int32 → Sg → Prop} {Q : Int32 → Sg → Prop} (X : Fx D (tyM cy) EvM p s m args meth c cX12_last 3 "BackBayModel" A) (hr : meth.sig.returnType = some .int) (x1 : Int32) (x2 : Int32) (hk47 : ∀ (x1 : Int32) (σ : Sg) (H : Heap) (locs : List Loc) (ls : Array Slot), St D ad 34 (shM cy ad) A s σ H locs → lv_has ls 3 [(1, .int x1)] → k47 x1 σ → W p l e ({ frames := 1, cells := 0, slots := 0, locals := 21 }) s m args below meth c H locs 0 0 (MQ below (va_Qi Q (PosW D (tyM cy) ad 34 (shM cy ad) A) A) args s 0 0 A) (F0 m 47 ls [])) (hkb4 : ∀ (x1 : Int32) (x2 : Int32) (σ : Sg) (H : Heap) (locs : List Loc) (ls : Array Slot), St D ad 34 (shM cy ad) A s σ H locs → lv_has ls 3 [(0, .ref (ad 0)), (1, .int x1), (2, .int x2)] → kb4 x1 x2 σ → W p l e ({ frames := 1, cells := 0, slots := 0, locals := 21 }) s m args below meth c H locs 0 0 (MQ below (va_Qi Q (PosW D (tyM cy) ad 34 (shM cy ad) A) A) args s 0 0 A) (F0 m 4 ls [])) {σ : Sg} {H : Heap} {locs : List Loc} {ls : Array Slot} (S : St D ad 34 (shM cy ad) A s σ H locs) (hl : lv_has ls 3 [(0, .ref (ad 0)), (1, .int x1), (2, .int x2)]) (h : wX12_last_b39 x1 x2 σ k47 kb4 Q) : W p l e ({ frames := 1, cells := 0, slots := 0, locals := 21 }) s m args below meth c H locs 0 0 (MQ below (va_Qi Q (PosW D (tyM cy) ad 34 (shM cy ad) A) A) args s 0 0 A) (F0 m 39 ls []) := by
  have hx := X.1
  have hb := X.2.1
  unfold wX12_last_b39 at h
  refine lv_iload_n hx hb dX12_last_39 rfl (lv_at hl 1 rfl) ?_
  exact mX12_last_b40 l X hr x2 x1 hk47 hkb4 S (lv_sub hl [0, 2] rfl) h
set_option maxHeartbeats 4000000 in
set_option maxRecDepth 100000 in
theorem mX12_last_L4 {D : va_G} {cy : Nat → ClassId} {ad : Nat → Nat} (l : Launch) {p : Program} {e : Env} {s : State} {m : MethodId} {args : Array Value} {below : List Frame} {meth : Method} {c : Code} {A : Nat → Prop} {k47 : Int32 → Sg → Prop} {Q : Int32 → Sg → Prop} (X : Fx D (tyM cy) EvM p s m args meth c cX12_last 3 "BackBayModel" A) (hr : meth.sig.returnType = some .int) (hk47 : ∀ (x1 : Int32) (σ : Sg) (H : Heap) (locs : List Loc) (ls : Array Slot), St D ad 34 (shM cy ad) A s σ H locs → lv_has ls 3 [(1, .int x1)] → k47 x1 σ → W p l e ({ frames := 1, cells := 0, slots := 0, locals := 21 }) s m args below meth c H locs 0 0 (MQ below (va_Qi Q (PosW D (tyM cy) ad 34 (shM cy ad) A) A) args s 0 0 A) (F0 m 47 ls [])) : ∀ (n : Nat) (x1 : Int32) (x2 : Int32) (σ : Sg) (H : Heap) (locs : List Loc) (ls : Array Slot), St D ad 34 (shM cy ad) A s σ H locs → lv_has ls 3 [(0, .ref (ad 0)), (1, .int x1), (2, .int x2)] → wX12_last_L4 k47 Q n x1 x2 σ → W p l e ({ frames := 1, cells := 0, slots := 0, locals := 21 }) s m args below meth c H locs 0 0 (MQ below (va_Qi Q (PosW D (tyM cy) ad 34 (shM cy ad) A) A) args s 0 0 A) (F0 m 4 ls []) := by
  have hx := X.1
  have hb := X.2.1
  intro n
  induction n with
  | zero =>
    intro _ _ _ _ _ _ _ _ h
    exact absurd h (by unfold wX12_last_L4; exact id)
  | succ n ih =>
    intro x1 x2 σ H locs ls S hl h
    unfold wX12_last_L4 at h
    refine lv_iload_n hx hb dX12_last_4 rfl (lv_at hl 2 rfl) ?_
    refine lv_aload_n hx hb dX12_last_5 rfl (lv_at hl 0 rfl) ?_
    refine o_get X S 0 28 (by decide) rfl rfl in_12 (by decide) k_895 rfl dX12_last_6 ?_
    refine lv_icmp_ge (tgt := 47) hx hb dX12_last_9 (by decide) (fun q_1 => ?_) (fun q_1 => ?_)
    · replace h := h.1 q_1
      exact hk47 _ _ _ _ _ S (lv_sub hl [1] rfl) h
    · replace h := h.2 q_1
      refine lv_aload_n hx hb dX12_last_12 rfl (lv_at hl 0 rfl) ?_
      refine lv_iload_n hx hb dX12_last_13 rfl (lv_at hl 2 rfl) ?_
      refine o_callVi (k := 1) EvM_ok X S (mX12_counts l x2 σ _ h) (by decide) rfl rfl k_1174 k_1171 k_1173 ks_52 k_14 ⟨rfl, by decide, by decide, by decide +kernel⟩ ⟨rfl, rfl⟩ ⟨Nat.le_of_ble_eq_true rfl, Nat.le_of_ble_eq_true rfl⟩ rfl hl.1 rfl (Nat.le_of_ble_eq_true rfl) dX12_last_14 (fun r_2 σ_3 H locs h S => ?_)
      refine lv_if_eq (tgt := 39) hx hb dX12_last_17 (by decide) (fun q_4 => ?_) (fun q_4 => ?_)
      · replace h := h.1 q_4
        exact mX12_last_b39 l X hr x1 x2 hk47 ih S (lv_sub hl [0, 1, 2] rfl) h
      · replace h := h.2 q_4
        refine lv_aload_n hx hb dX12_last_20 rfl (lv_at hl 0 rfl) ?_
        refine o_get X S 0 30 (by decide) rfl rfl in_12 (by decide) k_897 rfl dX12_last_21 ?_
        refine lv_iload_n hx hb dX12_last_24 rfl (lv_at hl 2 rfl) ?_
        refine o_iald X S 18 0 (by decide) (fun _ => rfl) rfl h.1 dX12_last_25 ?_
        replace h := h.2
        refine lv_iload_n hx hb dX12_last_26 rfl (lv_at hl 1 rfl) ?_
        refine lv_icmp_le (tgt := 39) hx hb dX12_last_27 (by decide) (fun q_6 => ?_) (fun q_6 => ?_)
        · replace h := h.1 q_6
          exact mX12_last_b39 l X hr x1 x2 hk47 ih S (lv_sub hl [0, 1, 2] rfl) h
        · replace h := h.2 q_6
          refine lv_aload_n hx hb dX12_last_30 rfl (lv_at hl 0 rfl) ?_
          refine o_get X S 0 30 (by decide) rfl rfl in_12 (by decide) k_897 rfl dX12_last_31 ?_
          refine lv_iload_n hx hb dX12_last_34 rfl (lv_at hl 2 rfl) ?_
          refine o_iald X S 18 0 (by decide) (fun _ => rfl) rfl h.1 dX12_last_35 ?_
          replace h := h.2
          refine lv_goto (tgt := 40) hx hb dX12_last_36 (by decide) ?_
          exact mX12_last_b40 l X hr x2 (σ_3 18 x2.toNatClampNeg) hk47 ih S (lv_sub hl [0, 2] rfl) h
set_option maxHeartbeats 4000000 in
set_option maxRecDepth 100000 in
theorem mX12_last {D : va_G} {cy : Nat → ClassId} {ad : Nat → Nat} (l : Launch) (σ : Sg) (Q : Int32 → Sg → Prop) (h : wX12_last σ Q) : MIM D cy ad l yX12_last (.code yX12_last cX12_last 3 (some .int) :: gT) ({ frames := 1, cells := 0, slots := 0, locals := 21 }) [.ref (ad 0)] σ Q := by
  refine metI_of (by decide +kernel) (Nat.le_of_ble_eq_true rfl) ?_
  intro p e s m args below meth c A ls X hr hl S
  have X : Fx D (tyM cy) EvM p s m args meth c cX12_last 3 "BackBayModel" A := X
  have hl : lv_has ls 3 [(0, .ref (ad 0))] := hl
  have hx := X.1
  have hb := X.2.1
  unfold wX12_last at h
  refine lv_iconst (v := 0) hx hb dX12_last_0 (by decide) ?_
  refine lv_istore_n (lv' := [(1, .int 0), (0, .ref (ad 0))]) hx hb dX12_last_1 rfl hl (by decide) rfl (fun ls hl => ?_)
  refine lv_iconst (v := 0) hx hb dX12_last_2 (by decide) ?_
  refine lv_istore_n (lv' := [(2, .int 0), (1, .int 0), (0, .ref (ad 0))]) hx hb dX12_last_3 rfl hl (by decide) rfl (fun ls hl => ?_)
  obtain ⟨n_4, h⟩ := h
  refine mX12_last_L4 l X hr ?_ n_4 _ _ _ _ _ _ S (lv_sub hl [2, 1, 0] rfl) h
  · intro x1_7 σ_8 H locs ls S hl h
    refine lv_iload_n hx hb dX12_last_47 rfl (lv_at hl 0 rfl) ?_
    exact o_iret X S hr h dX12_last_48
def wX12_wishNow_b65 (x1 : Int32) (x2 : Int32) (σ : Sg) (k71 : Int32 → Sg → Prop) (kb12 : Int32 → Int32 → Sg → Prop) (Q : Int32 → Sg → Prop) : Prop :=
  (∀ x2_9 : Int32, x2_9 = x2 + 1 → kb12 x1 x2_9 σ)
def wX12_wishNow_L12 (k71 : Int32 → Sg → Prop) (Q : Int32 → Sg → Prop) : Nat → Int32 → Int32 → Sg → Prop
  | 0, _, _, _ => False
  | nn12 + 1, x1, x2, σ =>
  (((σ 0 28) ≤ x2 → k71 x1 σ) ∧ (¬ (σ 0 28) ≤ x2 → (wX12_counts x2 σ (fun r_6 σ_7 => ((r_6 = 0 → wX12_wishNow_b65 x1 x2 σ_7 k71 (wX12_wishNow_L12 k71 Q nn12) Q) ∧ (¬ r_6 = 0 → (vp_in x2 12 ∧ (vp_in x2 12 ∧ (wX12_stateAt (σ_7 18 x2.toNatClampNeg) (σ_7 17 x2.toNatClampNeg) σ_7 (fun r_10 σ_11 => (vp_in x2 12 ∧ (∀ x3_12, x3_12 = (r_10 - (σ_11 20 x2.toNatClampNeg)) → (vp_in x2 12 ∧ (∀ x1_13, x1_13 = (x1 + (((σ_11 19 x2.toNatClampNeg) * x3_12) * x3_12)) → wX12_wishNow_b65 x1_13 x2 σ_11 k71 (wX12_wishNow_L12 k71 Q nn12) Q))))))))))))))
def wX12_wishNow (σ : Sg) (Q : Int32 → Sg → Prop) : Prop :=
  (wX12_last σ (fun r_1 σ_2 => (wX12_go r_1 σ_2 (fun σ_4 => (∃ nf, wX12_wishNow_L12 (fun x1_14 σ_15 => Q x1_14 σ_15) Q nf 0 0 σ_4)))))
set_option maxHeartbeats 4000000 in
set_option maxRecDepth 100000 in
theorem mX12_wishNow_b65 {D : va_G} {cy : Nat → ClassId} {ad : Nat → Nat} (l : Launch) {p : Program} {e : Env} {s : State} {m : MethodId} {args : Array Value} {below : List Frame} {meth : Method} {c : Code} {A : Nat → Prop} {k71 : Int32 → Sg → Prop} {kb12 : Int32 → Int32 → Sg → Prop} {Q : Int32 → Sg → Prop} (X : Fx D (tyM cy) EvM p s m args meth c cX12_wishNow 4 "BackBayModel" A) (hr : meth.sig.returnType = some .int) (x1 : Int32) (x2 : Int32) (hk71 : ∀ (x1 : Int32) (σ : Sg) (H : Heap) (locs : List Loc) (ls : Array Slot), St D ad 34 (shM cy ad) A s σ H locs → lv_has ls 4 [(1, .int x1)] → k71 x1 σ → W p l e ({ frames := 7, cells := 0, slots := 0, locals := 159 }) s m args below meth c H locs 0 0 (MQ below (va_Qi Q (PosW D (tyM cy) ad 34 (shM cy ad) A) A) args s 0 0 A) (F0 m 71 ls [])) (hkb12 : ∀ (x1 : Int32) (x2 : Int32) (σ : Sg) (H : Heap) (locs : List Loc) (ls : Array Slot), St D ad 34 (shM cy ad) A s σ H locs → lv_has ls 4 [(0, .ref (ad 0)), (1, .int x1), (2, .int x2)] → kb12 x1 x2 σ → W p l e ({ frames := 7, cells := 0, slots := 0, locals := 159 }) s m args below meth c H locs 0 0 (MQ below (va_Qi Q (PosW D (tyM cy) ad 34 (shM cy ad) A) A) args s 0 0 A) (F0 m 12 ls [])) {σ : Sg} {H : Heap} {locs : List Loc} {ls : Array Slot} (S : St D ad 34 (shM cy ad) A s σ H locs) (hl : lv_has ls 4 [(0, .ref (ad 0)), (1, .int x1), (2, .int x2)]) (h : wX12_wishNow_b65 x1 x2 σ k71 kb12 Q) : W p l e ({ frames := 7, cells := 0, slots := 0, locals := 159 }) s m args below meth c H locs 0 0 (MQ below (va_Qi Q (PosW D (tyM cy) ad 34 (shM cy ad) A) A) args s 0 0 A) (F0 m 65 ls []) := by
  have hx := X.1
  have hb := X.2.1
  unfold wX12_wishNow_b65 at h
  obtain ⟨x2_9, ex2_9⟩ : ∃ y : Int32, y = x2 + 1 := ⟨_, rfl⟩
  replace h := h x2_9 ex2_9
  refine lv_iinc (v := x2_9) (lv' := [(2, .int x2_9), (0, .ref (ad 0)), (1, .int x1)]) hx hb dX12_wishNow_65 hl (k := 2) rfl (by rw [ex2_9]; rfl) (by decide) rfl (fun ls hl => ?_)
  refine lv_goto (tgt := 12) hx hb dX12_wishNow_68 (by decide) ?_
  exact hkb12 _ _ _ _ _ _ S (lv_sub hl [1, 2, 0] rfl) h
set_option maxHeartbeats 4000000 in
set_option maxRecDepth 100000 in
theorem mX12_wishNow_L12 {D : va_G} {cy : Nat → ClassId} {ad : Nat → Nat} (l : Launch) {p : Program} {e : Env} {s : State} {m : MethodId} {args : Array Value} {below : List Frame} {meth : Method} {c : Code} {A : Nat → Prop} {k71 : Int32 → Sg → Prop} {Q : Int32 → Sg → Prop} (X : Fx D (tyM cy) EvM p s m args meth c cX12_wishNow 4 "BackBayModel" A) (hr : meth.sig.returnType = some .int) (hk71 : ∀ (x1 : Int32) (σ : Sg) (H : Heap) (locs : List Loc) (ls : Array Slot), St D ad 34 (shM cy ad) A s σ H locs → lv_has ls 4 [(1, .int x1)] → k71 x1 σ → W p l e ({ frames := 7, cells := 0, slots := 0, locals := 159 }) s m args below meth c H locs 0 0 (MQ below (va_Qi Q (PosW D (tyM cy) ad 34 (shM cy ad) A) A) args s 0 0 A) (F0 m 71 ls [])) : ∀ (n : Nat) (x1 : Int32) (x2 : Int32) (σ : Sg) (H : Heap) (locs : List Loc) (ls : Array Slot), St D ad 34 (shM cy ad) A s σ H locs → lv_has ls 4 [(0, .ref (ad 0)), (1, .int x1), (2, .int x2)] → wX12_wishNow_L12 k71 Q n x1 x2 σ → W p l e ({ frames := 7, cells := 0, slots := 0, locals := 159 }) s m args below meth c H locs 0 0 (MQ below (va_Qi Q (PosW D (tyM cy) ad 34 (shM cy ad) A) A) args s 0 0 A) (F0 m 12 ls []) := by
  have hx := X.1
  have hb := X.2.1
  intro n
  induction n with
  | zero =>
    intro _ _ _ _ _ _ _ _ h
    exact absurd h (by unfold wX12_wishNow_L12; exact id)
  | succ n ih =>
    intro x1 x2 σ H locs ls S hl h
    unfold wX12_wishNow_L12 at h
    refine lv_iload_n hx hb dX12_wishNow_12 rfl (lv_at hl 2 rfl) ?_
    refine lv_aload_n hx hb dX12_wishNow_13 rfl (lv_at hl 0 rfl) ?_
    refine o_get X S 0 28 (by decide) rfl rfl in_12 (by decide) k_895 rfl dX12_wishNow_14 ?_
    refine lv_icmp_ge (tgt := 71) hx hb dX12_wishNow_17 (by decide) (fun q_5 => ?_) (fun q_5 => ?_)
    · replace h := h.1 q_5
      exact hk71 _ _ _ _ _ S (lv_sub hl [1] rfl) h
    · replace h := h.2 q_5
      refine lv_aload_n hx hb dX12_wishNow_20 rfl (lv_at hl 0 rfl) ?_
      refine lv_iload_n hx hb dX12_wishNow_21 rfl (lv_at hl 2 rfl) ?_
      refine o_callVi (k := 1) EvM_ok X S (mX12_counts l x2 σ _ h) (by decide) rfl rfl k_1174 k_1171 k_1173 ks_52 k_14 ⟨rfl, by decide, by decide, by decide +kernel⟩ ⟨rfl, rfl⟩ ⟨Nat.le_of_ble_eq_true rfl, Nat.le_of_ble_eq_true rfl⟩ rfl hl.1 rfl (Nat.le_of_ble_eq_true rfl) dX12_wishNow_22 (fun r_6 σ_7 H locs h S => ?_)
      refine lv_if_eq (tgt := 65) hx hb dX12_wishNow_25 (by decide) (fun q_8 => ?_) (fun q_8 => ?_)
      · replace h := h.1 q_8
        exact mX12_wishNow_b65 l X hr x1 x2 hk71 ih S (lv_sub hl [0, 1, 2] rfl) h
      · replace h := h.2 q_8
        refine lv_aload_n hx hb dX12_wishNow_28 rfl (lv_at hl 0 rfl) ?_
        refine lv_aload_n hx hb dX12_wishNow_29 rfl (lv_at hl 0 rfl) ?_
        refine o_get X S 0 30 (by decide) rfl rfl in_12 (by decide) k_897 rfl dX12_wishNow_30 ?_
        refine lv_iload_n hx hb dX12_wishNow_33 rfl (lv_at hl 2 rfl) ?_
        refine o_iald X S 18 0 (by decide) (fun _ => rfl) rfl h.1 dX12_wishNow_34 ?_
        replace h := h.2
        refine lv_aload_n hx hb dX12_wishNow_35 rfl (lv_at hl 0 rfl) ?_
        refine o_get X S 0 29 (by decide) rfl rfl in_12 (by decide) k_896 rfl dX12_wishNow_36 ?_
        refine lv_iload_n hx hb dX12_wishNow_39 rfl (lv_at hl 2 rfl) ?_
        refine o_iald X S 17 0 (by decide) (fun _ => rfl) rfl h.1 dX12_wishNow_40 ?_
        replace h := h.2
        refine o_callVi (k := 2) EvM_ok X S (mX12_stateAt l (σ_7 18 x2.toNatClampNeg) (σ_7 17 x2.toNatClampNeg) σ_7 _ h) (by decide) rfl rfl k_1150 k_1147 k_1149 ks_49 k_14 ⟨rfl, by decide, by decide, by decide +kernel⟩ ⟨rfl, rfl⟩ ⟨Nat.le_of_ble_eq_true rfl, Nat.le_of_ble_eq_true rfl⟩ rfl hl.1 rfl (Nat.le_of_ble_eq_true rfl) dX12_wishNow_41 (fun r_10 σ_11 H locs h S => ?_)
        refine lv_aload_n hx hb dX12_wishNow_44 rfl (lv_at hl 0 rfl) ?_
        refine o_get X S 0 32 (by decide) rfl rfl in_12 (by decide) k_899 rfl dX12_wishNow_45 ?_
        refine lv_iload_n hx hb dX12_wishNow_48 rfl (lv_at hl 2 rfl) ?_
        refine o_iald X S 20 0 (by decide) (fun _ => rfl) rfl h.1 dX12_wishNow_49 ?_
        replace h := h.2
        refine lv_isub hx hb dX12_wishNow_50 ?_
        refine lv_topi (fun x3_12 ex3_12 => ?_)
        replace h := h x3_12 ex3_12
        refine lv_istore_n (lv' := [(3, .int x3_12), (0, .ref (ad 0)), (1, .int x1), (2, .int x2)]) hx hb dX12_wishNow_51 rfl hl (by decide) rfl (fun ls hl => ?_)
        refine lv_iload_n hx hb dX12_wishNow_52 rfl (lv_at hl 2 rfl) ?_
        refine lv_aload_n hx hb dX12_wishNow_53 rfl (lv_at hl 1 rfl) ?_
        refine o_get X S 0 31 (by decide) rfl rfl in_12 (by decide) k_898 rfl dX12_wishNow_54 ?_
        refine lv_iload_n hx hb dX12_wishNow_57 rfl (lv_at hl 3 rfl) ?_
        refine o_iald X S 19 0 (by decide) (fun _ => rfl) rfl h.1 dX12_wishNow_58 ?_
        replace h := h.2
        refine lv_iload_n hx hb dX12_wishNow_59 rfl (lv_at hl 0 rfl) ?_
        refine lv_imul hx hb dX12_wishNow_60 ?_
        refine lv_iload_n hx hb dX12_wishNow_61 rfl (lv_at hl 0 rfl) ?_
        refine lv_imul hx hb dX12_wishNow_62 ?_
        refine lv_iadd hx hb dX12_wishNow_63 ?_
        refine lv_topi (fun x1_13 ex1_13 => ?_)
        replace h := h x1_13 ex1_13
        refine lv_istore_n (lv' := [(1, .int x1_13), (3, .int x3_12), (0, .ref (ad 0)), (2, .int x2)]) hx hb dX12_wishNow_64 rfl hl (by decide) rfl (fun ls hl => ?_)
        exact mX12_wishNow_b65 l X hr x1_13 x2 hk71 ih S (lv_sub hl [2, 0, 3] rfl) h
set_option maxHeartbeats 4000000 in
set_option maxRecDepth 100000 in
theorem mX12_wishNow {D : va_G} {cy : Nat → ClassId} {ad : Nat → Nat} (l : Launch) (σ : Sg) (Q : Int32 → Sg → Prop) (h : wX12_wishNow σ Q) : MIM D cy ad l yX12_wishNow (.code yX12_wishNow cX12_wishNow 4 (some .int) :: gT) ({ frames := 7, cells := 0, slots := 0, locals := 159 }) [.ref (ad 0)] σ Q := by
  refine metI_of (by decide +kernel) (Nat.le_of_ble_eq_true rfl) ?_
  intro p e s m args below meth c A ls X hr hl S
  have X : Fx D (tyM cy) EvM p s m args meth c cX12_wishNow 4 "BackBayModel" A := X
  have hl : lv_has ls 4 [(0, .ref (ad 0))] := hl
  have hx := X.1
  have hb := X.2.1
  unfold wX12_wishNow at h
  refine lv_aload_n hx hb dX12_wishNow_0 rfl (lv_at hl 0 rfl) ?_
  refine lv_aload_n hx hb dX12_wishNow_1 rfl (lv_at hl 0 rfl) ?_
  refine o_callVi (k := 0) EvM_ok X S (mX12_last l σ _ h) (by decide) rfl rfl k_1170 k_1167 k_1169 ks_51 k_14 ⟨rfl, by decide, by decide, by decide +kernel⟩ ⟨rfl, rfl⟩ ⟨Nat.le_of_ble_eq_true rfl, Nat.le_of_ble_eq_true rfl⟩ rfl hl.1 rfl (Nat.le_of_ble_eq_true rfl) dX12_wishNow_2 (fun r_1 σ_2 H locs h S => ?_)
  refine o_callVv (k := 1) EvM_ok X S (mX12_go l r_1 σ_2 _ h) (by decide) rfl rfl k_1114 k_1111 k_1113 ks_40 k_14 ⟨rfl, by decide, by decide, by decide +kernel⟩ ⟨rfl, rfl⟩ ⟨Nat.le_of_ble_eq_true rfl, Nat.le_of_ble_eq_true rfl⟩ rfl hl.1 rfl (Nat.le_of_ble_eq_true rfl) dX12_wishNow_5 (fun σ_4 H locs h S => ?_)
  refine lv_iconst (v := 0) hx hb dX12_wishNow_8 (by decide) ?_
  refine lv_istore_n (lv' := [(1, .int 0), (0, .ref (ad 0))]) hx hb dX12_wishNow_9 rfl hl (by decide) rfl (fun ls hl => ?_)
  refine lv_iconst (v := 0) hx hb dX12_wishNow_10 (by decide) ?_
  refine lv_istore_n (lv' := [(2, .int 0), (1, .int 0), (0, .ref (ad 0))]) hx hb dX12_wishNow_11 rfl hl (by decide) rfl (fun ls hl => ?_)
  obtain ⟨n_12, h⟩ := h
  refine mX12_wishNow_L12 l X hr ?_ n_12 _ _ _ _ _ _ S (lv_sub hl [2, 1, 0] rfl) h
  · intro x1_14 σ_15 H locs ls S hl h
    refine lv_iload_n hx hb dX12_wishNow_71 rfl (lv_at hl 0 rfl) ?_
    exact o_iret X S hr h dX12_wishNow_72
def wX12_wish (x1 : Int32) (σ : Sg) (Q : Int64 → Sg → Prop) : Prop :=
  ((x1 = 0 → (wX12_wishNow σ (fun r_2 σ_3 => Q (r_2.toInt64) σ_3))) ∧ (¬ x1 = 0 → ((x1 = 1 → (wX12_last σ (fun r_5 σ_6 => Q (r_5.toInt64) σ_6))) ∧ (¬ x1 = 1 → ((x1 = 2 → (wX12_last σ (fun r_8 σ_9 => (wX12_go r_8 σ_9 (fun σ_11 => Q ((σ_11 0 27).toInt64) σ_11))))) ∧ (¬ x1 = 2 → (wX12_refused 1 σ (fun r_12 σ_13 => Q r_12 σ_13))))))))
set_option maxHeartbeats 4000000 in
set_option maxRecDepth 100000 in
theorem mX12_wish {D : va_G} {cy : Nat → ClassId} {ad : Nat → Nat} (l : Launch) (x1 : Int32) (σ : Sg) (Q : Int64 → Sg → Prop) (h : wX12_wish x1 σ Q) : MLM D cy ad l yX12_wish (.code yX12_wish cX12_wish 2 (some .long) :: gT) ({ frames := 8, cells := 0, slots := 0, locals := 182 }) [.ref (ad 0), .int x1] σ Q := by
  refine metL_of (by decide +kernel) (Nat.le_of_ble_eq_true rfl) ?_
  intro p e s m args below meth c A ls X hr hl S
  have X : Fx D (tyM cy) EvM p s m args meth c cX12_wish 2 "BackBayModel" A := X
  have hl : lv_has ls 2 [(0, .ref (ad 0)), (1, .int x1)] := hl
  have hx := X.1
  have hb := X.2.1
  unfold wX12_wish at h
  refine lv_iload_n hx hb dX12_wish_0 rfl (lv_at hl 1 rfl) ?_
  by_cases q_1 : x1 = 0
  · refine lv_tableIn (tgt := 28) hx hb dX12_wish_1 (by rw [q_1] <;> decide) (by rw [q_1] <;> decide) (by rw [q_1] <;> rfl) (by decide) ?_
    replace h := h.1 q_1
    refine lv_aload_n hx hb dX12_wish_28 rfl (lv_at hl 0 rfl) ?_
    refine o_callVi (k := 0) EvM_ok X S (mX12_wishNow l σ _ h) (by decide) rfl rfl k_1166 k_1163 k_1165 ks_50 k_14 ⟨rfl, by decide, by decide, by decide +kernel⟩ ⟨rfl, rfl⟩ ⟨Nat.le_of_ble_eq_true rfl, Nat.le_of_ble_eq_true rfl⟩ rfl hl.1 rfl (Nat.le_of_ble_eq_true rfl) dX12_wish_29 (fun r_2 σ_3 H locs h S => ?_)
    refine lv_i2l hx hb dX12_wish_32 rfl ?_
    exact o_lret X S hr h dX12_wish_33
  replace h := h.2 q_1
  by_cases q_4 : x1 = 1
  · refine lv_tableIn (tgt := 34) hx hb dX12_wish_1 (by rw [q_4] <;> decide) (by rw [q_4] <;> decide) (by rw [q_4] <;> rfl) (by decide) ?_
    replace h := h.1 q_4
    refine lv_aload_n hx hb dX12_wish_34 rfl (lv_at hl 0 rfl) ?_
    refine o_callVi (k := 0) EvM_ok X S (mX12_last l σ _ h) (by decide) rfl rfl k_1170 k_1167 k_1169 ks_51 k_14 ⟨rfl, by decide, by decide, by decide +kernel⟩ ⟨rfl, rfl⟩ ⟨Nat.le_of_ble_eq_true rfl, Nat.le_of_ble_eq_true rfl⟩ rfl hl.1 rfl (Nat.le_of_ble_eq_true rfl) dX12_wish_35 (fun r_5 σ_6 H locs h S => ?_)
    refine lv_i2l hx hb dX12_wish_38 rfl ?_
    exact o_lret X S hr h dX12_wish_39
  replace h := h.2 q_4
  by_cases q_7 : x1 = 2
  · refine lv_tableIn (tgt := 40) hx hb dX12_wish_1 (by rw [q_7] <;> decide) (by rw [q_7] <;> decide) (by rw [q_7] <;> rfl) (by decide) ?_
    replace h := h.1 q_7
    refine lv_aload_n hx hb dX12_wish_40 rfl (lv_at hl 0 rfl) ?_
    refine lv_aload_n hx hb dX12_wish_41 rfl (lv_at hl 0 rfl) ?_
    refine o_callVi (k := 0) EvM_ok X S (mX12_last l σ _ h) (by decide) rfl rfl k_1170 k_1167 k_1169 ks_51 k_14 ⟨rfl, by decide, by decide, by decide +kernel⟩ ⟨rfl, rfl⟩ ⟨Nat.le_of_ble_eq_true rfl, Nat.le_of_ble_eq_true rfl⟩ rfl hl.1 rfl (Nat.le_of_ble_eq_true rfl) dX12_wish_42 (fun r_8 σ_9 H locs h S => ?_)
    refine o_callVv (k := 1) EvM_ok X S (mX12_go l r_8 σ_9 _ h) (by decide) rfl rfl k_1114 k_1111 k_1113 ks_40 k_14 ⟨rfl, by decide, by decide, by decide +kernel⟩ ⟨rfl, rfl⟩ ⟨Nat.le_of_ble_eq_true rfl, Nat.le_of_ble_eq_true rfl⟩ rfl hl.1 rfl (Nat.le_of_ble_eq_true rfl) dX12_wish_45 (fun σ_11 H locs h S => ?_)
    refine lv_aload_n hx hb dX12_wish_48 rfl (lv_at hl 0 rfl) ?_
    refine o_get X S 0 27 (by decide) rfl rfl in_12 (by decide) k_894 rfl dX12_wish_49 ?_
    refine lv_i2l hx hb dX12_wish_52 rfl ?_
    exact o_lret X S hr h dX12_wish_53
  replace h := h.2 q_7
  refine lv_tableOut (tgt := 54) hx hb dX12_wish_1 (by have r0 := lv_neT (a := 0) q_1 rfl; have r1 := lv_neT (a := 1) q_4 rfl; have r2 := lv_neT (a := 2) q_7 rfl; omega) (by decide) ?_
  refine lv_iconst (v := 1) hx hb dX12_wish_54 (by decide) ?_
  refine o_callSl (k := 1) EvM_ok X S (mX12_refused l 1 σ _ h) k_1024 k_1022 k_1023 k_14 ⟨by decide, by decide, by decide +kernel⟩ ⟨rfl, rfl⟩ ⟨Nat.le_of_ble_eq_true rfl, Nat.le_of_ble_eq_true rfl⟩ rfl hl.1 rfl (Nat.le_of_ble_eq_true rfl) dX12_wish_55 (fun r_12 σ_13 H locs h S => ?_)
  exact o_lret X S hr h dX12_wish_58
def wX12_giveSeen_b81 (σ : Sg) (Q : Sg → Prop) : Prop :=
  Q σ
def wX12_giveSeen_b67 (x1 : Int32) (x2 : Int32) (x3 : Int32) (σ : Sg) (Q : Sg → Prop) : Prop :=
  (vp_in ((x2 + x1) - 1) 10 ∧ (vp_in ((x2 + x1) - 1) 10 ∧ ∀ σ_4, σ_4 = sto σ 24 ((x2 + x1) - 1).toNatClampNeg ((σ 24 ((x2 + x1) - 1).toNatClampNeg) + x3) → wX12_giveSeen_b81 σ_4 Q))
def wX12_giveSeen_b39 (x1 : Int32) (x2 : Int32) (x3 : Int32) (σ : Sg) (Q : Sg → Prop) : Prop :=
  ((x1 = 2 → ((x2 = ((σ 0 19) - 1) → (vp_in 1 2 ∧ (vp_in 1 2 ∧ ∀ σ_6, σ_6 = sto σ 25 1 ((σ 25 1) + x3) → wX12_giveSeen_b81 σ_6 Q))) ∧ (¬ x2 = ((σ 0 19) - 1) → wX12_giveSeen_b67 x1 x2 x3 σ Q))) ∧ (¬ x1 = 2 → wX12_giveSeen_b67 x1 x2 x3 σ Q))
def wX12_giveSeen (x1 : Int32) (x2 : Int32) (x3 : Int32) (σ : Sg) (Q : Sg → Prop) : Prop :=
  ((x1 = 3 → (vp_in x2 10 ∧ (vp_in x2 10 ∧ ∀ σ_9, σ_9 = sto σ 22 x2.toNatClampNeg ((σ 22 x2.toNatClampNeg) + x3) → wX12_giveSeen_b81 σ_9 Q))) ∧ (¬ x1 = 3 → ((x1 = 0 → ((x2 = 0 → (vp_in 0 2 ∧ (vp_in 0 2 ∧ ∀ σ_8, σ_8 = sto σ 25 0 ((σ 25 0) + x3) → wX12_giveSeen_b81 σ_8 Q))) ∧ (¬ x2 = 0 → wX12_giveSeen_b39 x1 x2 x3 σ Q))) ∧ (¬ x1 = 0 → wX12_giveSeen_b39 x1 x2 x3 σ Q))))
set_option maxHeartbeats 4000000 in
set_option maxRecDepth 100000 in
theorem mX12_giveSeen_b81 {D : va_G} {cy : Nat → ClassId} {ad : Nat → Nat} (l : Launch) {p : Program} {e : Env} {s : State} {m : MethodId} {args : Array Value} {below : List Frame} {meth : Method} {c : Code} {A : Nat → Prop} {Q : Sg → Prop} (X : Fx D (tyM cy) EvM p s m args meth c cX12_giveSeen 4 "BackBayModel" A) (hr : meth.sig.returnType = none) {σ : Sg} {H : Heap} {locs : List Loc} {ls : Array Slot} (S : St D ad 34 (shM cy ad) A s σ H locs) (hl : lv_has ls 4 []) (h : wX12_giveSeen_b81 σ Q) : W p l e ({ frames := 0, cells := 0, slots := 0, locals := 0 }) s m args below meth c H locs 0 0 (MQ below (va_Qv Q (PosW D (tyM cy) ad 34 (shM cy ad) A) A) args s 0 0 A) (F0 m 81 ls []) := by
  have hx := X.1
  have hb := X.2.1
  unfold wX12_giveSeen_b81 at h
  exact o_vret X S hr h dX12_giveSeen_81
set_option maxHeartbeats 4000000 in
set_option maxRecDepth 100000 in
theorem mX12_giveSeen_b67 {D : va_G} {cy : Nat → ClassId} {ad : Nat → Nat} (l : Launch) {p : Program} {e : Env} {s : State} {m : MethodId} {args : Array Value} {below : List Frame} {meth : Method} {c : Code} {A : Nat → Prop} {Q : Sg → Prop} (X : Fx D (tyM cy) EvM p s m args meth c cX12_giveSeen 4 "BackBayModel" A) (hr : meth.sig.returnType = none) (x1 : Int32) (x2 : Int32) (x3 : Int32) {σ : Sg} {H : Heap} {locs : List Loc} {ls : Array Slot} (S : St D ad 34 (shM cy ad) A s σ H locs) (hl : lv_has ls 4 [(0, .ref (ad 0)), (1, .int x1), (2, .int x2), (3, .int x3)]) (h : wX12_giveSeen_b67 x1 x2 x3 σ Q) : W p l e ({ frames := 0, cells := 0, slots := 0, locals := 0 }) s m args below meth c H locs 0 0 (MQ below (va_Qv Q (PosW D (tyM cy) ad 34 (shM cy ad) A) A) args s 0 0 A) (F0 m 67 ls []) := by
  have hx := X.1
  have hb := X.2.1
  unfold wX12_giveSeen_b67 at h
  refine lv_aload_n hx hb dX12_giveSeen_67 rfl (lv_at hl 0 rfl) ?_
  refine o_get X S 0 36 (by decide) rfl rfl in_12 (by decide) k_903 rfl dX12_giveSeen_68 ?_
  refine lv_iload_n hx hb dX12_giveSeen_71 rfl (lv_at hl 2 rfl) ?_
  refine lv_iload_n hx hb dX12_giveSeen_72 rfl (lv_at hl 1 rfl) ?_
  refine lv_iadd hx hb dX12_giveSeen_73 ?_
  refine lv_iconst (v := 1) hx hb dX12_giveSeen_74 (by decide) ?_
  refine lv_isub hx hb dX12_giveSeen_75 ?_
  refine lv_dup2_11 hx hb dX12_giveSeen_76 rfl rfl ?_
  refine o_iald X S 24 0 (by decide) (fun _ => rfl) rfl h.1 dX12_giveSeen_77 ?_
  replace h := h.2
  refine lv_iload_n hx hb dX12_giveSeen_78 rfl (lv_at hl 3 rfl) ?_
  refine lv_iadd hx hb dX12_giveSeen_79 ?_
  refine o_iast X S 24 0 (by decide) (fun _ => rfl) rfl h.1 dX12_giveSeen_80 (fun σ_4 H locs eσ_4 S => ?_)
  replace h := h.2 σ_4 eσ_4
  exact mX12_giveSeen_b81 l X hr S (lv_sub hl [] rfl) h
set_option maxHeartbeats 4000000 in
set_option maxRecDepth 100000 in
theorem mX12_giveSeen_b39 {D : va_G} {cy : Nat → ClassId} {ad : Nat → Nat} (l : Launch) {p : Program} {e : Env} {s : State} {m : MethodId} {args : Array Value} {below : List Frame} {meth : Method} {c : Code} {A : Nat → Prop} {Q : Sg → Prop} (X : Fx D (tyM cy) EvM p s m args meth c cX12_giveSeen 4 "BackBayModel" A) (hr : meth.sig.returnType = none) (x1 : Int32) (x2 : Int32) (x3 : Int32) {σ : Sg} {H : Heap} {locs : List Loc} {ls : Array Slot} (S : St D ad 34 (shM cy ad) A s σ H locs) (hl : lv_has ls 4 [(0, .ref (ad 0)), (1, .int x1), (2, .int x2), (3, .int x3)]) (h : wX12_giveSeen_b39 x1 x2 x3 σ Q) : W p l e ({ frames := 0, cells := 0, slots := 0, locals := 0 }) s m args below meth c H locs 0 0 (MQ below (va_Qv Q (PosW D (tyM cy) ad 34 (shM cy ad) A) A) args s 0 0 A) (F0 m 39 ls []) := by
  have hx := X.1
  have hb := X.2.1
  unfold wX12_giveSeen_b39 at h
  refine lv_iload_n hx hb dX12_giveSeen_39 rfl (lv_at hl 1 rfl) ?_
  refine lv_iconst (v := 2) hx hb dX12_giveSeen_40 (by decide) ?_
  refine lv_icmp_ne (tgt := 67) hx hb dX12_giveSeen_41 (by decide) (fun q_3 => ?_) (fun q_3 => ?_)
  · replace h := h.2 q_3
    exact mX12_giveSeen_b67 l X hr x1 x2 x3 S (lv_sub hl [0, 1, 2, 3] rfl) h
  · replace h := h.1 q_3
    refine lv_iload_n hx hb dX12_giveSeen_44 rfl (lv_at hl 2 rfl) ?_
    refine lv_aload_n hx hb dX12_giveSeen_45 rfl (lv_at hl 0 rfl) ?_
    refine o_get X S 0 19 (by decide) rfl rfl in_12 (by decide) k_886 rfl dX12_giveSeen_46 ?_
    refine lv_iconst (v := 1) hx hb dX12_giveSeen_49 (by decide) ?_
    refine lv_isub hx hb dX12_giveSeen_50 ?_
    refine lv_icmp_ne (tgt := 67) hx hb dX12_giveSeen_51 (by decide) (fun q_5 => ?_) (fun q_5 => ?_)
    · replace h := h.2 q_5
      exact mX12_giveSeen_b67 l X hr x1 x2 x3 S (lv_sub hl [0, 1, 2, 3] rfl) h
    · replace h := h.1 q_5
      refine lv_aload_n hx hb dX12_giveSeen_54 rfl (lv_at hl 0 rfl) ?_
      refine o_get X S 0 37 (by decide) rfl rfl in_12 (by decide) k_904 rfl dX12_giveSeen_55 ?_
      refine lv_iconst (v := 1) hx hb dX12_giveSeen_58 (by decide) ?_
      refine lv_dup2_11 hx hb dX12_giveSeen_59 rfl rfl ?_
      refine o_iald X S 25 0 (by decide) (fun _ => rfl) rfl h.1 dX12_giveSeen_60 ?_
      replace h := h.2
      refine lv_iload_n hx hb dX12_giveSeen_61 rfl (lv_at hl 3 rfl) ?_
      refine lv_iadd hx hb dX12_giveSeen_62 ?_
      refine o_iast X S 25 0 (by decide) (fun _ => rfl) rfl h.1 dX12_giveSeen_63 (fun σ_6 H locs eσ_6 S => ?_)
      replace h := h.2 σ_6 eσ_6
      refine lv_goto (tgt := 81) hx hb dX12_giveSeen_64 (by decide) ?_
      exact mX12_giveSeen_b81 l X hr S (lv_sub hl [] rfl) h
set_option maxHeartbeats 4000000 in
set_option maxRecDepth 100000 in
theorem mX12_giveSeen {D : va_G} {cy : Nat → ClassId} {ad : Nat → Nat} (l : Launch) (x1 : Int32) (x2 : Int32) (x3 : Int32) (σ : Sg) (Q : Sg → Prop) (h : wX12_giveSeen x1 x2 x3 σ Q) : MVM D cy ad l yX12_giveSeen (.code yX12_giveSeen cX12_giveSeen 4 none :: gT) ({ frames := 0, cells := 0, slots := 0, locals := 0 }) [.ref (ad 0), .int x1, .int x2, .int x3] σ Q := by
  refine metV_of (by decide +kernel) (Nat.le_of_ble_eq_true rfl) ?_
  intro p e s m args below meth c A ls X hr hl S
  have X : Fx D (tyM cy) EvM p s m args meth c cX12_giveSeen 4 "BackBayModel" A := X
  have hl : lv_has ls 4 [(0, .ref (ad 0)), (1, .int x1), (2, .int x2), (3, .int x3)] := hl
  have hx := X.1
  have hb := X.2.1
  unfold wX12_giveSeen at h
  refine lv_iload_n hx hb dX12_giveSeen_0 rfl (lv_at hl 1 rfl) ?_
  refine lv_iconst (v := 3) hx hb dX12_giveSeen_1 (by decide) ?_
  refine lv_icmp_ne (tgt := 18) hx hb dX12_giveSeen_2 (by decide) (fun q_1 => ?_) (fun q_1 => ?_)
  · replace h := h.2 q_1
    refine lv_iload_n hx hb dX12_giveSeen_18 rfl (lv_at hl 1 rfl) ?_
    refine lv_if_ne (tgt := 39) hx hb dX12_giveSeen_19 (by decide) (fun q_2 => ?_) (fun q_2 => ?_)
    · replace h := h.2 q_2
      exact mX12_giveSeen_b39 l X hr x1 x2 x3 S (lv_sub hl [0, 1, 2, 3] rfl) h
    · replace h := h.1 q_2
      refine lv_iload_n hx hb dX12_giveSeen_22 rfl (lv_at hl 2 rfl) ?_
      refine lv_if_ne (tgt := 39) hx hb dX12_giveSeen_23 (by decide) (fun q_7 => ?_) (fun q_7 => ?_)
      · replace h := h.2 q_7
        exact mX12_giveSeen_b39 l X hr x1 x2 x3 S (lv_sub hl [0, 1, 2, 3] rfl) h
      · replace h := h.1 q_7
        refine lv_aload_n hx hb dX12_giveSeen_26 rfl (lv_at hl 0 rfl) ?_
        refine o_get X S 0 37 (by decide) rfl rfl in_12 (by decide) k_904 rfl dX12_giveSeen_27 ?_
        refine lv_iconst (v := 0) hx hb dX12_giveSeen_30 (by decide) ?_
        refine lv_dup2_11 hx hb dX12_giveSeen_31 rfl rfl ?_
        refine o_iald X S 25 0 (by decide) (fun _ => rfl) rfl h.1 dX12_giveSeen_32 ?_
        replace h := h.2
        refine lv_iload_n hx hb dX12_giveSeen_33 rfl (lv_at hl 3 rfl) ?_
        refine lv_iadd hx hb dX12_giveSeen_34 ?_
        refine o_iast X S 25 0 (by decide) (fun _ => rfl) rfl h.1 dX12_giveSeen_35 (fun σ_8 H locs eσ_8 S => ?_)
        replace h := h.2 σ_8 eσ_8
        refine lv_goto (tgt := 81) hx hb dX12_giveSeen_36 (by decide) ?_
        exact mX12_giveSeen_b81 l X hr S (lv_sub hl [] rfl) h
  · replace h := h.1 q_1
    refine lv_aload_n hx hb dX12_giveSeen_5 rfl (lv_at hl 0 rfl) ?_
    refine o_get X S 0 34 (by decide) rfl rfl in_12 (by decide) k_901 rfl dX12_giveSeen_6 ?_
    refine lv_iload_n hx hb dX12_giveSeen_9 rfl (lv_at hl 2 rfl) ?_
    refine lv_dup2_11 hx hb dX12_giveSeen_10 rfl rfl ?_
    refine o_iald X S 22 0 (by decide) (fun _ => rfl) rfl h.1 dX12_giveSeen_11 ?_
    replace h := h.2
    refine lv_iload_n hx hb dX12_giveSeen_12 rfl (lv_at hl 3 rfl) ?_
    refine lv_iadd hx hb dX12_giveSeen_13 ?_
    refine o_iast X S 22 0 (by decide) (fun _ => rfl) rfl h.1 dX12_giveSeen_14 (fun σ_9 H locs eσ_9 S => ?_)
    replace h := h.2 σ_9 eσ_9
    refine lv_goto (tgt := 81) hx hb dX12_giveSeen_15 (by decide) ?_
    exact mX12_giveSeen_b81 l X hr S (lv_sub hl [] rfl) h
def wX12_giveBack_b56 (x1 : Int32) (x3 : Int32) (x4 : Int32) (x5 : Int32) (y0 : Int32) (y1 : Int32) (σ : Sg) (k63 : Sg → Prop) (kb20 : Int32 → Sg → Prop) (Q : Sg → Prop) : Prop :=
  (vp_in y1 60 ∧ ∀ σ_6, σ_6 = sto σ 16 y1.toNatClampNeg y0 → (∀ x5_7 : Int32, x5_7 = x5 + 1 → kb20 x5_7 σ_6))
def wX12_giveBack_L20 (x1 : Int32) (x3 : Int32) (x4 : Int32) (k63 : Sg → Prop) (Q : Sg → Prop) : Nat → Int32 → Sg → Prop
  | 0, _, _ => False
  | nn20 + 1, x5, σ =>
  (vp_in (x1 + 1) 8 ∧ (((σ 5 (x1 + 1).toNatClampNeg) ≤ x5 → k63 σ) ∧ (¬ (σ 5 (x1 + 1).toNatClampNeg) ≤ x5 → ((x5 = x4 → (vp_in x3 10 ∧ wX12_giveBack_b56 x1 x3 x4 x5 (σ 23 x3.toNatClampNeg) x5 σ k63 (wX12_giveBack_L20 x1 x3 x4 k63 Q nn20) Q)) ∧ (¬ x5 = x4 → wX12_giveBack_b56 x1 x3 x4 x5 0 x5 σ k63 (wX12_giveBack_L20 x1 x3 x4 k63 Q nn20) Q)))))
def wX12_giveBack_b269 (x1 : Int32) (x3 : Int32) (x5 : Int32) (σ : Sg) (k275 : Sg → Prop) (kb67 : Int32 → Sg → Prop) (Q : Sg → Prop) : Prop :=
  (∀ x5_12 : Int32, x5_12 = x5 + 1 → kb67 x5_12 σ)
def wX12_giveBack_b248 (x1 : Int32) (x3 : Int32) (x5 : Int32) (y0 : Int32) (y1 : Int32) (y2 : Int32) (σ : Sg) (k275 : Sg → Prop) (kb67 : Int32 → Sg → Prop) (Q : Sg → Prop) : Prop :=
  (vp_in y2 60 ∧ ∀ σ_24, σ_24 = sto σ 16 y2.toNatClampNeg (y1 + y0) → wX12_giveBack_b269 x1 x3 x5 σ_24 k275 kb67 Q)
def wX12_giveBack_b193 (x1 : Int32) (x3 : Int32) (x5 : Int32) (x6 : Int32) (x7 : Int32) (x8 : Int32) (y0 : Int32) (y1 : Int32) (y2 : Int32) (σ : Sg) (k275 : Sg → Prop) (kb67 : Int32 → Sg → Prop) (Q : Sg → Prop) : Prop :=
  (vp_in y2 60 ∧ ∀ σ_21, σ_21 = sto σ 16 y2.toNatClampNeg (y1 + y0) → (vp_in x8 60 ∧ (vp_in x5 120 ∧ (((σ_21 7 x5.toNatClampNeg) = 42 → (vp_in x7 60 ∧ wX12_giveBack_b248 x1 x3 x5 (x6 * (σ_21 14 x7.toNatClampNeg)) (σ_21 16 x8.toNatClampNeg) x8 σ_21 k275 kb67 Q)) ∧ (¬ (σ_21 7 x5.toNatClampNeg) = 42 → (vp_in x5 120 ∧ (((σ_21 7 x5.toNatClampNeg) = 45 → wX12_giveBack_b248 x1 x3 x5 (-x6) (σ_21 16 x8.toNatClampNeg) x8 σ_21 k275 kb67 Q) ∧ (¬ (σ_21 7 x5.toNatClampNeg) = 45 → wX12_giveBack_b248 x1 x3 x5 x6 (σ_21 16 x8.toNatClampNeg) x8 σ_21 k275 kb67 Q))))))))
def wX12_giveBack_L67 (x1 : Int32) (x3 : Int32) (k275 : Sg → Prop) (Q : Sg → Prop) : Nat → Int32 → Sg → Prop
  | 0, _, _ => False
  | nn67 + 1, x5, σ =>
  (vp_in (x1 + 1) 8 ∧ (((σ 5 (x1 + 1).toNatClampNeg) ≤ x5 → k275 σ) ∧ (¬ (σ 5 (x1 + 1).toNatClampNeg) ≤ x5 → (vp_in x5 60 ∧ (∀ x6_10, x6_10 = (σ 16 x5.toNatClampNeg) → (vp_in x5 120 ∧ (((σ 6 x5.toNatClampNeg) = 1 → wX12_giveBack_b269 x1 x3 x5 σ k275 (wX12_giveBack_L67 x1 x3 k275 Q nn67) Q) ∧ (¬ (σ 6 x5.toNatClampNeg) = 1 → (((σ 6 x5.toNatClampNeg) = 2 → (vp_in x5 120 ∧ (wX12_giveSeen (σ 7 x5.toNatClampNeg) x3 x6_10 σ (fun σ_15 => wX12_giveBack_b269 x1 x3 x5 σ_15 k275 (wX12_giveBack_L67 x1 x3 k275 Q nn67) Q)))) ∧ (¬ (σ 6 x5.toNatClampNeg) = 2 → (((σ 6 x5.toNatClampNeg) = 3 → (∀ x7_17, x7_17 = (x5 + 1) → (wX12_second x5 σ (fun r_18 σ_19 => (vp_in x7_17 60 ∧ (vp_in x5 120 ∧ (((σ_19 7 x5.toNatClampNeg) = 42 → (vp_in r_18 60 ∧ wX12_giveBack_b193 x1 x3 x5 x6_10 x7_17 r_18 (x6_10 * (σ_19 14 r_18.toNatClampNeg)) (σ_19 16 x7_17.toNatClampNeg) x7_17 σ_19 k275 (wX12_giveBack_L67 x1 x3 k275 Q nn67) Q)) ∧ (¬ (σ_19 7 x5.toNatClampNeg) = 42 → wX12_giveBack_b193 x1 x3 x5 x6_10 x7_17 r_18 x6_10 (σ_19 16 x7_17.toNatClampNeg) x7_17 σ_19 k275 (wX12_giveBack_L67 x1 x3 k275 Q nn67) Q)))))))) ∧ (¬ (σ 6 x5.toNatClampNeg) = 3 → (wX12_takenOf x5 σ (fun r_25 σ_26 => (vp_in r_25 60 ∧ (vp_in r_25 60 ∧ ∀ σ_27, σ_27 = sto σ_26 16 r_25.toNatClampNeg ((σ_26 16 r_25.toNatClampNeg) + x6_10) → wX12_giveBack_b269 x1 x3 x5 σ_27 k275 (wX12_giveBack_L67 x1 x3 k275 Q nn67) Q))))))))))))))))
def wX12_giveBack (x1 : Int32) (x2 : Int32) (x3 : Int32) (σ : Sg) (Q : Sg → Prop) : Prop :=
  (wX12_work x1 x2 x3 σ (fun r_1 σ_2 => (vp_in x1 8 ∧ (∀ x4_3, x4_3 = (σ_2 5 x1.toNatClampNeg) → (∃ nf, wX12_giveBack_L20 x1 x3 x4_3 (fun σ_8 => (∃ nf, wX12_giveBack_L67 x1 x3 (fun σ_28 => Q σ_28) Q nf x4_3 σ_8)) Q nf x4_3 σ_2)))))
set_option maxHeartbeats 4000000 in
set_option maxRecDepth 100000 in
theorem mX12_giveBack_b56 {D : va_G} {cy : Nat → ClassId} {ad : Nat → Nat} (l : Launch) {p : Program} {e : Env} {s : State} {m : MethodId} {args : Array Value} {below : List Frame} {meth : Method} {c : Code} {A : Nat → Prop} {k63 : Sg → Prop} {kb20 : Int32 → Sg → Prop} {Q : Sg → Prop} (X : Fx D (tyM cy) EvM p s m args meth c cX12_giveBack 9 "BackBayModel" A) (hr : meth.sig.returnType = none) (x1 : Int32) (x3 : Int32) (x4 : Int32) (x5 : Int32) (y0 : Int32) (y1 : Int32) (hk63 : ∀ (σ : Sg) (H : Heap) (locs : List Loc) (ls : Array Slot), St D ad 34 (shM cy ad) A s σ H locs → lv_has ls 9 [(0, .ref (ad 0)), (1, .int x1), (3, .int x3), (4, .int x4)] → k63 σ → W p l e ({ frames := 6, cells := 0, slots := 0, locals := 136 }) s m args below meth c H locs 0 0 (MQ below (va_Qv Q (PosW D (tyM cy) ad 34 (shM cy ad) A) A) args s 0 0 A) (F0 m 63 ls [])) (hkb20 : ∀ (x5 : Int32) (σ : Sg) (H : Heap) (locs : List Loc) (ls : Array Slot), St D ad 34 (shM cy ad) A s σ H locs → lv_has ls 9 [(0, .ref (ad 0)), (1, .int x1), (3, .int x3), (4, .int x4), (5, .int x5)] → kb20 x5 σ → W p l e ({ frames := 6, cells := 0, slots := 0, locals := 136 }) s m args below meth c H locs 0 0 (MQ below (va_Qv Q (PosW D (tyM cy) ad 34 (shM cy ad) A) A) args s 0 0 A) (F0 m 20 ls [])) {σ : Sg} {H : Heap} {locs : List Loc} {ls : Array Slot} (S : St D ad 34 (shM cy ad) A s σ H locs) (hl : lv_has ls 9 [(0, .ref (ad 0)), (1, .int x1), (3, .int x3), (4, .int x4), (5, .int x5)]) (h : wX12_giveBack_b56 x1 x3 x4 x5 y0 y1 σ k63 kb20 Q) : W p l e ({ frames := 6, cells := 0, slots := 0, locals := 136 }) s m args below meth c H locs 0 0 (MQ below (va_Qv Q (PosW D (tyM cy) ad 34 (shM cy ad) A) A) args s 0 0 A) (F0 m 56 ls [.int y0, .int y1, .ref (ad 16)]) := by
  have hx := X.1
  have hb := X.2.1
  unfold wX12_giveBack_b56 at h
  refine o_iast X S 16 0 (by decide) (fun _ => rfl) rfl h.1 dX12_giveBack_56 (fun σ_6 H locs eσ_6 S => ?_)
  replace h := h.2 σ_6 eσ_6
  obtain ⟨x5_7, ex5_7⟩ : ∃ y : Int32, y = x5 + 1 := ⟨_, rfl⟩
  replace h := h x5_7 ex5_7
  refine lv_iinc (v := x5_7) (lv' := [(5, .int x5_7), (0, .ref (ad 0)), (1, .int x1), (3, .int x3), (4, .int x4)]) hx hb dX12_giveBack_57 hl (k := 4) rfl (by rw [ex5_7]; rfl) (by decide) rfl (fun ls hl => ?_)
  refine lv_goto (tgt := 20) hx hb dX12_giveBack_60 (by decide) ?_
  exact hkb20 _ _ _ _ _ S (lv_sub hl [1, 2, 3, 4, 0] rfl) h
set_option maxHeartbeats 4000000 in
set_option maxRecDepth 100000 in
theorem mX12_giveBack_L20 {D : va_G} {cy : Nat → ClassId} {ad : Nat → Nat} (l : Launch) {p : Program} {e : Env} {s : State} {m : MethodId} {args : Array Value} {below : List Frame} {meth : Method} {c : Code} {A : Nat → Prop} {k63 : Sg → Prop} {Q : Sg → Prop} (X : Fx D (tyM cy) EvM p s m args meth c cX12_giveBack 9 "BackBayModel" A) (hr : meth.sig.returnType = none) (x1 : Int32) (x3 : Int32) (x4 : Int32) (hk63 : ∀ (σ : Sg) (H : Heap) (locs : List Loc) (ls : Array Slot), St D ad 34 (shM cy ad) A s σ H locs → lv_has ls 9 [(0, .ref (ad 0)), (1, .int x1), (3, .int x3), (4, .int x4)] → k63 σ → W p l e ({ frames := 6, cells := 0, slots := 0, locals := 136 }) s m args below meth c H locs 0 0 (MQ below (va_Qv Q (PosW D (tyM cy) ad 34 (shM cy ad) A) A) args s 0 0 A) (F0 m 63 ls [])) : ∀ (n : Nat) (x5 : Int32) (σ : Sg) (H : Heap) (locs : List Loc) (ls : Array Slot), St D ad 34 (shM cy ad) A s σ H locs → lv_has ls 9 [(0, .ref (ad 0)), (1, .int x1), (3, .int x3), (4, .int x4), (5, .int x5)] → wX12_giveBack_L20 x1 x3 x4 k63 Q n x5 σ → W p l e ({ frames := 6, cells := 0, slots := 0, locals := 136 }) s m args below meth c H locs 0 0 (MQ below (va_Qv Q (PosW D (tyM cy) ad 34 (shM cy ad) A) A) args s 0 0 A) (F0 m 20 ls []) := by
  have hx := X.1
  have hb := X.2.1
  intro n
  induction n with
  | zero =>
    intro _ _ _ _ _ _ _ h
    exact absurd h (by unfold wX12_giveBack_L20; exact id)
  | succ n ih =>
    intro x5 σ H locs ls S hl h
    unfold wX12_giveBack_L20 at h
    refine lv_iload hx hb dX12_giveBack_20 (lv_at hl 4 rfl) ?_
    refine lv_aload_n hx hb dX12_giveBack_22 rfl (lv_at hl 0 rfl) ?_
    refine o_get X S 0 8 (by decide) rfl rfl in_12 (by decide) k_875 rfl dX12_giveBack_23 ?_
    refine lv_iload_n hx hb dX12_giveBack_26 rfl (lv_at hl 1 rfl) ?_
    refine lv_iconst (v := 1) hx hb dX12_giveBack_27 (by decide) ?_
    refine lv_iadd hx hb dX12_giveBack_28 ?_
    refine o_iald X S 5 0 (by decide) (fun _ => rfl) rfl h.1 dX12_giveBack_29 ?_
    replace h := h.2
    refine lv_icmp_ge (tgt := 63) hx hb dX12_giveBack_30 (by decide) (fun q_4 => ?_) (fun q_4 => ?_)
    · replace h := h.1 q_4
      exact hk63 _ _ _ _ S (lv_sub hl [0, 1, 2, 3] rfl) h
    · replace h := h.2 q_4
      refine lv_aload_n hx hb dX12_giveBack_33 rfl (lv_at hl 0 rfl) ?_
      refine o_get X S 0 26 (by decide) rfl rfl in_12 (by decide) k_893 rfl dX12_giveBack_34 ?_
      refine lv_iload hx hb dX12_giveBack_37 (lv_at hl 4 rfl) ?_
      refine lv_iload hx hb dX12_giveBack_39 (lv_at hl 4 rfl) ?_
      refine lv_iload hx hb dX12_giveBack_41 (lv_at hl 3 rfl) ?_
      refine lv_icmp_ne (tgt := 55) hx hb dX12_giveBack_43 (by decide) (fun q_5 => ?_) (fun q_5 => ?_)
      · replace h := h.2 q_5
        refine lv_iconst (v := 0) hx hb dX12_giveBack_55 (by decide) ?_
        exact mX12_giveBack_b56 l X hr x1 x3 x4 x5 0 x5 hk63 ih S (lv_sub hl [0, 1, 2, 3, 4] rfl) h
      · replace h := h.1 q_5
        refine lv_aload_n hx hb dX12_giveBack_46 rfl (lv_at hl 0 rfl) ?_
        refine o_get X S 0 35 (by decide) rfl rfl in_12 (by decide) k_902 rfl dX12_giveBack_47 ?_
        refine lv_iload_n hx hb dX12_giveBack_50 rfl (lv_at hl 2 rfl) ?_
        refine o_iald X S 23 0 (by decide) (fun _ => rfl) rfl h.1 dX12_giveBack_51 ?_
        replace h := h.2
        refine lv_goto (tgt := 56) hx hb dX12_giveBack_52 (by decide) ?_
        exact mX12_giveBack_b56 l X hr x1 x3 x4 x5 (σ 23 x3.toNatClampNeg) x5 hk63 ih S (lv_sub hl [0, 1, 2, 3, 4] rfl) h
set_option maxHeartbeats 4000000 in
set_option maxRecDepth 100000 in
theorem mX12_giveBack_b269 {D : va_G} {cy : Nat → ClassId} {ad : Nat → Nat} (l : Launch) {p : Program} {e : Env} {s : State} {m : MethodId} {args : Array Value} {below : List Frame} {meth : Method} {c : Code} {A : Nat → Prop} {k275 : Sg → Prop} {kb67 : Int32 → Sg → Prop} {Q : Sg → Prop} (X : Fx D (tyM cy) EvM p s m args meth c cX12_giveBack 9 "BackBayModel" A) (hr : meth.sig.returnType = none) (x1 : Int32) (x3 : Int32) (x5 : Int32) (hk275 : ∀ (σ : Sg) (H : Heap) (locs : List Loc) (ls : Array Slot), St D ad 34 (shM cy ad) A s σ H locs → lv_has ls 9 [] → k275 σ → W p l e ({ frames := 6, cells := 0, slots := 0, locals := 136 }) s m args below meth c H locs 0 0 (MQ below (va_Qv Q (PosW D (tyM cy) ad 34 (shM cy ad) A) A) args s 0 0 A) (F0 m 275 ls [])) (hkb67 : ∀ (x5 : Int32) (σ : Sg) (H : Heap) (locs : List Loc) (ls : Array Slot), St D ad 34 (shM cy ad) A s σ H locs → lv_has ls 9 [(0, .ref (ad 0)), (1, .int x1), (3, .int x3), (5, .int x5)] → kb67 x5 σ → W p l e ({ frames := 6, cells := 0, slots := 0, locals := 136 }) s m args below meth c H locs 0 0 (MQ below (va_Qv Q (PosW D (tyM cy) ad 34 (shM cy ad) A) A) args s 0 0 A) (F0 m 67 ls [])) {σ : Sg} {H : Heap} {locs : List Loc} {ls : Array Slot} (S : St D ad 34 (shM cy ad) A s σ H locs) (hl : lv_has ls 9 [(0, .ref (ad 0)), (1, .int x1), (3, .int x3), (5, .int x5)]) (h : wX12_giveBack_b269 x1 x3 x5 σ k275 kb67 Q) : W p l e ({ frames := 6, cells := 0, slots := 0, locals := 136 }) s m args below meth c H locs 0 0 (MQ below (va_Qv Q (PosW D (tyM cy) ad 34 (shM cy ad) A) A) args s 0 0 A) (F0 m 269 ls []) := by
  have hx := X.1
  have hb := X.2.1
  unfold wX12_giveBack_b269 at h
  obtain ⟨x5_12, ex5_12⟩ : ∃ y : Int32, y = x5 + 1 := ⟨_, rfl⟩
  replace h := h x5_12 ex5_12
  refine lv_iinc (v := x5_12) (lv' := [(5, .int x5_12), (0, .ref (ad 0)), (1, .int x1), (3, .int x3)]) hx hb dX12_giveBack_269 hl (k := 3) rfl (by rw [ex5_12]; rfl) (by decide) rfl (fun ls hl => ?_)
  refine lv_goto (tgt := 67) hx hb dX12_giveBack_272 (by decide) ?_
  exact hkb67 _ _ _ _ _ S (lv_sub hl [1, 2, 3, 0] rfl) h
set_option maxHeartbeats 4000000 in
set_option maxRecDepth 100000 in
theorem mX12_giveBack_b248 {D : va_G} {cy : Nat → ClassId} {ad : Nat → Nat} (l : Launch) {p : Program} {e : Env} {s : State} {m : MethodId} {args : Array Value} {below : List Frame} {meth : Method} {c : Code} {A : Nat → Prop} {k275 : Sg → Prop} {kb67 : Int32 → Sg → Prop} {Q : Sg → Prop} (X : Fx D (tyM cy) EvM p s m args meth c cX12_giveBack 9 "BackBayModel" A) (hr : meth.sig.returnType = none) (x1 : Int32) (x3 : Int32) (x5 : Int32) (y0 : Int32) (y1 : Int32) (y2 : Int32) (hk275 : ∀ (σ : Sg) (H : Heap) (locs : List Loc) (ls : Array Slot), St D ad 34 (shM cy ad) A s σ H locs → lv_has ls 9 [] → k275 σ → W p l e ({ frames := 6, cells := 0, slots := 0, locals := 136 }) s m args below meth c H locs 0 0 (MQ below (va_Qv Q (PosW D (tyM cy) ad 34 (shM cy ad) A) A) args s 0 0 A) (F0 m 275 ls [])) (hkb67 : ∀ (x5 : Int32) (σ : Sg) (H : Heap) (locs : List Loc) (ls : Array Slot), St D ad 34 (shM cy ad) A s σ H locs → lv_has ls 9 [(0, .ref (ad 0)), (1, .int x1), (3, .int x3), (5, .int x5)] → kb67 x5 σ → W p l e ({ frames := 6, cells := 0, slots := 0, locals := 136 }) s m args below meth c H locs 0 0 (MQ below (va_Qv Q (PosW D (tyM cy) ad 34 (shM cy ad) A) A) args s 0 0 A) (F0 m 67 ls [])) {σ : Sg} {H : Heap} {locs : List Loc} {ls : Array Slot} (S : St D ad 34 (shM cy ad) A s σ H locs) (hl : lv_has ls 9 [(0, .ref (ad 0)), (1, .int x1), (3, .int x3), (5, .int x5)]) (h : wX12_giveBack_b248 x1 x3 x5 y0 y1 y2 σ k275 kb67 Q) : W p l e ({ frames := 6, cells := 0, slots := 0, locals := 136 }) s m args below meth c H locs 0 0 (MQ below (va_Qv Q (PosW D (tyM cy) ad 34 (shM cy ad) A) A) args s 0 0 A) (F0 m 248 ls [.int y0, .int y1, .int y2, .ref (ad 16)]) := by
  have hx := X.1
  have hb := X.2.1
  unfold wX12_giveBack_b248 at h
  refine lv_iadd hx hb dX12_giveBack_248 ?_
  refine o_iast X S 16 0 (by decide) (fun _ => rfl) rfl h.1 dX12_giveBack_249 (fun σ_24 H locs eσ_24 S => ?_)
  replace h := h.2 σ_24 eσ_24
  refine lv_goto (tgt := 269) hx hb dX12_giveBack_250 (by decide) ?_
  exact mX12_giveBack_b269 l X hr x1 x3 x5 hk275 hkb67 S (lv_sub hl [0, 1, 2, 3] rfl) h
set_option maxHeartbeats 4000000 in
set_option maxRecDepth 100000 in
theorem mX12_giveBack_b193 {D : va_G} {cy : Nat → ClassId} {ad : Nat → Nat} (l : Launch) {p : Program} {e : Env} {s : State} {m : MethodId} {args : Array Value} {below : List Frame} {meth : Method} {c : Code} {A : Nat → Prop} {k275 : Sg → Prop} {kb67 : Int32 → Sg → Prop} {Q : Sg → Prop} (X : Fx D (tyM cy) EvM p s m args meth c cX12_giveBack 9 "BackBayModel" A) (hr : meth.sig.returnType = none) (x1 : Int32) (x3 : Int32) (x5 : Int32) (x6 : Int32) (x7 : Int32) (x8 : Int32) (y0 : Int32) (y1 : Int32) (y2 : Int32) (hk275 : ∀ (σ : Sg) (H : Heap) (locs : List Loc) (ls : Array Slot), St D ad 34 (shM cy ad) A s σ H locs → lv_has ls 9 [] → k275 σ → W p l e ({ frames := 6, cells := 0, slots := 0, locals := 136 }) s m args below meth c H locs 0 0 (MQ below (va_Qv Q (PosW D (tyM cy) ad 34 (shM cy ad) A) A) args s 0 0 A) (F0 m 275 ls [])) (hkb67 : ∀ (x5 : Int32) (σ : Sg) (H : Heap) (locs : List Loc) (ls : Array Slot), St D ad 34 (shM cy ad) A s σ H locs → lv_has ls 9 [(0, .ref (ad 0)), (1, .int x1), (3, .int x3), (5, .int x5)] → kb67 x5 σ → W p l e ({ frames := 6, cells := 0, slots := 0, locals := 136 }) s m args below meth c H locs 0 0 (MQ below (va_Qv Q (PosW D (tyM cy) ad 34 (shM cy ad) A) A) args s 0 0 A) (F0 m 67 ls [])) {σ : Sg} {H : Heap} {locs : List Loc} {ls : Array Slot} (S : St D ad 34 (shM cy ad) A s σ H locs) (hl : lv_has ls 9 [(0, .ref (ad 0)), (1, .int x1), (3, .int x3), (5, .int x5), (6, .int x6), (7, .int x7), (8, .int x8)]) (h : wX12_giveBack_b193 x1 x3 x5 x6 x7 x8 y0 y1 y2 σ k275 kb67 Q) : W p l e ({ frames := 6, cells := 0, slots := 0, locals := 136 }) s m args below meth c H locs 0 0 (MQ below (va_Qv Q (PosW D (tyM cy) ad 34 (shM cy ad) A) A) args s 0 0 A) (F0 m 193 ls [.int y0, .int y1, .int y2, .ref (ad 16)]) := by
  have hx := X.1
  have hb := X.2.1
  unfold wX12_giveBack_b193 at h
  refine lv_iadd hx hb dX12_giveBack_193 ?_
  refine o_iast X S 16 0 (by decide) (fun _ => rfl) rfl h.1 dX12_giveBack_194 (fun σ_21 H locs eσ_21 S => ?_)
  replace h := h.2 σ_21 eσ_21
  refine lv_aload_n hx hb dX12_giveBack_195 rfl (lv_at hl 0 rfl) ?_
  refine o_get X S 0 26 (by decide) rfl rfl in_12 (by decide) k_893 rfl dX12_giveBack_196 ?_
  refine lv_iload hx hb dX12_giveBack_199 (lv_at hl 6 rfl) ?_
  refine lv_dup2_11 hx hb dX12_giveBack_201 rfl rfl ?_
  refine o_iald X S 16 0 (by decide) (fun _ => rfl) rfl h.1 dX12_giveBack_202 ?_
  replace h := h.2
  refine lv_aload_n hx hb dX12_giveBack_203 rfl (lv_at hl 0 rfl) ?_
  refine o_get X S 0 10 (by decide) rfl rfl in_12 (by decide) k_877 rfl dX12_giveBack_204 ?_
  refine lv_iload hx hb dX12_giveBack_207 (lv_at hl 3 rfl) ?_
  refine o_iald X S 7 0 (by decide) (fun _ => rfl) rfl h.1 dX12_giveBack_209 ?_
  replace h := h.2
  refine lv_bipush (v := 42) hx hb dX12_giveBack_210 (by decide) ?_
  refine lv_icmp_ne (tgt := 228) hx hb dX12_giveBack_212 (by decide) (fun q_22 => ?_) (fun q_22 => ?_)
  · replace h := h.2 q_22
    refine lv_aload_n hx hb dX12_giveBack_228 rfl (lv_at hl 0 rfl) ?_
    refine o_get X S 0 10 (by decide) rfl rfl in_12 (by decide) k_877 rfl dX12_giveBack_229 ?_
    refine lv_iload hx hb dX12_giveBack_232 (lv_at hl 3 rfl) ?_
    refine o_iald X S 7 0 (by decide) (fun _ => rfl) rfl h.1 dX12_giveBack_234 ?_
    replace h := h.2
    refine lv_bipush (v := 45) hx hb dX12_giveBack_235 (by decide) ?_
    refine lv_icmp_ne (tgt := 246) hx hb dX12_giveBack_237 (by decide) (fun q_23 => ?_) (fun q_23 => ?_)
    · replace h := h.2 q_23
      refine lv_iload hx hb dX12_giveBack_246 (lv_at hl 4 rfl) ?_
      exact mX12_giveBack_b248 l X hr x1 x3 x5 x6 (σ_21 16 x8.toNatClampNeg) x8 hk275 hkb67 S (lv_sub hl [0, 1, 2, 3] rfl) h
    · replace h := h.1 q_23
      refine lv_iload hx hb dX12_giveBack_240 (lv_at hl 4 rfl) ?_
      refine lv_ineg hx hb dX12_giveBack_242 ?_
      refine lv_goto (tgt := 248) hx hb dX12_giveBack_243 (by decide) ?_
      exact mX12_giveBack_b248 l X hr x1 x3 x5 (-x6) (σ_21 16 x8.toNatClampNeg) x8 hk275 hkb67 S (lv_sub hl [0, 1, 2, 3] rfl) h
  · replace h := h.1 q_22
    refine lv_iload hx hb dX12_giveBack_215 (lv_at hl 4 rfl) ?_
    refine lv_aload_n hx hb dX12_giveBack_217 rfl (lv_at hl 0 rfl) ?_
    refine o_get X S 0 24 (by decide) rfl rfl in_12 (by decide) k_891 rfl dX12_giveBack_218 ?_
    refine lv_iload hx hb dX12_giveBack_221 (lv_at hl 5 rfl) ?_
    refine o_iald X S 14 0 (by decide) (fun _ => rfl) rfl h.1 dX12_giveBack_223 ?_
    replace h := h.2
    refine lv_imul hx hb dX12_giveBack_224 ?_
    refine lv_goto (tgt := 248) hx hb dX12_giveBack_225 (by decide) ?_
    exact mX12_giveBack_b248 l X hr x1 x3 x5 (x6 * (σ_21 14 x7.toNatClampNeg)) (σ_21 16 x8.toNatClampNeg) x8 hk275 hkb67 S (lv_sub hl [0, 1, 2, 3] rfl) h
set_option maxHeartbeats 4000000 in
set_option maxRecDepth 100000 in
theorem mX12_giveBack_L67 {D : va_G} {cy : Nat → ClassId} {ad : Nat → Nat} (l : Launch) {p : Program} {e : Env} {s : State} {m : MethodId} {args : Array Value} {below : List Frame} {meth : Method} {c : Code} {A : Nat → Prop} {k275 : Sg → Prop} {Q : Sg → Prop} (X : Fx D (tyM cy) EvM p s m args meth c cX12_giveBack 9 "BackBayModel" A) (hr : meth.sig.returnType = none) (x1 : Int32) (x3 : Int32) (hk275 : ∀ (σ : Sg) (H : Heap) (locs : List Loc) (ls : Array Slot), St D ad 34 (shM cy ad) A s σ H locs → lv_has ls 9 [] → k275 σ → W p l e ({ frames := 6, cells := 0, slots := 0, locals := 136 }) s m args below meth c H locs 0 0 (MQ below (va_Qv Q (PosW D (tyM cy) ad 34 (shM cy ad) A) A) args s 0 0 A) (F0 m 275 ls [])) : ∀ (n : Nat) (x5 : Int32) (σ : Sg) (H : Heap) (locs : List Loc) (ls : Array Slot), St D ad 34 (shM cy ad) A s σ H locs → lv_has ls 9 [(0, .ref (ad 0)), (1, .int x1), (3, .int x3), (5, .int x5)] → wX12_giveBack_L67 x1 x3 k275 Q n x5 σ → W p l e ({ frames := 6, cells := 0, slots := 0, locals := 136 }) s m args below meth c H locs 0 0 (MQ below (va_Qv Q (PosW D (tyM cy) ad 34 (shM cy ad) A) A) args s 0 0 A) (F0 m 67 ls []) := by
  have hx := X.1
  have hb := X.2.1
  intro n
  induction n with
  | zero =>
    intro _ _ _ _ _ _ _ h
    exact absurd h (by unfold wX12_giveBack_L67; exact id)
  | succ n ih =>
    intro x5 σ H locs ls S hl h
    unfold wX12_giveBack_L67 at h
    refine lv_iload hx hb dX12_giveBack_67 (lv_at hl 3 rfl) ?_
    refine lv_aload_n hx hb dX12_giveBack_69 rfl (lv_at hl 0 rfl) ?_
    refine o_get X S 0 8 (by decide) rfl rfl in_12 (by decide) k_875 rfl dX12_giveBack_70 ?_
    refine lv_iload_n hx hb dX12_giveBack_73 rfl (lv_at hl 1 rfl) ?_
    refine lv_iconst (v := 1) hx hb dX12_giveBack_74 (by decide) ?_
    refine lv_iadd hx hb dX12_giveBack_75 ?_
    refine o_iald X S 5 0 (by decide) (fun _ => rfl) rfl h.1 dX12_giveBack_76 ?_
    replace h := h.2
    refine lv_icmp_ge (tgt := 275) hx hb dX12_giveBack_77 (by decide) (fun q_9 => ?_) (fun q_9 => ?_)
    · replace h := h.1 q_9
      exact hk275 _ _ _ _ S (lv_sub hl [] rfl) h
    · replace h := h.2 q_9
      refine lv_aload_n hx hb dX12_giveBack_80 rfl (lv_at hl 0 rfl) ?_
      refine o_get X S 0 26 (by decide) rfl rfl in_12 (by decide) k_893 rfl dX12_giveBack_81 ?_
      refine lv_iload hx hb dX12_giveBack_84 (lv_at hl 3 rfl) ?_
      refine o_iald X S 16 0 (by decide) (fun _ => rfl) rfl h.1 dX12_giveBack_86 ?_
      replace h := h.2
      refine lv_topi (fun x6_10 ex6_10 => ?_)
      replace h := h x6_10 ex6_10
      refine lv_istore (lv' := [(6, .int x6_10), (0, .ref (ad 0)), (1, .int x1), (3, .int x3), (5, .int x5)]) hx hb dX12_giveBack_87 hl (by decide) rfl (fun ls hl => ?_)
      refine lv_aload_n hx hb dX12_giveBack_89 rfl (lv_at hl 1 rfl) ?_
      refine o_get X S 0 9 (by decide) rfl rfl in_12 (by decide) k_876 rfl dX12_giveBack_90 ?_
      refine lv_iload hx hb dX12_giveBack_93 (lv_at hl 4 rfl) ?_
      refine o_iald X S 6 0 (by decide) (fun _ => rfl) rfl h.1 dX12_giveBack_95 ?_
      replace h := h.2
      by_cases q_11 : (σ 6 x5.toNatClampNeg) = 1
      · refine lv_tableIn (tgt := 124) hx hb dX12_giveBack_96 (by rw [q_11] <;> decide) (by rw [q_11] <;> decide) (by rw [q_11] <;> rfl) (by decide) ?_
        replace h := h.1 q_11
        refine lv_goto (tgt := 269) hx hb dX12_giveBack_124 (by decide) ?_
        exact mX12_giveBack_b269 l X hr x1 x3 x5 hk275 ih S (lv_sub hl [1, 2, 3, 4] rfl) h
      replace h := h.2 q_11
      by_cases q_13 : (σ 6 x5.toNatClampNeg) = 2
      · refine lv_tableIn (tgt := 127) hx hb dX12_giveBack_96 (by rw [q_13] <;> decide) (by rw [q_13] <;> decide) (by rw [q_13] <;> rfl) (by decide) ?_
        replace h := h.1 q_13
        refine lv_aload_n hx hb dX12_giveBack_127 rfl (lv_at hl 1 rfl) ?_
        refine lv_aload_n hx hb dX12_giveBack_128 rfl (lv_at hl 1 rfl) ?_
        refine o_get X S 0 10 (by decide) rfl rfl in_12 (by decide) k_877 rfl dX12_giveBack_129 ?_
        refine lv_iload hx hb dX12_giveBack_132 (lv_at hl 4 rfl) ?_
        refine o_iald X S 7 0 (by decide) (fun _ => rfl) rfl h.1 dX12_giveBack_134 ?_
        replace h := h.2
        refine lv_iload_n hx hb dX12_giveBack_135 rfl (lv_at hl 3 rfl) ?_
        refine lv_iload hx hb dX12_giveBack_136 (lv_at hl 0 rfl) ?_
        refine o_callVv (k := 3) EvM_ok X S (mX12_giveSeen l (σ 7 x5.toNatClampNeg) x3 x6_10 σ _ h) (by decide) rfl rfl k_1194 k_1191 k_1193 ks_56 k_14 ⟨rfl, by decide, by decide, by decide +kernel⟩ ⟨rfl, rfl⟩ ⟨Nat.le_of_ble_eq_true rfl, Nat.le_of_ble_eq_true rfl⟩ rfl hl.1 rfl (Nat.le_of_ble_eq_true rfl) dX12_giveBack_138 (fun σ_15 H locs h S => ?_)
        refine lv_goto (tgt := 269) hx hb dX12_giveBack_141 (by decide) ?_
        exact mX12_giveBack_b269 l X hr x1 x3 x5 hk275 ih S (lv_sub hl [1, 2, 3, 4] rfl) h
      replace h := h.2 q_13
      by_cases q_16 : (σ 6 x5.toNatClampNeg) = 3
      · refine lv_tableIn (tgt := 144) hx hb dX12_giveBack_96 (by rw [q_16] <;> decide) (by rw [q_16] <;> decide) (by rw [q_16] <;> rfl) (by decide) ?_
        replace h := h.1 q_16
        refine lv_iload hx hb dX12_giveBack_144 (lv_at hl 4 rfl) ?_
        refine lv_iconst (v := 1) hx hb dX12_giveBack_146 (by decide) ?_
        refine lv_iadd hx hb dX12_giveBack_147 ?_
        refine lv_topi (fun x7_17 ex7_17 => ?_)
        replace h := h x7_17 ex7_17
        refine lv_istore (lv' := [(7, .int x7_17), (6, .int x6_10), (0, .ref (ad 0)), (1, .int x1), (3, .int x3), (5, .int x5)]) hx hb dX12_giveBack_148 hl (by decide) rfl (fun ls hl => ?_)
        refine lv_aload_n hx hb dX12_giveBack_150 rfl (lv_at hl 2 rfl) ?_
        refine lv_iload hx hb dX12_giveBack_151 (lv_at hl 5 rfl) ?_
        refine o_callVi (k := 1) EvM_ok X S (mX12_second l x5 σ _ h) (by decide) rfl rfl k_1130 k_1127 k_1129 ks_44 k_14 ⟨rfl, by decide, by decide, by decide +kernel⟩ ⟨rfl, rfl⟩ ⟨Nat.le_of_ble_eq_true rfl, Nat.le_of_ble_eq_true rfl⟩ rfl hl.1 rfl (Nat.le_of_ble_eq_true rfl) dX12_giveBack_153 (fun r_18 σ_19 H locs h S => ?_)
        refine lv_istore (lv' := [(8, .int r_18), (7, .int x7_17), (6, .int x6_10), (0, .ref (ad 0)), (1, .int x1), (3, .int x3), (5, .int x5)]) hx hb dX12_giveBack_156 hl (by decide) rfl (fun ls hl => ?_)
        refine lv_aload_n hx hb dX12_giveBack_158 rfl (lv_at hl 3 rfl) ?_
        refine o_get X S 0 26 (by decide) rfl rfl in_12 (by decide) k_893 rfl dX12_giveBack_159 ?_
        refine lv_iload hx hb dX12_giveBack_162 (lv_at hl 1 rfl) ?_
        refine lv_dup2_11 hx hb dX12_giveBack_164 rfl rfl ?_
        refine o_iald X S 16 0 (by decide) (fun _ => rfl) rfl h.1 dX12_giveBack_165 ?_
        replace h := h.2
        refine lv_aload_n hx hb dX12_giveBack_166 rfl (lv_at hl 3 rfl) ?_
        refine o_get X S 0 10 (by decide) rfl rfl in_12 (by decide) k_877 rfl dX12_giveBack_167 ?_
        refine lv_iload hx hb dX12_giveBack_170 (lv_at hl 6 rfl) ?_
        refine o_iald X S 7 0 (by decide) (fun _ => rfl) rfl h.1 dX12_giveBack_172 ?_
        replace h := h.2
        refine lv_bipush (v := 42) hx hb dX12_giveBack_173 (by decide) ?_
        refine lv_icmp_ne (tgt := 191) hx hb dX12_giveBack_175 (by decide) (fun q_20 => ?_) (fun q_20 => ?_)
        · replace h := h.2 q_20
          refine lv_iload hx hb dX12_giveBack_191 (lv_at hl 2 rfl) ?_
          exact mX12_giveBack_b193 l X hr x1 x3 x5 x6_10 x7_17 r_18 x6_10 (σ_19 16 x7_17.toNatClampNeg) x7_17 hk275 ih S (lv_sub hl [3, 4, 5, 6, 2, 1, 0] rfl) h
        · replace h := h.1 q_20
          refine lv_iload hx hb dX12_giveBack_178 (lv_at hl 2 rfl) ?_
          refine lv_aload_n hx hb dX12_giveBack_180 rfl (lv_at hl 3 rfl) ?_
          refine o_get X S 0 24 (by decide) rfl rfl in_12 (by decide) k_891 rfl dX12_giveBack_181 ?_
          refine lv_iload hx hb dX12_giveBack_184 (lv_at hl 0 rfl) ?_
          refine o_iald X S 14 0 (by decide) (fun _ => rfl) rfl h.1 dX12_giveBack_186 ?_
          replace h := h.2
          refine lv_imul hx hb dX12_giveBack_187 ?_
          refine lv_goto (tgt := 193) hx hb dX12_giveBack_188 (by decide) ?_
          exact mX12_giveBack_b193 l X hr x1 x3 x5 x6_10 x7_17 r_18 (x6_10 * (σ_19 14 r_18.toNatClampNeg)) (σ_19 16 x7_17.toNatClampNeg) x7_17 hk275 ih S (lv_sub hl [3, 4, 5, 6, 2, 1, 0] rfl) h
      replace h := h.2 q_16
      refine lv_tableOut (tgt := 253) hx hb dX12_giveBack_96 (by have r0 := lv_neT (a := 1) q_11 rfl; have r1 := lv_neT (a := 2) q_13 rfl; have r2 := lv_neT (a := 3) q_16 rfl; omega) (by decide) ?_
      refine lv_aload_n hx hb dX12_giveBack_253 rfl (lv_at hl 1 rfl) ?_
      refine o_get X S 0 26 (by decide) rfl rfl in_12 (by decide) k_893 rfl dX12_giveBack_254 ?_
      refine lv_aload_n hx hb dX12_giveBack_257 rfl (lv_at hl 1 rfl) ?_
      refine lv_iload hx hb dX12_giveBack_258 (lv_at hl 4 rfl) ?_
      refine o_callVi (k := 1) EvM_ok X S (mX12_takenOf l x5 σ _ h) (by decide) rfl rfl k_1134 k_1131 k_1133 ks_45 k_14 ⟨rfl, by decide, by decide, by decide +kernel⟩ ⟨rfl, rfl⟩ ⟨Nat.le_of_ble_eq_true rfl, Nat.le_of_ble_eq_true rfl⟩ rfl hl.1 rfl (Nat.le_of_ble_eq_true rfl) dX12_giveBack_260 (fun r_25 σ_26 H locs h S => ?_)
      refine lv_dup2_11 hx hb dX12_giveBack_263 rfl rfl ?_
      refine o_iald X S 16 0 (by decide) (fun _ => rfl) rfl h.1 dX12_giveBack_264 ?_
      replace h := h.2
      refine lv_iload hx hb dX12_giveBack_265 (lv_at hl 0 rfl) ?_
      refine lv_iadd hx hb dX12_giveBack_267 ?_
      refine o_iast X S 16 0 (by decide) (fun _ => rfl) rfl h.1 dX12_giveBack_268 (fun σ_27 H locs eσ_27 S => ?_)
      replace h := h.2 σ_27 eσ_27
      exact mX12_giveBack_b269 l X hr x1 x3 x5 hk275 ih S (lv_sub hl [1, 2, 3, 4] rfl) h
set_option maxHeartbeats 4000000 in
set_option maxRecDepth 100000 in
theorem mX12_giveBack {D : va_G} {cy : Nat → ClassId} {ad : Nat → Nat} (l : Launch) (x1 : Int32) (x2 : Int32) (x3 : Int32) (σ : Sg) (Q : Sg → Prop) (h : wX12_giveBack x1 x2 x3 σ Q) : MVM D cy ad l yX12_giveBack (.code yX12_giveBack cX12_giveBack 9 none :: gT) ({ frames := 6, cells := 0, slots := 0, locals := 136 }) [.ref (ad 0), .int x1, .int x2, .int x3] σ Q := by
  refine metV_of (by decide +kernel) (Nat.le_of_ble_eq_true rfl) ?_
  intro p e s m args below meth c A ls X hr hl S
  have X : Fx D (tyM cy) EvM p s m args meth c cX12_giveBack 9 "BackBayModel" A := X
  have hl : lv_has ls 9 [(0, .ref (ad 0)), (1, .int x1), (2, .int x2), (3, .int x3)] := hl
  have hx := X.1
  have hb := X.2.1
  unfold wX12_giveBack at h
  refine lv_aload_n hx hb dX12_giveBack_0 rfl (lv_at hl 0 rfl) ?_
  refine lv_iload_n hx hb dX12_giveBack_1 rfl (lv_at hl 1 rfl) ?_
  refine lv_iload_n hx hb dX12_giveBack_2 rfl (lv_at hl 2 rfl) ?_
  refine lv_iload_n hx hb dX12_giveBack_3 rfl (lv_at hl 3 rfl) ?_
  refine o_callVi (k := 3) EvM_ok X S (mX12_work l x1 x2 x3 σ _ h) (by decide) rfl rfl k_1118 k_1115 k_1117 ks_41 k_14 ⟨rfl, by decide, by decide, by decide +kernel⟩ ⟨rfl, rfl⟩ ⟨Nat.le_of_ble_eq_true rfl, Nat.le_of_ble_eq_true rfl⟩ rfl hl.1 rfl (Nat.le_of_ble_eq_true rfl) dX12_giveBack_4 (fun r_1 σ_2 H locs h S => ?_)
  refine lv_pop hx hb dX12_giveBack_7 rfl ?_
  refine lv_aload_n hx hb dX12_giveBack_8 rfl (lv_at hl 0 rfl) ?_
  refine o_get X S 0 8 (by decide) rfl rfl in_12 (by decide) k_875 rfl dX12_giveBack_9 ?_
  refine lv_iload_n hx hb dX12_giveBack_12 rfl (lv_at hl 1 rfl) ?_
  refine o_iald X S 5 0 (by decide) (fun _ => rfl) rfl h.1 dX12_giveBack_13 ?_
  replace h := h.2
  refine lv_topi (fun x4_3 ex4_3 => ?_)
  replace h := h x4_3 ex4_3
  refine lv_istore (lv' := [(4, .int x4_3), (0, .ref (ad 0)), (1, .int x1), (2, .int x2), (3, .int x3)]) hx hb dX12_giveBack_14 hl (by decide) rfl (fun ls hl => ?_)
  refine lv_iload hx hb dX12_giveBack_16 (lv_at hl 0 rfl) ?_
  refine lv_istore (lv' := [(5, .int x4_3), (4, .int x4_3), (0, .ref (ad 0)), (1, .int x1), (2, .int x2), (3, .int x3)]) hx hb dX12_giveBack_18 hl (by decide) rfl (fun ls hl => ?_)
  obtain ⟨n_20, h⟩ := h
  refine mX12_giveBack_L20 l X hr x1 x3 x4_3 ?_ n_20 _ _ _ _ _ S (lv_sub hl [2, 3, 5, 1, 0] rfl) h
  · intro σ_8 H locs ls S hl h
    refine lv_iload hx hb dX12_giveBack_63 (lv_at hl 3 rfl) ?_
    refine lv_istore (lv' := [(5, .int x4_3), (0, .ref (ad 0)), (1, .int x1), (3, .int x3), (4, .int x4_3)]) hx hb dX12_giveBack_65 hl (by decide) rfl (fun ls hl => ?_)
    obtain ⟨n_67, h⟩ := h
    refine mX12_giveBack_L67 l X hr x1 x3 ?_ n_67 _ _ _ _ _ S (lv_sub hl [1, 2, 3, 0] rfl) h
    · intro σ_28 H locs ls S hl h
      exact o_vret X S hr h dX12_giveBack_275
def wX12_addGauges_b69 (x1 : Int32) (x2 : Int32) (σ : Sg) (k75 : Sg → Prop) (kb2 : Int32 → Sg → Prop) (Q : Sg → Prop) : Prop :=
  (∀ x2_5 : Int32, x2_5 = x2 + 1 → kb2 x2_5 σ)
def wX12_addGauges_L2 (x1 : Int32) (k75 : Sg → Prop) (Q : Sg → Prop) : Nat → Int32 → Sg → Prop
  | 0, _, _ => False
  | nn2 + 1, x2, σ =>
  (((σ 0 28) ≤ x2 → k75 σ) ∧ (¬ (σ 0 28) ≤ x2 → (wX12_counts x2 σ (fun r_2 σ_3 => ((r_2 = 0 → wX12_addGauges_b69 x1 x2 σ_3 k75 (wX12_addGauges_L2 x1 k75 Q nn2) Q) ∧ (¬ r_2 = 0 → (vp_in x2 12 ∧ (((σ_3 18 x2.toNatClampNeg) = x1 → (vp_in x2 12 ∧ (vp_in (σ_3 17 x2.toNatClampNeg) 10 ∧ (vp_in x2 12 ∧ (vp_in x2 12 ∧ (wX12_stateAt x1 (σ_3 17 x2.toNatClampNeg) σ_3 (fun r_7 σ_8 => (vp_in x2 12 ∧ (vp_in (σ_3 17 x2.toNatClampNeg) 10 ∧ ∀ σ_9, σ_9 = sto σ_8 23 (σ_3 17 x2.toNatClampNeg).toNatClampNeg ((σ_3 23 (σ_3 17 x2.toNatClampNeg).toNatClampNeg) + ((2 * (σ_3 19 x2.toNatClampNeg)) * (r_7 - (σ_8 20 x2.toNatClampNeg)))) → wX12_addGauges_b69 x1 x2 σ_9 k75 (wX12_addGauges_L2 x1 k75 Q nn2) Q))))))))) ∧ (¬ (σ_3 18 x2.toNatClampNeg) = x1 → wX12_addGauges_b69 x1 x2 σ_3 k75 (wX12_addGauges_L2 x1 k75 Q nn2) Q)))))))))
def wX12_addGauges (x1 : Int32) (σ : Sg) (Q : Sg → Prop) : Prop :=
  (∃ nf, wX12_addGauges_L2 x1 (fun σ_10 => Q σ_10) Q nf 0 σ)
set_option maxHeartbeats 4000000 in
set_option maxRecDepth 100000 in
theorem mX12_addGauges_b69 {D : va_G} {cy : Nat → ClassId} {ad : Nat → Nat} (l : Launch) {p : Program} {e : Env} {s : State} {m : MethodId} {args : Array Value} {below : List Frame} {meth : Method} {c : Code} {A : Nat → Prop} {k75 : Sg → Prop} {kb2 : Int32 → Sg → Prop} {Q : Sg → Prop} (X : Fx D (tyM cy) EvM p s m args meth c cX12_addGauges 3 "BackBayModel" A) (hr : meth.sig.returnType = none) (x1 : Int32) (x2 : Int32) (hk75 : ∀ (σ : Sg) (H : Heap) (locs : List Loc) (ls : Array Slot), St D ad 34 (shM cy ad) A s σ H locs → lv_has ls 3 [] → k75 σ → W p l e ({ frames := 1, cells := 0, slots := 0, locals := 22 }) s m args below meth c H locs 0 0 (MQ below (va_Qv Q (PosW D (tyM cy) ad 34 (shM cy ad) A) A) args s 0 0 A) (F0 m 75 ls [])) (hkb2 : ∀ (x2 : Int32) (σ : Sg) (H : Heap) (locs : List Loc) (ls : Array Slot), St D ad 34 (shM cy ad) A s σ H locs → lv_has ls 3 [(0, .ref (ad 0)), (1, .int x1), (2, .int x2)] → kb2 x2 σ → W p l e ({ frames := 1, cells := 0, slots := 0, locals := 22 }) s m args below meth c H locs 0 0 (MQ below (va_Qv Q (PosW D (tyM cy) ad 34 (shM cy ad) A) A) args s 0 0 A) (F0 m 2 ls [])) {σ : Sg} {H : Heap} {locs : List Loc} {ls : Array Slot} (S : St D ad 34 (shM cy ad) A s σ H locs) (hl : lv_has ls 3 [(0, .ref (ad 0)), (1, .int x1), (2, .int x2)]) (h : wX12_addGauges_b69 x1 x2 σ k75 kb2 Q) : W p l e ({ frames := 1, cells := 0, slots := 0, locals := 22 }) s m args below meth c H locs 0 0 (MQ below (va_Qv Q (PosW D (tyM cy) ad 34 (shM cy ad) A) A) args s 0 0 A) (F0 m 69 ls []) := by
  have hx := X.1
  have hb := X.2.1
  unfold wX12_addGauges_b69 at h
  obtain ⟨x2_5, ex2_5⟩ : ∃ y : Int32, y = x2 + 1 := ⟨_, rfl⟩
  replace h := h x2_5 ex2_5
  refine lv_iinc (v := x2_5) (lv' := [(2, .int x2_5), (0, .ref (ad 0)), (1, .int x1)]) hx hb dX12_addGauges_69 hl (k := 2) rfl (by rw [ex2_5]; rfl) (by decide) rfl (fun ls hl => ?_)
  refine lv_goto (tgt := 2) hx hb dX12_addGauges_72 (by decide) ?_
  exact hkb2 _ _ _ _ _ S (lv_sub hl [1, 2, 0] rfl) h
set_option maxHeartbeats 4000000 in
set_option maxRecDepth 100000 in
theorem mX12_addGauges_L2 {D : va_G} {cy : Nat → ClassId} {ad : Nat → Nat} (l : Launch) {p : Program} {e : Env} {s : State} {m : MethodId} {args : Array Value} {below : List Frame} {meth : Method} {c : Code} {A : Nat → Prop} {k75 : Sg → Prop} {Q : Sg → Prop} (X : Fx D (tyM cy) EvM p s m args meth c cX12_addGauges 3 "BackBayModel" A) (hr : meth.sig.returnType = none) (x1 : Int32) (hk75 : ∀ (σ : Sg) (H : Heap) (locs : List Loc) (ls : Array Slot), St D ad 34 (shM cy ad) A s σ H locs → lv_has ls 3 [] → k75 σ → W p l e ({ frames := 1, cells := 0, slots := 0, locals := 22 }) s m args below meth c H locs 0 0 (MQ below (va_Qv Q (PosW D (tyM cy) ad 34 (shM cy ad) A) A) args s 0 0 A) (F0 m 75 ls [])) : ∀ (n : Nat) (x2 : Int32) (σ : Sg) (H : Heap) (locs : List Loc) (ls : Array Slot), St D ad 34 (shM cy ad) A s σ H locs → lv_has ls 3 [(0, .ref (ad 0)), (1, .int x1), (2, .int x2)] → wX12_addGauges_L2 x1 k75 Q n x2 σ → W p l e ({ frames := 1, cells := 0, slots := 0, locals := 22 }) s m args below meth c H locs 0 0 (MQ below (va_Qv Q (PosW D (tyM cy) ad 34 (shM cy ad) A) A) args s 0 0 A) (F0 m 2 ls []) := by
  have hx := X.1
  have hb := X.2.1
  intro n
  induction n with
  | zero =>
    intro _ _ _ _ _ _ _ h
    exact absurd h (by unfold wX12_addGauges_L2; exact id)
  | succ n ih =>
    intro x2 σ H locs ls S hl h
    unfold wX12_addGauges_L2 at h
    refine lv_iload_n hx hb dX12_addGauges_2 rfl (lv_at hl 2 rfl) ?_
    refine lv_aload_n hx hb dX12_addGauges_3 rfl (lv_at hl 0 rfl) ?_
    refine o_get X S 0 28 (by decide) rfl rfl in_12 (by decide) k_895 rfl dX12_addGauges_4 ?_
    refine lv_icmp_ge (tgt := 75) hx hb dX12_addGauges_7 (by decide) (fun q_1 => ?_) (fun q_1 => ?_)
    · replace h := h.1 q_1
      exact hk75 _ _ _ _ S (lv_sub hl [] rfl) h
    · replace h := h.2 q_1
      refine lv_aload_n hx hb dX12_addGauges_10 rfl (lv_at hl 0 rfl) ?_
      refine lv_iload_n hx hb dX12_addGauges_11 rfl (lv_at hl 2 rfl) ?_
      refine o_callVi (k := 1) EvM_ok X S (mX12_counts l x2 σ _ h) (by decide) rfl rfl k_1174 k_1171 k_1173 ks_52 k_14 ⟨rfl, by decide, by decide, by decide +kernel⟩ ⟨rfl, rfl⟩ ⟨Nat.le_of_ble_eq_true rfl, Nat.le_of_ble_eq_true rfl⟩ rfl hl.1 rfl (Nat.le_of_ble_eq_true rfl) dX12_addGauges_12 (fun r_2 σ_3 H locs h S => ?_)
      refine lv_if_eq (tgt := 69) hx hb dX12_addGauges_15 (by decide) (fun q_4 => ?_) (fun q_4 => ?_)
      · replace h := h.1 q_4
        exact mX12_addGauges_b69 l X hr x1 x2 hk75 ih S (lv_sub hl [0, 1, 2] rfl) h
      · replace h := h.2 q_4
        refine lv_aload_n hx hb dX12_addGauges_18 rfl (lv_at hl 0 rfl) ?_
        refine o_get X S 0 30 (by decide) rfl rfl in_12 (by decide) k_897 rfl dX12_addGauges_19 ?_
        refine lv_iload_n hx hb dX12_addGauges_22 rfl (lv_at hl 2 rfl) ?_
        refine o_iald X S 18 0 (by decide) (fun _ => rfl) rfl h.1 dX12_addGauges_23 ?_
        replace h := h.2
        refine lv_iload_n hx hb dX12_addGauges_24 rfl (lv_at hl 1 rfl) ?_
        refine lv_icmp_ne (tgt := 69) hx hb dX12_addGauges_25 (by decide) (fun q_6 => ?_) (fun q_6 => ?_)
        · replace h := h.2 q_6
          exact mX12_addGauges_b69 l X hr x1 x2 hk75 ih S (lv_sub hl [0, 1, 2] rfl) h
        · replace h := h.1 q_6
          refine lv_aload_n hx hb dX12_addGauges_28 rfl (lv_at hl 0 rfl) ?_
          refine o_get X S 0 35 (by decide) rfl rfl in_12 (by decide) k_902 rfl dX12_addGauges_29 ?_
          refine lv_aload_n hx hb dX12_addGauges_32 rfl (lv_at hl 0 rfl) ?_
          refine o_get X S 0 29 (by decide) rfl rfl in_12 (by decide) k_896 rfl dX12_addGauges_33 ?_
          refine lv_iload_n hx hb dX12_addGauges_36 rfl (lv_at hl 2 rfl) ?_
          refine o_iald X S 17 0 (by decide) (fun _ => rfl) rfl h.1 dX12_addGauges_37 ?_
          replace h := h.2
          refine lv_dup2_11 hx hb dX12_addGauges_38 rfl rfl ?_
          refine o_iald X S 23 0 (by decide) (fun _ => rfl) rfl h.1 dX12_addGauges_39 ?_
          replace h := h.2
          refine lv_iconst (v := 2) hx hb dX12_addGauges_40 (by decide) ?_
          refine lv_aload_n hx hb dX12_addGauges_41 rfl (lv_at hl 0 rfl) ?_
          refine o_get X S 0 31 (by decide) rfl rfl in_12 (by decide) k_898 rfl dX12_addGauges_42 ?_
          refine lv_iload_n hx hb dX12_addGauges_45 rfl (lv_at hl 2 rfl) ?_
          refine o_iald X S 19 0 (by decide) (fun _ => rfl) rfl h.1 dX12_addGauges_46 ?_
          replace h := h.2
          refine lv_imul hx hb dX12_addGauges_47 ?_
          refine lv_aload_n hx hb dX12_addGauges_48 rfl (lv_at hl 0 rfl) ?_
          refine lv_iload_n hx hb dX12_addGauges_49 rfl (lv_at hl 1 rfl) ?_
          refine lv_aload_n hx hb dX12_addGauges_50 rfl (lv_at hl 0 rfl) ?_
          refine o_get X S 0 29 (by decide) rfl rfl in_12 (by decide) k_896 rfl dX12_addGauges_51 ?_
          refine lv_iload_n hx hb dX12_addGauges_54 rfl (lv_at hl 2 rfl) ?_
          refine o_iald X S 17 0 (by decide) (fun _ => rfl) rfl h.1 dX12_addGauges_55 ?_
          replace h := h.2
          refine o_callVi (k := 2) EvM_ok X S (mX12_stateAt l x1 (σ_3 17 x2.toNatClampNeg) σ_3 _ h) (by decide) rfl rfl k_1150 k_1147 k_1149 ks_49 k_14 ⟨rfl, by decide, by decide, by decide +kernel⟩ ⟨rfl, rfl⟩ ⟨Nat.le_of_ble_eq_true rfl, Nat.le_of_ble_eq_true rfl⟩ rfl hl.1 rfl (Nat.le_of_ble_eq_true rfl) dX12_addGauges_56 (fun r_7 σ_8 H locs h S => ?_)
          refine lv_aload_n hx hb dX12_addGauges_59 rfl (lv_at hl 0 rfl) ?_
          refine o_get X S 0 32 (by decide) rfl rfl in_12 (by decide) k_899 rfl dX12_addGauges_60 ?_
          refine lv_iload_n hx hb dX12_addGauges_63 rfl (lv_at hl 2 rfl) ?_
          refine o_iald X S 20 0 (by decide) (fun _ => rfl) rfl h.1 dX12_addGauges_64 ?_
          replace h := h.2
          refine lv_isub hx hb dX12_addGauges_65 ?_
          refine lv_imul hx hb dX12_addGauges_66 ?_
          refine lv_iadd hx hb dX12_addGauges_67 ?_
          refine o_iast X S 23 0 (by decide) (fun _ => rfl) rfl h.1 dX12_addGauges_68 (fun σ_9 H locs eσ_9 S => ?_)
          replace h := h.2 σ_9 eσ_9
          exact mX12_addGauges_b69 l X hr x1 x2 hk75 ih S (lv_sub hl [0, 1, 2] rfl) h
set_option maxHeartbeats 4000000 in
set_option maxRecDepth 100000 in
theorem mX12_addGauges {D : va_G} {cy : Nat → ClassId} {ad : Nat → Nat} (l : Launch) (x1 : Int32) (σ : Sg) (Q : Sg → Prop) (h : wX12_addGauges x1 σ Q) : MVM D cy ad l yX12_addGauges (.code yX12_addGauges cX12_addGauges 3 none :: gT) ({ frames := 1, cells := 0, slots := 0, locals := 22 }) [.ref (ad 0), .int x1] σ Q := by
  refine metV_of (by decide +kernel) (Nat.le_of_ble_eq_true rfl) ?_
  intro p e s m args below meth c A ls X hr hl S
  have X : Fx D (tyM cy) EvM p s m args meth c cX12_addGauges 3 "BackBayModel" A := X
  have hl : lv_has ls 3 [(0, .ref (ad 0)), (1, .int x1)] := hl
  have hx := X.1
  have hb := X.2.1
  unfold wX12_addGauges at h
  refine lv_iconst (v := 0) hx hb dX12_addGauges_0 (by decide) ?_
  refine lv_istore_n (lv' := [(2, .int 0), (0, .ref (ad 0)), (1, .int x1)]) hx hb dX12_addGauges_1 rfl hl (by decide) rfl (fun ls hl => ?_)
  obtain ⟨n_2, h⟩ := h
  refine mX12_addGauges_L2 l X hr x1 ?_ n_2 _ _ _ _ _ S (lv_sub hl [1, 2, 0] rfl) h
  · intro σ_10 H locs ls S hl h
    exact o_vret X S hr h dX12_addGauges_75
def wX12_findSlopes_L26 (x1 : Int32) (k52 : Sg → Prop) (Q : Sg → Prop) : Nat → Int32 → Sg → Prop
  | 0, _, _ => False
  | nn26 + 1, x2, σ =>
  ((10 ≤ x2 → k52 σ) ∧ (¬ 10 ≤ x2 → (vp_in x2 10 ∧ ∀ σ_8, σ_8 = sto σ 22 x2.toNatClampNeg 0 → (vp_in x2 10 ∧ ∀ σ_9, σ_9 = sto σ_8 23 x2.toNatClampNeg 0 → (∀ x2_10 : Int32, x2_10 = x2 + 1 → wX12_findSlopes_L26 x1 k52 Q nn26 x2_10 σ_9)))))
def wX12_findSlopes_L93 (x2 : Int32) (x3 : Int32) (x4 : Int32) (k114 : Sg → Prop) (Q : Sg → Prop) : Nat → Int32 → Sg → Prop
  | 0, _, _ => False
  | nn93 + 1, x5, σ =>
  ((10 ≤ x5 → k114 σ) ∧ (¬ 10 ≤ x5 → (vp_in x5 10 ∧ ∀ σ_20, σ_20 = sto σ 24 x5.toNatClampNeg 0 → (∀ x5_21 : Int32, x5_21 = x5 + 1 → wX12_findSlopes_L93 x2 x3 x4 k114 Q nn93 x5_21 σ_20))))
def wX12_findSlopes_L117 (x2 : Int32) (x3 : Int32) (x4 : Int32) (k141 : Sg → Prop) (Q : Sg → Prop) : Nat → Int32 → Sg → Prop
  | 0, _, _ => False
  | nn117 + 1, x5, σ =>
  (((σ 0 19) ≤ x5 → k141 σ) ∧ (¬ (σ 0 19) ≤ x5 → (wX12_giveBack x3 x4 x5 σ (fun σ_25 => (∀ x5_26 : Int32, x5_26 = x5 + 1 → wX12_findSlopes_L117 x2 x3 x4 k141 Q nn117 x5_26 σ_25)))))
def wX12_findSlopes_L144 (x2 : Int32) (x3 : Int32) (k171 : Sg → Prop) (Q : Sg → Prop) : Nat → Int32 → Sg → Prop
  | 0, _, _ => False
  | nn144 + 1, x5, σ =>
  ((10 ≤ x5 → k171 σ) ∧ (¬ 10 ≤ x5 → (vp_in x5 10 ∧ (vp_in x5 10 ∧ ∀ σ_29, σ_29 = sto σ 23 x5.toNatClampNeg (σ 24 x5.toNatClampNeg) → (∀ x5_30 : Int32, x5_30 = x5 + 1 → wX12_findSlopes_L144 x2 x3 k171 Q nn144 x5_30 σ_29)))))
def wX12_findSlopes_L70 (x2 : Int32) (k177 : Sg → Prop) (Q : Sg → Prop) : Nat → Int32 → Sg → Prop
  | 0, _, _ => False
  | nn70 + 1, x3, σ =>
  ((x3 < 0 → k177 σ) ∧ (¬ x3 < 0 → ((x2 ≤ 0 → k177 σ) ∧ (¬ x2 ≤ 0 → (∀ x4_18, x4_18 = (((x2 - 1) * (σ 0 6)) + x3) → (∃ nf, wX12_findSlopes_L93 x2 x3 x4_18 (fun σ_22 => (∃ nf, wX12_findSlopes_L117 x2 x3 x4_18 (fun σ_27 => (∃ nf, wX12_findSlopes_L144 x2 x3 (fun σ_31 => (∀ x3_32 : Int32, x3_32 = x3 + (-1) → wX12_findSlopes_L70 x2 k177 Q nn70 x3_32 σ_31)) Q nf 0 σ_27)) Q nf 0 σ_22)) Q nf 0 σ))))))
def wX12_findSlopes_b177 (x2 : Int32) (σ : Sg) (k183 : Sg → Prop) (kb54 : Int32 → Sg → Prop) (Q : Sg → Prop) : Prop :=
  (∀ x2_34 : Int32, x2_34 = x2 + (-1) → kb54 x2_34 σ)
def wX12_findSlopes_L54 (k183 : Sg → Prop) (Q : Sg → Prop) : Nat → Int32 → Sg → Prop
  | 0, _, _ => False
  | nn54 + 1, x2, σ =>
  ((x2 < 0 → k183 σ) ∧ (¬ x2 < 0 → (wX12_addGauges x2 σ (fun σ_14 => (∀ x3_15, x3_15 = ((σ_14 0 6) - 1) → (∃ nf, wX12_findSlopes_L70 x2 (fun σ_33 => wX12_findSlopes_b177 x2 σ_33 k183 (wX12_findSlopes_L54 k183 Q nn54) Q) Q nf x3_15 σ_14))))))
def wX12_findSlopes (σ : Sg) (Q : Sg → Prop) : Prop :=
  (wX12_last σ (fun r_1 σ_2 => (wX12_go r_1 σ_2 (fun σ_4 => (vp_in 0 2 ∧ ∀ σ_5, σ_5 = sto σ_4 25 0 0 → (vp_in 1 2 ∧ ∀ σ_6, σ_6 = sto σ_5 25 1 0 → (∃ nf, wX12_findSlopes_L26 r_1 (fun σ_11 => (∃ nf, wX12_findSlopes_L54 (fun σ_35 => Q σ_35) Q nf r_1 σ_11)) Q nf 0 σ_6)))))))
set_option maxHeartbeats 4000000 in
set_option maxRecDepth 100000 in
theorem mX12_findSlopes_L26 {D : va_G} {cy : Nat → ClassId} {ad : Nat → Nat} (l : Launch) {p : Program} {e : Env} {s : State} {m : MethodId} {args : Array Value} {below : List Frame} {meth : Method} {c : Code} {A : Nat → Prop} {k52 : Sg → Prop} {Q : Sg → Prop} (X : Fx D (tyM cy) EvM p s m args meth c cX12_findSlopes 6 "BackBayModel" A) (hr : meth.sig.returnType = none) (x1 : Int32) (hk52 : ∀ (σ : Sg) (H : Heap) (locs : List Loc) (ls : Array Slot), St D ad 34 (shM cy ad) A s σ H locs → lv_has ls 6 [(0, .ref (ad 0)), (1, .int x1)] → k52 σ → W p l e ({ frames := 7, cells := 0, slots := 0, locals := 164 }) s m args below meth c H locs 0 0 (MQ below (va_Qv Q (PosW D (tyM cy) ad 34 (shM cy ad) A) A) args s 0 0 A) (F0 m 52 ls [])) : ∀ (n : Nat) (x2 : Int32) (σ : Sg) (H : Heap) (locs : List Loc) (ls : Array Slot), St D ad 34 (shM cy ad) A s σ H locs → lv_has ls 6 [(0, .ref (ad 0)), (1, .int x1), (2, .int x2)] → wX12_findSlopes_L26 x1 k52 Q n x2 σ → W p l e ({ frames := 7, cells := 0, slots := 0, locals := 164 }) s m args below meth c H locs 0 0 (MQ below (va_Qv Q (PosW D (tyM cy) ad 34 (shM cy ad) A) A) args s 0 0 A) (F0 m 26 ls []) := by
  have hx := X.1
  have hb := X.2.1
  intro n
  induction n with
  | zero =>
    intro _ _ _ _ _ _ _ h
    exact absurd h (by unfold wX12_findSlopes_L26; exact id)
  | succ n ih =>
    intro x2 σ H locs ls S hl h
    unfold wX12_findSlopes_L26 at h
    refine lv_iload_n hx hb dX12_findSlopes_26 rfl (lv_at hl 2 rfl) ?_
    refine lv_bipush (v := 10) hx hb dX12_findSlopes_27 (by decide) ?_
    refine lv_icmp_ge (tgt := 52) hx hb dX12_findSlopes_29 (by decide) (fun q_7 => ?_) (fun q_7 => ?_)
    · replace h := h.1 q_7
      exact hk52 _ _ _ _ S (lv_sub hl [0, 1] rfl) h
    · replace h := h.2 q_7
      refine lv_aload_n hx hb dX12_findSlopes_32 rfl (lv_at hl 0 rfl) ?_
      refine o_get X S 0 34 (by decide) rfl rfl in_12 (by decide) k_901 rfl dX12_findSlopes_33 ?_
      refine lv_iload_n hx hb dX12_findSlopes_36 rfl (lv_at hl 2 rfl) ?_
      refine lv_iconst (v := 0) hx hb dX12_findSlopes_37 (by decide) ?_
      refine o_iast X S 22 0 (by decide) (fun _ => rfl) rfl h.1 dX12_findSlopes_38 (fun σ_8 H locs eσ_8 S => ?_)
      replace h := h.2 σ_8 eσ_8
      refine lv_aload_n hx hb dX12_findSlopes_39 rfl (lv_at hl 0 rfl) ?_
      refine o_get X S 0 35 (by decide) rfl rfl in_12 (by decide) k_902 rfl dX12_findSlopes_40 ?_
      refine lv_iload_n hx hb dX12_findSlopes_43 rfl (lv_at hl 2 rfl) ?_
      refine lv_iconst (v := 0) hx hb dX12_findSlopes_44 (by decide) ?_
      refine o_iast X S 23 0 (by decide) (fun _ => rfl) rfl h.1 dX12_findSlopes_45 (fun σ_9 H locs eσ_9 S => ?_)
      replace h := h.2 σ_9 eσ_9
      obtain ⟨x2_10, ex2_10⟩ : ∃ y : Int32, y = x2 + 1 := ⟨_, rfl⟩
      replace h := h x2_10 ex2_10
      refine lv_iinc (v := x2_10) (lv' := [(2, .int x2_10), (0, .ref (ad 0)), (1, .int x1)]) hx hb dX12_findSlopes_46 hl (k := 2) rfl (by rw [ex2_10]; rfl) (by decide) rfl (fun ls hl => ?_)
      refine lv_goto (tgt := 26) hx hb dX12_findSlopes_49 (by decide) ?_
      exact ih _ _ _ _ _ S (lv_sub hl [1, 2, 0] rfl) h
set_option maxHeartbeats 4000000 in
set_option maxRecDepth 100000 in
theorem mX12_findSlopes_L93 {D : va_G} {cy : Nat → ClassId} {ad : Nat → Nat} (l : Launch) {p : Program} {e : Env} {s : State} {m : MethodId} {args : Array Value} {below : List Frame} {meth : Method} {c : Code} {A : Nat → Prop} {k114 : Sg → Prop} {Q : Sg → Prop} (X : Fx D (tyM cy) EvM p s m args meth c cX12_findSlopes 6 "BackBayModel" A) (hr : meth.sig.returnType = none) (x2 : Int32) (x3 : Int32) (x4 : Int32) (hk114 : ∀ (σ : Sg) (H : Heap) (locs : List Loc) (ls : Array Slot), St D ad 34 (shM cy ad) A s σ H locs → lv_has ls 6 [(0, .ref (ad 0)), (2, .int x2), (3, .int x3), (4, .int x4)] → k114 σ → W p l e ({ frames := 7, cells := 0, slots := 0, locals := 164 }) s m args below meth c H locs 0 0 (MQ below (va_Qv Q (PosW D (tyM cy) ad 34 (shM cy ad) A) A) args s 0 0 A) (F0 m 114 ls [])) : ∀ (n : Nat) (x5 : Int32) (σ : Sg) (H : Heap) (locs : List Loc) (ls : Array Slot), St D ad 34 (shM cy ad) A s σ H locs → lv_has ls 6 [(0, .ref (ad 0)), (2, .int x2), (3, .int x3), (4, .int x4), (5, .int x5)] → wX12_findSlopes_L93 x2 x3 x4 k114 Q n x5 σ → W p l e ({ frames := 7, cells := 0, slots := 0, locals := 164 }) s m args below meth c H locs 0 0 (MQ below (va_Qv Q (PosW D (tyM cy) ad 34 (shM cy ad) A) A) args s 0 0 A) (F0 m 93 ls []) := by
  have hx := X.1
  have hb := X.2.1
  intro n
  induction n with
  | zero =>
    intro _ _ _ _ _ _ _ h
    exact absurd h (by unfold wX12_findSlopes_L93; exact id)
  | succ n ih =>
    intro x5 σ H locs ls S hl h
    unfold wX12_findSlopes_L93 at h
    refine lv_iload hx hb dX12_findSlopes_93 (lv_at hl 4 rfl) ?_
    refine lv_bipush (v := 10) hx hb dX12_findSlopes_95 (by decide) ?_
    refine lv_icmp_ge (tgt := 114) hx hb dX12_findSlopes_97 (by decide) (fun q_19 => ?_) (fun q_19 => ?_)
    · replace h := h.1 q_19
      exact hk114 _ _ _ _ S (lv_sub hl [0, 1, 2, 3] rfl) h
    · replace h := h.2 q_19
      refine lv_aload_n hx hb dX12_findSlopes_100 rfl (lv_at hl 0 rfl) ?_
      refine o_get X S 0 36 (by decide) rfl rfl in_12 (by decide) k_903 rfl dX12_findSlopes_101 ?_
      refine lv_iload hx hb dX12_findSlopes_104 (lv_at hl 4 rfl) ?_
      refine lv_iconst (v := 0) hx hb dX12_findSlopes_106 (by decide) ?_
      refine o_iast X S 24 0 (by decide) (fun _ => rfl) rfl h.1 dX12_findSlopes_107 (fun σ_20 H locs eσ_20 S => ?_)
      replace h := h.2 σ_20 eσ_20
      obtain ⟨x5_21, ex5_21⟩ : ∃ y : Int32, y = x5 + 1 := ⟨_, rfl⟩
      replace h := h x5_21 ex5_21
      refine lv_iinc (v := x5_21) (lv' := [(5, .int x5_21), (0, .ref (ad 0)), (2, .int x2), (3, .int x3), (4, .int x4)]) hx hb dX12_findSlopes_108 hl (k := 4) rfl (by rw [ex5_21]; rfl) (by decide) rfl (fun ls hl => ?_)
      refine lv_goto (tgt := 93) hx hb dX12_findSlopes_111 (by decide) ?_
      exact ih _ _ _ _ _ S (lv_sub hl [1, 2, 3, 4, 0] rfl) h
set_option maxHeartbeats 4000000 in
set_option maxRecDepth 100000 in
theorem mX12_findSlopes_L117 {D : va_G} {cy : Nat → ClassId} {ad : Nat → Nat} (l : Launch) {p : Program} {e : Env} {s : State} {m : MethodId} {args : Array Value} {below : List Frame} {meth : Method} {c : Code} {A : Nat → Prop} {k141 : Sg → Prop} {Q : Sg → Prop} (X : Fx D (tyM cy) EvM p s m args meth c cX12_findSlopes 6 "BackBayModel" A) (hr : meth.sig.returnType = none) (x2 : Int32) (x3 : Int32) (x4 : Int32) (hk141 : ∀ (σ : Sg) (H : Heap) (locs : List Loc) (ls : Array Slot), St D ad 34 (shM cy ad) A s σ H locs → lv_has ls 6 [(0, .ref (ad 0)), (2, .int x2), (3, .int x3)] → k141 σ → W p l e ({ frames := 7, cells := 0, slots := 0, locals := 164 }) s m args below meth c H locs 0 0 (MQ below (va_Qv Q (PosW D (tyM cy) ad 34 (shM cy ad) A) A) args s 0 0 A) (F0 m 141 ls [])) : ∀ (n : Nat) (x5 : Int32) (σ : Sg) (H : Heap) (locs : List Loc) (ls : Array Slot), St D ad 34 (shM cy ad) A s σ H locs → lv_has ls 6 [(0, .ref (ad 0)), (2, .int x2), (3, .int x3), (4, .int x4), (5, .int x5)] → wX12_findSlopes_L117 x2 x3 x4 k141 Q n x5 σ → W p l e ({ frames := 7, cells := 0, slots := 0, locals := 164 }) s m args below meth c H locs 0 0 (MQ below (va_Qv Q (PosW D (tyM cy) ad 34 (shM cy ad) A) A) args s 0 0 A) (F0 m 117 ls []) := by
  have hx := X.1
  have hb := X.2.1
  intro n
  induction n with
  | zero =>
    intro _ _ _ _ _ _ _ h
    exact absurd h (by unfold wX12_findSlopes_L117; exact id)
  | succ n ih =>
    intro x5 σ H locs ls S hl h
    unfold wX12_findSlopes_L117 at h
    refine lv_iload hx hb dX12_findSlopes_117 (lv_at hl 4 rfl) ?_
    refine lv_aload_n hx hb dX12_findSlopes_119 rfl (lv_at hl 0 rfl) ?_
    refine o_get X S 0 19 (by decide) rfl rfl in_12 (by decide) k_886 rfl dX12_findSlopes_120 ?_
    refine lv_icmp_ge (tgt := 141) hx hb dX12_findSlopes_123 (by decide) (fun q_23 => ?_) (fun q_23 => ?_)
    · replace h := h.1 q_23
      exact hk141 _ _ _ _ S (lv_sub hl [0, 1, 2] rfl) h
    · replace h := h.2 q_23
      refine lv_aload_n hx hb dX12_findSlopes_126 rfl (lv_at hl 0 rfl) ?_
      refine lv_iload_n hx hb dX12_findSlopes_127 rfl (lv_at hl 2 rfl) ?_
      refine lv_iload hx hb dX12_findSlopes_128 (lv_at hl 3 rfl) ?_
      refine lv_iload hx hb dX12_findSlopes_130 (lv_at hl 4 rfl) ?_
      refine o_callVv (k := 3) EvM_ok X S (mX12_giveBack l x3 x4 x5 σ _ h) (by decide) rfl rfl k_1190 k_1187 k_1189 ks_55 k_14 ⟨rfl, by decide, by decide, by decide +kernel⟩ ⟨rfl, rfl⟩ ⟨Nat.le_of_ble_eq_true rfl, Nat.le_of_ble_eq_true rfl⟩ rfl hl.1 rfl (Nat.le_of_ble_eq_true rfl) dX12_findSlopes_132 (fun σ_25 H locs h S => ?_)
      obtain ⟨x5_26, ex5_26⟩ : ∃ y : Int32, y = x5 + 1 := ⟨_, rfl⟩
      replace h := h x5_26 ex5_26
      refine lv_iinc (v := x5_26) (lv' := [(5, .int x5_26), (0, .ref (ad 0)), (2, .int x2), (3, .int x3), (4, .int x4)]) hx hb dX12_findSlopes_135 hl (k := 4) rfl (by rw [ex5_26]; rfl) (by decide) rfl (fun ls hl => ?_)
      refine lv_goto (tgt := 117) hx hb dX12_findSlopes_138 (by decide) ?_
      exact ih _ _ _ _ _ S (lv_sub hl [1, 2, 3, 4, 0] rfl) h
set_option maxHeartbeats 4000000 in
set_option maxRecDepth 100000 in
theorem mX12_findSlopes_L144 {D : va_G} {cy : Nat → ClassId} {ad : Nat → Nat} (l : Launch) {p : Program} {e : Env} {s : State} {m : MethodId} {args : Array Value} {below : List Frame} {meth : Method} {c : Code} {A : Nat → Prop} {k171 : Sg → Prop} {Q : Sg → Prop} (X : Fx D (tyM cy) EvM p s m args meth c cX12_findSlopes 6 "BackBayModel" A) (hr : meth.sig.returnType = none) (x2 : Int32) (x3 : Int32) (hk171 : ∀ (σ : Sg) (H : Heap) (locs : List Loc) (ls : Array Slot), St D ad 34 (shM cy ad) A s σ H locs → lv_has ls 6 [(0, .ref (ad 0)), (2, .int x2), (3, .int x3)] → k171 σ → W p l e ({ frames := 7, cells := 0, slots := 0, locals := 164 }) s m args below meth c H locs 0 0 (MQ below (va_Qv Q (PosW D (tyM cy) ad 34 (shM cy ad) A) A) args s 0 0 A) (F0 m 171 ls [])) : ∀ (n : Nat) (x5 : Int32) (σ : Sg) (H : Heap) (locs : List Loc) (ls : Array Slot), St D ad 34 (shM cy ad) A s σ H locs → lv_has ls 6 [(0, .ref (ad 0)), (2, .int x2), (3, .int x3), (5, .int x5)] → wX12_findSlopes_L144 x2 x3 k171 Q n x5 σ → W p l e ({ frames := 7, cells := 0, slots := 0, locals := 164 }) s m args below meth c H locs 0 0 (MQ below (va_Qv Q (PosW D (tyM cy) ad 34 (shM cy ad) A) A) args s 0 0 A) (F0 m 144 ls []) := by
  have hx := X.1
  have hb := X.2.1
  intro n
  induction n with
  | zero =>
    intro _ _ _ _ _ _ _ h
    exact absurd h (by unfold wX12_findSlopes_L144; exact id)
  | succ n ih =>
    intro x5 σ H locs ls S hl h
    unfold wX12_findSlopes_L144 at h
    refine lv_iload hx hb dX12_findSlopes_144 (lv_at hl 3 rfl) ?_
    refine lv_bipush (v := 10) hx hb dX12_findSlopes_146 (by decide) ?_
    refine lv_icmp_ge (tgt := 171) hx hb dX12_findSlopes_148 (by decide) (fun q_28 => ?_) (fun q_28 => ?_)
    · replace h := h.1 q_28
      exact hk171 _ _ _ _ S (lv_sub hl [0, 1, 2] rfl) h
    · replace h := h.2 q_28
      refine lv_aload_n hx hb dX12_findSlopes_151 rfl (lv_at hl 0 rfl) ?_
      refine o_get X S 0 35 (by decide) rfl rfl in_12 (by decide) k_902 rfl dX12_findSlopes_152 ?_
      refine lv_iload hx hb dX12_findSlopes_155 (lv_at hl 3 rfl) ?_
      refine lv_aload_n hx hb dX12_findSlopes_157 rfl (lv_at hl 0 rfl) ?_
      refine o_get X S 0 36 (by decide) rfl rfl in_12 (by decide) k_903 rfl dX12_findSlopes_158 ?_
      refine lv_iload hx hb dX12_findSlopes_161 (lv_at hl 3 rfl) ?_
      refine o_iald X S 24 0 (by decide) (fun _ => rfl) rfl h.1 dX12_findSlopes_163 ?_
      replace h := h.2
      refine o_iast X S 23 0 (by decide) (fun _ => rfl) rfl h.1 dX12_findSlopes_164 (fun σ_29 H locs eσ_29 S => ?_)
      replace h := h.2 σ_29 eσ_29
      obtain ⟨x5_30, ex5_30⟩ : ∃ y : Int32, y = x5 + 1 := ⟨_, rfl⟩
      replace h := h x5_30 ex5_30
      refine lv_iinc (v := x5_30) (lv' := [(5, .int x5_30), (0, .ref (ad 0)), (2, .int x2), (3, .int x3)]) hx hb dX12_findSlopes_165 hl (k := 3) rfl (by rw [ex5_30]; rfl) (by decide) rfl (fun ls hl => ?_)
      refine lv_goto (tgt := 144) hx hb dX12_findSlopes_168 (by decide) ?_
      exact ih _ _ _ _ _ S (lv_sub hl [1, 2, 3, 0] rfl) h
set_option maxHeartbeats 4000000 in
set_option maxRecDepth 100000 in
theorem mX12_findSlopes_L70 {D : va_G} {cy : Nat → ClassId} {ad : Nat → Nat} (l : Launch) {p : Program} {e : Env} {s : State} {m : MethodId} {args : Array Value} {below : List Frame} {meth : Method} {c : Code} {A : Nat → Prop} {k177 : Sg → Prop} {Q : Sg → Prop} (X : Fx D (tyM cy) EvM p s m args meth c cX12_findSlopes 6 "BackBayModel" A) (hr : meth.sig.returnType = none) (x2 : Int32) (hk177 : ∀ (σ : Sg) (H : Heap) (locs : List Loc) (ls : Array Slot), St D ad 34 (shM cy ad) A s σ H locs → lv_has ls 6 [(0, .ref (ad 0)), (2, .int x2)] → k177 σ → W p l e ({ frames := 7, cells := 0, slots := 0, locals := 164 }) s m args below meth c H locs 0 0 (MQ below (va_Qv Q (PosW D (tyM cy) ad 34 (shM cy ad) A) A) args s 0 0 A) (F0 m 177 ls [])) : ∀ (n : Nat) (x3 : Int32) (σ : Sg) (H : Heap) (locs : List Loc) (ls : Array Slot), St D ad 34 (shM cy ad) A s σ H locs → lv_has ls 6 [(0, .ref (ad 0)), (2, .int x2), (3, .int x3)] → wX12_findSlopes_L70 x2 k177 Q n x3 σ → W p l e ({ frames := 7, cells := 0, slots := 0, locals := 164 }) s m args below meth c H locs 0 0 (MQ below (va_Qv Q (PosW D (tyM cy) ad 34 (shM cy ad) A) A) args s 0 0 A) (F0 m 70 ls []) := by
  have hx := X.1
  have hb := X.2.1
  intro n
  induction n with
  | zero =>
    intro _ _ _ _ _ _ _ h
    exact absurd h (by unfold wX12_findSlopes_L70; exact id)
  | succ n ih =>
    intro x3 σ H locs ls S hl h
    unfold wX12_findSlopes_L70 at h
    refine lv_iload_n hx hb dX12_findSlopes_70 rfl (lv_at hl 2 rfl) ?_
    refine lv_if_lt (tgt := 177) hx hb dX12_findSlopes_71 (by decide) (fun q_16 => ?_) (fun q_16 => ?_)
    · replace h := h.1 q_16
      exact hk177 _ _ _ _ S (lv_sub hl [0, 1] rfl) h
    · replace h := h.2 q_16
      refine lv_iload_n hx hb dX12_findSlopes_74 rfl (lv_at hl 1 rfl) ?_
      refine lv_if_le (tgt := 177) hx hb dX12_findSlopes_75 (by decide) (fun q_17 => ?_) (fun q_17 => ?_)
      · replace h := h.1 q_17
        exact hk177 _ _ _ _ S (lv_sub hl [0, 1] rfl) h
      · replace h := h.2 q_17
        refine lv_iload_n hx hb dX12_findSlopes_78 rfl (lv_at hl 1 rfl) ?_
        refine lv_iconst (v := 1) hx hb dX12_findSlopes_79 (by decide) ?_
        refine lv_isub hx hb dX12_findSlopes_80 ?_
        refine lv_aload_n hx hb dX12_findSlopes_81 rfl (lv_at hl 0 rfl) ?_
        refine o_get X S 0 6 (by decide) rfl rfl in_12 (by decide) k_873 rfl dX12_findSlopes_82 ?_
        refine lv_imul hx hb dX12_findSlopes_85 ?_
        refine lv_iload_n hx hb dX12_findSlopes_86 rfl (lv_at hl 2 rfl) ?_
        refine lv_iadd hx hb dX12_findSlopes_87 ?_
        refine lv_topi (fun x4_18 ex4_18 => ?_)
        replace h := h x4_18 ex4_18
        refine lv_istore (lv' := [(4, .int x4_18), (0, .ref (ad 0)), (2, .int x2), (3, .int x3)]) hx hb dX12_findSlopes_88 hl (by decide) rfl (fun ls hl => ?_)
        refine lv_iconst (v := 0) hx hb dX12_findSlopes_90 (by decide) ?_
        refine lv_istore (lv' := [(5, .int 0), (4, .int x4_18), (0, .ref (ad 0)), (2, .int x2), (3, .int x3)]) hx hb dX12_findSlopes_91 hl (by decide) rfl (fun ls hl => ?_)
        obtain ⟨n_93, h⟩ := h
        refine mX12_findSlopes_L93 l X hr x2 x3 x4_18 ?_ n_93 _ _ _ _ _ S (lv_sub hl [2, 3, 4, 1, 0] rfl) h
        · intro σ_22 H locs ls S hl h
          refine lv_iconst (v := 0) hx hb dX12_findSlopes_114 (by decide) ?_
          refine lv_istore (lv' := [(5, .int 0), (0, .ref (ad 0)), (2, .int x2), (3, .int x3), (4, .int x4_18)]) hx hb dX12_findSlopes_115 hl (by decide) rfl (fun ls hl => ?_)
          obtain ⟨n_117, h⟩ := h
          refine mX12_findSlopes_L117 l X hr x2 x3 x4_18 ?_ n_117 _ _ _ _ _ S (lv_sub hl [1, 2, 3, 4, 0] rfl) h
          · intro σ_27 H locs ls S hl h
            refine lv_iconst (v := 0) hx hb dX12_findSlopes_141 (by decide) ?_
            refine lv_istore (lv' := [(5, .int 0), (0, .ref (ad 0)), (2, .int x2), (3, .int x3)]) hx hb dX12_findSlopes_142 hl (by decide) rfl (fun ls hl => ?_)
            obtain ⟨n_144, h⟩ := h
            refine mX12_findSlopes_L144 l X hr x2 x3 ?_ n_144 _ _ _ _ _ S (lv_sub hl [1, 2, 3, 0] rfl) h
            · intro σ_31 H locs ls S hl h
              obtain ⟨x3_32, ex3_32⟩ : ∃ y : Int32, y = x3 + (-1) := ⟨_, rfl⟩
              replace h := h x3_32 ex3_32
              refine lv_iinc (v := x3_32) (lv' := [(3, .int x3_32), (0, .ref (ad 0)), (2, .int x2)]) hx hb dX12_findSlopes_171 hl (k := 2) rfl (by rw [ex3_32]; rfl) (by decide) rfl (fun ls hl => ?_)
              refine lv_goto (tgt := 70) hx hb dX12_findSlopes_174 (by decide) ?_
              exact ih _ _ _ _ _ S (lv_sub hl [1, 2, 0] rfl) h
set_option maxHeartbeats 4000000 in
set_option maxRecDepth 100000 in
theorem mX12_findSlopes_b177 {D : va_G} {cy : Nat → ClassId} {ad : Nat → Nat} (l : Launch) {p : Program} {e : Env} {s : State} {m : MethodId} {args : Array Value} {below : List Frame} {meth : Method} {c : Code} {A : Nat → Prop} {k183 : Sg → Prop} {kb54 : Int32 → Sg → Prop} {Q : Sg → Prop} (X : Fx D (tyM cy) EvM p s m args meth c cX12_findSlopes 6 "BackBayModel" A) (hr : meth.sig.returnType = none) (x2 : Int32) (hk183 : ∀ (σ : Sg) (H : Heap) (locs : List Loc) (ls : Array Slot), St D ad 34 (shM cy ad) A s σ H locs → lv_has ls 6 [] → k183 σ → W p l e ({ frames := 7, cells := 0, slots := 0, locals := 164 }) s m args below meth c H locs 0 0 (MQ below (va_Qv Q (PosW D (tyM cy) ad 34 (shM cy ad) A) A) args s 0 0 A) (F0 m 183 ls [])) (hkb54 : ∀ (x2 : Int32) (σ : Sg) (H : Heap) (locs : List Loc) (ls : Array Slot), St D ad 34 (shM cy ad) A s σ H locs → lv_has ls 6 [(0, .ref (ad 0)), (2, .int x2)] → kb54 x2 σ → W p l e ({ frames := 7, cells := 0, slots := 0, locals := 164 }) s m args below meth c H locs 0 0 (MQ below (va_Qv Q (PosW D (tyM cy) ad 34 (shM cy ad) A) A) args s 0 0 A) (F0 m 54 ls [])) {σ : Sg} {H : Heap} {locs : List Loc} {ls : Array Slot} (S : St D ad 34 (shM cy ad) A s σ H locs) (hl : lv_has ls 6 [(0, .ref (ad 0)), (2, .int x2)]) (h : wX12_findSlopes_b177 x2 σ k183 kb54 Q) : W p l e ({ frames := 7, cells := 0, slots := 0, locals := 164 }) s m args below meth c H locs 0 0 (MQ below (va_Qv Q (PosW D (tyM cy) ad 34 (shM cy ad) A) A) args s 0 0 A) (F0 m 177 ls []) := by
  have hx := X.1
  have hb := X.2.1
  unfold wX12_findSlopes_b177 at h
  obtain ⟨x2_34, ex2_34⟩ : ∃ y : Int32, y = x2 + (-1) := ⟨_, rfl⟩
  replace h := h x2_34 ex2_34
  refine lv_iinc (v := x2_34) (lv' := [(2, .int x2_34), (0, .ref (ad 0))]) hx hb dX12_findSlopes_177 hl (k := 1) rfl (by rw [ex2_34]; rfl) (by decide) rfl (fun ls hl => ?_)
  refine lv_goto (tgt := 54) hx hb dX12_findSlopes_180 (by decide) ?_
  exact hkb54 _ _ _ _ _ S (lv_sub hl [1, 0] rfl) h
set_option maxHeartbeats 4000000 in
set_option maxRecDepth 100000 in
theorem mX12_findSlopes_L54 {D : va_G} {cy : Nat → ClassId} {ad : Nat → Nat} (l : Launch) {p : Program} {e : Env} {s : State} {m : MethodId} {args : Array Value} {below : List Frame} {meth : Method} {c : Code} {A : Nat → Prop} {k183 : Sg → Prop} {Q : Sg → Prop} (X : Fx D (tyM cy) EvM p s m args meth c cX12_findSlopes 6 "BackBayModel" A) (hr : meth.sig.returnType = none) (hk183 : ∀ (σ : Sg) (H : Heap) (locs : List Loc) (ls : Array Slot), St D ad 34 (shM cy ad) A s σ H locs → lv_has ls 6 [] → k183 σ → W p l e ({ frames := 7, cells := 0, slots := 0, locals := 164 }) s m args below meth c H locs 0 0 (MQ below (va_Qv Q (PosW D (tyM cy) ad 34 (shM cy ad) A) A) args s 0 0 A) (F0 m 183 ls [])) : ∀ (n : Nat) (x2 : Int32) (σ : Sg) (H : Heap) (locs : List Loc) (ls : Array Slot), St D ad 34 (shM cy ad) A s σ H locs → lv_has ls 6 [(0, .ref (ad 0)), (2, .int x2)] → wX12_findSlopes_L54 k183 Q n x2 σ → W p l e ({ frames := 7, cells := 0, slots := 0, locals := 164 }) s m args below meth c H locs 0 0 (MQ below (va_Qv Q (PosW D (tyM cy) ad 34 (shM cy ad) A) A) args s 0 0 A) (F0 m 54 ls []) := by
  have hx := X.1
  have hb := X.2.1
  intro n
  induction n with
  | zero =>
    intro _ _ _ _ _ _ _ h
    exact absurd h (by unfold wX12_findSlopes_L54; exact id)
  | succ n ih =>
    intro x2 σ H locs ls S hl h
    unfold wX12_findSlopes_L54 at h
    refine lv_iload_n hx hb dX12_findSlopes_54 rfl (lv_at hl 1 rfl) ?_
    refine lv_if_lt (tgt := 183) hx hb dX12_findSlopes_55 (by decide) (fun q_12 => ?_) (fun q_12 => ?_)
    · replace h := h.1 q_12
      exact hk183 _ _ _ _ S (lv_sub hl [] rfl) h
    · replace h := h.2 q_12
      refine lv_aload_n hx hb dX12_findSlopes_58 rfl (lv_at hl 0 rfl) ?_
      refine lv_iload_n hx hb dX12_findSlopes_59 rfl (lv_at hl 1 rfl) ?_
      refine o_callVv (k := 1) EvM_ok X S (mX12_addGauges l x2 σ _ h) (by decide) rfl rfl k_1186 k_1183 k_1185 ks_54 k_14 ⟨rfl, by decide, by decide, by decide +kernel⟩ ⟨rfl, rfl⟩ ⟨Nat.le_of_ble_eq_true rfl, Nat.le_of_ble_eq_true rfl⟩ rfl hl.1 rfl (Nat.le_of_ble_eq_true rfl) dX12_findSlopes_60 (fun σ_14 H locs h S => ?_)
      refine lv_aload_n hx hb dX12_findSlopes_63 rfl (lv_at hl 0 rfl) ?_
      refine o_get X S 0 6 (by decide) rfl rfl in_12 (by decide) k_873 rfl dX12_findSlopes_64 ?_
      refine lv_iconst (v := 1) hx hb dX12_findSlopes_67 (by decide) ?_
      refine lv_isub hx hb dX12_findSlopes_68 ?_
      refine lv_topi (fun x3_15 ex3_15 => ?_)
      replace h := h x3_15 ex3_15
      refine lv_istore_n (lv' := [(3, .int x3_15), (0, .ref (ad 0)), (2, .int x2)]) hx hb dX12_findSlopes_69 rfl hl (by decide) rfl (fun ls hl => ?_)
      obtain ⟨n_70, h⟩ := h
      refine mX12_findSlopes_L70 l X hr x2 ?_ n_70 _ _ _ _ _ S (lv_sub hl [1, 2, 0] rfl) h
      · intro σ_33 H locs ls S hl h
        exact mX12_findSlopes_b177 l X hr x2 hk183 ih S (lv_sub hl [0, 1] rfl) h
set_option maxHeartbeats 4000000 in
set_option maxRecDepth 100000 in
theorem mX12_findSlopes {D : va_G} {cy : Nat → ClassId} {ad : Nat → Nat} (l : Launch) (σ : Sg) (Q : Sg → Prop) (h : wX12_findSlopes σ Q) : MVM D cy ad l yX12_findSlopes (.code yX12_findSlopes cX12_findSlopes 6 none :: gT) ({ frames := 7, cells := 0, slots := 0, locals := 164 }) [.ref (ad 0)] σ Q := by
  refine metV_of (by decide +kernel) (Nat.le_of_ble_eq_true rfl) ?_
  intro p e s m args below meth c A ls X hr hl S
  have X : Fx D (tyM cy) EvM p s m args meth c cX12_findSlopes 6 "BackBayModel" A := X
  have hl : lv_has ls 6 [(0, .ref (ad 0))] := hl
  have hx := X.1
  have hb := X.2.1
  unfold wX12_findSlopes at h
  refine lv_aload_n hx hb dX12_findSlopes_0 rfl (lv_at hl 0 rfl) ?_
  refine o_callVi (k := 0) EvM_ok X S (mX12_last l σ _ h) (by decide) rfl rfl k_1170 k_1167 k_1169 ks_51 k_14 ⟨rfl, by decide, by decide, by decide +kernel⟩ ⟨rfl, rfl⟩ ⟨Nat.le_of_ble_eq_true rfl, Nat.le_of_ble_eq_true rfl⟩ rfl hl.1 rfl (Nat.le_of_ble_eq_true rfl) dX12_findSlopes_1 (fun r_1 σ_2 H locs h S => ?_)
  refine lv_istore_n (lv' := [(1, .int r_1), (0, .ref (ad 0))]) hx hb dX12_findSlopes_4 rfl hl (by decide) rfl (fun ls hl => ?_)
  refine lv_aload_n hx hb dX12_findSlopes_5 rfl (lv_at hl 1 rfl) ?_
  refine lv_iload_n hx hb dX12_findSlopes_6 rfl (lv_at hl 0 rfl) ?_
  refine o_callVv (k := 1) EvM_ok X S (mX12_go l r_1 σ_2 _ h) (by decide) rfl rfl k_1114 k_1111 k_1113 ks_40 k_14 ⟨rfl, by decide, by decide, by decide +kernel⟩ ⟨rfl, rfl⟩ ⟨Nat.le_of_ble_eq_true rfl, Nat.le_of_ble_eq_true rfl⟩ rfl hl.1 rfl (Nat.le_of_ble_eq_true rfl) dX12_findSlopes_7 (fun σ_4 H locs h S => ?_)
  refine lv_aload_n hx hb dX12_findSlopes_10 rfl (lv_at hl 1 rfl) ?_
  refine o_get X S 0 37 (by decide) rfl rfl in_12 (by decide) k_904 rfl dX12_findSlopes_11 ?_
  refine lv_iconst (v := 0) hx hb dX12_findSlopes_14 (by decide) ?_
  refine lv_iconst (v := 0) hx hb dX12_findSlopes_15 (by decide) ?_
  refine o_iast X S 25 0 (by decide) (fun _ => rfl) rfl h.1 dX12_findSlopes_16 (fun σ_5 H locs eσ_5 S => ?_)
  replace h := h.2 σ_5 eσ_5
  refine lv_aload_n hx hb dX12_findSlopes_17 rfl (lv_at hl 1 rfl) ?_
  refine o_get X S 0 37 (by decide) rfl rfl in_12 (by decide) k_904 rfl dX12_findSlopes_18 ?_
  refine lv_iconst (v := 1) hx hb dX12_findSlopes_21 (by decide) ?_
  refine lv_iconst (v := 0) hx hb dX12_findSlopes_22 (by decide) ?_
  refine o_iast X S 25 0 (by decide) (fun _ => rfl) rfl h.1 dX12_findSlopes_23 (fun σ_6 H locs eσ_6 S => ?_)
  replace h := h.2 σ_6 eσ_6
  refine lv_iconst (v := 0) hx hb dX12_findSlopes_24 (by decide) ?_
  refine lv_istore_n (lv' := [(2, .int 0), (1, .int r_1), (0, .ref (ad 0))]) hx hb dX12_findSlopes_25 rfl hl (by decide) rfl (fun ls hl => ?_)
  obtain ⟨n_26, h⟩ := h
  refine mX12_findSlopes_L26 l X hr r_1 ?_ n_26 _ _ _ _ _ S (lv_sub hl [2, 1, 0] rfl) h
  · intro σ_11 H locs ls S hl h
    refine lv_iload_n hx hb dX12_findSlopes_52 rfl (lv_at hl 1 rfl) ?_
    refine lv_istore_n (lv' := [(2, .int r_1), (0, .ref (ad 0)), (1, .int r_1)]) hx hb dX12_findSlopes_53 rfl hl (by decide) rfl (fun ls hl => ?_)
    obtain ⟨n_54, h⟩ := h
    refine mX12_findSlopes_L54 l X hr ?_ n_54 _ _ _ _ _ S (lv_sub hl [1, 0] rfl) h
    · intro σ_35 H locs ls S hl h
      exact o_vret X S hr h dX12_findSlopes_183
def wX12_slope_b32 (σ : Sg) (Q : Int64 → Sg → Prop) : Prop :=
  (wX12_refused 1 σ (fun r_4 σ_5 => Q r_4 σ_5))
def wX12_slope_b77 (y0 : Int64) (σ : Sg) (Q : Int64 → Sg → Prop) : Prop :=
  Q y0 σ
def wX12_slope_b26 (x1 : Int32) (x2 : Int32) (y0 : Int32) (y1 : Int32) (y2 : Int32) (σ : Sg) (Q : Int64 → Sg → Prop) : Prop :=
  (wX12_within y2 y1 y0 σ (fun r_7 σ_8 => ((r_7 = 0 → wX12_slope_b32 σ_8 Q) ∧ (¬ r_7 = 0 → (wX12_findSlopes σ_8 (fun σ_11 => ((x1 = 0 → (vp_in x2 10 ∧ wX12_slope_b77 ((σ_11 22 x2.toNatClampNeg).toInt64) σ_11 Q)) ∧ (¬ x1 = 0 → ((x1 = 1 → (vp_in x2 10 ∧ wX12_slope_b77 ((σ_11 23 x2.toNatClampNeg).toInt64) σ_11 Q)) ∧ (¬ x1 = 1 → (vp_in x2 2 ∧ wX12_slope_b77 ((σ_11 25 x2.toNatClampNeg).toInt64) σ_11 Q)))))))))))
def wX12_slope (x1 : Int32) (x2 : Int32) (σ : Sg) (Q : Int64 → Sg → Prop) : Prop :=
  (wX12_within x1 0 2 σ (fun r_1 σ_2 => ((r_1 = 0 → wX12_slope_b32 σ_2 Q) ∧ (¬ r_1 = 0 → ((x1 = 2 → wX12_slope_b26 x1 x2 1 0 x2 σ_2 Q) ∧ (¬ x1 = 2 → wX12_slope_b26 x1 x2 ((σ_2 0 19) - 1) 0 x2 σ_2 Q))))))
set_option maxHeartbeats 4000000 in
set_option maxRecDepth 100000 in
theorem mX12_slope_b32 {D : va_G} {cy : Nat → ClassId} {ad : Nat → Nat} (l : Launch) {p : Program} {e : Env} {s : State} {m : MethodId} {args : Array Value} {below : List Frame} {meth : Method} {c : Code} {A : Nat → Prop} {Q : Int64 → Sg → Prop} (X : Fx D (tyM cy) EvM p s m args meth c cX12_slope 3 "BackBayModel" A) (hr : meth.sig.returnType = some .long) {σ : Sg} {H : Heap} {locs : List Loc} {ls : Array Slot} (S : St D ad 34 (shM cy ad) A s σ H locs) (hl : lv_has ls 3 []) (h : wX12_slope_b32 σ Q) : W p l e ({ frames := 8, cells := 0, slots := 0, locals := 189 }) s m args below meth c H locs 0 0 (MQ below (va_Ql Q (PosW D (tyM cy) ad 34 (shM cy ad) A) A) args s 0 0 A) (F0 m 32 ls []) := by
  have hx := X.1
  have hb := X.2.1
  unfold wX12_slope_b32 at h
  refine lv_iconst (v := 1) hx hb dX12_slope_32 (by decide) ?_
  refine o_callSl (k := 1) EvM_ok X S (mX12_refused l 1 σ _ h) k_1024 k_1022 k_1023 k_14 ⟨by decide, by decide, by decide +kernel⟩ ⟨rfl, rfl⟩ ⟨Nat.le_of_ble_eq_true rfl, Nat.le_of_ble_eq_true rfl⟩ rfl hl.1 rfl (Nat.le_of_ble_eq_true rfl) dX12_slope_33 (fun r_4 σ_5 H locs h S => ?_)
  exact o_lret X S hr h dX12_slope_36
set_option maxHeartbeats 4000000 in
set_option maxRecDepth 100000 in
theorem mX12_slope_b77 {D : va_G} {cy : Nat → ClassId} {ad : Nat → Nat} (l : Launch) {p : Program} {e : Env} {s : State} {m : MethodId} {args : Array Value} {below : List Frame} {meth : Method} {c : Code} {A : Nat → Prop} {Q : Int64 → Sg → Prop} (X : Fx D (tyM cy) EvM p s m args meth c cX12_slope 3 "BackBayModel" A) (hr : meth.sig.returnType = some .long) (y0 : Int64) {σ : Sg} {H : Heap} {locs : List Loc} {ls : Array Slot} (S : St D ad 34 (shM cy ad) A s σ H locs) (hl : lv_has ls 3 []) (h : wX12_slope_b77 y0 σ Q) : W p l e ({ frames := 8, cells := 0, slots := 0, locals := 189 }) s m args below meth c H locs 0 0 (MQ below (va_Ql Q (PosW D (tyM cy) ad 34 (shM cy ad) A) A) args s 0 0 A) (F0 m 77 ls [.long y0]) := by
  have hx := X.1
  have hb := X.2.1
  unfold wX12_slope_b77 at h
  exact o_lret X S hr h dX12_slope_77
set_option maxHeartbeats 4000000 in
set_option maxRecDepth 100000 in
theorem mX12_slope_b26 {D : va_G} {cy : Nat → ClassId} {ad : Nat → Nat} (l : Launch) {p : Program} {e : Env} {s : State} {m : MethodId} {args : Array Value} {below : List Frame} {meth : Method} {c : Code} {A : Nat → Prop} {Q : Int64 → Sg → Prop} (X : Fx D (tyM cy) EvM p s m args meth c cX12_slope 3 "BackBayModel" A) (hr : meth.sig.returnType = some .long) (x1 : Int32) (x2 : Int32) (y0 : Int32) (y1 : Int32) (y2 : Int32) {σ : Sg} {H : Heap} {locs : List Loc} {ls : Array Slot} (S : St D ad 34 (shM cy ad) A s σ H locs) (hl : lv_has ls 3 [(0, .ref (ad 0)), (1, .int x1), (2, .int x2)]) (h : wX12_slope_b26 x1 x2 y0 y1 y2 σ Q) : W p l e ({ frames := 8, cells := 0, slots := 0, locals := 189 }) s m args below meth c H locs 0 0 (MQ below (va_Ql Q (PosW D (tyM cy) ad 34 (shM cy ad) A) A) args s 0 0 A) (F0 m 26 ls [.int y0, .int y1, .int y2]) := by
  have hx := X.1
  have hb := X.2.1
  unfold wX12_slope_b26 at h
  refine o_callSi (k := 3) EvM_ok X S (mX12_within l y2 y1 y0 σ _ h) k_1021 k_1019 k_1020 k_14 ⟨by decide, by decide, by decide +kernel⟩ ⟨rfl, rfl⟩ ⟨Nat.le_of_ble_eq_true rfl, Nat.le_of_ble_eq_true rfl⟩ rfl hl.1 rfl (Nat.le_of_ble_eq_true rfl) dX12_slope_26 (fun r_7 σ_8 H locs h S => ?_)
  refine lv_if_ne (tgt := 37) hx hb dX12_slope_29 (by decide) (fun q_9 => ?_) (fun q_9 => ?_)
  · replace h := h.2 q_9
    refine lv_aload_n hx hb dX12_slope_37 rfl (lv_at hl 0 rfl) ?_
    refine o_callVv (k := 0) EvM_ok X S (mX12_findSlopes l σ_8 _ h) (by decide) rfl rfl k_1182 k_1179 k_1181 ks_53 k_14 ⟨rfl, by decide, by decide, by decide +kernel⟩ ⟨rfl, rfl⟩ ⟨Nat.le_of_ble_eq_true rfl, Nat.le_of_ble_eq_true rfl⟩ rfl hl.1 rfl (Nat.le_of_ble_eq_true rfl) dX12_slope_38 (fun σ_11 H locs h S => ?_)
    refine lv_iload_n hx hb dX12_slope_41 rfl (lv_at hl 1 rfl) ?_
    refine lv_if_ne (tgt := 55) hx hb dX12_slope_42 (by decide) (fun q_12 => ?_) (fun q_12 => ?_)
    · replace h := h.2 q_12
      refine lv_iload_n hx hb dX12_slope_55 rfl (lv_at hl 1 rfl) ?_
      refine lv_iconst (v := 1) hx hb dX12_slope_56 (by decide) ?_
      refine lv_icmp_ne (tgt := 70) hx hb dX12_slope_57 (by decide) (fun q_13 => ?_) (fun q_13 => ?_)
      · replace h := h.2 q_13
        refine lv_aload_n hx hb dX12_slope_70 rfl (lv_at hl 0 rfl) ?_
        refine o_get X S 0 37 (by decide) rfl rfl in_12 (by decide) k_904 rfl dX12_slope_71 ?_
        refine lv_iload_n hx hb dX12_slope_74 rfl (lv_at hl 2 rfl) ?_
        refine o_iald X S 25 0 (by decide) (fun _ => rfl) rfl h.1 dX12_slope_75 ?_
        replace h := h.2
        refine lv_i2l hx hb dX12_slope_76 rfl ?_
        exact mX12_slope_b77 l X hr ((σ_11 25 x2.toNatClampNeg).toInt64) S (lv_sub hl [] rfl) h
      · replace h := h.1 q_13
        refine lv_aload_n hx hb dX12_slope_60 rfl (lv_at hl 0 rfl) ?_
        refine o_get X S 0 35 (by decide) rfl rfl in_12 (by decide) k_902 rfl dX12_slope_61 ?_
        refine lv_iload_n hx hb dX12_slope_64 rfl (lv_at hl 2 rfl) ?_
        refine o_iald X S 23 0 (by decide) (fun _ => rfl) rfl h.1 dX12_slope_65 ?_
        replace h := h.2
        refine lv_i2l hx hb dX12_slope_66 rfl ?_
        refine lv_goto (tgt := 77) hx hb dX12_slope_67 (by decide) ?_
        exact mX12_slope_b77 l X hr ((σ_11 23 x2.toNatClampNeg).toInt64) S (lv_sub hl [] rfl) h
    · replace h := h.1 q_12
      refine lv_aload_n hx hb dX12_slope_45 rfl (lv_at hl 0 rfl) ?_
      refine o_get X S 0 34 (by decide) rfl rfl in_12 (by decide) k_901 rfl dX12_slope_46 ?_
      refine lv_iload_n hx hb dX12_slope_49 rfl (lv_at hl 2 rfl) ?_
      refine o_iald X S 22 0 (by decide) (fun _ => rfl) rfl h.1 dX12_slope_50 ?_
      replace h := h.2
      refine lv_i2l hx hb dX12_slope_51 rfl ?_
      refine lv_goto (tgt := 77) hx hb dX12_slope_52 (by decide) ?_
      exact mX12_slope_b77 l X hr ((σ_11 22 x2.toNatClampNeg).toInt64) S (lv_sub hl [] rfl) h
  · replace h := h.1 q_9
    exact mX12_slope_b32 l X hr S (lv_sub hl [] rfl) h
set_option maxHeartbeats 4000000 in
set_option maxRecDepth 100000 in
theorem mX12_slope {D : va_G} {cy : Nat → ClassId} {ad : Nat → Nat} (l : Launch) (x1 : Int32) (x2 : Int32) (σ : Sg) (Q : Int64 → Sg → Prop) (h : wX12_slope x1 x2 σ Q) : MLM D cy ad l yX12_slope (.code yX12_slope cX12_slope 3 (some .long) :: gT) ({ frames := 8, cells := 0, slots := 0, locals := 189 }) [.ref (ad 0), .int x1, .int x2] σ Q := by
  refine metL_of (by decide +kernel) (Nat.le_of_ble_eq_true rfl) ?_
  intro p e s m args below meth c A ls X hr hl S
  have X : Fx D (tyM cy) EvM p s m args meth c cX12_slope 3 "BackBayModel" A := X
  have hl : lv_has ls 3 [(0, .ref (ad 0)), (1, .int x1), (2, .int x2)] := hl
  have hx := X.1
  have hb := X.2.1
  unfold wX12_slope at h
  refine lv_iload_n hx hb dX12_slope_0 rfl (lv_at hl 1 rfl) ?_
  refine lv_iconst (v := 0) hx hb dX12_slope_1 (by decide) ?_
  refine lv_iconst (v := 2) hx hb dX12_slope_2 (by decide) ?_
  refine o_callSi (k := 3) EvM_ok X S (mX12_within l x1 0 2 σ _ h) k_1021 k_1019 k_1020 k_14 ⟨by decide, by decide, by decide +kernel⟩ ⟨rfl, rfl⟩ ⟨Nat.le_of_ble_eq_true rfl, Nat.le_of_ble_eq_true rfl⟩ rfl hl.1 rfl (Nat.le_of_ble_eq_true rfl) dX12_slope_3 (fun r_1 σ_2 H locs h S => ?_)
  refine lv_if_eq (tgt := 32) hx hb dX12_slope_6 (by decide) (fun q_3 => ?_) (fun q_3 => ?_)
  · replace h := h.1 q_3
    exact mX12_slope_b32 l X hr S (lv_sub hl [] rfl) h
  · replace h := h.2 q_3
    refine lv_iload_n hx hb dX12_slope_9 rfl (lv_at hl 2 rfl) ?_
    refine lv_iconst (v := 0) hx hb dX12_slope_10 (by decide) ?_
    refine lv_iload_n hx hb dX12_slope_11 rfl (lv_at hl 1 rfl) ?_
    refine lv_iconst (v := 2) hx hb dX12_slope_12 (by decide) ?_
    refine lv_icmp_ne (tgt := 20) hx hb dX12_slope_13 (by decide) (fun q_6 => ?_) (fun q_6 => ?_)
    · replace h := h.2 q_6
      refine lv_aload_n hx hb dX12_slope_20 rfl (lv_at hl 0 rfl) ?_
      refine o_get X S 0 19 (by decide) rfl rfl in_12 (by decide) k_886 rfl dX12_slope_21 ?_
      refine lv_iconst (v := 1) hx hb dX12_slope_24 (by decide) ?_
      refine lv_isub hx hb dX12_slope_25 ?_
      exact mX12_slope_b26 l X hr x1 x2 ((σ_2 0 19) - 1) 0 x2 S (lv_sub hl [0, 1, 2] rfl) h
    · replace h := h.1 q_6
      refine lv_iconst (v := 1) hx hb dX12_slope_16 (by decide) ?_
      refine lv_goto (tgt := 26) hx hb dX12_slope_17 (by decide) ?_
      exact mX12_slope_b26 l X hr x1 x2 1 0 x2 S (lv_sub hl [0, 1, 2] rfl) h
def wX12_push (x1 : Int32) (x2 : Int32) (σ : Sg) (Q : Int64 → Sg → Prop) : Prop :=
  (wX12_isCell x1 σ (fun r_1 σ_2 => ((r_1 = 0 → (wX12_refused 1 σ_2 (fun r_10 σ_11 => Q r_10 σ_11))) ∧ (¬ r_1 = 0 → (wX12_wishNow σ_2 (fun r_4 σ_5 => (vp_in x1 10 ∧ (vp_in x1 10 ∧ ∀ σ_6, σ_6 = sto σ_5 11 x1.toNatClampNeg ((σ_5 11 x1.toNatClampNeg) + x2) → (wX12_wishNow σ_6 (fun r_7 σ_8 => (vp_in x1 10 ∧ (vp_in x1 10 ∧ ∀ σ_9, σ_9 = sto σ_8 11 x1.toNatClampNeg ((σ_8 11 x1.toNatClampNeg) - x2) → Q ((r_7 - r_4).toInt64) σ_9))))))))))))
set_option maxHeartbeats 4000000 in
set_option maxRecDepth 100000 in
theorem mX12_push {D : va_G} {cy : Nat → ClassId} {ad : Nat → Nat} (l : Launch) (x1 : Int32) (x2 : Int32) (σ : Sg) (Q : Int64 → Sg → Prop) (h : wX12_push x1 x2 σ Q) : MLM D cy ad l yX12_push (.code yX12_push cX12_push 5 (some .long) :: gT) ({ frames := 8, cells := 0, slots := 0, locals := 182 }) [.ref (ad 0), .int x1, .int x2] σ Q := by
  refine metL_of (by decide +kernel) (Nat.le_of_ble_eq_true rfl) ?_
  intro p e s m args below meth c A ls X hr hl S
  have X : Fx D (tyM cy) EvM p s m args meth c cX12_push 5 "BackBayModel" A := X
  have hl : lv_has ls 5 [(0, .ref (ad 0)), (1, .int x1), (2, .int x2)] := hl
  have hx := X.1
  have hb := X.2.1
  unfold wX12_push at h
  refine lv_aload_n hx hb dX12_push_0 rfl (lv_at hl 0 rfl) ?_
  refine lv_iload_n hx hb dX12_push_1 rfl (lv_at hl 1 rfl) ?_
  refine o_callVi (k := 1) EvM_ok X S (mX12_isCell l x1 σ _ h) (by decide) rfl rfl k_1102 k_1099 k_1101 ks_39 k_14 ⟨rfl, by decide, by decide, by decide +kernel⟩ ⟨rfl, rfl⟩ ⟨Nat.le_of_ble_eq_true rfl, Nat.le_of_ble_eq_true rfl⟩ rfl hl.1 rfl (Nat.le_of_ble_eq_true rfl) dX12_push_2 (fun r_1 σ_2 H locs h S => ?_)
  refine lv_if_ne (tgt := 13) hx hb dX12_push_5 (by decide) (fun q_3 => ?_) (fun q_3 => ?_)
  · replace h := h.2 q_3
    refine lv_aload_n hx hb dX12_push_13 rfl (lv_at hl 0 rfl) ?_
    refine o_callVi (k := 0) EvM_ok X S (mX12_wishNow l σ_2 _ h) (by decide) rfl rfl k_1166 k_1163 k_1165 ks_50 k_14 ⟨rfl, by decide, by decide, by decide +kernel⟩ ⟨rfl, rfl⟩ ⟨Nat.le_of_ble_eq_true rfl, Nat.le_of_ble_eq_true rfl⟩ rfl hl.1 rfl (Nat.le_of_ble_eq_true rfl) dX12_push_14 (fun r_4 σ_5 H locs h S => ?_)
    refine lv_istore_n (lv' := [(3, .int r_4), (0, .ref (ad 0)), (1, .int x1), (2, .int x2)]) hx hb dX12_push_17 rfl hl (by decide) rfl (fun ls hl => ?_)
    refine lv_aload_n hx hb dX12_push_18 rfl (lv_at hl 1 rfl) ?_
    refine o_get X S 0 21 (by decide) rfl rfl in_12 (by decide) k_888 rfl dX12_push_19 ?_
    refine lv_iload_n hx hb dX12_push_22 rfl (lv_at hl 2 rfl) ?_
    refine lv_dup2_11 hx hb dX12_push_23 rfl rfl ?_
    refine o_iald X S 11 0 (by decide) (fun _ => rfl) rfl h.1 dX12_push_24 ?_
    replace h := h.2
    refine lv_iload_n hx hb dX12_push_25 rfl (lv_at hl 3 rfl) ?_
    refine lv_iadd hx hb dX12_push_26 ?_
    refine o_iast X S 11 0 (by decide) (fun _ => rfl) rfl h.1 dX12_push_27 (fun σ_6 H locs eσ_6 S => ?_)
    replace h := h.2 σ_6 eσ_6
    refine lv_aload_n hx hb dX12_push_28 rfl (lv_at hl 1 rfl) ?_
    refine o_callVi (k := 0) EvM_ok X S (mX12_wishNow l σ_6 _ h) (by decide) rfl rfl k_1166 k_1163 k_1165 ks_50 k_14 ⟨rfl, by decide, by decide, by decide +kernel⟩ ⟨rfl, rfl⟩ ⟨Nat.le_of_ble_eq_true rfl, Nat.le_of_ble_eq_true rfl⟩ rfl hl.1 rfl (Nat.le_of_ble_eq_true rfl) dX12_push_29 (fun r_7 σ_8 H locs h S => ?_)
    refine lv_istore (lv' := [(4, .int r_7), (3, .int r_4), (0, .ref (ad 0)), (1, .int x1), (2, .int x2)]) hx hb dX12_push_32 hl (by decide) rfl (fun ls hl => ?_)
    refine lv_aload_n hx hb dX12_push_34 rfl (lv_at hl 2 rfl) ?_
    refine o_get X S 0 21 (by decide) rfl rfl in_12 (by decide) k_888 rfl dX12_push_35 ?_
    refine lv_iload_n hx hb dX12_push_38 rfl (lv_at hl 3 rfl) ?_
    refine lv_dup2_11 hx hb dX12_push_39 rfl rfl ?_
    refine o_iald X S 11 0 (by decide) (fun _ => rfl) rfl h.1 dX12_push_40 ?_
    replace h := h.2
    refine lv_iload_n hx hb dX12_push_41 rfl (lv_at hl 4 rfl) ?_
    refine lv_isub hx hb dX12_push_42 ?_
    refine o_iast X S 11 0 (by decide) (fun _ => rfl) rfl h.1 dX12_push_43 (fun σ_9 H locs eσ_9 S => ?_)
    replace h := h.2 σ_9 eσ_9
    refine lv_iload hx hb dX12_push_44 (lv_at hl 0 rfl) ?_
    refine lv_iload_n hx hb dX12_push_46 rfl (lv_at hl 1 rfl) ?_
    refine lv_isub hx hb dX12_push_47 ?_
    refine lv_i2l hx hb dX12_push_48 rfl ?_
    exact o_lret X S hr h dX12_push_49
  · replace h := h.1 q_3
    refine lv_iconst (v := 1) hx hb dX12_push_8 (by decide) ?_
    refine o_callSl (k := 1) EvM_ok X S (mX12_refused l 1 σ_2 _ h) k_1024 k_1022 k_1023 k_14 ⟨by decide, by decide, by decide +kernel⟩ ⟨rfl, rfl⟩ ⟨Nat.le_of_ble_eq_true rfl, Nat.le_of_ble_eq_true rfl⟩ rfl hl.1 rfl (Nat.le_of_ble_eq_true rfl) dX12_push_9 (fun r_10 σ_11 H locs h S => ?_)
    exact o_lret X S hr h dX12_push_12
def wX12_layFewest_b99 (x1 : Int32) (x2 : Int32) (x3 : Int32) (x4 : Int32) (x5 : Int32) (x6 : Int32) (σ : Sg) (k105 : Int32 → Int32 → Sg → Prop) (kb32 : Int32 → Int32 → Int32 → Sg → Prop) (Q : Sg → Prop) : Prop :=
  (∀ x6_8 : Int32, x6_8 = x6 + 1 → kb32 x4 x5 x6_8 σ)
def wX12_layFewest_b91 (x1 : Int32) (x2 : Int32) (x3 : Int32) (x6 : Int32) (x7 : Int32) (σ : Sg) (k105 : Int32 → Int32 → Sg → Prop) (kb32 : Int32 → Int32 → Int32 → Sg → Prop) (Q : Sg → Prop) : Prop :=
  wX12_layFewest_b99 x1 x2 x3 x7 x6 x6 σ k105 kb32 Q
def wX12_layFewest_L32 (x1 : Int32) (x2 : Int32) (x3 : Int32) (k105 : Int32 → Int32 → Sg → Prop) (Q : Sg → Prop) : Nat → Int32 → Int32 → Int32 → Sg → Prop
  | 0, _, _, _, _ => False
  | nn32 + 1, x4, x5, x6, σ =>
  ((x2 ≤ x6 → k105 x4 x5 σ) ∧ (¬ x2 ≤ x6 → ((x3 ≤ 0 → k105 x4 x5 σ) ∧ (¬ x3 ≤ 0 → (vp_in (((7 * (x2 - x6)) + x3) - 1) 287 ∧ (vp_in ((7 * x6) + x3) 287 ∧ (∀ x7_6, x7_6 = ((x6 + (σ 26 (((7 * (x2 - x6)) + x3) - 1).toNatClampNeg)) + (σ 26 ((7 * x6) + x3).toNatClampNeg)) → ((x5 = (-1000000) → wX12_layFewest_b91 x1 x2 x3 x6 x7_6 σ k105 (wX12_layFewest_L32 x1 x2 x3 k105 Q nn32) Q) ∧ (¬ x5 = (-1000000) → ((x4 ≤ x7_6 → wX12_layFewest_b99 x1 x2 x3 x4 x5 x6 σ k105 (wX12_layFewest_L32 x1 x2 x3 k105 Q nn32) Q) ∧ (¬ x4 ≤ x7_6 → wX12_layFewest_b91 x1 x2 x3 x6 x7_6 σ k105 (wX12_layFewest_L32 x1 x2 x3 k105 Q nn32) Q)))))))))))
def wX12_layFewest_b126 (x1 : Int32) (x2 : Int32) (x3 : Int32) (x5 : Int32) (y0 : Int32) (y1 : Int32) (σ : Sg) (k146 : Sg → Prop) (kb9 : Int32 → Sg → Prop) (Q : Sg → Prop) : Prop :=
  (vp_in y1 287 ∧ ∀ σ_14, σ_14 = sto σ 26 y1.toNatClampNeg y0 → (vp_in ((7 * x2) + x3) 287 ∧ ∀ σ_15, σ_15 = sto σ_14 27 ((7 * x2) + x3).toNatClampNeg x5 → (∀ x3_16 : Int32, x3_16 = x3 + 1 → kb9 x3_16 σ_15)))
def wX12_layFewest_b105 (x1 : Int32) (x2 : Int32) (x3 : Int32) (x4 : Int32) (x5 : Int32) (σ : Sg) (k146 : Sg → Prop) (kb9 : Int32 → Sg → Prop) (Q : Sg → Prop) : Prop :=
  ((x2 = 1 → wX12_layFewest_b126 x1 x2 x3 x5 0 ((7 * x2) + x3) σ k146 kb9 Q) ∧ (¬ x2 = 1 → wX12_layFewest_b126 x1 x2 x3 x5 x4 ((7 * x2) + x3) σ k146 kb9 Q))
def wX12_layFewest_L9 (x1 : Int32) (x2 : Int32) (k146 : Sg → Prop) (Q : Sg → Prop) : Nat → Int32 → Sg → Prop
  | 0, _, _ => False
  | nn9 + 1, x3, σ =>
  ((7 ≤ x3 → k146 σ) ∧ (¬ 7 ≤ x3 → (¬ (2 : Int32) = 0 ∧ (∀ x4_3, x4_3 = ((x2 * (x2 - 1)) / 2) → (∃ nf, wX12_layFewest_L32 x1 x2 x3 (fun x4_10 x5_11 σ_12 => wX12_layFewest_b105 x1 x2 x3 x4_10 x5_11 σ_12 k146 (wX12_layFewest_L9 x1 x2 k146 Q nn9) Q) Q nf x4_3 (-1000000) 1 σ)))))
def wX12_layFewest_L2 (x1 : Int32) (k152 : Sg → Prop) (Q : Sg → Prop) : Nat → Int32 → Sg → Prop
  | 0, _, _ => False
  | nn2 + 1, x2, σ =>
  ((x1 < x2 → k152 σ) ∧ (¬ x1 < x2 → (∃ nf, wX12_layFewest_L9 x1 x2 (fun σ_17 => (∀ x2_18 : Int32, x2_18 = x2 + 1 → wX12_layFewest_L2 x1 k152 Q nn2 x2_18 σ_17)) Q nf 0 σ)))
def wX12_layFewest (x1 : Int32) (σ : Sg) (Q : Sg → Prop) : Prop :=
  (∃ nf, wX12_layFewest_L2 x1 (fun σ_19 => Q σ_19) Q nf 1 σ)
set_option maxHeartbeats 4000000 in
set_option maxRecDepth 100000 in
theorem mX12_layFewest_b99 {D : va_G} {cy : Nat → ClassId} {ad : Nat → Nat} (l : Launch) {p : Program} {e : Env} {s : State} {m : MethodId} {args : Array Value} {below : List Frame} {meth : Method} {c : Code} {A : Nat → Prop} {k105 : Int32 → Int32 → Sg → Prop} {kb32 : Int32 → Int32 → Int32 → Sg → Prop} {Q : Sg → Prop} (X : Fx D (tyM cy) EvM p s m args meth c cX12_layFewest 8 "BackBayModel" A) (hr : meth.sig.returnType = none) (x1 : Int32) (x2 : Int32) (x3 : Int32) (x4 : Int32) (x5 : Int32) (x6 : Int32) (hk105 : ∀ (x4 : Int32) (x5 : Int32) (σ : Sg) (H : Heap) (locs : List Loc) (ls : Array Slot), St D ad 34 (shM cy ad) A s σ H locs → lv_has ls 8 [(0, .ref (ad 0)), (1, .int x1), (2, .int x2), (3, .int x3), (4, .int x4), (5, .int x5)] → k105 x4 x5 σ → W p l e ({ frames := 0, cells := 0, slots := 0, locals := 0 }) s m args below meth c H locs 0 0 (MQ below (va_Qv Q (PosW D (tyM cy) ad 34 (shM cy ad) A) A) args s 0 0 A) (F0 m 105 ls [])) (hkb32 : ∀ (x4 : Int32) (x5 : Int32) (x6 : Int32) (σ : Sg) (H : Heap) (locs : List Loc) (ls : Array Slot), St D ad 34 (shM cy ad) A s σ H locs → lv_has ls 8 [(0, .ref (ad 0)), (1, .int x1), (2, .int x2), (3, .int x3), (4, .int x4), (5, .int x5), (6, .int x6)] → kb32 x4 x5 x6 σ → W p l e ({ frames := 0, cells := 0, slots := 0, locals := 0 }) s m args below meth c H locs 0 0 (MQ below (va_Qv Q (PosW D (tyM cy) ad 34 (shM cy ad) A) A) args s 0 0 A) (F0 m 32 ls [])) {σ : Sg} {H : Heap} {locs : List Loc} {ls : Array Slot} (S : St D ad 34 (shM cy ad) A s σ H locs) (hl : lv_has ls 8 [(0, .ref (ad 0)), (1, .int x1), (2, .int x2), (3, .int x3), (4, .int x4), (5, .int x5), (6, .int x6)]) (h : wX12_layFewest_b99 x1 x2 x3 x4 x5 x6 σ k105 kb32 Q) : W p l e ({ frames := 0, cells := 0, slots := 0, locals := 0 }) s m args below meth c H locs 0 0 (MQ below (va_Qv Q (PosW D (tyM cy) ad 34 (shM cy ad) A) A) args s 0 0 A) (F0 m 99 ls []) := by
  have hx := X.1
  have hb := X.2.1
  unfold wX12_layFewest_b99 at h
  obtain ⟨x6_8, ex6_8⟩ : ∃ y : Int32, y = x6 + 1 := ⟨_, rfl⟩
  replace h := h x6_8 ex6_8
  refine lv_iinc (v := x6_8) (lv' := [(6, .int x6_8), (0, .ref (ad 0)), (1, .int x1), (2, .int x2), (3, .int x3), (4, .int x4), (5, .int x5)]) hx hb dX12_layFewest_99 hl (k := 6) rfl (by rw [ex6_8]; rfl) (by decide) rfl (fun ls hl => ?_)
  refine lv_goto (tgt := 32) hx hb dX12_layFewest_102 (by decide) ?_
  exact hkb32 _ _ _ _ _ _ _ S (lv_sub hl [1, 2, 3, 4, 5, 6, 0] rfl) h
set_option maxHeartbeats 4000000 in
set_option maxRecDepth 100000 in
theorem mX12_layFewest_b91 {D : va_G} {cy : Nat → ClassId} {ad : Nat → Nat} (l : Launch) {p : Program} {e : Env} {s : State} {m : MethodId} {args : Array Value} {below : List Frame} {meth : Method} {c : Code} {A : Nat → Prop} {k105 : Int32 → Int32 → Sg → Prop} {kb32 : Int32 → Int32 → Int32 → Sg → Prop} {Q : Sg → Prop} (X : Fx D (tyM cy) EvM p s m args meth c cX12_layFewest 8 "BackBayModel" A) (hr : meth.sig.returnType = none) (x1 : Int32) (x2 : Int32) (x3 : Int32) (x6 : Int32) (x7 : Int32) (hk105 : ∀ (x4 : Int32) (x5 : Int32) (σ : Sg) (H : Heap) (locs : List Loc) (ls : Array Slot), St D ad 34 (shM cy ad) A s σ H locs → lv_has ls 8 [(0, .ref (ad 0)), (1, .int x1), (2, .int x2), (3, .int x3), (4, .int x4), (5, .int x5)] → k105 x4 x5 σ → W p l e ({ frames := 0, cells := 0, slots := 0, locals := 0 }) s m args below meth c H locs 0 0 (MQ below (va_Qv Q (PosW D (tyM cy) ad 34 (shM cy ad) A) A) args s 0 0 A) (F0 m 105 ls [])) (hkb32 : ∀ (x4 : Int32) (x5 : Int32) (x6 : Int32) (σ : Sg) (H : Heap) (locs : List Loc) (ls : Array Slot), St D ad 34 (shM cy ad) A s σ H locs → lv_has ls 8 [(0, .ref (ad 0)), (1, .int x1), (2, .int x2), (3, .int x3), (4, .int x4), (5, .int x5), (6, .int x6)] → kb32 x4 x5 x6 σ → W p l e ({ frames := 0, cells := 0, slots := 0, locals := 0 }) s m args below meth c H locs 0 0 (MQ below (va_Qv Q (PosW D (tyM cy) ad 34 (shM cy ad) A) A) args s 0 0 A) (F0 m 32 ls [])) {σ : Sg} {H : Heap} {locs : List Loc} {ls : Array Slot} (S : St D ad 34 (shM cy ad) A s σ H locs) (hl : lv_has ls 8 [(0, .ref (ad 0)), (1, .int x1), (2, .int x2), (3, .int x3), (6, .int x6), (7, .int x7)]) (h : wX12_layFewest_b91 x1 x2 x3 x6 x7 σ k105 kb32 Q) : W p l e ({ frames := 0, cells := 0, slots := 0, locals := 0 }) s m args below meth c H locs 0 0 (MQ below (va_Qv Q (PosW D (tyM cy) ad 34 (shM cy ad) A) A) args s 0 0 A) (F0 m 91 ls []) := by
  have hx := X.1
  have hb := X.2.1
  unfold wX12_layFewest_b91 at h
  refine lv_iload hx hb dX12_layFewest_91 (lv_at hl 5 rfl) ?_
  refine lv_istore (lv' := [(4, .int x7), (0, .ref (ad 0)), (1, .int x1), (2, .int x2), (3, .int x3), (6, .int x6), (7, .int x7)]) hx hb dX12_layFewest_93 hl (by decide) rfl (fun ls hl => ?_)
  refine lv_iload hx hb dX12_layFewest_95 (lv_at hl 5 rfl) ?_
  refine lv_istore (lv' := [(5, .int x6), (4, .int x7), (0, .ref (ad 0)), (1, .int x1), (2, .int x2), (3, .int x3), (6, .int x6), (7, .int x7)]) hx hb dX12_layFewest_97 hl (by decide) rfl (fun ls hl => ?_)
  exact mX12_layFewest_b99 l X hr x1 x2 x3 x7 x6 x6 hk105 hkb32 S (lv_sub hl [2, 3, 4, 5, 1, 0, 6] rfl) h
set_option maxHeartbeats 4000000 in
set_option maxRecDepth 100000 in
theorem mX12_layFewest_L32 {D : va_G} {cy : Nat → ClassId} {ad : Nat → Nat} (l : Launch) {p : Program} {e : Env} {s : State} {m : MethodId} {args : Array Value} {below : List Frame} {meth : Method} {c : Code} {A : Nat → Prop} {k105 : Int32 → Int32 → Sg → Prop} {Q : Sg → Prop} (X : Fx D (tyM cy) EvM p s m args meth c cX12_layFewest 8 "BackBayModel" A) (hr : meth.sig.returnType = none) (x1 : Int32) (x2 : Int32) (x3 : Int32) (hk105 : ∀ (x4 : Int32) (x5 : Int32) (σ : Sg) (H : Heap) (locs : List Loc) (ls : Array Slot), St D ad 34 (shM cy ad) A s σ H locs → lv_has ls 8 [(0, .ref (ad 0)), (1, .int x1), (2, .int x2), (3, .int x3), (4, .int x4), (5, .int x5)] → k105 x4 x5 σ → W p l e ({ frames := 0, cells := 0, slots := 0, locals := 0 }) s m args below meth c H locs 0 0 (MQ below (va_Qv Q (PosW D (tyM cy) ad 34 (shM cy ad) A) A) args s 0 0 A) (F0 m 105 ls [])) : ∀ (n : Nat) (x4 : Int32) (x5 : Int32) (x6 : Int32) (σ : Sg) (H : Heap) (locs : List Loc) (ls : Array Slot), St D ad 34 (shM cy ad) A s σ H locs → lv_has ls 8 [(0, .ref (ad 0)), (1, .int x1), (2, .int x2), (3, .int x3), (4, .int x4), (5, .int x5), (6, .int x6)] → wX12_layFewest_L32 x1 x2 x3 k105 Q n x4 x5 x6 σ → W p l e ({ frames := 0, cells := 0, slots := 0, locals := 0 }) s m args below meth c H locs 0 0 (MQ below (va_Qv Q (PosW D (tyM cy) ad 34 (shM cy ad) A) A) args s 0 0 A) (F0 m 32 ls []) := by
  have hx := X.1
  have hb := X.2.1
  intro n
  induction n with
  | zero =>
    intro _ _ _ _ _ _ _ _ _ h
    exact absurd h (by unfold wX12_layFewest_L32; exact id)
  | succ n ih =>
    intro x4 x5 x6 σ H locs ls S hl h
    unfold wX12_layFewest_L32 at h
    refine lv_iload hx hb dX12_layFewest_32 (lv_at hl 6 rfl) ?_
    refine lv_iload_n hx hb dX12_layFewest_34 rfl (lv_at hl 2 rfl) ?_
    refine lv_icmp_ge (tgt := 105) hx hb dX12_layFewest_35 (by decide) (fun q_4 => ?_) (fun q_4 => ?_)
    · replace h := h.1 q_4
      exact hk105 _ _ _ _ _ _ S (lv_sub hl [0, 1, 2, 3, 4, 5] rfl) h
    · replace h := h.2 q_4
      refine lv_iload_n hx hb dX12_layFewest_38 rfl (lv_at hl 3 rfl) ?_
      refine lv_if_le (tgt := 105) hx hb dX12_layFewest_39 (by decide) (fun q_5 => ?_) (fun q_5 => ?_)
      · replace h := h.1 q_5
        exact hk105 _ _ _ _ _ _ S (lv_sub hl [0, 1, 2, 3, 4, 5] rfl) h
      · replace h := h.2 q_5
        refine lv_iload hx hb dX12_layFewest_42 (lv_at hl 6 rfl) ?_
        refine lv_aload_n hx hb dX12_layFewest_44 rfl (lv_at hl 0 rfl) ?_
        refine o_get X S 0 38 (by decide) rfl rfl in_12 (by decide) k_905 rfl dX12_layFewest_45 ?_
        refine lv_bipush (v := 7) hx hb dX12_layFewest_48 (by decide) ?_
        refine lv_iload_n hx hb dX12_layFewest_50 rfl (lv_at hl 2 rfl) ?_
        refine lv_iload hx hb dX12_layFewest_51 (lv_at hl 6 rfl) ?_
        refine lv_isub hx hb dX12_layFewest_53 ?_
        refine lv_imul hx hb dX12_layFewest_54 ?_
        refine lv_iload_n hx hb dX12_layFewest_55 rfl (lv_at hl 3 rfl) ?_
        refine lv_iadd hx hb dX12_layFewest_56 ?_
        refine lv_iconst (v := 1) hx hb dX12_layFewest_57 (by decide) ?_
        refine lv_isub hx hb dX12_layFewest_58 ?_
        refine o_iald X S 26 0 (by decide) (fun _ => rfl) rfl h.1 dX12_layFewest_59 ?_
        replace h := h.2
        refine lv_iadd hx hb dX12_layFewest_60 ?_
        refine lv_aload_n hx hb dX12_layFewest_61 rfl (lv_at hl 0 rfl) ?_
        refine o_get X S 0 38 (by decide) rfl rfl in_12 (by decide) k_905 rfl dX12_layFewest_62 ?_
        refine lv_bipush (v := 7) hx hb dX12_layFewest_65 (by decide) ?_
        refine lv_iload hx hb dX12_layFewest_67 (lv_at hl 6 rfl) ?_
        refine lv_imul hx hb dX12_layFewest_69 ?_
        refine lv_iload_n hx hb dX12_layFewest_70 rfl (lv_at hl 3 rfl) ?_
        refine lv_iadd hx hb dX12_layFewest_71 ?_
        refine o_iald X S 26 0 (by decide) (fun _ => rfl) rfl h.1 dX12_layFewest_72 ?_
        replace h := h.2
        refine lv_iadd hx hb dX12_layFewest_73 ?_
        refine lv_topi (fun x7_6 ex7_6 => ?_)
        replace h := h x7_6 ex7_6
        refine lv_istore (lv' := [(7, .int x7_6), (0, .ref (ad 0)), (1, .int x1), (2, .int x2), (3, .int x3), (4, .int x4), (5, .int x5), (6, .int x6)]) hx hb dX12_layFewest_74 hl (by decide) rfl (fun ls hl => ?_)
        refine lv_iload hx hb dX12_layFewest_76 (lv_at hl 6 rfl) ?_
        refine lv_ldcw (v := (-1000000)) hx hb X.2.2.2.1 (X.2.2.2.2.1 _ k_1207) dX12_layFewest_78 ?_
        refine lv_icmp_eq (tgt := 91) hx hb dX12_layFewest_81 (by decide) (fun q_7 => ?_) (fun q_7 => ?_)
        · replace h := h.1 q_7
          exact mX12_layFewest_b91 l X hr x1 x2 x3 x6 x7_6 hk105 ih S (lv_sub hl [1, 2, 3, 4, 7, 0] rfl) h
        · replace h := h.2 q_7
          refine lv_iload hx hb dX12_layFewest_84 (lv_at hl 0 rfl) ?_
          refine lv_iload hx hb dX12_layFewest_86 (lv_at hl 5 rfl) ?_
          refine lv_icmp_ge (tgt := 99) hx hb dX12_layFewest_88 (by decide) (fun q_9 => ?_) (fun q_9 => ?_)
          · replace h := h.1 q_9
            exact mX12_layFewest_b99 l X hr x1 x2 x3 x4 x5 x6 hk105 ih S (lv_sub hl [1, 2, 3, 4, 5, 6, 7] rfl) h
          · replace h := h.2 q_9
            exact mX12_layFewest_b91 l X hr x1 x2 x3 x6 x7_6 hk105 ih S (lv_sub hl [1, 2, 3, 4, 7, 0] rfl) h
set_option maxHeartbeats 4000000 in
set_option maxRecDepth 100000 in
theorem mX12_layFewest_b126 {D : va_G} {cy : Nat → ClassId} {ad : Nat → Nat} (l : Launch) {p : Program} {e : Env} {s : State} {m : MethodId} {args : Array Value} {below : List Frame} {meth : Method} {c : Code} {A : Nat → Prop} {k146 : Sg → Prop} {kb9 : Int32 → Sg → Prop} {Q : Sg → Prop} (X : Fx D (tyM cy) EvM p s m args meth c cX12_layFewest 8 "BackBayModel" A) (hr : meth.sig.returnType = none) (x1 : Int32) (x2 : Int32) (x3 : Int32) (x5 : Int32) (y0 : Int32) (y1 : Int32) (hk146 : ∀ (σ : Sg) (H : Heap) (locs : List Loc) (ls : Array Slot), St D ad 34 (shM cy ad) A s σ H locs → lv_has ls 8 [(0, .ref (ad 0)), (1, .int x1), (2, .int x2)] → k146 σ → W p l e ({ frames := 0, cells := 0, slots := 0, locals := 0 }) s m args below meth c H locs 0 0 (MQ below (va_Qv Q (PosW D (tyM cy) ad 34 (shM cy ad) A) A) args s 0 0 A) (F0 m 146 ls [])) (hkb9 : ∀ (x3 : Int32) (σ : Sg) (H : Heap) (locs : List Loc) (ls : Array Slot), St D ad 34 (shM cy ad) A s σ H locs → lv_has ls 8 [(0, .ref (ad 0)), (1, .int x1), (2, .int x2), (3, .int x3)] → kb9 x3 σ → W p l e ({ frames := 0, cells := 0, slots := 0, locals := 0 }) s m args below meth c H locs 0 0 (MQ below (va_Qv Q (PosW D (tyM cy) ad 34 (shM cy ad) A) A) args s 0 0 A) (F0 m 9 ls [])) {σ : Sg} {H : Heap} {locs : List Loc} {ls : Array Slot} (S : St D ad 34 (shM cy ad) A s σ H locs) (hl : lv_has ls 8 [(0, .ref (ad 0)), (1, .int x1), (2, .int x2), (3, .int x3), (5, .int x5)]) (h : wX12_layFewest_b126 x1 x2 x3 x5 y0 y1 σ k146 kb9 Q) : W p l e ({ frames := 0, cells := 0, slots := 0, locals := 0 }) s m args below meth c H locs 0 0 (MQ below (va_Qv Q (PosW D (tyM cy) ad 34 (shM cy ad) A) A) args s 0 0 A) (F0 m 126 ls [.int y0, .int y1, .ref (ad 26)]) := by
  have hx := X.1
  have hb := X.2.1
  unfold wX12_layFewest_b126 at h
  refine o_iast X S 26 0 (by decide) (fun _ => rfl) rfl h.1 dX12_layFewest_126 (fun σ_14 H locs eσ_14 S => ?_)
  replace h := h.2 σ_14 eσ_14
  refine lv_aload_n hx hb dX12_layFewest_127 rfl (lv_at hl 0 rfl) ?_
  refine o_get X S 0 39 (by decide) rfl rfl in_12 (by decide) k_906 rfl dX12_layFewest_128 ?_
  refine lv_bipush (v := 7) hx hb dX12_layFewest_131 (by decide) ?_
  refine lv_iload_n hx hb dX12_layFewest_133 rfl (lv_at hl 2 rfl) ?_
  refine lv_imul hx hb dX12_layFewest_134 ?_
  refine lv_iload_n hx hb dX12_layFewest_135 rfl (lv_at hl 3 rfl) ?_
  refine lv_iadd hx hb dX12_layFewest_136 ?_
  refine lv_iload hx hb dX12_layFewest_137 (lv_at hl 4 rfl) ?_
  refine o_iast X S 27 0 (by decide) (fun _ => rfl) rfl h.1 dX12_layFewest_139 (fun σ_15 H locs eσ_15 S => ?_)
  replace h := h.2 σ_15 eσ_15
  obtain ⟨x3_16, ex3_16⟩ : ∃ y : Int32, y = x3 + 1 := ⟨_, rfl⟩
  replace h := h x3_16 ex3_16
  refine lv_iinc (v := x3_16) (lv' := [(3, .int x3_16), (0, .ref (ad 0)), (1, .int x1), (2, .int x2), (5, .int x5)]) hx hb dX12_layFewest_140 hl (k := 3) rfl (by rw [ex3_16]; rfl) (by decide) rfl (fun ls hl => ?_)
  refine lv_goto (tgt := 9) hx hb dX12_layFewest_143 (by decide) ?_
  exact hkb9 _ _ _ _ _ S (lv_sub hl [1, 2, 3, 0] rfl) h
set_option maxHeartbeats 4000000 in
set_option maxRecDepth 100000 in
theorem mX12_layFewest_b105 {D : va_G} {cy : Nat → ClassId} {ad : Nat → Nat} (l : Launch) {p : Program} {e : Env} {s : State} {m : MethodId} {args : Array Value} {below : List Frame} {meth : Method} {c : Code} {A : Nat → Prop} {k146 : Sg → Prop} {kb9 : Int32 → Sg → Prop} {Q : Sg → Prop} (X : Fx D (tyM cy) EvM p s m args meth c cX12_layFewest 8 "BackBayModel" A) (hr : meth.sig.returnType = none) (x1 : Int32) (x2 : Int32) (x3 : Int32) (x4 : Int32) (x5 : Int32) (hk146 : ∀ (σ : Sg) (H : Heap) (locs : List Loc) (ls : Array Slot), St D ad 34 (shM cy ad) A s σ H locs → lv_has ls 8 [(0, .ref (ad 0)), (1, .int x1), (2, .int x2)] → k146 σ → W p l e ({ frames := 0, cells := 0, slots := 0, locals := 0 }) s m args below meth c H locs 0 0 (MQ below (va_Qv Q (PosW D (tyM cy) ad 34 (shM cy ad) A) A) args s 0 0 A) (F0 m 146 ls [])) (hkb9 : ∀ (x3 : Int32) (σ : Sg) (H : Heap) (locs : List Loc) (ls : Array Slot), St D ad 34 (shM cy ad) A s σ H locs → lv_has ls 8 [(0, .ref (ad 0)), (1, .int x1), (2, .int x2), (3, .int x3)] → kb9 x3 σ → W p l e ({ frames := 0, cells := 0, slots := 0, locals := 0 }) s m args below meth c H locs 0 0 (MQ below (va_Qv Q (PosW D (tyM cy) ad 34 (shM cy ad) A) A) args s 0 0 A) (F0 m 9 ls [])) {σ : Sg} {H : Heap} {locs : List Loc} {ls : Array Slot} (S : St D ad 34 (shM cy ad) A s σ H locs) (hl : lv_has ls 8 [(0, .ref (ad 0)), (1, .int x1), (2, .int x2), (3, .int x3), (4, .int x4), (5, .int x5)]) (h : wX12_layFewest_b105 x1 x2 x3 x4 x5 σ k146 kb9 Q) : W p l e ({ frames := 0, cells := 0, slots := 0, locals := 0 }) s m args below meth c H locs 0 0 (MQ below (va_Qv Q (PosW D (tyM cy) ad 34 (shM cy ad) A) A) args s 0 0 A) (F0 m 105 ls []) := by
  have hx := X.1
  have hb := X.2.1
  unfold wX12_layFewest_b105 at h
  refine lv_aload_n hx hb dX12_layFewest_105 rfl (lv_at hl 0 rfl) ?_
  refine o_get X S 0 38 (by decide) rfl rfl in_12 (by decide) k_905 rfl dX12_layFewest_106 ?_
  refine lv_bipush (v := 7) hx hb dX12_layFewest_109 (by decide) ?_
  refine lv_iload_n hx hb dX12_layFewest_111 rfl (lv_at hl 2 rfl) ?_
  refine lv_imul hx hb dX12_layFewest_112 ?_
  refine lv_iload_n hx hb dX12_layFewest_113 rfl (lv_at hl 3 rfl) ?_
  refine lv_iadd hx hb dX12_layFewest_114 ?_
  refine lv_iload_n hx hb dX12_layFewest_115 rfl (lv_at hl 2 rfl) ?_
  refine lv_iconst (v := 1) hx hb dX12_layFewest_116 (by decide) ?_
  refine lv_icmp_ne (tgt := 124) hx hb dX12_layFewest_117 (by decide) (fun q_13 => ?_) (fun q_13 => ?_)
  · replace h := h.2 q_13
    refine lv_iload hx hb dX12_layFewest_124 (lv_at hl 4 rfl) ?_
    exact mX12_layFewest_b126 l X hr x1 x2 x3 x5 x4 ((7 * x2) + x3) hk146 hkb9 S (lv_sub hl [0, 1, 2, 3, 5] rfl) h
  · replace h := h.1 q_13
    refine lv_iconst (v := 0) hx hb dX12_layFewest_120 (by decide) ?_
    refine lv_goto (tgt := 126) hx hb dX12_layFewest_121 (by decide) ?_
    exact mX12_layFewest_b126 l X hr x1 x2 x3 x5 0 ((7 * x2) + x3) hk146 hkb9 S (lv_sub hl [0, 1, 2, 3, 5] rfl) h
set_option maxHeartbeats 4000000 in
set_option maxRecDepth 100000 in
theorem mX12_layFewest_L9 {D : va_G} {cy : Nat → ClassId} {ad : Nat → Nat} (l : Launch) {p : Program} {e : Env} {s : State} {m : MethodId} {args : Array Value} {below : List Frame} {meth : Method} {c : Code} {A : Nat → Prop} {k146 : Sg → Prop} {Q : Sg → Prop} (X : Fx D (tyM cy) EvM p s m args meth c cX12_layFewest 8 "BackBayModel" A) (hr : meth.sig.returnType = none) (x1 : Int32) (x2 : Int32) (hk146 : ∀ (σ : Sg) (H : Heap) (locs : List Loc) (ls : Array Slot), St D ad 34 (shM cy ad) A s σ H locs → lv_has ls 8 [(0, .ref (ad 0)), (1, .int x1), (2, .int x2)] → k146 σ → W p l e ({ frames := 0, cells := 0, slots := 0, locals := 0 }) s m args below meth c H locs 0 0 (MQ below (va_Qv Q (PosW D (tyM cy) ad 34 (shM cy ad) A) A) args s 0 0 A) (F0 m 146 ls [])) : ∀ (n : Nat) (x3 : Int32) (σ : Sg) (H : Heap) (locs : List Loc) (ls : Array Slot), St D ad 34 (shM cy ad) A s σ H locs → lv_has ls 8 [(0, .ref (ad 0)), (1, .int x1), (2, .int x2), (3, .int x3)] → wX12_layFewest_L9 x1 x2 k146 Q n x3 σ → W p l e ({ frames := 0, cells := 0, slots := 0, locals := 0 }) s m args below meth c H locs 0 0 (MQ below (va_Qv Q (PosW D (tyM cy) ad 34 (shM cy ad) A) A) args s 0 0 A) (F0 m 9 ls []) := by
  have hx := X.1
  have hb := X.2.1
  intro n
  induction n with
  | zero =>
    intro _ _ _ _ _ _ _ h
    exact absurd h (by unfold wX12_layFewest_L9; exact id)
  | succ n ih =>
    intro x3 σ H locs ls S hl h
    unfold wX12_layFewest_L9 at h
    refine lv_iload_n hx hb dX12_layFewest_9 rfl (lv_at hl 3 rfl) ?_
    refine lv_bipush (v := 7) hx hb dX12_layFewest_10 (by decide) ?_
    refine lv_icmp_ge (tgt := 146) hx hb dX12_layFewest_12 (by decide) (fun q_2 => ?_) (fun q_2 => ?_)
    · replace h := h.1 q_2
      exact hk146 _ _ _ _ S (lv_sub hl [0, 1, 2] rfl) h
    · replace h := h.2 q_2
      refine lv_iload_n hx hb dX12_layFewest_15 rfl (lv_at hl 2 rfl) ?_
      refine lv_iload_n hx hb dX12_layFewest_16 rfl (lv_at hl 2 rfl) ?_
      refine lv_iconst (v := 1) hx hb dX12_layFewest_17 (by decide) ?_
      refine lv_isub hx hb dX12_layFewest_18 ?_
      refine lv_imul hx hb dX12_layFewest_19 ?_
      refine lv_iconst (v := 2) hx hb dX12_layFewest_20 (by decide) ?_
      refine lv_idiv hx hb dX12_layFewest_21 h.1 ?_
      replace h := h.2
      refine lv_topi (fun x4_3 ex4_3 => ?_)
      replace h := h x4_3 ex4_3
      refine lv_istore (lv' := [(4, .int x4_3), (0, .ref (ad 0)), (1, .int x1), (2, .int x2), (3, .int x3)]) hx hb dX12_layFewest_22 hl (by decide) rfl (fun ls hl => ?_)
      refine lv_ldcw (v := (-1000000)) hx hb X.2.2.2.1 (X.2.2.2.2.1 _ k_1207) dX12_layFewest_24 ?_
      refine lv_istore (lv' := [(5, .int (-1000000)), (4, .int x4_3), (0, .ref (ad 0)), (1, .int x1), (2, .int x2), (3, .int x3)]) hx hb dX12_layFewest_27 hl (by decide) rfl (fun ls hl => ?_)
      refine lv_iconst (v := 1) hx hb dX12_layFewest_29 (by decide) ?_
      refine lv_istore (lv' := [(6, .int 1), (5, .int (-1000000)), (4, .int x4_3), (0, .ref (ad 0)), (1, .int x1), (2, .int x2), (3, .int x3)]) hx hb dX12_layFewest_30 hl (by decide) rfl (fun ls hl => ?_)
      obtain ⟨n_32, h⟩ := h
      refine mX12_layFewest_L32 l X hr x1 x2 x3 ?_ n_32 _ _ _ _ _ _ _ S (lv_sub hl [3, 4, 5, 6, 2, 1, 0] rfl) h
      · intro x4_10 x5_11 σ_12 H locs ls S hl h
        exact mX12_layFewest_b105 l X hr x1 x2 x3 x4_10 x5_11 hk146 ih S (lv_sub hl [0, 1, 2, 3, 4, 5] rfl) h
set_option maxHeartbeats 4000000 in
set_option maxRecDepth 100000 in
theorem mX12_layFewest_L2 {D : va_G} {cy : Nat → ClassId} {ad : Nat → Nat} (l : Launch) {p : Program} {e : Env} {s : State} {m : MethodId} {args : Array Value} {below : List Frame} {meth : Method} {c : Code} {A : Nat → Prop} {k152 : Sg → Prop} {Q : Sg → Prop} (X : Fx D (tyM cy) EvM p s m args meth c cX12_layFewest 8 "BackBayModel" A) (hr : meth.sig.returnType = none) (x1 : Int32) (hk152 : ∀ (σ : Sg) (H : Heap) (locs : List Loc) (ls : Array Slot), St D ad 34 (shM cy ad) A s σ H locs → lv_has ls 8 [] → k152 σ → W p l e ({ frames := 0, cells := 0, slots := 0, locals := 0 }) s m args below meth c H locs 0 0 (MQ below (va_Qv Q (PosW D (tyM cy) ad 34 (shM cy ad) A) A) args s 0 0 A) (F0 m 152 ls [])) : ∀ (n : Nat) (x2 : Int32) (σ : Sg) (H : Heap) (locs : List Loc) (ls : Array Slot), St D ad 34 (shM cy ad) A s σ H locs → lv_has ls 8 [(0, .ref (ad 0)), (1, .int x1), (2, .int x2)] → wX12_layFewest_L2 x1 k152 Q n x2 σ → W p l e ({ frames := 0, cells := 0, slots := 0, locals := 0 }) s m args below meth c H locs 0 0 (MQ below (va_Qv Q (PosW D (tyM cy) ad 34 (shM cy ad) A) A) args s 0 0 A) (F0 m 2 ls []) := by
  have hx := X.1
  have hb := X.2.1
  intro n
  induction n with
  | zero =>
    intro _ _ _ _ _ _ _ h
    exact absurd h (by unfold wX12_layFewest_L2; exact id)
  | succ n ih =>
    intro x2 σ H locs ls S hl h
    unfold wX12_layFewest_L2 at h
    refine lv_iload_n hx hb dX12_layFewest_2 rfl (lv_at hl 2 rfl) ?_
    refine lv_iload_n hx hb dX12_layFewest_3 rfl (lv_at hl 1 rfl) ?_
    refine lv_icmp_gt (tgt := 152) hx hb dX12_layFewest_4 (by decide) (fun q_1 => ?_) (fun q_1 => ?_)
    · replace h := h.1 q_1
      exact hk152 _ _ _ _ S (lv_sub hl [] rfl) h
    · replace h := h.2 q_1
      refine lv_iconst (v := 0) hx hb dX12_layFewest_7 (by decide) ?_
      refine lv_istore_n (lv' := [(3, .int 0), (0, .ref (ad 0)), (1, .int x1), (2, .int x2)]) hx hb dX12_layFewest_8 rfl hl (by decide) rfl (fun ls hl => ?_)
      obtain ⟨n_9, h⟩ := h
      refine mX12_layFewest_L9 l X hr x1 x2 ?_ n_9 _ _ _ _ _ S (lv_sub hl [1, 2, 3, 0] rfl) h
      · intro σ_17 H locs ls S hl h
        obtain ⟨x2_18, ex2_18⟩ : ∃ y : Int32, y = x2 + 1 := ⟨_, rfl⟩
        replace h := h x2_18 ex2_18
        refine lv_iinc (v := x2_18) (lv' := [(2, .int x2_18), (0, .ref (ad 0)), (1, .int x1)]) hx hb dX12_layFewest_146 hl (k := 2) rfl (by rw [ex2_18]; rfl) (by decide) rfl (fun ls hl => ?_)
        refine lv_goto (tgt := 2) hx hb dX12_layFewest_149 (by decide) ?_
        exact ih _ _ _ _ _ S (lv_sub hl [1, 2, 0] rfl) h
set_option maxHeartbeats 4000000 in
set_option maxRecDepth 100000 in
theorem mX12_layFewest {D : va_G} {cy : Nat → ClassId} {ad : Nat → Nat} (l : Launch) (x1 : Int32) (σ : Sg) (Q : Sg → Prop) (h : wX12_layFewest x1 σ Q) : MVM D cy ad l yX12_layFewest (.code yX12_layFewest cX12_layFewest 8 none :: gT) ({ frames := 0, cells := 0, slots := 0, locals := 0 }) [.ref (ad 0), .int x1] σ Q := by
  refine metV_of (by decide +kernel) (Nat.le_of_ble_eq_true rfl) ?_
  intro p e s m args below meth c A ls X hr hl S
  have X : Fx D (tyM cy) EvM p s m args meth c cX12_layFewest 8 "BackBayModel" A := X
  have hl : lv_has ls 8 [(0, .ref (ad 0)), (1, .int x1)] := hl
  have hx := X.1
  have hb := X.2.1
  unfold wX12_layFewest at h
  refine lv_iconst (v := 1) hx hb dX12_layFewest_0 (by decide) ?_
  refine lv_istore_n (lv' := [(2, .int 1), (0, .ref (ad 0)), (1, .int x1)]) hx hb dX12_layFewest_1 rfl hl (by decide) rfl (fun ls hl => ?_)
  obtain ⟨n_2, h⟩ := h
  refine mX12_layFewest_L2 l X hr x1 ?_ n_2 _ _ _ _ _ S (lv_sub hl [1, 2, 0] rfl) h
  · intro σ_19 H locs ls S hl h
    exact o_vret X S hr h dX12_layFewest_152
def wX12_again_b29 (σ : Sg) (Q : Int64 → Sg → Prop) : Prop :=
  (wX12_refused 1 σ (fun r_4 σ_5 => Q r_4 σ_5))
def wX12_again_b70 (y0 : Int64) (σ : Sg) (Q : Int64 → Sg → Prop) : Prop :=
  Q y0 σ
def wX12_again (x1 : Int32) (x2 : Int32) (x3 : Int32) (σ : Sg) (Q : Int64 → Sg → Prop) : Prop :=
  (wX12_within x1 1 40 σ (fun r_1 σ_2 => ((r_1 = 0 → wX12_again_b29 σ_2 Q) ∧ (¬ r_1 = 0 → (wX12_within x2 0 6 σ_2 (fun r_6 σ_7 => ((r_6 = 0 → wX12_again_b29 σ_7 Q) ∧ (¬ r_6 = 0 → (wX12_within x3 0 1 σ_7 (fun r_9 σ_10 => ((r_9 = 0 → wX12_again_b29 σ_10 Q) ∧ (¬ r_9 = 0 → (wX12_layFewest x1 σ_10 (fun σ_13 => ((x3 = 0 → (vp_in ((7 * x1) + x2) 287 ∧ wX12_again_b70 ((σ_13 26 ((7 * x1) + x2).toNatClampNeg).toInt64) σ_13 Q)) ∧ (¬ x3 = 0 → (vp_in ((7 * x1) + x2) 287 ∧ wX12_again_b70 ((σ_13 27 ((7 * x1) + x2).toNatClampNeg).toInt64) σ_13 Q)))))))))))))))))
set_option maxHeartbeats 4000000 in
set_option maxRecDepth 100000 in
theorem mX12_again_b29 {D : va_G} {cy : Nat → ClassId} {ad : Nat → Nat} (l : Launch) {p : Program} {e : Env} {s : State} {m : MethodId} {args : Array Value} {below : List Frame} {meth : Method} {c : Code} {A : Nat → Prop} {Q : Int64 → Sg → Prop} (X : Fx D (tyM cy) EvM p s m args meth c cX12_again 4 "BackBayModel" A) (hr : meth.sig.returnType = some .long) {σ : Sg} {H : Heap} {locs : List Loc} {ls : Array Slot} (S : St D ad 34 (shM cy ad) A s σ H locs) (hl : lv_has ls 4 []) (h : wX12_again_b29 σ Q) : W p l e ({ frames := 1, cells := 0, slots := 0, locals := 27 }) s m args below meth c H locs 0 0 (MQ below (va_Ql Q (PosW D (tyM cy) ad 34 (shM cy ad) A) A) args s 0 0 A) (F0 m 29 ls []) := by
  have hx := X.1
  have hb := X.2.1
  unfold wX12_again_b29 at h
  refine lv_iconst (v := 1) hx hb dX12_again_29 (by decide) ?_
  refine o_callSl (k := 1) EvM_ok X S (mX12_refused l 1 σ _ h) k_1024 k_1022 k_1023 k_14 ⟨by decide, by decide, by decide +kernel⟩ ⟨rfl, rfl⟩ ⟨Nat.le_of_ble_eq_true rfl, Nat.le_of_ble_eq_true rfl⟩ rfl hl.1 rfl (Nat.le_of_ble_eq_true rfl) dX12_again_30 (fun r_4 σ_5 H locs h S => ?_)
  exact o_lret X S hr h dX12_again_33
set_option maxHeartbeats 4000000 in
set_option maxRecDepth 100000 in
theorem mX12_again_b70 {D : va_G} {cy : Nat → ClassId} {ad : Nat → Nat} (l : Launch) {p : Program} {e : Env} {s : State} {m : MethodId} {args : Array Value} {below : List Frame} {meth : Method} {c : Code} {A : Nat → Prop} {Q : Int64 → Sg → Prop} (X : Fx D (tyM cy) EvM p s m args meth c cX12_again 4 "BackBayModel" A) (hr : meth.sig.returnType = some .long) (y0 : Int64) {σ : Sg} {H : Heap} {locs : List Loc} {ls : Array Slot} (S : St D ad 34 (shM cy ad) A s σ H locs) (hl : lv_has ls 4 []) (h : wX12_again_b70 y0 σ Q) : W p l e ({ frames := 1, cells := 0, slots := 0, locals := 27 }) s m args below meth c H locs 0 0 (MQ below (va_Ql Q (PosW D (tyM cy) ad 34 (shM cy ad) A) A) args s 0 0 A) (F0 m 70 ls [.long y0]) := by
  have hx := X.1
  have hb := X.2.1
  unfold wX12_again_b70 at h
  exact o_lret X S hr h dX12_again_70
set_option maxHeartbeats 4000000 in
set_option maxRecDepth 100000 in
theorem mX12_again {D : va_G} {cy : Nat → ClassId} {ad : Nat → Nat} (l : Launch) (x1 : Int32) (x2 : Int32) (x3 : Int32) (σ : Sg) (Q : Int64 → Sg → Prop) (h : wX12_again x1 x2 x3 σ Q) : MLM D cy ad l yX12_again (.code yX12_again cX12_again 4 (some .long) :: gT) ({ frames := 1, cells := 0, slots := 0, locals := 27 }) [.ref (ad 0), .int x1, .int x2, .int x3] σ Q := by
  refine metL_of (by decide +kernel) (Nat.le_of_ble_eq_true rfl) ?_
  intro p e s m args below meth c A ls X hr hl S
  have X : Fx D (tyM cy) EvM p s m args meth c cX12_again 4 "BackBayModel" A := X
  have hl : lv_has ls 4 [(0, .ref (ad 0)), (1, .int x1), (2, .int x2), (3, .int x3)] := hl
  have hx := X.1
  have hb := X.2.1
  unfold wX12_again at h
  refine lv_iload_n hx hb dX12_again_0 rfl (lv_at hl 1 rfl) ?_
  refine lv_iconst (v := 1) hx hb dX12_again_1 (by decide) ?_
  refine lv_bipush (v := 40) hx hb dX12_again_2 (by decide) ?_
  refine o_callSi (k := 3) EvM_ok X S (mX12_within l x1 1 40 σ _ h) k_1021 k_1019 k_1020 k_14 ⟨by decide, by decide, by decide +kernel⟩ ⟨rfl, rfl⟩ ⟨Nat.le_of_ble_eq_true rfl, Nat.le_of_ble_eq_true rfl⟩ rfl hl.1 rfl (Nat.le_of_ble_eq_true rfl) dX12_again_4 (fun r_1 σ_2 H locs h S => ?_)
  refine lv_if_eq (tgt := 29) hx hb dX12_again_7 (by decide) (fun q_3 => ?_) (fun q_3 => ?_)
  · replace h := h.1 q_3
    exact mX12_again_b29 l X hr S (lv_sub hl [] rfl) h
  · replace h := h.2 q_3
    refine lv_iload_n hx hb dX12_again_10 rfl (lv_at hl 2 rfl) ?_
    refine lv_iconst (v := 0) hx hb dX12_again_11 (by decide) ?_
    refine lv_bipush (v := 6) hx hb dX12_again_12 (by decide) ?_
    refine o_callSi (k := 3) EvM_ok X S (mX12_within l x2 0 6 σ_2 _ h) k_1021 k_1019 k_1020 k_14 ⟨by decide, by decide, by decide +kernel⟩ ⟨rfl, rfl⟩ ⟨Nat.le_of_ble_eq_true rfl, Nat.le_of_ble_eq_true rfl⟩ rfl hl.1 rfl (Nat.le_of_ble_eq_true rfl) dX12_again_14 (fun r_6 σ_7 H locs h S => ?_)
    refine lv_if_eq (tgt := 29) hx hb dX12_again_17 (by decide) (fun q_8 => ?_) (fun q_8 => ?_)
    · replace h := h.1 q_8
      exact mX12_again_b29 l X hr S (lv_sub hl [] rfl) h
    · replace h := h.2 q_8
      refine lv_iload_n hx hb dX12_again_20 rfl (lv_at hl 3 rfl) ?_
      refine lv_iconst (v := 0) hx hb dX12_again_21 (by decide) ?_
      refine lv_iconst (v := 1) hx hb dX12_again_22 (by decide) ?_
      refine o_callSi (k := 3) EvM_ok X S (mX12_within l x3 0 1 σ_7 _ h) k_1021 k_1019 k_1020 k_14 ⟨by decide, by decide, by decide +kernel⟩ ⟨rfl, rfl⟩ ⟨Nat.le_of_ble_eq_true rfl, Nat.le_of_ble_eq_true rfl⟩ rfl hl.1 rfl (Nat.le_of_ble_eq_true rfl) dX12_again_23 (fun r_9 σ_10 H locs h S => ?_)
      refine lv_if_ne (tgt := 34) hx hb dX12_again_26 (by decide) (fun q_11 => ?_) (fun q_11 => ?_)
      · replace h := h.2 q_11
        refine lv_aload_n hx hb dX12_again_34 rfl (lv_at hl 0 rfl) ?_
        refine lv_iload_n hx hb dX12_again_35 rfl (lv_at hl 1 rfl) ?_
        refine o_callVv (k := 1) EvM_ok X S (mX12_layFewest l x1 σ_10 _ h) (by decide) rfl rfl k_1206 k_1203 k_1205 ks_57 k_14 ⟨rfl, by decide, by decide, by decide +kernel⟩ ⟨rfl, rfl⟩ ⟨Nat.le_of_ble_eq_true rfl, Nat.le_of_ble_eq_true rfl⟩ rfl hl.1 rfl (Nat.le_of_ble_eq_true rfl) dX12_again_36 (fun σ_13 H locs h S => ?_)
        refine lv_iload_n hx hb dX12_again_39 rfl (lv_at hl 3 rfl) ?_
        refine lv_if_ne (tgt := 58) hx hb dX12_again_40 (by decide) (fun q_14 => ?_) (fun q_14 => ?_)
        · replace h := h.2 q_14
          refine lv_aload_n hx hb dX12_again_58 rfl (lv_at hl 0 rfl) ?_
          refine o_get X S 0 39 (by decide) rfl rfl in_12 (by decide) k_906 rfl dX12_again_59 ?_
          refine lv_bipush (v := 7) hx hb dX12_again_62 (by decide) ?_
          refine lv_iload_n hx hb dX12_again_64 rfl (lv_at hl 1 rfl) ?_
          refine lv_imul hx hb dX12_again_65 ?_
          refine lv_iload_n hx hb dX12_again_66 rfl (lv_at hl 2 rfl) ?_
          refine lv_iadd hx hb dX12_again_67 ?_
          refine o_iald X S 27 0 (by decide) (fun _ => rfl) rfl h.1 dX12_again_68 ?_
          replace h := h.2
          refine lv_i2l hx hb dX12_again_69 rfl ?_
          exact mX12_again_b70 l X hr ((σ_13 27 ((7 * x1) + x2).toNatClampNeg).toInt64) S (lv_sub hl [] rfl) h
        · replace h := h.1 q_14
          refine lv_aload_n hx hb dX12_again_43 rfl (lv_at hl 0 rfl) ?_
          refine o_get X S 0 38 (by decide) rfl rfl in_12 (by decide) k_905 rfl dX12_again_44 ?_
          refine lv_bipush (v := 7) hx hb dX12_again_47 (by decide) ?_
          refine lv_iload_n hx hb dX12_again_49 rfl (lv_at hl 1 rfl) ?_
          refine lv_imul hx hb dX12_again_50 ?_
          refine lv_iload_n hx hb dX12_again_51 rfl (lv_at hl 2 rfl) ?_
          refine lv_iadd hx hb dX12_again_52 ?_
          refine o_iald X S 26 0 (by decide) (fun _ => rfl) rfl h.1 dX12_again_53 ?_
          replace h := h.2
          refine lv_i2l hx hb dX12_again_54 rfl ?_
          refine lv_goto (tgt := 70) hx hb dX12_again_55 (by decide) ?_
          exact mX12_again_b70 l X hr ((σ_13 26 ((7 * x1) + x2).toNatClampNeg).toInt64) S (lv_sub hl [] rfl) h
      · replace h := h.1 q_11
        exact mX12_again_b29 l X hr S (lv_sub hl [] rfl) h
def wX12_isGreater_b39 (y0 : Int32) (σ : Sg) (Q : Int32 → Sg → Prop) : Prop :=
  (bok y0 ∧ Q y0 σ)
def wX12_isGreater_b25 (x2 : Int64) (y0 : Int64) (σ : Sg) (Q : Int32 → Sg → Prop) : Prop :=
  (((lg_cmp x2 y0) ≤ 0 → wX12_isGreater_b39 0 σ Q) ∧ (¬ (lg_cmp x2 y0) ≤ 0 → wX12_isGreater_b39 1 σ Q))
def wX12_isGreater_b12 (x1 : Int32) (y0 : Int64) (σ : Sg) (Q : Int32 → Sg → Prop) : Prop :=
  ((0 ≤ x1 → wX12_isGreater_b25 y0 (x1.toInt64) σ Q) ∧ (¬ 0 ≤ x1 → wX12_isGreater_b25 y0 (-(x1.toInt64)) σ Q))
def wX12_isGreater (x0 : Int32) (x1 : Int32) (σ : Sg) (Q : Int32 → Sg → Prop) : Prop :=
  ((0 ≤ x0 → wX12_isGreater_b12 x1 (x0.toInt64) σ Q) ∧ (¬ 0 ≤ x0 → wX12_isGreater_b12 x1 (-(x0.toInt64)) σ Q))
set_option maxHeartbeats 4000000 in
set_option maxRecDepth 100000 in
theorem mX12_isGreater_b39 {D : va_G} {cy : Nat → ClassId} {ad : Nat → Nat} (l : Launch) {p : Program} {e : Env} {s : State} {m : MethodId} {args : Array Value} {below : List Frame} {meth : Method} {c : Code} {A : Nat → Prop} {Q : Int32 → Sg → Prop} (X : Fx D (tyM cy) EvM p s m args meth c cX12_isGreater 6 "BackBayModel" A) (hr : meth.sig.returnType = some .boolean) (y0 : Int32) {σ : Sg} {H : Heap} {locs : List Loc} {ls : Array Slot} (S : St D ad 34 (shM cy ad) A s σ H locs) (hl : lv_has ls 6 []) (h : wX12_isGreater_b39 y0 σ Q) : W p l e ({ frames := 0, cells := 0, slots := 0, locals := 0 }) s m args below meth c H locs 0 0 (MQ below (va_Qi Q (PosW D (tyM cy) ad 34 (shM cy ad) A) A) args s 0 0 A) (F0 m 39 ls [.int y0]) := by
  have hx := X.1
  have hb := X.2.1
  unfold wX12_isGreater_b39 at h
  exact o_zret X S hr h.1 h.2 dX12_isGreater_39
set_option maxHeartbeats 4000000 in
set_option maxRecDepth 100000 in
theorem mX12_isGreater_b25 {D : va_G} {cy : Nat → ClassId} {ad : Nat → Nat} (l : Launch) {p : Program} {e : Env} {s : State} {m : MethodId} {args : Array Value} {below : List Frame} {meth : Method} {c : Code} {A : Nat → Prop} {Q : Int32 → Sg → Prop} (X : Fx D (tyM cy) EvM p s m args meth c cX12_isGreater 6 "BackBayModel" A) (hr : meth.sig.returnType = some .boolean) (x2 : Int64) (y0 : Int64) {σ : Sg} {H : Heap} {locs : List Loc} {ls : Array Slot} (S : St D ad 34 (shM cy ad) A s σ H locs) (hl : lv_has ls 6 [(2, .long x2)]) (h : wX12_isGreater_b25 x2 y0 σ Q) : W p l e ({ frames := 0, cells := 0, slots := 0, locals := 0 }) s m args below meth c H locs 0 0 (MQ below (va_Qi Q (PosW D (tyM cy) ad 34 (shM cy ad) A) A) args s 0 0 A) (F0 m 25 ls [.long y0]) := by
  have hx := X.1
  have hb := X.2.1
  unfold wX12_isGreater_b25 at h
  refine lv_lstore (lv' := [(4, .long y0), (2, .long x2)]) hx hb dX12_isGreater_25 hl (by decide) rfl (fun ls hl => ?_)
  refine lv_lload_n hx hb dX12_isGreater_27 rfl (lv_at hl 1 rfl) ?_
  refine lv_lload hx hb dX12_isGreater_28 (lv_at hl 0 rfl) ?_
  refine W.lcmp hx hb dX12_isGreater_30 ?_
  refine lv_if_le (tgt := 38) hx hb dX12_isGreater_31 (by decide) (fun q_3 => ?_) (fun q_3 => ?_)
  · replace h := h.1 q_3
    refine lv_iconst (v := 0) hx hb dX12_isGreater_38 (by decide) ?_
    exact mX12_isGreater_b39 l X hr 0 S (lv_sub hl [] rfl) h
  · replace h := h.2 q_3
    refine lv_iconst (v := 1) hx hb dX12_isGreater_34 (by decide) ?_
    refine lv_goto (tgt := 39) hx hb dX12_isGreater_35 (by decide) ?_
    exact mX12_isGreater_b39 l X hr 1 S (lv_sub hl [] rfl) h
set_option maxHeartbeats 4000000 in
set_option maxRecDepth 100000 in
theorem mX12_isGreater_b12 {D : va_G} {cy : Nat → ClassId} {ad : Nat → Nat} (l : Launch) {p : Program} {e : Env} {s : State} {m : MethodId} {args : Array Value} {below : List Frame} {meth : Method} {c : Code} {A : Nat → Prop} {Q : Int32 → Sg → Prop} (X : Fx D (tyM cy) EvM p s m args meth c cX12_isGreater 6 "BackBayModel" A) (hr : meth.sig.returnType = some .boolean) (x1 : Int32) (y0 : Int64) {σ : Sg} {H : Heap} {locs : List Loc} {ls : Array Slot} (S : St D ad 34 (shM cy ad) A s σ H locs) (hl : lv_has ls 6 [(1, .int x1)]) (h : wX12_isGreater_b12 x1 y0 σ Q) : W p l e ({ frames := 0, cells := 0, slots := 0, locals := 0 }) s m args below meth c H locs 0 0 (MQ below (va_Qi Q (PosW D (tyM cy) ad 34 (shM cy ad) A) A) args s 0 0 A) (F0 m 12 ls [.long y0]) := by
  have hx := X.1
  have hb := X.2.1
  unfold wX12_isGreater_b12 at h
  refine lv_lstore_n (lv' := [(2, .long y0), (1, .int x1)]) hx hb dX12_isGreater_12 rfl hl (by decide) rfl (fun ls hl => ?_)
  refine lv_iload_n hx hb dX12_isGreater_13 rfl (lv_at hl 1 rfl) ?_
  refine lv_if_ge (tgt := 23) hx hb dX12_isGreater_14 (by decide) (fun q_2 => ?_) (fun q_2 => ?_)
  · replace h := h.1 q_2
    refine lv_iload_n hx hb dX12_isGreater_23 rfl (lv_at hl 1 rfl) ?_
    refine lv_i2l hx hb dX12_isGreater_24 rfl ?_
    exact mX12_isGreater_b25 l X hr y0 (x1.toInt64) S (lv_sub hl [0] rfl) h
  · replace h := h.2 q_2
    refine lv_iload_n hx hb dX12_isGreater_17 rfl (lv_at hl 1 rfl) ?_
    refine lv_i2l hx hb dX12_isGreater_18 rfl ?_
    refine lv_lneg hx hb dX12_isGreater_19 ?_
    refine lv_goto (tgt := 25) hx hb dX12_isGreater_20 (by decide) ?_
    exact mX12_isGreater_b25 l X hr y0 (-(x1.toInt64)) S (lv_sub hl [0] rfl) h
set_option maxHeartbeats 4000000 in
set_option maxRecDepth 100000 in
theorem mX12_isGreater {D : va_G} {cy : Nat → ClassId} {ad : Nat → Nat} (l : Launch) (x0 : Int32) (x1 : Int32) (σ : Sg) (Q : Int32 → Sg → Prop) (h : wX12_isGreater x0 x1 σ Q) : MIM D cy ad l yX12_isGreater (.code yX12_isGreater cX12_isGreater 6 (some .boolean) :: gT) ({ frames := 0, cells := 0, slots := 0, locals := 0 }) [.int x0, .int x1] σ Q := by
  refine metI_of (by decide +kernel) (Nat.le_of_ble_eq_true rfl) ?_
  intro p e s m args below meth c A ls X hr hl S
  have X : Fx D (tyM cy) EvM p s m args meth c cX12_isGreater 6 "BackBayModel" A := X
  have hl : lv_has ls 6 [(0, .int x0), (1, .int x1)] := hl
  have hx := X.1
  have hb := X.2.1
  unfold wX12_isGreater at h
  refine lv_iload_n hx hb dX12_isGreater_0 rfl (lv_at hl 0 rfl) ?_
  refine lv_if_ge (tgt := 10) hx hb dX12_isGreater_1 (by decide) (fun q_1 => ?_) (fun q_1 => ?_)
  · replace h := h.1 q_1
    refine lv_iload_n hx hb dX12_isGreater_10 rfl (lv_at hl 0 rfl) ?_
    refine lv_i2l hx hb dX12_isGreater_11 rfl ?_
    exact mX12_isGreater_b12 l X hr x1 (x0.toInt64) S (lv_sub hl [1] rfl) h
  · replace h := h.2 q_1
    refine lv_iload_n hx hb dX12_isGreater_4 rfl (lv_at hl 0 rfl) ?_
    refine lv_i2l hx hb dX12_isGreater_5 rfl ?_
    refine lv_lneg hx hb dX12_isGreater_6 ?_
    refine lv_goto (tgt := 12) hx hb dX12_isGreater_7 (by decide) ?_
    exact mX12_isGreater_b12 l X hr x1 (-(x0.toInt64)) S (lv_sub hl [1] rfl) h
def wX12_steepest_b59 (x1 : Int32) (x2 : Int32) (σ : Sg) (k65 : Int32 → Sg → Prop) (kb6 : Int32 → Int32 → Sg → Prop) (Q : Int32 → Sg → Prop) : Prop :=
  (∀ x2_3 : Int32, x2_3 = x2 + 1 → kb6 x1 x2_3 σ)
def wX12_steepest_b57 (x2 : Int32) (σ : Sg) (k65 : Int32 → Sg → Prop) (kb6 : Int32 → Int32 → Sg → Prop) (Q : Int32 → Sg → Prop) : Prop :=
  wX12_steepest_b59 x2 x2 σ k65 kb6 Q
def wX12_steepest_L6 (k65 : Int32 → Sg → Prop) (Q : Int32 → Sg → Prop) : Nat → Int32 → Int32 → Sg → Prop
  | 0, _, _, _ => False
  | nn6 + 1, x1, x2, σ =>
  (((σ 0 19) ≤ x2 → k65 x1 σ) ∧ (¬ (σ 0 19) ≤ x2 → (vp_in x2 10 ∧ (((σ 28 x2.toNatClampNeg) = 0 → (vp_in x2 10 ∧ (((σ 29 x2.toNatClampNeg) = 0 → wX12_steepest_b59 x1 x2 σ k65 (wX12_steepest_L6 k65 Q nn6) Q) ∧ (¬ (σ 29 x2.toNatClampNeg) = 0 → ((x1 = (-1000000) → wX12_steepest_b57 x2 σ k65 (wX12_steepest_L6 k65 Q nn6) Q) ∧ (¬ x1 = (-1000000) → (vp_in x2 10 ∧ (vp_in x1 10 ∧ (wX12_isGreater (σ 29 x2.toNatClampNeg) (σ 29 x1.toNatClampNeg) σ (fun r_6 σ_7 => ((r_6 = 0 → wX12_steepest_b59 x1 x2 σ_7 k65 (wX12_steepest_L6 k65 Q nn6) Q) ∧ (¬ r_6 = 0 → wX12_steepest_b57 x2 σ_7 k65 (wX12_steepest_L6 k65 Q nn6) Q)))))))))))) ∧ (¬ (σ 28 x2.toNatClampNeg) = 0 → wX12_steepest_b59 x1 x2 σ k65 (wX12_steepest_L6 k65 Q nn6) Q)))))
def wX12_steepest (σ : Sg) (Q : Int32 → Sg → Prop) : Prop :=
  (∃ nf, wX12_steepest_L6 (fun x1_9 σ_10 => Q x1_9 σ_10) Q nf (-1000000) 0 σ)
set_option maxHeartbeats 4000000 in
set_option maxRecDepth 100000 in
theorem mX12_steepest_b59 {D : va_G} {cy : Nat → ClassId} {ad : Nat → Nat} (l : Launch) {p : Program} {e : Env} {s : State} {m : MethodId} {args : Array Value} {below : List Frame} {meth : Method} {c : Code} {A : Nat → Prop} {k65 : Int32 → Sg → Prop} {kb6 : Int32 → Int32 → Sg → Prop} {Q : Int32 → Sg → Prop} (X : Fx D (tyM cy) EvM p s m args meth c cX12_steepest 3 "BackBayModel" A) (hr : meth.sig.returnType = some .int) (x1 : Int32) (x2 : Int32) (hk65 : ∀ (x1 : Int32) (σ : Sg) (H : Heap) (locs : List Loc) (ls : Array Slot), St D ad 34 (shM cy ad) A s σ H locs → lv_has ls 3 [(1, .int x1)] → k65 x1 σ → W p l e ({ frames := 1, cells := 0, slots := 0, locals := 25 }) s m args below meth c H locs 0 0 (MQ below (va_Qi Q (PosW D (tyM cy) ad 34 (shM cy ad) A) A) args s 0 0 A) (F0 m 65 ls [])) (hkb6 : ∀ (x1 : Int32) (x2 : Int32) (σ : Sg) (H : Heap) (locs : List Loc) (ls : Array Slot), St D ad 34 (shM cy ad) A s σ H locs → lv_has ls 3 [(0, .ref (ad 0)), (1, .int x1), (2, .int x2)] → kb6 x1 x2 σ → W p l e ({ frames := 1, cells := 0, slots := 0, locals := 25 }) s m args below meth c H locs 0 0 (MQ below (va_Qi Q (PosW D (tyM cy) ad 34 (shM cy ad) A) A) args s 0 0 A) (F0 m 6 ls [])) {σ : Sg} {H : Heap} {locs : List Loc} {ls : Array Slot} (S : St D ad 34 (shM cy ad) A s σ H locs) (hl : lv_has ls 3 [(0, .ref (ad 0)), (1, .int x1), (2, .int x2)]) (h : wX12_steepest_b59 x1 x2 σ k65 kb6 Q) : W p l e ({ frames := 1, cells := 0, slots := 0, locals := 25 }) s m args below meth c H locs 0 0 (MQ below (va_Qi Q (PosW D (tyM cy) ad 34 (shM cy ad) A) A) args s 0 0 A) (F0 m 59 ls []) := by
  have hx := X.1
  have hb := X.2.1
  unfold wX12_steepest_b59 at h
  obtain ⟨x2_3, ex2_3⟩ : ∃ y : Int32, y = x2 + 1 := ⟨_, rfl⟩
  replace h := h x2_3 ex2_3
  refine lv_iinc (v := x2_3) (lv' := [(2, .int x2_3), (0, .ref (ad 0)), (1, .int x1)]) hx hb dX12_steepest_59 hl (k := 2) rfl (by rw [ex2_3]; rfl) (by decide) rfl (fun ls hl => ?_)
  refine lv_goto (tgt := 6) hx hb dX12_steepest_62 (by decide) ?_
  exact hkb6 _ _ _ _ _ _ S (lv_sub hl [1, 2, 0] rfl) h
set_option maxHeartbeats 4000000 in
set_option maxRecDepth 100000 in
theorem mX12_steepest_b57 {D : va_G} {cy : Nat → ClassId} {ad : Nat → Nat} (l : Launch) {p : Program} {e : Env} {s : State} {m : MethodId} {args : Array Value} {below : List Frame} {meth : Method} {c : Code} {A : Nat → Prop} {k65 : Int32 → Sg → Prop} {kb6 : Int32 → Int32 → Sg → Prop} {Q : Int32 → Sg → Prop} (X : Fx D (tyM cy) EvM p s m args meth c cX12_steepest 3 "BackBayModel" A) (hr : meth.sig.returnType = some .int) (x2 : Int32) (hk65 : ∀ (x1 : Int32) (σ : Sg) (H : Heap) (locs : List Loc) (ls : Array Slot), St D ad 34 (shM cy ad) A s σ H locs → lv_has ls 3 [(1, .int x1)] → k65 x1 σ → W p l e ({ frames := 1, cells := 0, slots := 0, locals := 25 }) s m args below meth c H locs 0 0 (MQ below (va_Qi Q (PosW D (tyM cy) ad 34 (shM cy ad) A) A) args s 0 0 A) (F0 m 65 ls [])) (hkb6 : ∀ (x1 : Int32) (x2 : Int32) (σ : Sg) (H : Heap) (locs : List Loc) (ls : Array Slot), St D ad 34 (shM cy ad) A s σ H locs → lv_has ls 3 [(0, .ref (ad 0)), (1, .int x1), (2, .int x2)] → kb6 x1 x2 σ → W p l e ({ frames := 1, cells := 0, slots := 0, locals := 25 }) s m args below meth c H locs 0 0 (MQ below (va_Qi Q (PosW D (tyM cy) ad 34 (shM cy ad) A) A) args s 0 0 A) (F0 m 6 ls [])) {σ : Sg} {H : Heap} {locs : List Loc} {ls : Array Slot} (S : St D ad 34 (shM cy ad) A s σ H locs) (hl : lv_has ls 3 [(0, .ref (ad 0)), (2, .int x2)]) (h : wX12_steepest_b57 x2 σ k65 kb6 Q) : W p l e ({ frames := 1, cells := 0, slots := 0, locals := 25 }) s m args below meth c H locs 0 0 (MQ below (va_Qi Q (PosW D (tyM cy) ad 34 (shM cy ad) A) A) args s 0 0 A) (F0 m 57 ls []) := by
  have hx := X.1
  have hb := X.2.1
  unfold wX12_steepest_b57 at h
  refine lv_iload_n hx hb dX12_steepest_57 rfl (lv_at hl 1 rfl) ?_
  refine lv_istore_n (lv' := [(1, .int x2), (0, .ref (ad 0)), (2, .int x2)]) hx hb dX12_steepest_58 rfl hl (by decide) rfl (fun ls hl => ?_)
  exact mX12_steepest_b59 l X hr x2 x2 hk65 hkb6 S (lv_sub hl [1, 0, 2] rfl) h
set_option maxHeartbeats 4000000 in
set_option maxRecDepth 100000 in
theorem mX12_steepest_L6 {D : va_G} {cy : Nat → ClassId} {ad : Nat → Nat} (l : Launch) {p : Program} {e : Env} {s : State} {m : MethodId} {args : Array Value} {below : List Frame} {meth : Method} {c : Code} {A : Nat → Prop} {k65 : Int32 → Sg → Prop} {Q : Int32 → Sg → Prop} (X : Fx D (tyM cy) EvM p s m args meth c cX12_steepest 3 "BackBayModel" A) (hr : meth.sig.returnType = some .int) (hk65 : ∀ (x1 : Int32) (σ : Sg) (H : Heap) (locs : List Loc) (ls : Array Slot), St D ad 34 (shM cy ad) A s σ H locs → lv_has ls 3 [(1, .int x1)] → k65 x1 σ → W p l e ({ frames := 1, cells := 0, slots := 0, locals := 25 }) s m args below meth c H locs 0 0 (MQ below (va_Qi Q (PosW D (tyM cy) ad 34 (shM cy ad) A) A) args s 0 0 A) (F0 m 65 ls [])) : ∀ (n : Nat) (x1 : Int32) (x2 : Int32) (σ : Sg) (H : Heap) (locs : List Loc) (ls : Array Slot), St D ad 34 (shM cy ad) A s σ H locs → lv_has ls 3 [(0, .ref (ad 0)), (1, .int x1), (2, .int x2)] → wX12_steepest_L6 k65 Q n x1 x2 σ → W p l e ({ frames := 1, cells := 0, slots := 0, locals := 25 }) s m args below meth c H locs 0 0 (MQ below (va_Qi Q (PosW D (tyM cy) ad 34 (shM cy ad) A) A) args s 0 0 A) (F0 m 6 ls []) := by
  have hx := X.1
  have hb := X.2.1
  intro n
  induction n with
  | zero =>
    intro _ _ _ _ _ _ _ _ h
    exact absurd h (by unfold wX12_steepest_L6; exact id)
  | succ n ih =>
    intro x1 x2 σ H locs ls S hl h
    unfold wX12_steepest_L6 at h
    refine lv_iload_n hx hb dX12_steepest_6 rfl (lv_at hl 2 rfl) ?_
    refine lv_aload_n hx hb dX12_steepest_7 rfl (lv_at hl 0 rfl) ?_
    refine o_get X S 0 19 (by decide) rfl rfl in_12 (by decide) k_886 rfl dX12_steepest_8 ?_
    refine lv_icmp_ge (tgt := 65) hx hb dX12_steepest_11 (by decide) (fun q_1 => ?_) (fun q_1 => ?_)
    · replace h := h.1 q_1
      exact hk65 _ _ _ _ _ S (lv_sub hl [1] rfl) h
    · replace h := h.2 q_1
      refine lv_aload_n hx hb dX12_steepest_14 rfl (lv_at hl 0 rfl) ?_
      refine o_get X S 0 40 (by decide) rfl rfl in_12 (by decide) k_907 rfl dX12_steepest_15 ?_
      refine lv_iload_n hx hb dX12_steepest_18 rfl (lv_at hl 2 rfl) ?_
      refine o_zald X S 28 1 (by decide) (fun _ => rfl) rfl h.1 dX12_steepest_19 ?_
      replace h := h.2
      refine lv_if_ne (tgt := 59) hx hb dX12_steepest_20 (by decide) (fun q_2 => ?_) (fun q_2 => ?_)
      · replace h := h.2 q_2
        exact mX12_steepest_b59 l X hr x1 x2 hk65 ih S (lv_sub hl [0, 1, 2] rfl) h
      · replace h := h.1 q_2
        refine lv_aload_n hx hb dX12_steepest_23 rfl (lv_at hl 0 rfl) ?_
        refine o_get X S 0 41 (by decide) rfl rfl in_12 (by decide) k_908 rfl dX12_steepest_24 ?_
        refine lv_iload_n hx hb dX12_steepest_27 rfl (lv_at hl 2 rfl) ?_
        refine o_iald X S 29 0 (by decide) (fun _ => rfl) rfl h.1 dX12_steepest_28 ?_
        replace h := h.2
        refine lv_if_eq (tgt := 59) hx hb dX12_steepest_29 (by decide) (fun q_4 => ?_) (fun q_4 => ?_)
        · replace h := h.1 q_4
          exact mX12_steepest_b59 l X hr x1 x2 hk65 ih S (lv_sub hl [0, 1, 2] rfl) h
        · replace h := h.2 q_4
          refine lv_iload_n hx hb dX12_steepest_32 rfl (lv_at hl 1 rfl) ?_
          refine lv_ldcw (v := (-1000000)) hx hb X.2.2.2.1 (X.2.2.2.2.1 _ k_1207) dX12_steepest_33 ?_
          refine lv_icmp_eq (tgt := 57) hx hb dX12_steepest_36 (by decide) (fun q_5 => ?_) (fun q_5 => ?_)
          · replace h := h.1 q_5
            exact mX12_steepest_b57 l X hr x2 hk65 ih S (lv_sub hl [0, 2] rfl) h
          · replace h := h.2 q_5
            refine lv_aload_n hx hb dX12_steepest_39 rfl (lv_at hl 0 rfl) ?_
            refine o_get X S 0 41 (by decide) rfl rfl in_12 (by decide) k_908 rfl dX12_steepest_40 ?_
            refine lv_iload_n hx hb dX12_steepest_43 rfl (lv_at hl 2 rfl) ?_
            refine o_iald X S 29 0 (by decide) (fun _ => rfl) rfl h.1 dX12_steepest_44 ?_
            replace h := h.2
            refine lv_aload_n hx hb dX12_steepest_45 rfl (lv_at hl 0 rfl) ?_
            refine o_get X S 0 41 (by decide) rfl rfl in_12 (by decide) k_908 rfl dX12_steepest_46 ?_
            refine lv_iload_n hx hb dX12_steepest_49 rfl (lv_at hl 1 rfl) ?_
            refine o_iald X S 29 0 (by decide) (fun _ => rfl) rfl h.1 dX12_steepest_50 ?_
            replace h := h.2
            refine o_callSi (k := 2) EvM_ok X S (mX12_isGreater l (σ 29 x2.toNatClampNeg) (σ 29 x1.toNatClampNeg) σ _ h) k_1218 k_1216 k_1217 k_14 ⟨by decide, by decide, by decide +kernel⟩ ⟨rfl, rfl⟩ ⟨Nat.le_of_ble_eq_true rfl, Nat.le_of_ble_eq_true rfl⟩ rfl hl.1 rfl (Nat.le_of_ble_eq_true rfl) dX12_steepest_51 (fun r_6 σ_7 H locs h S => ?_)
            refine lv_if_eq (tgt := 59) hx hb dX12_steepest_54 (by decide) (fun q_8 => ?_) (fun q_8 => ?_)
            · replace h := h.1 q_8
              exact mX12_steepest_b59 l X hr x1 x2 hk65 ih S (lv_sub hl [0, 1, 2] rfl) h
            · replace h := h.2 q_8
              exact mX12_steepest_b57 l X hr x2 hk65 ih S (lv_sub hl [0, 2] rfl) h
set_option maxHeartbeats 4000000 in
set_option maxRecDepth 100000 in
theorem mX12_steepest {D : va_G} {cy : Nat → ClassId} {ad : Nat → Nat} (l : Launch) (σ : Sg) (Q : Int32 → Sg → Prop) (h : wX12_steepest σ Q) : MIM D cy ad l yX12_steepest (.code yX12_steepest cX12_steepest 3 (some .int) :: gT) ({ frames := 1, cells := 0, slots := 0, locals := 25 }) [.ref (ad 0)] σ Q := by
  refine metI_of (by decide +kernel) (Nat.le_of_ble_eq_true rfl) ?_
  intro p e s m args below meth c A ls X hr hl S
  have X : Fx D (tyM cy) EvM p s m args meth c cX12_steepest 3 "BackBayModel" A := X
  have hl : lv_has ls 3 [(0, .ref (ad 0))] := hl
  have hx := X.1
  have hb := X.2.1
  unfold wX12_steepest at h
  refine lv_ldcw (v := (-1000000)) hx hb X.2.2.2.1 (X.2.2.2.2.1 _ k_1207) dX12_steepest_0 ?_
  refine lv_istore_n (lv' := [(1, .int (-1000000)), (0, .ref (ad 0))]) hx hb dX12_steepest_3 rfl hl (by decide) rfl (fun ls hl => ?_)
  refine lv_iconst (v := 0) hx hb dX12_steepest_4 (by decide) ?_
  refine lv_istore_n (lv' := [(2, .int 0), (1, .int (-1000000)), (0, .ref (ad 0))]) hx hb dX12_steepest_5 rfl hl (by decide) rfl (fun ls hl => ?_)
  obtain ⟨n_6, h⟩ := h
  refine mX12_steepest_L6 l X hr ?_ n_6 _ _ _ _ _ _ S (lv_sub hl [2, 1, 0] rfl) h
  · intro x1_9 σ_10 H locs ls S hl h
    refine lv_iload_n hx hb dX12_steepest_65 rfl (lv_at hl 0 rfl) ?_
    exact o_iret X S hr h dX12_steepest_66
def wX12_move_L6 (k37 : Sg → Prop) (Q : Int32 → Sg → Prop) : Nat → Int32 → Sg → Prop
  | 0, _, _ => False
  | nn6 + 1, x1, σ =>
  ((10 ≤ x1 → k37 σ) ∧ (¬ 10 ≤ x1 → (vp_in x1 10 ∧ (vp_in x1 10 ∧ ∀ σ_4, σ_4 = sto σ 29 x1.toNatClampNeg (σ 22 x1.toNatClampNeg) → (vp_in x1 10 ∧ ∀ σ_5, σ_5 = sto σ_4 28 x1.toNatClampNeg (vp_nar .boolean 0) → (∀ x1_6 : Int32, x1_6 = x1 + 1 → wX12_move_L6 k37 Q nn6 x1_6 σ_5))))))
def wX12_move_b123 (x1 : Int32) (σ : Sg) (k131 : Sg → Prop) (k111 : Int32 → Sg → Prop) (kb47 : Int32 → Sg → Prop) (Q : Int32 → Sg → Prop) : Prop :=
  (wX12_steepest σ (fun r_18 σ_19 => kb47 r_18 σ_19))
def wX12_move_b75 (x1 : Int32) (x2 : Int32) (y0 : Int32) (σ : Sg) (k131 : Sg → Prop) (k111 : Int32 → Sg → Prop) (kb47 : Int32 → Sg → Prop) (Q : Int32 → Sg → Prop) : Prop :=
  (vp_in x2 10 ∧ (wX12_within ((σ 11 x2.toNatClampNeg) + y0) 0 9 σ (fun r_15 σ_16 => ((r_15 = 0 → wX12_move_b123 x1 σ_16 k131 k111 kb47 Q) ∧ (¬ r_15 = 0 → (vp_in x2 10 ∧ (vp_in x2 10 ∧ ∀ σ_20, σ_20 = sto σ_16 11 x2.toNatClampNeg ((σ_16 11 x2.toNatClampNeg) + y0) → (wX12_wishNow σ_20 (fun r_21 σ_22 => ((x1 ≤ r_21 → (vp_in x2 10 ∧ (vp_in x2 10 ∧ ∀ σ_24, σ_24 = sto σ_22 11 x2.toNatClampNeg ((σ_22 11 x2.toNatClampNeg) - y0) → wX12_move_b123 x1 σ_24 k131 k111 kb47 Q))) ∧ (¬ x1 ≤ r_21 → k111 x2 σ_22)))))))))))
def wX12_move_L47 (x1 : Int32) (k131 : Sg → Prop) (k111 : Int32 → Sg → Prop) (Q : Int32 → Sg → Prop) : Nat → Int32 → Sg → Prop
  | 0, _, _ => False
  | nn47 + 1, x2, σ =>
  ((x2 = (-1000000) → k131 σ) ∧ (¬ x2 = (-1000000) → (vp_in x2 10 ∧ ∀ σ_13, σ_13 = sto σ 28 x2.toNatClampNeg (vp_nar .boolean 1) → (vp_in x2 10 ∧ (((σ_13 29 x2.toNatClampNeg) ≤ 0 → wX12_move_b75 x1 x2 1 σ_13 k131 k111 (wX12_move_L47 x1 k131 k111 Q nn47) Q) ∧ (¬ (σ_13 29 x2.toNatClampNeg) ≤ 0 → wX12_move_b75 x1 x2 (-1) σ_13 k131 k111 (wX12_move_L47 x1 k131 k111 Q nn47) Q))))))
def wX12_move (σ : Sg) (Q : Int32 → Sg → Prop) : Prop :=
  (wX12_findSlopes σ (fun σ_2 => (∃ nf, wX12_move_L6 (fun σ_7 => (wX12_wishNow σ_7 (fun r_8 σ_9 => (wX12_steepest σ_9 (fun r_10 σ_11 => (∃ nf, wX12_move_L47 r_8 (fun σ_25 => Q (-1000000) σ_25) (fun x2_26 σ_27 => Q x2_26 σ_27) Q nf r_10 σ_11)))))) Q nf 0 σ_2)))
set_option maxHeartbeats 4000000 in
set_option maxRecDepth 100000 in
theorem mX12_move_L6 {D : va_G} {cy : Nat → ClassId} {ad : Nat → Nat} (l : Launch) {p : Program} {e : Env} {s : State} {m : MethodId} {args : Array Value} {below : List Frame} {meth : Method} {c : Code} {A : Nat → Prop} {k37 : Sg → Prop} {Q : Int32 → Sg → Prop} (X : Fx D (tyM cy) EvM p s m args meth c cX12_move 4 "BackBayModel" A) (hr : meth.sig.returnType = some .int) (hk37 : ∀ (σ : Sg) (H : Heap) (locs : List Loc) (ls : Array Slot), St D ad 34 (shM cy ad) A s σ H locs → lv_has ls 4 [(0, .ref (ad 0))] → k37 σ → W p l e ({ frames := 8, cells := 0, slots := 0, locals := 189 }) s m args below meth c H locs 0 0 (MQ below (va_Qi Q (PosW D (tyM cy) ad 34 (shM cy ad) A) A) args s 0 0 A) (F0 m 37 ls [])) : ∀ (n : Nat) (x1 : Int32) (σ : Sg) (H : Heap) (locs : List Loc) (ls : Array Slot), St D ad 34 (shM cy ad) A s σ H locs → lv_has ls 4 [(0, .ref (ad 0)), (1, .int x1)] → wX12_move_L6 k37 Q n x1 σ → W p l e ({ frames := 8, cells := 0, slots := 0, locals := 189 }) s m args below meth c H locs 0 0 (MQ below (va_Qi Q (PosW D (tyM cy) ad 34 (shM cy ad) A) A) args s 0 0 A) (F0 m 6 ls []) := by
  have hx := X.1
  have hb := X.2.1
  intro n
  induction n with
  | zero =>
    intro _ _ _ _ _ _ _ h
    exact absurd h (by unfold wX12_move_L6; exact id)
  | succ n ih =>
    intro x1 σ H locs ls S hl h
    unfold wX12_move_L6 at h
    refine lv_iload_n hx hb dX12_move_6 rfl (lv_at hl 1 rfl) ?_
    refine lv_bipush (v := 10) hx hb dX12_move_7 (by decide) ?_
    refine lv_icmp_ge (tgt := 37) hx hb dX12_move_9 (by decide) (fun q_3 => ?_) (fun q_3 => ?_)
    · replace h := h.1 q_3
      exact hk37 _ _ _ _ S (lv_sub hl [0] rfl) h
    · replace h := h.2 q_3
      refine lv_aload_n hx hb dX12_move_12 rfl (lv_at hl 0 rfl) ?_
      refine o_get X S 0 41 (by decide) rfl rfl in_12 (by decide) k_908 rfl dX12_move_13 ?_
      refine lv_iload_n hx hb dX12_move_16 rfl (lv_at hl 1 rfl) ?_
      refine lv_aload_n hx hb dX12_move_17 rfl (lv_at hl 0 rfl) ?_
      refine o_get X S 0 34 (by decide) rfl rfl in_12 (by decide) k_901 rfl dX12_move_18 ?_
      refine lv_iload_n hx hb dX12_move_21 rfl (lv_at hl 1 rfl) ?_
      refine o_iald X S 22 0 (by decide) (fun _ => rfl) rfl h.1 dX12_move_22 ?_
      replace h := h.2
      refine o_iast X S 29 0 (by decide) (fun _ => rfl) rfl h.1 dX12_move_23 (fun σ_4 H locs eσ_4 S => ?_)
      replace h := h.2 σ_4 eσ_4
      refine lv_aload_n hx hb dX12_move_24 rfl (lv_at hl 0 rfl) ?_
      refine o_get X S 0 40 (by decide) rfl rfl in_12 (by decide) k_907 rfl dX12_move_25 ?_
      refine lv_iload_n hx hb dX12_move_28 rfl (lv_at hl 1 rfl) ?_
      refine lv_iconst (v := 0) hx hb dX12_move_29 (by decide) ?_
      refine o_zast X S 28 1 (by decide) (fun _ => rfl) rfl h.1 dX12_move_30 (fun σ_5 H locs eσ_5 S => ?_)
      replace h := h.2 σ_5 eσ_5
      obtain ⟨x1_6, ex1_6⟩ : ∃ y : Int32, y = x1 + 1 := ⟨_, rfl⟩
      replace h := h x1_6 ex1_6
      refine lv_iinc (v := x1_6) (lv' := [(1, .int x1_6), (0, .ref (ad 0))]) hx hb dX12_move_31 hl (k := 1) rfl (by rw [ex1_6]; rfl) (by decide) rfl (fun ls hl => ?_)
      refine lv_goto (tgt := 6) hx hb dX12_move_34 (by decide) ?_
      exact ih _ _ _ _ _ S (lv_sub hl [1, 0] rfl) h
set_option maxHeartbeats 4000000 in
set_option maxRecDepth 100000 in
theorem mX12_move_b123 {D : va_G} {cy : Nat → ClassId} {ad : Nat → Nat} (l : Launch) {p : Program} {e : Env} {s : State} {m : MethodId} {args : Array Value} {below : List Frame} {meth : Method} {c : Code} {A : Nat → Prop} {k131 : Sg → Prop} {k111 : Int32 → Sg → Prop} {kb47 : Int32 → Sg → Prop} {Q : Int32 → Sg → Prop} (X : Fx D (tyM cy) EvM p s m args meth c cX12_move 4 "BackBayModel" A) (hr : meth.sig.returnType = some .int) (x1 : Int32) (hk131 : ∀ (σ : Sg) (H : Heap) (locs : List Loc) (ls : Array Slot), St D ad 34 (shM cy ad) A s σ H locs → lv_has ls 4 [] → k131 σ → W p l e ({ frames := 8, cells := 0, slots := 0, locals := 189 }) s m args below meth c H locs 0 0 (MQ below (va_Qi Q (PosW D (tyM cy) ad 34 (shM cy ad) A) A) args s 0 0 A) (F0 m 131 ls [])) (hk111 : ∀ (x2 : Int32) (σ : Sg) (H : Heap) (locs : List Loc) (ls : Array Slot), St D ad 34 (shM cy ad) A s σ H locs → lv_has ls 4 [(2, .int x2)] → k111 x2 σ → W p l e ({ frames := 8, cells := 0, slots := 0, locals := 189 }) s m args below meth c H locs 0 0 (MQ below (va_Qi Q (PosW D (tyM cy) ad 34 (shM cy ad) A) A) args s 0 0 A) (F0 m 111 ls [])) (hkb47 : ∀ (x2 : Int32) (σ : Sg) (H : Heap) (locs : List Loc) (ls : Array Slot), St D ad 34 (shM cy ad) A s σ H locs → lv_has ls 4 [(0, .ref (ad 0)), (1, .int x1), (2, .int x2)] → kb47 x2 σ → W p l e ({ frames := 8, cells := 0, slots := 0, locals := 189 }) s m args below meth c H locs 0 0 (MQ below (va_Qi Q (PosW D (tyM cy) ad 34 (shM cy ad) A) A) args s 0 0 A) (F0 m 47 ls [])) {σ : Sg} {H : Heap} {locs : List Loc} {ls : Array Slot} (S : St D ad 34 (shM cy ad) A s σ H locs) (hl : lv_has ls 4 [(0, .ref (ad 0)), (1, .int x1)]) (h : wX12_move_b123 x1 σ k131 k111 kb47 Q) : W p l e ({ frames := 8, cells := 0, slots := 0, locals := 189 }) s m args below meth c H locs 0 0 (MQ below (va_Qi Q (PosW D (tyM cy) ad 34 (shM cy ad) A) A) args s 0 0 A) (F0 m 123 ls []) := by
  have hx := X.1
  have hb := X.2.1
  unfold wX12_move_b123 at h
  refine lv_aload_n hx hb dX12_move_123 rfl (lv_at hl 0 rfl) ?_
  refine o_callVi (k := 0) EvM_ok X S (mX12_steepest l σ _ h) (by decide) rfl rfl k_1215 k_1212 k_1214 ks_58 k_14 ⟨rfl, by decide, by decide, by decide +kernel⟩ ⟨rfl, rfl⟩ ⟨Nat.le_of_ble_eq_true rfl, Nat.le_of_ble_eq_true rfl⟩ rfl hl.1 rfl (Nat.le_of_ble_eq_true rfl) dX12_move_124 (fun r_18 σ_19 H locs h S => ?_)
  refine lv_istore_n (lv' := [(2, .int r_18), (0, .ref (ad 0)), (1, .int x1)]) hx hb dX12_move_127 rfl hl (by decide) rfl (fun ls hl => ?_)
  refine lv_goto (tgt := 47) hx hb dX12_move_128 (by decide) ?_
  exact hkb47 _ _ _ _ _ S (lv_sub hl [1, 2, 0] rfl) h
set_option maxHeartbeats 4000000 in
set_option maxRecDepth 100000 in
theorem mX12_move_b75 {D : va_G} {cy : Nat → ClassId} {ad : Nat → Nat} (l : Launch) {p : Program} {e : Env} {s : State} {m : MethodId} {args : Array Value} {below : List Frame} {meth : Method} {c : Code} {A : Nat → Prop} {k131 : Sg → Prop} {k111 : Int32 → Sg → Prop} {kb47 : Int32 → Sg → Prop} {Q : Int32 → Sg → Prop} (X : Fx D (tyM cy) EvM p s m args meth c cX12_move 4 "BackBayModel" A) (hr : meth.sig.returnType = some .int) (x1 : Int32) (x2 : Int32) (y0 : Int32) (hk131 : ∀ (σ : Sg) (H : Heap) (locs : List Loc) (ls : Array Slot), St D ad 34 (shM cy ad) A s σ H locs → lv_has ls 4 [] → k131 σ → W p l e ({ frames := 8, cells := 0, slots := 0, locals := 189 }) s m args below meth c H locs 0 0 (MQ below (va_Qi Q (PosW D (tyM cy) ad 34 (shM cy ad) A) A) args s 0 0 A) (F0 m 131 ls [])) (hk111 : ∀ (x2 : Int32) (σ : Sg) (H : Heap) (locs : List Loc) (ls : Array Slot), St D ad 34 (shM cy ad) A s σ H locs → lv_has ls 4 [(2, .int x2)] → k111 x2 σ → W p l e ({ frames := 8, cells := 0, slots := 0, locals := 189 }) s m args below meth c H locs 0 0 (MQ below (va_Qi Q (PosW D (tyM cy) ad 34 (shM cy ad) A) A) args s 0 0 A) (F0 m 111 ls [])) (hkb47 : ∀ (x2 : Int32) (σ : Sg) (H : Heap) (locs : List Loc) (ls : Array Slot), St D ad 34 (shM cy ad) A s σ H locs → lv_has ls 4 [(0, .ref (ad 0)), (1, .int x1), (2, .int x2)] → kb47 x2 σ → W p l e ({ frames := 8, cells := 0, slots := 0, locals := 189 }) s m args below meth c H locs 0 0 (MQ below (va_Qi Q (PosW D (tyM cy) ad 34 (shM cy ad) A) A) args s 0 0 A) (F0 m 47 ls [])) {σ : Sg} {H : Heap} {locs : List Loc} {ls : Array Slot} (S : St D ad 34 (shM cy ad) A s σ H locs) (hl : lv_has ls 4 [(0, .ref (ad 0)), (1, .int x1), (2, .int x2)]) (h : wX12_move_b75 x1 x2 y0 σ k131 k111 kb47 Q) : W p l e ({ frames := 8, cells := 0, slots := 0, locals := 189 }) s m args below meth c H locs 0 0 (MQ below (va_Qi Q (PosW D (tyM cy) ad 34 (shM cy ad) A) A) args s 0 0 A) (F0 m 75 ls [.int y0]) := by
  have hx := X.1
  have hb := X.2.1
  unfold wX12_move_b75 at h
  refine lv_istore_n (lv' := [(3, .int y0), (0, .ref (ad 0)), (1, .int x1), (2, .int x2)]) hx hb dX12_move_75 rfl hl (by decide) rfl (fun ls hl => ?_)
  refine lv_aload_n hx hb dX12_move_76 rfl (lv_at hl 1 rfl) ?_
  refine o_get X S 0 21 (by decide) rfl rfl in_12 (by decide) k_888 rfl dX12_move_77 ?_
  refine lv_iload_n hx hb dX12_move_80 rfl (lv_at hl 3 rfl) ?_
  refine o_iald X S 11 0 (by decide) (fun _ => rfl) rfl h.1 dX12_move_81 ?_
  replace h := h.2
  refine lv_iload_n hx hb dX12_move_82 rfl (lv_at hl 0 rfl) ?_
  refine lv_iadd hx hb dX12_move_83 ?_
  refine lv_iconst (v := 0) hx hb dX12_move_84 (by decide) ?_
  refine lv_bipush (v := 9) hx hb dX12_move_85 (by decide) ?_
  refine o_callSi (k := 3) EvM_ok X S (mX12_within l ((σ 11 x2.toNatClampNeg) + y0) 0 9 σ _ h) k_1021 k_1019 k_1020 k_14 ⟨by decide, by decide, by decide +kernel⟩ ⟨rfl, rfl⟩ ⟨Nat.le_of_ble_eq_true rfl, Nat.le_of_ble_eq_true rfl⟩ rfl hl.1 rfl (Nat.le_of_ble_eq_true rfl) dX12_move_87 (fun r_15 σ_16 H locs h S => ?_)
  refine lv_if_eq (tgt := 123) hx hb dX12_move_90 (by decide) (fun q_17 => ?_) (fun q_17 => ?_)
  · replace h := h.1 q_17
    exact mX12_move_b123 l X hr x1 hk131 hk111 hkb47 S (lv_sub hl [1, 2] rfl) h
  · replace h := h.2 q_17
    refine lv_aload_n hx hb dX12_move_93 rfl (lv_at hl 1 rfl) ?_
    refine o_get X S 0 21 (by decide) rfl rfl in_12 (by decide) k_888 rfl dX12_move_94 ?_
    refine lv_iload_n hx hb dX12_move_97 rfl (lv_at hl 3 rfl) ?_
    refine lv_dup2_11 hx hb dX12_move_98 rfl rfl ?_
    refine o_iald X S 11 0 (by decide) (fun _ => rfl) rfl h.1 dX12_move_99 ?_
    replace h := h.2
    refine lv_iload_n hx hb dX12_move_100 rfl (lv_at hl 0 rfl) ?_
    refine lv_iadd hx hb dX12_move_101 ?_
    refine o_iast X S 11 0 (by decide) (fun _ => rfl) rfl h.1 dX12_move_102 (fun σ_20 H locs eσ_20 S => ?_)
    replace h := h.2 σ_20 eσ_20
    refine lv_aload_n hx hb dX12_move_103 rfl (lv_at hl 1 rfl) ?_
    refine o_callVi (k := 0) EvM_ok X S (mX12_wishNow l σ_20 _ h) (by decide) rfl rfl k_1166 k_1163 k_1165 ks_50 k_14 ⟨rfl, by decide, by decide, by decide +kernel⟩ ⟨rfl, rfl⟩ ⟨Nat.le_of_ble_eq_true rfl, Nat.le_of_ble_eq_true rfl⟩ rfl hl.1 rfl (Nat.le_of_ble_eq_true rfl) dX12_move_104 (fun r_21 σ_22 H locs h S => ?_)
    refine lv_iload_n hx hb dX12_move_107 rfl (lv_at hl 2 rfl) ?_
    refine lv_icmp_ge (tgt := 113) hx hb dX12_move_108 (by decide) (fun q_23 => ?_) (fun q_23 => ?_)
    · replace h := h.1 q_23
      refine lv_aload_n hx hb dX12_move_113 rfl (lv_at hl 1 rfl) ?_
      refine o_get X S 0 21 (by decide) rfl rfl in_12 (by decide) k_888 rfl dX12_move_114 ?_
      refine lv_iload_n hx hb dX12_move_117 rfl (lv_at hl 3 rfl) ?_
      refine lv_dup2_11 hx hb dX12_move_118 rfl rfl ?_
      refine o_iald X S 11 0 (by decide) (fun _ => rfl) rfl h.1 dX12_move_119 ?_
      replace h := h.2
      refine lv_iload_n hx hb dX12_move_120 rfl (lv_at hl 0 rfl) ?_
      refine lv_isub hx hb dX12_move_121 ?_
      refine o_iast X S 11 0 (by decide) (fun _ => rfl) rfl h.1 dX12_move_122 (fun σ_24 H locs eσ_24 S => ?_)
      replace h := h.2 σ_24 eσ_24
      exact mX12_move_b123 l X hr x1 hk131 hk111 hkb47 S (lv_sub hl [1, 2] rfl) h
    · replace h := h.2 q_23
      exact hk111 _ _ _ _ _ S (lv_sub hl [3] rfl) h
set_option maxHeartbeats 4000000 in
set_option maxRecDepth 100000 in
theorem mX12_move_L47 {D : va_G} {cy : Nat → ClassId} {ad : Nat → Nat} (l : Launch) {p : Program} {e : Env} {s : State} {m : MethodId} {args : Array Value} {below : List Frame} {meth : Method} {c : Code} {A : Nat → Prop} {k131 : Sg → Prop} {k111 : Int32 → Sg → Prop} {Q : Int32 → Sg → Prop} (X : Fx D (tyM cy) EvM p s m args meth c cX12_move 4 "BackBayModel" A) (hr : meth.sig.returnType = some .int) (x1 : Int32) (hk131 : ∀ (σ : Sg) (H : Heap) (locs : List Loc) (ls : Array Slot), St D ad 34 (shM cy ad) A s σ H locs → lv_has ls 4 [] → k131 σ → W p l e ({ frames := 8, cells := 0, slots := 0, locals := 189 }) s m args below meth c H locs 0 0 (MQ below (va_Qi Q (PosW D (tyM cy) ad 34 (shM cy ad) A) A) args s 0 0 A) (F0 m 131 ls [])) (hk111 : ∀ (x2 : Int32) (σ : Sg) (H : Heap) (locs : List Loc) (ls : Array Slot), St D ad 34 (shM cy ad) A s σ H locs → lv_has ls 4 [(2, .int x2)] → k111 x2 σ → W p l e ({ frames := 8, cells := 0, slots := 0, locals := 189 }) s m args below meth c H locs 0 0 (MQ below (va_Qi Q (PosW D (tyM cy) ad 34 (shM cy ad) A) A) args s 0 0 A) (F0 m 111 ls [])) : ∀ (n : Nat) (x2 : Int32) (σ : Sg) (H : Heap) (locs : List Loc) (ls : Array Slot), St D ad 34 (shM cy ad) A s σ H locs → lv_has ls 4 [(0, .ref (ad 0)), (1, .int x1), (2, .int x2)] → wX12_move_L47 x1 k131 k111 Q n x2 σ → W p l e ({ frames := 8, cells := 0, slots := 0, locals := 189 }) s m args below meth c H locs 0 0 (MQ below (va_Qi Q (PosW D (tyM cy) ad 34 (shM cy ad) A) A) args s 0 0 A) (F0 m 47 ls []) := by
  have hx := X.1
  have hb := X.2.1
  intro n
  induction n with
  | zero =>
    intro _ _ _ _ _ _ _ h
    exact absurd h (by unfold wX12_move_L47; exact id)
  | succ n ih =>
    intro x2 σ H locs ls S hl h
    unfold wX12_move_L47 at h
    refine lv_iload_n hx hb dX12_move_47 rfl (lv_at hl 2 rfl) ?_
    refine lv_ldcw (v := (-1000000)) hx hb X.2.2.2.1 (X.2.2.2.2.1 _ k_1207) dX12_move_48 ?_
    refine lv_icmp_eq (tgt := 131) hx hb dX12_move_51 (by decide) (fun q_12 => ?_) (fun q_12 => ?_)
    · replace h := h.1 q_12
      exact hk131 _ _ _ _ S (lv_sub hl [] rfl) h
    · replace h := h.2 q_12
      refine lv_aload_n hx hb dX12_move_54 rfl (lv_at hl 0 rfl) ?_
      refine o_get X S 0 40 (by decide) rfl rfl in_12 (by decide) k_907 rfl dX12_move_55 ?_
      refine lv_iload_n hx hb dX12_move_58 rfl (lv_at hl 2 rfl) ?_
      refine lv_iconst (v := 1) hx hb dX12_move_59 (by decide) ?_
      refine o_zast X S 28 1 (by decide) (fun _ => rfl) rfl h.1 dX12_move_60 (fun σ_13 H locs eσ_13 S => ?_)
      replace h := h.2 σ_13 eσ_13
      refine lv_aload_n hx hb dX12_move_61 rfl (lv_at hl 0 rfl) ?_
      refine o_get X S 0 41 (by decide) rfl rfl in_12 (by decide) k_908 rfl dX12_move_62 ?_
      refine lv_iload_n hx hb dX12_move_65 rfl (lv_at hl 2 rfl) ?_
      refine o_iald X S 29 0 (by decide) (fun _ => rfl) rfl h.1 dX12_move_66 ?_
      replace h := h.2
      refine lv_if_le (tgt := 74) hx hb dX12_move_67 (by decide) (fun q_14 => ?_) (fun q_14 => ?_)
      · replace h := h.1 q_14
        refine lv_iconst (v := 1) hx hb dX12_move_74 (by decide) ?_
        exact mX12_move_b75 l X hr x1 x2 1 hk131 hk111 ih S (lv_sub hl [0, 1, 2] rfl) h
      · replace h := h.2 q_14
        refine lv_iconst (v := (-1)) hx hb dX12_move_70 (by decide) ?_
        refine lv_goto (tgt := 75) hx hb dX12_move_71 (by decide) ?_
        exact mX12_move_b75 l X hr x1 x2 (-1) hk131 hk111 ih S (lv_sub hl [0, 1, 2] rfl) h
set_option maxHeartbeats 4000000 in
set_option maxRecDepth 100000 in
theorem mX12_move {D : va_G} {cy : Nat → ClassId} {ad : Nat → Nat} (l : Launch) (σ : Sg) (Q : Int32 → Sg → Prop) (h : wX12_move σ Q) : MIM D cy ad l yX12_move (.code yX12_move cX12_move 4 (some .int) :: gT) ({ frames := 8, cells := 0, slots := 0, locals := 189 }) [.ref (ad 0)] σ Q := by
  refine metI_of (by decide +kernel) (Nat.le_of_ble_eq_true rfl) ?_
  intro p e s m args below meth c A ls X hr hl S
  have X : Fx D (tyM cy) EvM p s m args meth c cX12_move 4 "BackBayModel" A := X
  have hl : lv_has ls 4 [(0, .ref (ad 0))] := hl
  have hx := X.1
  have hb := X.2.1
  unfold wX12_move at h
  refine lv_aload_n hx hb dX12_move_0 rfl (lv_at hl 0 rfl) ?_
  refine o_callVv (k := 0) EvM_ok X S (mX12_findSlopes l σ _ h) (by decide) rfl rfl k_1182 k_1179 k_1181 ks_53 k_14 ⟨rfl, by decide, by decide, by decide +kernel⟩ ⟨rfl, rfl⟩ ⟨Nat.le_of_ble_eq_true rfl, Nat.le_of_ble_eq_true rfl⟩ rfl hl.1 rfl (Nat.le_of_ble_eq_true rfl) dX12_move_1 (fun σ_2 H locs h S => ?_)
  refine lv_iconst (v := 0) hx hb dX12_move_4 (by decide) ?_
  refine lv_istore_n (lv' := [(1, .int 0), (0, .ref (ad 0))]) hx hb dX12_move_5 rfl hl (by decide) rfl (fun ls hl => ?_)
  obtain ⟨n_6, h⟩ := h
  refine mX12_move_L6 l X hr ?_ n_6 _ _ _ _ _ S (lv_sub hl [1, 0] rfl) h
  · intro σ_7 H locs ls S hl h
    refine lv_aload_n hx hb dX12_move_37 rfl (lv_at hl 0 rfl) ?_
    refine o_callVi (k := 0) EvM_ok X S (mX12_wishNow l σ_7 _ h) (by decide) rfl rfl k_1166 k_1163 k_1165 ks_50 k_14 ⟨rfl, by decide, by decide, by decide +kernel⟩ ⟨rfl, rfl⟩ ⟨Nat.le_of_ble_eq_true rfl, Nat.le_of_ble_eq_true rfl⟩ rfl hl.1 rfl (Nat.le_of_ble_eq_true rfl) dX12_move_38 (fun r_8 σ_9 H locs h S => ?_)
    refine lv_istore_n (lv' := [(1, .int r_8), (0, .ref (ad 0))]) hx hb dX12_move_41 rfl hl (by decide) rfl (fun ls hl => ?_)
    refine lv_aload_n hx hb dX12_move_42 rfl (lv_at hl 1 rfl) ?_
    refine o_callVi (k := 0) EvM_ok X S (mX12_steepest l σ_9 _ h) (by decide) rfl rfl k_1215 k_1212 k_1214 ks_58 k_14 ⟨rfl, by decide, by decide, by decide +kernel⟩ ⟨rfl, rfl⟩ ⟨Nat.le_of_ble_eq_true rfl, Nat.le_of_ble_eq_true rfl⟩ rfl hl.1 rfl (Nat.le_of_ble_eq_true rfl) dX12_move_43 (fun r_10 σ_11 H locs h S => ?_)
    refine lv_istore_n (lv' := [(2, .int r_10), (1, .int r_8), (0, .ref (ad 0))]) hx hb dX12_move_46 rfl hl (by decide) rfl (fun ls hl => ?_)
    obtain ⟨n_47, h⟩ := h
    refine mX12_move_L47 l X hr r_8 ?_ ?_ n_47 _ _ _ _ _ S (lv_sub hl [2, 1, 0] rfl) h
    · intro σ_25 H locs ls S hl h
      refine lv_ldcw (v := (-1000000)) hx hb X.2.2.2.1 (X.2.2.2.2.1 _ k_1207) dX12_move_131 ?_
      exact o_iret X S hr h dX12_move_134
    · intro x2_26 σ_27 H locs ls S hl h
      refine lv_iload_n hx hb dX12_move_111 rfl (lv_at hl 0 rfl) ?_
      exact o_iret X S hr h dX12_move_112
def wX12_rest_b76 (x1 : Int32) (x2 : Int32) (x3 : Int32) (σ : Sg) (k82 : Sg → Prop) (k74 : Sg → Prop) (kb17 : Int32 → Sg → Prop) (Q : Int32 → Sg → Prop) : Prop :=
  (∀ x3_13 : Int32, x3_13 = x3 + 2 → kb17 x3_13 σ)
def wX12_rest_L17 (x1 : Int32) (x2 : Int32) (k82 : Sg → Prop) (k74 : Sg → Prop) (Q : Int32 → Sg → Prop) : Nat → Int32 → Sg → Prop
  | 0, _, _ => False
  | nn17 + 1, x3, σ =>
  ((2 ≤ x3 → k82 σ) ∧ (¬ 2 ≤ x3 → (vp_in x2 10 ∧ (wX12_within ((σ 11 x2.toNatClampNeg) + x3) 0 9 σ (fun r_5 σ_6 => ((r_5 = 0 → wX12_rest_b76 x1 x2 x3 σ_6 k82 k74 (wX12_rest_L17 x1 x2 k82 k74 Q nn17) Q) ∧ (¬ r_5 = 0 → (vp_in x2 10 ∧ (vp_in x2 10 ∧ ∀ σ_8, σ_8 = sto σ_6 11 x2.toNatClampNeg ((σ_6 11 x2.toNatClampNeg) + x3) → (wX12_wishNow σ_8 (fun r_9 σ_10 => (vp_in x2 10 ∧ (vp_in x2 10 ∧ ∀ σ_11, σ_11 = sto σ_10 11 x2.toNatClampNeg ((σ_10 11 x2.toNatClampNeg) - x3) → ((x1 ≤ r_9 → wX12_rest_b76 x1 x2 x3 σ_11 k82 k74 (wX12_rest_L17 x1 x2 k82 k74 Q nn17) Q) ∧ (¬ x1 ≤ r_9 → k74 σ_11)))))))))))))))
def wX12_rest_L7 (x1 : Int32) (k88 : Sg → Prop) (k74 : Sg → Prop) (Q : Int32 → Sg → Prop) : Nat → Int32 → Sg → Prop
  | 0, _, _ => False
  | nn7 + 1, x2, σ =>
  (((σ 0 19) ≤ x2 → k88 σ) ∧ (¬ (σ 0 19) ≤ x2 → (∃ nf, wX12_rest_L17 x1 x2 (fun σ_14 => (∀ x2_15 : Int32, x2_15 = x2 + 1 → wX12_rest_L7 x1 k88 k74 Q nn7 x2_15 σ_14)) (fun σ_16 => k74 σ_16) Q nf (-1) σ)))
def wX12_rest (σ : Sg) (Q : Int32 → Sg → Prop) : Prop :=
  (wX12_wishNow σ (fun r_1 σ_2 => (∃ nf, wX12_rest_L7 r_1 (fun σ_17 => Q 1 σ_17) (fun σ_18 => Q 0 σ_18) Q nf 0 σ_2)))
set_option maxHeartbeats 4000000 in
set_option maxRecDepth 100000 in
theorem mX12_rest_b76 {D : va_G} {cy : Nat → ClassId} {ad : Nat → Nat} (l : Launch) {p : Program} {e : Env} {s : State} {m : MethodId} {args : Array Value} {below : List Frame} {meth : Method} {c : Code} {A : Nat → Prop} {k82 : Sg → Prop} {k74 : Sg → Prop} {kb17 : Int32 → Sg → Prop} {Q : Int32 → Sg → Prop} (X : Fx D (tyM cy) EvM p s m args meth c cX12_rest 5 "BackBayModel" A) (hr : meth.sig.returnType = some .int) (x1 : Int32) (x2 : Int32) (x3 : Int32) (hk82 : ∀ (σ : Sg) (H : Heap) (locs : List Loc) (ls : Array Slot), St D ad 34 (shM cy ad) A s σ H locs → lv_has ls 5 [(0, .ref (ad 0)), (1, .int x1), (2, .int x2)] → k82 σ → W p l e ({ frames := 8, cells := 0, slots := 0, locals := 182 }) s m args below meth c H locs 0 0 (MQ below (va_Qi Q (PosW D (tyM cy) ad 34 (shM cy ad) A) A) args s 0 0 A) (F0 m 82 ls [])) (hk74 : ∀ (σ : Sg) (H : Heap) (locs : List Loc) (ls : Array Slot), St D ad 34 (shM cy ad) A s σ H locs → lv_has ls 5 [] → k74 σ → W p l e ({ frames := 8, cells := 0, slots := 0, locals := 182 }) s m args below meth c H locs 0 0 (MQ below (va_Qi Q (PosW D (tyM cy) ad 34 (shM cy ad) A) A) args s 0 0 A) (F0 m 74 ls [])) (hkb17 : ∀ (x3 : Int32) (σ : Sg) (H : Heap) (locs : List Loc) (ls : Array Slot), St D ad 34 (shM cy ad) A s σ H locs → lv_has ls 5 [(0, .ref (ad 0)), (1, .int x1), (2, .int x2), (3, .int x3)] → kb17 x3 σ → W p l e ({ frames := 8, cells := 0, slots := 0, locals := 182 }) s m args below meth c H locs 0 0 (MQ below (va_Qi Q (PosW D (tyM cy) ad 34 (shM cy ad) A) A) args s 0 0 A) (F0 m 17 ls [])) {σ : Sg} {H : Heap} {locs : List Loc} {ls : Array Slot} (S : St D ad 34 (shM cy ad) A s σ H locs) (hl : lv_has ls 5 [(0, .ref (ad 0)), (1, .int x1), (2, .int x2), (3, .int x3)]) (h : wX12_rest_b76 x1 x2 x3 σ k82 k74 kb17 Q) : W p l e ({ frames := 8, cells := 0, slots := 0, locals := 182 }) s m args below meth c H locs 0 0 (MQ below (va_Qi Q (PosW D (tyM cy) ad 34 (shM cy ad) A) A) args s 0 0 A) (F0 m 76 ls []) := by
  have hx := X.1
  have hb := X.2.1
  unfold wX12_rest_b76 at h
  obtain ⟨x3_13, ex3_13⟩ : ∃ y : Int32, y = x3 + 2 := ⟨_, rfl⟩
  replace h := h x3_13 ex3_13
  refine lv_iinc (v := x3_13) (lv' := [(3, .int x3_13), (0, .ref (ad 0)), (1, .int x1), (2, .int x2)]) hx hb dX12_rest_76 hl (k := 3) rfl (by rw [ex3_13]; rfl) (by decide) rfl (fun ls hl => ?_)
  refine lv_goto (tgt := 17) hx hb dX12_rest_79 (by decide) ?_
  exact hkb17 _ _ _ _ _ S (lv_sub hl [1, 2, 3, 0] rfl) h
set_option maxHeartbeats 4000000 in
set_option maxRecDepth 100000 in
theorem mX12_rest_L17 {D : va_G} {cy : Nat → ClassId} {ad : Nat → Nat} (l : Launch) {p : Program} {e : Env} {s : State} {m : MethodId} {args : Array Value} {below : List Frame} {meth : Method} {c : Code} {A : Nat → Prop} {k82 : Sg → Prop} {k74 : Sg → Prop} {Q : Int32 → Sg → Prop} (X : Fx D (tyM cy) EvM p s m args meth c cX12_rest 5 "BackBayModel" A) (hr : meth.sig.returnType = some .int) (x1 : Int32) (x2 : Int32) (hk82 : ∀ (σ : Sg) (H : Heap) (locs : List Loc) (ls : Array Slot), St D ad 34 (shM cy ad) A s σ H locs → lv_has ls 5 [(0, .ref (ad 0)), (1, .int x1), (2, .int x2)] → k82 σ → W p l e ({ frames := 8, cells := 0, slots := 0, locals := 182 }) s m args below meth c H locs 0 0 (MQ below (va_Qi Q (PosW D (tyM cy) ad 34 (shM cy ad) A) A) args s 0 0 A) (F0 m 82 ls [])) (hk74 : ∀ (σ : Sg) (H : Heap) (locs : List Loc) (ls : Array Slot), St D ad 34 (shM cy ad) A s σ H locs → lv_has ls 5 [] → k74 σ → W p l e ({ frames := 8, cells := 0, slots := 0, locals := 182 }) s m args below meth c H locs 0 0 (MQ below (va_Qi Q (PosW D (tyM cy) ad 34 (shM cy ad) A) A) args s 0 0 A) (F0 m 74 ls [])) : ∀ (n : Nat) (x3 : Int32) (σ : Sg) (H : Heap) (locs : List Loc) (ls : Array Slot), St D ad 34 (shM cy ad) A s σ H locs → lv_has ls 5 [(0, .ref (ad 0)), (1, .int x1), (2, .int x2), (3, .int x3)] → wX12_rest_L17 x1 x2 k82 k74 Q n x3 σ → W p l e ({ frames := 8, cells := 0, slots := 0, locals := 182 }) s m args below meth c H locs 0 0 (MQ below (va_Qi Q (PosW D (tyM cy) ad 34 (shM cy ad) A) A) args s 0 0 A) (F0 m 17 ls []) := by
  have hx := X.1
  have hb := X.2.1
  intro n
  induction n with
  | zero =>
    intro _ _ _ _ _ _ _ h
    exact absurd h (by unfold wX12_rest_L17; exact id)
  | succ n ih =>
    intro x3 σ H locs ls S hl h
    unfold wX12_rest_L17 at h
    refine lv_iload_n hx hb dX12_rest_17 rfl (lv_at hl 3 rfl) ?_
    refine lv_iconst (v := 2) hx hb dX12_rest_18 (by decide) ?_
    refine lv_icmp_ge (tgt := 82) hx hb dX12_rest_19 (by decide) (fun q_4 => ?_) (fun q_4 => ?_)
    · replace h := h.1 q_4
      exact hk82 _ _ _ _ S (lv_sub hl [0, 1, 2] rfl) h
    · replace h := h.2 q_4
      refine lv_aload_n hx hb dX12_rest_22 rfl (lv_at hl 0 rfl) ?_
      refine o_get X S 0 21 (by decide) rfl rfl in_12 (by decide) k_888 rfl dX12_rest_23 ?_
      refine lv_iload_n hx hb dX12_rest_26 rfl (lv_at hl 2 rfl) ?_
      refine o_iald X S 11 0 (by decide) (fun _ => rfl) rfl h.1 dX12_rest_27 ?_
      replace h := h.2
      refine lv_iload_n hx hb dX12_rest_28 rfl (lv_at hl 3 rfl) ?_
      refine lv_iadd hx hb dX12_rest_29 ?_
      refine lv_iconst (v := 0) hx hb dX12_rest_30 (by decide) ?_
      refine lv_bipush (v := 9) hx hb dX12_rest_31 (by decide) ?_
      refine o_callSi (k := 3) EvM_ok X S (mX12_within l ((σ 11 x2.toNatClampNeg) + x3) 0 9 σ _ h) k_1021 k_1019 k_1020 k_14 ⟨by decide, by decide, by decide +kernel⟩ ⟨rfl, rfl⟩ ⟨Nat.le_of_ble_eq_true rfl, Nat.le_of_ble_eq_true rfl⟩ rfl hl.1 rfl (Nat.le_of_ble_eq_true rfl) dX12_rest_33 (fun r_5 σ_6 H locs h S => ?_)
      refine lv_if_ne (tgt := 42) hx hb dX12_rest_36 (by decide) (fun q_7 => ?_) (fun q_7 => ?_)
      · replace h := h.2 q_7
        refine lv_aload_n hx hb dX12_rest_42 rfl (lv_at hl 0 rfl) ?_
        refine o_get X S 0 21 (by decide) rfl rfl in_12 (by decide) k_888 rfl dX12_rest_43 ?_
        refine lv_iload_n hx hb dX12_rest_46 rfl (lv_at hl 2 rfl) ?_
        refine lv_dup2_11 hx hb dX12_rest_47 rfl rfl ?_
        refine o_iald X S 11 0 (by decide) (fun _ => rfl) rfl h.1 dX12_rest_48 ?_
        replace h := h.2
        refine lv_iload_n hx hb dX12_rest_49 rfl (lv_at hl 3 rfl) ?_
        refine lv_iadd hx hb dX12_rest_50 ?_
        refine o_iast X S 11 0 (by decide) (fun _ => rfl) rfl h.1 dX12_rest_51 (fun σ_8 H locs eσ_8 S => ?_)
        replace h := h.2 σ_8 eσ_8
        refine lv_aload_n hx hb dX12_rest_52 rfl (lv_at hl 0 rfl) ?_
        refine o_callVi (k := 0) EvM_ok X S (mX12_wishNow l σ_8 _ h) (by decide) rfl rfl k_1166 k_1163 k_1165 ks_50 k_14 ⟨rfl, by decide, by decide, by decide +kernel⟩ ⟨rfl, rfl⟩ ⟨Nat.le_of_ble_eq_true rfl, Nat.le_of_ble_eq_true rfl⟩ rfl hl.1 rfl (Nat.le_of_ble_eq_true rfl) dX12_rest_53 (fun r_9 σ_10 H locs h S => ?_)
        refine lv_istore (lv' := [(4, .int r_9), (0, .ref (ad 0)), (1, .int x1), (2, .int x2), (3, .int x3)]) hx hb dX12_rest_56 hl (by decide) rfl (fun ls hl => ?_)
        refine lv_aload_n hx hb dX12_rest_58 rfl (lv_at hl 1 rfl) ?_
        refine o_get X S 0 21 (by decide) rfl rfl in_12 (by decide) k_888 rfl dX12_rest_59 ?_
        refine lv_iload_n hx hb dX12_rest_62 rfl (lv_at hl 3 rfl) ?_
        refine lv_dup2_11 hx hb dX12_rest_63 rfl rfl ?_
        refine o_iald X S 11 0 (by decide) (fun _ => rfl) rfl h.1 dX12_rest_64 ?_
        replace h := h.2
        refine lv_iload_n hx hb dX12_rest_65 rfl (lv_at hl 4 rfl) ?_
        refine lv_isub hx hb dX12_rest_66 ?_
        refine o_iast X S 11 0 (by decide) (fun _ => rfl) rfl h.1 dX12_rest_67 (fun σ_11 H locs eσ_11 S => ?_)
        replace h := h.2 σ_11 eσ_11
        refine lv_iload hx hb dX12_rest_68 (lv_at hl 0 rfl) ?_
        refine lv_iload_n hx hb dX12_rest_70 rfl (lv_at hl 2 rfl) ?_
        refine lv_icmp_ge (tgt := 76) hx hb dX12_rest_71 (by decide) (fun q_12 => ?_) (fun q_12 => ?_)
        · replace h := h.1 q_12
          exact mX12_rest_b76 l X hr x1 x2 x3 hk82 hk74 ih S (lv_sub hl [1, 2, 3, 4] rfl) h
        · replace h := h.2 q_12
          exact hk74 _ _ _ _ S (lv_sub hl [] rfl) h
      · replace h := h.1 q_7
        refine lv_goto (tgt := 76) hx hb dX12_rest_39 (by decide) ?_
        exact mX12_rest_b76 l X hr x1 x2 x3 hk82 hk74 ih S (lv_sub hl [0, 1, 2, 3] rfl) h
set_option maxHeartbeats 4000000 in
set_option maxRecDepth 100000 in
theorem mX12_rest_L7 {D : va_G} {cy : Nat → ClassId} {ad : Nat → Nat} (l : Launch) {p : Program} {e : Env} {s : State} {m : MethodId} {args : Array Value} {below : List Frame} {meth : Method} {c : Code} {A : Nat → Prop} {k88 : Sg → Prop} {k74 : Sg → Prop} {Q : Int32 → Sg → Prop} (X : Fx D (tyM cy) EvM p s m args meth c cX12_rest 5 "BackBayModel" A) (hr : meth.sig.returnType = some .int) (x1 : Int32) (hk88 : ∀ (σ : Sg) (H : Heap) (locs : List Loc) (ls : Array Slot), St D ad 34 (shM cy ad) A s σ H locs → lv_has ls 5 [] → k88 σ → W p l e ({ frames := 8, cells := 0, slots := 0, locals := 182 }) s m args below meth c H locs 0 0 (MQ below (va_Qi Q (PosW D (tyM cy) ad 34 (shM cy ad) A) A) args s 0 0 A) (F0 m 88 ls [])) (hk74 : ∀ (σ : Sg) (H : Heap) (locs : List Loc) (ls : Array Slot), St D ad 34 (shM cy ad) A s σ H locs → lv_has ls 5 [] → k74 σ → W p l e ({ frames := 8, cells := 0, slots := 0, locals := 182 }) s m args below meth c H locs 0 0 (MQ below (va_Qi Q (PosW D (tyM cy) ad 34 (shM cy ad) A) A) args s 0 0 A) (F0 m 74 ls [])) : ∀ (n : Nat) (x2 : Int32) (σ : Sg) (H : Heap) (locs : List Loc) (ls : Array Slot), St D ad 34 (shM cy ad) A s σ H locs → lv_has ls 5 [(0, .ref (ad 0)), (1, .int x1), (2, .int x2)] → wX12_rest_L7 x1 k88 k74 Q n x2 σ → W p l e ({ frames := 8, cells := 0, slots := 0, locals := 182 }) s m args below meth c H locs 0 0 (MQ below (va_Qi Q (PosW D (tyM cy) ad 34 (shM cy ad) A) A) args s 0 0 A) (F0 m 7 ls []) := by
  have hx := X.1
  have hb := X.2.1
  intro n
  induction n with
  | zero =>
    intro _ _ _ _ _ _ _ h
    exact absurd h (by unfold wX12_rest_L7; exact id)
  | succ n ih =>
    intro x2 σ H locs ls S hl h
    unfold wX12_rest_L7 at h
    refine lv_iload_n hx hb dX12_rest_7 rfl (lv_at hl 2 rfl) ?_
    refine lv_aload_n hx hb dX12_rest_8 rfl (lv_at hl 0 rfl) ?_
    refine o_get X S 0 19 (by decide) rfl rfl in_12 (by decide) k_886 rfl dX12_rest_9 ?_
    refine lv_icmp_ge (tgt := 88) hx hb dX12_rest_12 (by decide) (fun q_3 => ?_) (fun q_3 => ?_)
    · replace h := h.1 q_3
      exact hk88 _ _ _ _ S (lv_sub hl [] rfl) h
    · replace h := h.2 q_3
      refine lv_iconst (v := (-1)) hx hb dX12_rest_15 (by decide) ?_
      refine lv_istore_n (lv' := [(3, .int (-1)), (0, .ref (ad 0)), (1, .int x1), (2, .int x2)]) hx hb dX12_rest_16 rfl hl (by decide) rfl (fun ls hl => ?_)
      obtain ⟨n_17, h⟩ := h
      refine mX12_rest_L17 l X hr x1 x2 ?_ ?_ n_17 _ _ _ _ _ S (lv_sub hl [1, 2, 3, 0] rfl) h
      · intro σ_14 H locs ls S hl h
        obtain ⟨x2_15, ex2_15⟩ : ∃ y : Int32, y = x2 + 1 := ⟨_, rfl⟩
        replace h := h x2_15 ex2_15
        refine lv_iinc (v := x2_15) (lv' := [(2, .int x2_15), (0, .ref (ad 0)), (1, .int x1)]) hx hb dX12_rest_82 hl (k := 2) rfl (by rw [ex2_15]; rfl) (by decide) rfl (fun ls hl => ?_)
        refine lv_goto (tgt := 7) hx hb dX12_rest_85 (by decide) ?_
        exact ih _ _ _ _ _ S (lv_sub hl [1, 2, 0] rfl) h
      · intro σ_16 H locs ls S hl h
        exact hk74 _ _ _ _ S (lv_sub hl [] rfl) h
set_option maxHeartbeats 4000000 in
set_option maxRecDepth 100000 in
theorem mX12_rest {D : va_G} {cy : Nat → ClassId} {ad : Nat → Nat} (l : Launch) (σ : Sg) (Q : Int32 → Sg → Prop) (h : wX12_rest σ Q) : MIM D cy ad l yX12_rest (.code yX12_rest cX12_rest 5 (some .int) :: gT) ({ frames := 8, cells := 0, slots := 0, locals := 182 }) [.ref (ad 0)] σ Q := by
  refine metI_of (by decide +kernel) (Nat.le_of_ble_eq_true rfl) ?_
  intro p e s m args below meth c A ls X hr hl S
  have X : Fx D (tyM cy) EvM p s m args meth c cX12_rest 5 "BackBayModel" A := X
  have hl : lv_has ls 5 [(0, .ref (ad 0))] := hl
  have hx := X.1
  have hb := X.2.1
  unfold wX12_rest at h
  refine lv_aload_n hx hb dX12_rest_0 rfl (lv_at hl 0 rfl) ?_
  refine o_callVi (k := 0) EvM_ok X S (mX12_wishNow l σ _ h) (by decide) rfl rfl k_1166 k_1163 k_1165 ks_50 k_14 ⟨rfl, by decide, by decide, by decide +kernel⟩ ⟨rfl, rfl⟩ ⟨Nat.le_of_ble_eq_true rfl, Nat.le_of_ble_eq_true rfl⟩ rfl hl.1 rfl (Nat.le_of_ble_eq_true rfl) dX12_rest_1 (fun r_1 σ_2 H locs h S => ?_)
  refine lv_istore_n (lv' := [(1, .int r_1), (0, .ref (ad 0))]) hx hb dX12_rest_4 rfl hl (by decide) rfl (fun ls hl => ?_)
  refine lv_iconst (v := 0) hx hb dX12_rest_5 (by decide) ?_
  refine lv_istore_n (lv' := [(2, .int 0), (1, .int r_1), (0, .ref (ad 0))]) hx hb dX12_rest_6 rfl hl (by decide) rfl (fun ls hl => ?_)
  obtain ⟨n_7, h⟩ := h
  refine mX12_rest_L7 l X hr r_1 ?_ ?_ n_7 _ _ _ _ _ S (lv_sub hl [2, 1, 0] rfl) h
  · intro σ_17 H locs ls S hl h
    refine lv_iconst (v := 1) hx hb dX12_rest_88 (by decide) ?_
    exact o_iret X S hr h dX12_rest_89
  · intro σ_18 H locs ls S hl h
    refine lv_iconst (v := 0) hx hb dX12_rest_74 (by decide) ?_
    exact o_iret X S hr h dX12_rest_75
def wX12_keep_L29 (k61 : Sg → Prop) (Q : Int64 → Sg → Prop) : Nat → Int32 → Sg → Prop
  | 0, _, _ => False
  | nn29 + 1, x1, σ =>
  ((10 ≤ x1 → k61 σ) ∧ (¬ 10 ≤ x1 → (vp_in x1 10 ∧ (vp_in ((10 * (σ 0 42)) + x1) 60 ∧ ∀ σ_4, σ_4 = sto σ 30 ((10 * (σ 0 42)) + x1).toNatClampNeg (σ 11 x1.toNatClampNeg) → (∀ x1_5 : Int32, x1_5 = x1 + 1 → wX12_keep_L29 k61 Q nn29 x1_5 σ_4)))))
def wX12_keep (σ : Sg) (Q : Int64 → Sg → Prop) : Prop :=
  (((σ 0 42) = 6 → (wX12_refused 3 σ (fun r_8 σ_9 => Q r_8 σ_9))) ∧ (¬ (σ 0 42) = 6 → (vp_in (σ 0 42) 6 ∧ ∀ σ_2, σ_2 = sto σ 31 (σ 0 42).toNatClampNeg (σ 0 19) → (∃ nf, wX12_keep_L29 (fun σ_6 => (∀ σ_7, σ_7 = sto σ_6 0 42 ((σ_6 0 42) + 1) → Q (((σ_7 0 42) - 1).toInt64) σ_7)) Q nf 0 σ_2))))
set_option maxHeartbeats 4000000 in
set_option maxRecDepth 100000 in
theorem mX12_keep_L29 {D : va_G} {cy : Nat → ClassId} {ad : Nat → Nat} (l : Launch) {p : Program} {e : Env} {s : State} {m : MethodId} {args : Array Value} {below : List Frame} {meth : Method} {c : Code} {A : Nat → Prop} {k61 : Sg → Prop} {Q : Int64 → Sg → Prop} (X : Fx D (tyM cy) EvM p s m args meth c cX12_keep 2 "BackBayModel" A) (hr : meth.sig.returnType = some .long) (hk61 : ∀ (σ : Sg) (H : Heap) (locs : List Loc) (ls : Array Slot), St D ad 34 (shM cy ad) A s σ H locs → lv_has ls 2 [(0, .ref (ad 0))] → k61 σ → W p l e ({ frames := 1, cells := 0, slots := 0, locals := 20 }) s m args below meth c H locs 0 0 (MQ below (va_Ql Q (PosW D (tyM cy) ad 34 (shM cy ad) A) A) args s 0 0 A) (F0 m 61 ls [])) : ∀ (n : Nat) (x1 : Int32) (σ : Sg) (H : Heap) (locs : List Loc) (ls : Array Slot), St D ad 34 (shM cy ad) A s σ H locs → lv_has ls 2 [(0, .ref (ad 0)), (1, .int x1)] → wX12_keep_L29 k61 Q n x1 σ → W p l e ({ frames := 1, cells := 0, slots := 0, locals := 20 }) s m args below meth c H locs 0 0 (MQ below (va_Ql Q (PosW D (tyM cy) ad 34 (shM cy ad) A) A) args s 0 0 A) (F0 m 29 ls []) := by
  have hx := X.1
  have hb := X.2.1
  intro n
  induction n with
  | zero =>
    intro _ _ _ _ _ _ _ h
    exact absurd h (by unfold wX12_keep_L29; exact id)
  | succ n ih =>
    intro x1 σ H locs ls S hl h
    unfold wX12_keep_L29 at h
    refine lv_iload_n hx hb dX12_keep_29 rfl (lv_at hl 1 rfl) ?_
    refine lv_bipush (v := 10) hx hb dX12_keep_30 (by decide) ?_
    refine lv_icmp_ge (tgt := 61) hx hb dX12_keep_32 (by decide) (fun q_3 => ?_) (fun q_3 => ?_)
    · replace h := h.1 q_3
      exact hk61 _ _ _ _ S (lv_sub hl [0] rfl) h
    · replace h := h.2 q_3
      refine lv_aload_n hx hb dX12_keep_35 rfl (lv_at hl 0 rfl) ?_
      refine o_get X S 0 43 (by decide) rfl rfl in_12 (by decide) k_910 rfl dX12_keep_36 ?_
      refine lv_bipush (v := 10) hx hb dX12_keep_39 (by decide) ?_
      refine lv_aload_n hx hb dX12_keep_41 rfl (lv_at hl 0 rfl) ?_
      refine o_get X S 0 42 (by decide) rfl rfl in_12 (by decide) k_909 rfl dX12_keep_42 ?_
      refine lv_imul hx hb dX12_keep_45 ?_
      refine lv_iload_n hx hb dX12_keep_46 rfl (lv_at hl 1 rfl) ?_
      refine lv_iadd hx hb dX12_keep_47 ?_
      refine lv_aload_n hx hb dX12_keep_48 rfl (lv_at hl 0 rfl) ?_
      refine o_get X S 0 21 (by decide) rfl rfl in_12 (by decide) k_888 rfl dX12_keep_49 ?_
      refine lv_iload_n hx hb dX12_keep_52 rfl (lv_at hl 1 rfl) ?_
      refine o_iald X S 11 0 (by decide) (fun _ => rfl) rfl h.1 dX12_keep_53 ?_
      replace h := h.2
      refine o_iast X S 30 0 (by decide) (fun _ => rfl) rfl h.1 dX12_keep_54 (fun σ_4 H locs eσ_4 S => ?_)
      replace h := h.2 σ_4 eσ_4
      obtain ⟨x1_5, ex1_5⟩ : ∃ y : Int32, y = x1 + 1 := ⟨_, rfl⟩
      replace h := h x1_5 ex1_5
      refine lv_iinc (v := x1_5) (lv' := [(1, .int x1_5), (0, .ref (ad 0))]) hx hb dX12_keep_55 hl (k := 1) rfl (by rw [ex1_5]; rfl) (by decide) rfl (fun ls hl => ?_)
      refine lv_goto (tgt := 29) hx hb dX12_keep_58 (by decide) ?_
      exact ih _ _ _ _ _ S (lv_sub hl [1, 0] rfl) h
set_option maxHeartbeats 4000000 in
set_option maxRecDepth 100000 in
theorem mX12_keep {D : va_G} {cy : Nat → ClassId} {ad : Nat → Nat} (l : Launch) (σ : Sg) (Q : Int64 → Sg → Prop) (h : wX12_keep σ Q) : MLM D cy ad l yX12_keep (.code yX12_keep cX12_keep 2 (some .long) :: gT) ({ frames := 1, cells := 0, slots := 0, locals := 20 }) [.ref (ad 0)] σ Q := by
  refine metL_of (by decide +kernel) (Nat.le_of_ble_eq_true rfl) ?_
  intro p e s m args below meth c A ls X hr hl S
  have X : Fx D (tyM cy) EvM p s m args meth c cX12_keep 2 "BackBayModel" A := X
  have hl : lv_has ls 2 [(0, .ref (ad 0))] := hl
  have hx := X.1
  have hb := X.2.1
  unfold wX12_keep at h
  refine lv_aload_n hx hb dX12_keep_0 rfl (lv_at hl 0 rfl) ?_
  refine o_get X S 0 42 (by decide) rfl rfl in_12 (by decide) k_909 rfl dX12_keep_1 ?_
  refine lv_bipush (v := 6) hx hb dX12_keep_4 (by decide) ?_
  refine lv_icmp_ne (tgt := 14) hx hb dX12_keep_6 (by decide) (fun q_1 => ?_) (fun q_1 => ?_)
  · replace h := h.2 q_1
    refine lv_aload_n hx hb dX12_keep_14 rfl (lv_at hl 0 rfl) ?_
    refine o_get X S 0 44 (by decide) rfl rfl in_12 (by decide) k_911 rfl dX12_keep_15 ?_
    refine lv_aload_n hx hb dX12_keep_18 rfl (lv_at hl 0 rfl) ?_
    refine o_get X S 0 42 (by decide) rfl rfl in_12 (by decide) k_909 rfl dX12_keep_19 ?_
    refine lv_aload_n hx hb dX12_keep_22 rfl (lv_at hl 0 rfl) ?_
    refine o_get X S 0 19 (by decide) rfl rfl in_12 (by decide) k_886 rfl dX12_keep_23 ?_
    refine o_iast X S 31 0 (by decide) (fun _ => rfl) rfl h.1 dX12_keep_26 (fun σ_2 H locs eσ_2 S => ?_)
    replace h := h.2 σ_2 eσ_2
    refine lv_iconst (v := 0) hx hb dX12_keep_27 (by decide) ?_
    refine lv_istore_n (lv' := [(1, .int 0), (0, .ref (ad 0))]) hx hb dX12_keep_28 rfl hl (by decide) rfl (fun ls hl => ?_)
    obtain ⟨n_29, h⟩ := h
    refine mX12_keep_L29 l X hr ?_ n_29 _ _ _ _ _ S (lv_sub hl [1, 0] rfl) h
    · intro σ_6 H locs ls S hl h
      refine lv_aload_n hx hb dX12_keep_61 rfl (lv_at hl 0 rfl) ?_
      refine lv_dup hx hb dX12_keep_62 rfl ?_
      refine o_get X S 0 42 (by decide) rfl rfl in_12 (by decide) k_909 rfl dX12_keep_63 ?_
      refine lv_iconst (v := 1) hx hb dX12_keep_66 (by decide) ?_
      refine lv_iadd hx hb dX12_keep_67 ?_
      refine o_puti X S (fs := fun c => [.int (c 0), .ref (ad 1), .ref (ad 2), .ref (ad 3), .ref (ad 4), .int (c 5), .int (c 6), .int (c 7), .ref (ad 5), .ref (ad 6), .ref (ad 7), .ref (ad 8), .int (c 12), .int (c 13), .int (c 14), .int (c 15), .ref (ad 9), .int (c 17), .int (c 18), .int (c 19), .ref (ad 10), .ref (ad 11), .ref (ad 12), .ref (ad 13), .ref (ad 14), .ref (ad 15), .ref (ad 16), .int (c 27), .int (c 28), .ref (ad 17), .ref (ad 18), .ref (ad 19), .ref (ad 20), .ref (ad 21), .ref (ad 22), .ref (ad 23), .ref (ad 24), .ref (ad 25), .ref (ad 26), .ref (ad 27), .ref (ad 28), .ref (ad 29), .int (c 42), .ref (ad 30), .ref (ad 31), .ref (ad 32), .ref (ad 33), .int (c 47)]) 0 42 (by decide) (fun _ => rfl) (fun _ _ => rfl) rfl in_12 tyX12_ok nmX12 (by decide) k_909 rfl rfl rfl rfl (fun _ => Nat.le_of_ble_eq_true rfl) dX12_keep_68 (fun σ_7 H locs eσ_7 S => ?_)
      replace h := h σ_7 eσ_7
      refine lv_aload_n hx hb dX12_keep_71 rfl (lv_at hl 0 rfl) ?_
      refine o_get X S 0 42 (by decide) rfl rfl in_12 (by decide) k_909 rfl dX12_keep_72 ?_
      refine lv_iconst (v := 1) hx hb dX12_keep_75 (by decide) ?_
      refine lv_isub hx hb dX12_keep_76 ?_
      refine lv_i2l hx hb dX12_keep_77 rfl ?_
      exact o_lret X S hr h dX12_keep_78
  · replace h := h.1 q_1
    refine lv_iconst (v := 3) hx hb dX12_keep_9 (by decide) ?_
    refine o_callSl (k := 1) EvM_ok X S (mX12_refused l 3 σ _ h) k_1024 k_1022 k_1023 k_14 ⟨by decide, by decide, by decide +kernel⟩ ⟨rfl, rfl⟩ ⟨Nat.le_of_ble_eq_true rfl, Nat.le_of_ble_eq_true rfl⟩ rfl hl.1 rfl (Nat.le_of_ble_eq_true rfl) dX12_keep_10 (fun r_8 σ_9 H locs h S => ?_)
    exact o_lret X S hr h dX12_keep_13
def wX12_isStripping (x1 : Int32) (σ : Sg) (Q : Int32 → Sg → Prop) : Prop :=
  (wX12_within x1 0 ((σ 0 42) - 1) σ (fun r_1 σ_2 => (bok r_1 ∧ Q r_1 σ_2)))
set_option maxHeartbeats 4000000 in
set_option maxRecDepth 100000 in
theorem mX12_isStripping {D : va_G} {cy : Nat → ClassId} {ad : Nat → Nat} (l : Launch) (x1 : Int32) (σ : Sg) (Q : Int32 → Sg → Prop) (h : wX12_isStripping x1 σ Q) : MIM D cy ad l yX12_isStripping (.code yX12_isStripping cX12_isStripping 2 (some .boolean) :: gT) ({ frames := 1, cells := 0, slots := 0, locals := 22 }) [.ref (ad 0), .int x1] σ Q := by
  refine metI_of (by decide +kernel) (Nat.le_of_ble_eq_true rfl) ?_
  intro p e s m args below meth c A ls X hr hl S
  have X : Fx D (tyM cy) EvM p s m args meth c cX12_isStripping 2 "BackBayModel" A := X
  have hl : lv_has ls 2 [(0, .ref (ad 0)), (1, .int x1)] := hl
  have hx := X.1
  have hb := X.2.1
  unfold wX12_isStripping at h
  refine lv_iload_n hx hb dX12_isStripping_0 rfl (lv_at hl 1 rfl) ?_
  refine lv_iconst (v := 0) hx hb dX12_isStripping_1 (by decide) ?_
  refine lv_aload_n hx hb dX12_isStripping_2 rfl (lv_at hl 0 rfl) ?_
  refine o_get X S 0 42 (by decide) rfl rfl in_12 (by decide) k_909 rfl dX12_isStripping_3 ?_
  refine lv_iconst (v := 1) hx hb dX12_isStripping_6 (by decide) ?_
  refine lv_isub hx hb dX12_isStripping_7 ?_
  refine o_callSi (k := 3) EvM_ok X S (mX12_within l x1 0 ((σ 0 42) - 1) σ _ h) k_1021 k_1019 k_1020 k_14 ⟨by decide, by decide, by decide +kernel⟩ ⟨rfl, rfl⟩ ⟨Nat.le_of_ble_eq_true rfl, Nat.le_of_ble_eq_true rfl⟩ rfl hl.1 rfl (Nat.le_of_ble_eq_true rfl) dX12_isStripping_8 (fun r_1 σ_2 H locs h S => ?_)
  exact o_zret X S hr h.1 h.2 dX12_isStripping_11
def wX12_layStripping_L2 (x1 : Int32) (k33 : Sg → Prop) (Q : Sg → Prop) : Nat → Int32 → Sg → Prop
  | 0, _, _ => False
  | nn2 + 1, x2, σ =>
  (((σ 0 19) ≤ x2 → k33 σ) ∧ (¬ (σ 0 19) ≤ x2 → (vp_in ((10 * x1) + x2) 60 ∧ (vp_in x2 10 ∧ ∀ σ_2, σ_2 = sto σ 11 x2.toNatClampNeg (σ 30 ((10 * x1) + x2).toNatClampNeg) → (∀ x2_3 : Int32, x2_3 = x2 + 1 → wX12_layStripping_L2 x1 k33 Q nn2 x2_3 σ_2)))))
def wX12_layStripping (x1 : Int32) (σ : Sg) (Q : Sg → Prop) : Prop :=
  (∃ nf, wX12_layStripping_L2 x1 (fun σ_4 => Q σ_4) Q nf 0 σ)
set_option maxHeartbeats 4000000 in
set_option maxRecDepth 100000 in
theorem mX12_layStripping_L2 {D : va_G} {cy : Nat → ClassId} {ad : Nat → Nat} (l : Launch) {p : Program} {e : Env} {s : State} {m : MethodId} {args : Array Value} {below : List Frame} {meth : Method} {c : Code} {A : Nat → Prop} {k33 : Sg → Prop} {Q : Sg → Prop} (X : Fx D (tyM cy) EvM p s m args meth c cX12_layStripping 3 "BackBayModel" A) (hr : meth.sig.returnType = none) (x1 : Int32) (hk33 : ∀ (σ : Sg) (H : Heap) (locs : List Loc) (ls : Array Slot), St D ad 34 (shM cy ad) A s σ H locs → lv_has ls 3 [] → k33 σ → W p l e ({ frames := 0, cells := 0, slots := 0, locals := 0 }) s m args below meth c H locs 0 0 (MQ below (va_Qv Q (PosW D (tyM cy) ad 34 (shM cy ad) A) A) args s 0 0 A) (F0 m 33 ls [])) : ∀ (n : Nat) (x2 : Int32) (σ : Sg) (H : Heap) (locs : List Loc) (ls : Array Slot), St D ad 34 (shM cy ad) A s σ H locs → lv_has ls 3 [(0, .ref (ad 0)), (1, .int x1), (2, .int x2)] → wX12_layStripping_L2 x1 k33 Q n x2 σ → W p l e ({ frames := 0, cells := 0, slots := 0, locals := 0 }) s m args below meth c H locs 0 0 (MQ below (va_Qv Q (PosW D (tyM cy) ad 34 (shM cy ad) A) A) args s 0 0 A) (F0 m 2 ls []) := by
  have hx := X.1
  have hb := X.2.1
  intro n
  induction n with
  | zero =>
    intro _ _ _ _ _ _ _ h
    exact absurd h (by unfold wX12_layStripping_L2; exact id)
  | succ n ih =>
    intro x2 σ H locs ls S hl h
    unfold wX12_layStripping_L2 at h
    refine lv_iload_n hx hb dX12_layStripping_2 rfl (lv_at hl 2 rfl) ?_
    refine lv_aload_n hx hb dX12_layStripping_3 rfl (lv_at hl 0 rfl) ?_
    refine o_get X S 0 19 (by decide) rfl rfl in_12 (by decide) k_886 rfl dX12_layStripping_4 ?_
    refine lv_icmp_ge (tgt := 33) hx hb dX12_layStripping_7 (by decide) (fun q_1 => ?_) (fun q_1 => ?_)
    · replace h := h.1 q_1
      exact hk33 _ _ _ _ S (lv_sub hl [] rfl) h
    · replace h := h.2 q_1
      refine lv_aload_n hx hb dX12_layStripping_10 rfl (lv_at hl 0 rfl) ?_
      refine o_get X S 0 21 (by decide) rfl rfl in_12 (by decide) k_888 rfl dX12_layStripping_11 ?_
      refine lv_iload_n hx hb dX12_layStripping_14 rfl (lv_at hl 2 rfl) ?_
      refine lv_aload_n hx hb dX12_layStripping_15 rfl (lv_at hl 0 rfl) ?_
      refine o_get X S 0 43 (by decide) rfl rfl in_12 (by decide) k_910 rfl dX12_layStripping_16 ?_
      refine lv_bipush (v := 10) hx hb dX12_layStripping_19 (by decide) ?_
      refine lv_iload_n hx hb dX12_layStripping_21 rfl (lv_at hl 1 rfl) ?_
      refine lv_imul hx hb dX12_layStripping_22 ?_
      refine lv_iload_n hx hb dX12_layStripping_23 rfl (lv_at hl 2 rfl) ?_
      refine lv_iadd hx hb dX12_layStripping_24 ?_
      refine o_iald X S 30 0 (by decide) (fun _ => rfl) rfl h.1 dX12_layStripping_25 ?_
      replace h := h.2
      refine o_iast X S 11 0 (by decide) (fun _ => rfl) rfl h.1 dX12_layStripping_26 (fun σ_2 H locs eσ_2 S => ?_)
      replace h := h.2 σ_2 eσ_2
      obtain ⟨x2_3, ex2_3⟩ : ∃ y : Int32, y = x2 + 1 := ⟨_, rfl⟩
      replace h := h x2_3 ex2_3
      refine lv_iinc (v := x2_3) (lv' := [(2, .int x2_3), (0, .ref (ad 0)), (1, .int x1)]) hx hb dX12_layStripping_27 hl (k := 2) rfl (by rw [ex2_3]; rfl) (by decide) rfl (fun ls hl => ?_)
      refine lv_goto (tgt := 2) hx hb dX12_layStripping_30 (by decide) ?_
      exact ih _ _ _ _ _ S (lv_sub hl [1, 2, 0] rfl) h
set_option maxHeartbeats 4000000 in
set_option maxRecDepth 100000 in
theorem mX12_layStripping {D : va_G} {cy : Nat → ClassId} {ad : Nat → Nat} (l : Launch) (x1 : Int32) (σ : Sg) (Q : Sg → Prop) (h : wX12_layStripping x1 σ Q) : MVM D cy ad l yX12_layStripping (.code yX12_layStripping cX12_layStripping 3 none :: gT) ({ frames := 0, cells := 0, slots := 0, locals := 0 }) [.ref (ad 0), .int x1] σ Q := by
  refine metV_of (by decide +kernel) (Nat.le_of_ble_eq_true rfl) ?_
  intro p e s m args below meth c A ls X hr hl S
  have X : Fx D (tyM cy) EvM p s m args meth c cX12_layStripping 3 "BackBayModel" A := X
  have hl : lv_has ls 3 [(0, .ref (ad 0)), (1, .int x1)] := hl
  have hx := X.1
  have hb := X.2.1
  unfold wX12_layStripping at h
  refine lv_iconst (v := 0) hx hb dX12_layStripping_0 (by decide) ?_
  refine lv_istore_n (lv' := [(2, .int 0), (0, .ref (ad 0)), (1, .int x1)]) hx hb dX12_layStripping_1 rfl hl (by decide) rfl (fun ls hl => ?_)
  obtain ⟨n_2, h⟩ := h
  refine mX12_layStripping_L2 l X hr x1 ?_ n_2 _ _ _ _ _ S (lv_sub hl [1, 2, 0] rfl) h
  · intro σ_4 H locs ls S hl h
    exact o_vret X S hr h dX12_layStripping_33
def wX12_lay (x1 : Int32) (σ : Sg) (Q : Int64 → Sg → Prop) : Prop :=
  (wX12_isStripping x1 σ (fun r_1 σ_2 => ((r_1 = 0 → (wX12_refused 1 σ_2 (fun r_9 σ_10 => Q r_9 σ_10))) ∧ (¬ r_1 = 0 → (vp_in x1 6 ∧ (((σ_2 31 x1.toNatClampNeg) = (σ_2 0 19) → (wX12_layStripping x1 σ_2 (fun σ_6 => Q (1 : Int64) σ_6))) ∧ (¬ (σ_2 31 x1.toNatClampNeg) = (σ_2 0 19) → (wX12_refused 2 σ_2 (fun r_7 σ_8 => Q r_7 σ_8)))))))))
set_option maxHeartbeats 4000000 in
set_option maxRecDepth 100000 in
theorem mX12_lay {D : va_G} {cy : Nat → ClassId} {ad : Nat → Nat} (l : Launch) (x1 : Int32) (σ : Sg) (Q : Int64 → Sg → Prop) (h : wX12_lay x1 σ Q) : MLM D cy ad l yX12_lay (.code yX12_lay cX12_lay 2 (some .long) :: gT) ({ frames := 2, cells := 0, slots := 0, locals := 43 }) [.ref (ad 0), .int x1] σ Q := by
  refine metL_of (by decide +kernel) (Nat.le_of_ble_eq_true rfl) ?_
  intro p e s m args below meth c A ls X hr hl S
  have X : Fx D (tyM cy) EvM p s m args meth c cX12_lay 2 "BackBayModel" A := X
  have hl : lv_has ls 2 [(0, .ref (ad 0)), (1, .int x1)] := hl
  have hx := X.1
  have hb := X.2.1
  unfold wX12_lay at h
  refine lv_aload_n hx hb dX12_lay_0 rfl (lv_at hl 0 rfl) ?_
  refine lv_iload_n hx hb dX12_lay_1 rfl (lv_at hl 1 rfl) ?_
  refine o_callVi (k := 1) EvM_ok X S (mX12_isStripping l x1 σ _ h) (by decide) rfl rfl k_1234 k_1231 k_1233 ks_59 k_14 ⟨rfl, by decide, by decide, by decide +kernel⟩ ⟨rfl, rfl⟩ ⟨Nat.le_of_ble_eq_true rfl, Nat.le_of_ble_eq_true rfl⟩ rfl hl.1 rfl (Nat.le_of_ble_eq_true rfl) dX12_lay_2 (fun r_1 σ_2 H locs h S => ?_)
  refine lv_if_ne (tgt := 13) hx hb dX12_lay_5 (by decide) (fun q_3 => ?_) (fun q_3 => ?_)
  · replace h := h.2 q_3
    refine lv_aload_n hx hb dX12_lay_13 rfl (lv_at hl 0 rfl) ?_
    refine o_get X S 0 44 (by decide) rfl rfl in_12 (by decide) k_911 rfl dX12_lay_14 ?_
    refine lv_iload_n hx hb dX12_lay_17 rfl (lv_at hl 1 rfl) ?_
    refine o_iald X S 31 0 (by decide) (fun _ => rfl) rfl h.1 dX12_lay_18 ?_
    replace h := h.2
    refine lv_aload_n hx hb dX12_lay_19 rfl (lv_at hl 0 rfl) ?_
    refine o_get X S 0 19 (by decide) rfl rfl in_12 (by decide) k_886 rfl dX12_lay_20 ?_
    refine lv_icmp_eq (tgt := 31) hx hb dX12_lay_23 (by decide) (fun q_4 => ?_) (fun q_4 => ?_)
    · replace h := h.1 q_4
      refine lv_aload_n hx hb dX12_lay_31 rfl (lv_at hl 0 rfl) ?_
      refine lv_iload_n hx hb dX12_lay_32 rfl (lv_at hl 1 rfl) ?_
      refine o_callVv (k := 1) EvM_ok X S (mX12_layStripping l x1 σ_2 _ h) (by decide) rfl rfl k_1238 k_1235 k_1237 ks_60 k_14 ⟨rfl, by decide, by decide, by decide +kernel⟩ ⟨rfl, rfl⟩ ⟨Nat.le_of_ble_eq_true rfl, Nat.le_of_ble_eq_true rfl⟩ rfl hl.1 rfl (Nat.le_of_ble_eq_true rfl) dX12_lay_33 (fun σ_6 H locs h S => ?_)
      refine lv_lconst (v := 1) hx hb dX12_lay_36 (by decide) ?_
      exact o_lret X S hr h dX12_lay_37
    · replace h := h.2 q_4
      refine lv_iconst (v := 2) hx hb dX12_lay_26 (by decide) ?_
      refine o_callSl (k := 1) EvM_ok X S (mX12_refused l 2 σ_2 _ h) k_1024 k_1022 k_1023 k_14 ⟨by decide, by decide, by decide +kernel⟩ ⟨rfl, rfl⟩ ⟨Nat.le_of_ble_eq_true rfl, Nat.le_of_ble_eq_true rfl⟩ rfl hl.1 rfl (Nat.le_of_ble_eq_true rfl) dX12_lay_27 (fun r_7 σ_8 H locs h S => ?_)
      exact o_lret X S hr h dX12_lay_30
  · replace h := h.1 q_3
    refine lv_iconst (v := 1) hx hb dX12_lay_8 (by decide) ?_
    refine o_callSl (k := 1) EvM_ok X S (mX12_refused l 1 σ_2 _ h) k_1024 k_1022 k_1023 k_14 ⟨by decide, by decide, by decide +kernel⟩ ⟨rfl, rfl⟩ ⟨Nat.le_of_ble_eq_true rfl, Nat.le_of_ble_eq_true rfl⟩ rfl hl.1 rfl (Nat.le_of_ble_eq_true rfl) dX12_lay_9 (fun r_9 σ_10 H locs h S => ?_)
    exact o_lret X S hr h dX12_lay_12
def wX12_apart_b16 (σ : Sg) (Q : Int64 → Sg → Prop) : Prop :=
  (wX12_refused 1 σ (fun r_4 σ_5 => Q r_4 σ_5))
def wX12_apart_b47 (σ : Sg) (Q : Int64 → Sg → Prop) : Prop :=
  (wX12_refused 2 σ (fun r_10 σ_11 => Q r_10 σ_11))
def wX12_apart_L60 (x1 : Int32) (x2 : Int32) (x3 : Int32) (k87 : Sg → Prop) (Q : Int64 → Sg → Prop) : Nat → Int32 → Sg → Prop
  | 0, _, _ => False
  | nn60 + 1, x4, σ =>
  ((10 ≤ x4 → k87 σ) ∧ (¬ 10 ≤ x4 → (vp_in x4 10 ∧ (vp_in x4 10 ∧ ∀ σ_16, σ_16 = sto σ 29 x4.toNatClampNeg (σ 11 x4.toNatClampNeg) → (∀ x4_17 : Int32, x4_17 = x4 + 1 → wX12_apart_L60 x1 x2 x3 k87 Q nn60 x4_17 σ_16)))))
def wX12_apart_L109 (x2 : Int32) (x3 : Int32) (x4 : Int32) (k145 : Sg → Prop) (Q : Int64 → Sg → Prop) : Nat → Int32 → Sg → Prop
  | 0, _, _ => False
  | nn109 + 1, x5, σ =>
  (((σ 0 19) ≤ x5 → k145 σ) ∧ (¬ (σ 0 19) ≤ x5 → (wX12_stateAt x4 x5 σ (fun r_25 σ_26 => (vp_in ((10 * x4) + x5) 210 ∧ ∀ σ_27, σ_27 = sto σ_26 32 ((10 * x4) + x5).toNatClampNeg r_25 → (∀ x5_28 : Int32, x5_28 = x5 + 1 → wX12_apart_L109 x2 x3 x4 k145 Q nn109 x5_28 σ_27))))))
def wX12_apart_L100 (x2 : Int32) (x3 : Int32) (k151 : Sg → Prop) (Q : Int64 → Sg → Prop) : Nat → Int32 → Sg → Prop
  | 0, _, _ => False
  | nn100 + 1, x4, σ =>
  ((x3 < x4 → k151 σ) ∧ (¬ x3 < x4 → (∃ nf, wX12_apart_L109 x2 x3 x4 (fun σ_29 => (∀ x4_30 : Int32, x4_30 = x4 + 1 → wX12_apart_L100 x2 x3 k151 Q nn100 x4_30 σ_29)) Q nf 0 σ)))
def wX12_apart_b255 (x3 : Int32) (x4 : Int64) (x6 : Int32) (x7 : Int32) (x8 : Int32) (σ : Sg) (k261 : Int64 → Int32 → Sg → Prop) (kb181 : Int64 → Int32 → Int32 → Sg → Prop) (Q : Int64 → Sg → Prop) : Prop :=
  (∀ x8_43 : Int32, x8_43 = x8 + 1 → kb181 x4 x6 x8_43 σ)
def wX12_apart_b231 (x3 : Int32) (x4 : Int64) (x6 : Int32) (x7 : Int32) (x8 : Int32) (y0 : Int64) (σ : Sg) (k261 : Int64 → Int32 → Sg → Prop) (kb181 : Int64 → Int32 → Int32 → Sg → Prop) (Q : Int64 → Sg → Prop) : Prop :=
  (((lg_cmp y0 x4) ≤ 0 → wX12_apart_b255 x3 x4 x6 x7 x8 σ k261 kb181 Q) ∧ (¬ (lg_cmp y0 x4) ≤ 0 → (∀ x6_44, x6_44 = ((16 * x7) + x8) → wX12_apart_b255 x3 y0 x6_44 x7 x8 σ k261 kb181 Q)))
def wX12_apart_L181 (x3 : Int32) (x7 : Int32) (k261 : Int64 → Int32 → Sg → Prop) (Q : Int64 → Sg → Prop) : Nat → Int64 → Int32 → Int32 → Sg → Prop
  | 0, _, _, _, _ => False
  | nn181 + 1, x4, x6, x8, σ =>
  (((σ 0 19) ≤ x8 → k261 x4 x6 σ) ∧ (¬ (σ 0 19) ≤ x8 → (vp_in ((10 * x7) + x8) 210 ∧ (wX12_stateAt x7 x8 σ (fun r_38 σ_39 => (∀ x9_40, x9_40 = (((σ 32 ((10 * x7) + x8).toNatClampNeg).toInt64) - (r_38.toInt64)) → ((0 ≤ (lg_cmp x9_40 (0 : Int64)) → wX12_apart_b231 x3 x4 x6 x7 x8 x9_40 σ_39 k261 (wX12_apart_L181 x3 x7 k261 Q nn181) Q) ∧ (¬ 0 ≤ (lg_cmp x9_40 (0 : Int64)) → wX12_apart_b231 x3 x4 x6 x7 x8 (-x9_40) σ_39 k261 (wX12_apart_L181 x3 x7 k261 Q nn181) Q))))))))
def wX12_apart_L172 (x3 : Int32) (k267 : Int32 → Sg → Prop) (Q : Int64 → Sg → Prop) : Nat → Int64 → Int32 → Int32 → Sg → Prop
  | 0, _, _, _, _ => False
  | nn172 + 1, x4, x6, x7, σ =>
  ((x3 < x7 → k267 x6 σ) ∧ (¬ x3 < x7 → (∃ nf, wX12_apart_L181 x3 x7 (fun x4_45 x6_46 σ_47 => (∀ x7_48 : Int32, x7_48 = x7 + 1 → wX12_apart_L172 x3 k267 Q nn172 x4_45 x6_46 x7_48 σ_47)) Q nf x4 x6 0 σ)))
def wX12_apart_L270 (x6 : Int32) (k297 : Sg → Prop) (Q : Int64 → Sg → Prop) : Nat → Int32 → Sg → Prop
  | 0, _, _ => False
  | nn270 + 1, x7, σ =>
  ((10 ≤ x7 → k297 σ) ∧ (¬ 10 ≤ x7 → (vp_in x7 10 ∧ (vp_in x7 10 ∧ ∀ σ_52, σ_52 = sto σ 11 x7.toNatClampNeg (σ 29 x7.toNatClampNeg) → (∀ x7_53 : Int32, x7_53 = x7 + 1 → wX12_apart_L270 x6 k297 Q nn270 x7_53 σ_52)))))
def wX12_apart (x1 : Int32) (x2 : Int32) (σ : Sg) (Q : Int64 → Sg → Prop) : Prop :=
  (wX12_isStripping x1 σ (fun r_1 σ_2 => ((r_1 = 0 → wX12_apart_b16 σ_2 Q) ∧ (¬ r_1 = 0 → (wX12_isStripping x2 σ_2 (fun r_6 σ_7 => ((r_6 = 0 → wX12_apart_b16 σ_7 Q) ∧ (¬ r_6 = 0 → (vp_in x1 6 ∧ (((σ_7 31 x1.toNatClampNeg) = (σ_7 0 19) → (vp_in x2 6 ∧ (((σ_7 31 x2.toNatClampNeg) = (σ_7 0 19) → (wX12_last σ_7 (fun r_13 σ_14 => (∃ nf, wX12_apart_L60 x1 x2 r_13 (fun σ_18 => (wX12_layStripping x1 σ_18 (fun σ_20 => (wX12_go r_13 σ_20 (fun σ_22 => (∃ nf, wX12_apart_L100 x2 r_13 (fun σ_31 => (wX12_layStripping x2 σ_31 (fun σ_33 => (wX12_go r_13 σ_33 (fun σ_35 => (∃ nf, wX12_apart_L172 r_13 (fun x6_49 σ_50 => (∃ nf, wX12_apart_L270 x6_49 (fun σ_54 => Q (x6_49.toInt64) σ_54) Q nf 0 σ_50)) Q nf (0 : Int64) (-1000000) 0 σ_35)))))) Q nf 0 σ_22)))))) Q nf 0 σ_14)))) ∧ (¬ (σ_7 31 x2.toNatClampNeg) = (σ_7 0 19) → wX12_apart_b47 σ_7 Q)))) ∧ (¬ (σ_7 31 x1.toNatClampNeg) = (σ_7 0 19) → wX12_apart_b47 σ_7 Q)))))))))))
set_option maxHeartbeats 4000000 in
set_option maxRecDepth 100000 in
theorem mX12_apart_b16 {D : va_G} {cy : Nat → ClassId} {ad : Nat → Nat} (l : Launch) {p : Program} {e : Env} {s : State} {m : MethodId} {args : Array Value} {below : List Frame} {meth : Method} {c : Code} {A : Nat → Prop} {Q : Int64 → Sg → Prop} (X : Fx D (tyM cy) EvM p s m args meth c cX12_apart 11 "BackBayModel" A) (hr : meth.sig.returnType = some .long) {σ : Sg} {H : Heap} {locs : List Loc} {ls : Array Slot} (S : St D ad 34 (shM cy ad) A s σ H locs) (hl : lv_has ls 11 []) (h : wX12_apart_b16 σ Q) : W p l e ({ frames := 7, cells := 0, slots := 0, locals := 159 }) s m args below meth c H locs 0 0 (MQ below (va_Ql Q (PosW D (tyM cy) ad 34 (shM cy ad) A) A) args s 0 0 A) (F0 m 16 ls []) := by
  have hx := X.1
  have hb := X.2.1
  unfold wX12_apart_b16 at h
  refine lv_iconst (v := 1) hx hb dX12_apart_16 (by decide) ?_
  refine o_callSl (k := 1) EvM_ok X S (mX12_refused l 1 σ _ h) k_1024 k_1022 k_1023 k_14 ⟨by decide, by decide, by decide +kernel⟩ ⟨rfl, rfl⟩ ⟨Nat.le_of_ble_eq_true rfl, Nat.le_of_ble_eq_true rfl⟩ rfl hl.1 rfl (Nat.le_of_ble_eq_true rfl) dX12_apart_17 (fun r_4 σ_5 H locs h S => ?_)
  exact o_lret X S hr h dX12_apart_20
set_option maxHeartbeats 4000000 in
set_option maxRecDepth 100000 in
theorem mX12_apart_b47 {D : va_G} {cy : Nat → ClassId} {ad : Nat → Nat} (l : Launch) {p : Program} {e : Env} {s : State} {m : MethodId} {args : Array Value} {below : List Frame} {meth : Method} {c : Code} {A : Nat → Prop} {Q : Int64 → Sg → Prop} (X : Fx D (tyM cy) EvM p s m args meth c cX12_apart 11 "BackBayModel" A) (hr : meth.sig.returnType = some .long) {σ : Sg} {H : Heap} {locs : List Loc} {ls : Array Slot} (S : St D ad 34 (shM cy ad) A s σ H locs) (hl : lv_has ls 11 []) (h : wX12_apart_b47 σ Q) : W p l e ({ frames := 7, cells := 0, slots := 0, locals := 159 }) s m args below meth c H locs 0 0 (MQ below (va_Ql Q (PosW D (tyM cy) ad 34 (shM cy ad) A) A) args s 0 0 A) (F0 m 47 ls []) := by
  have hx := X.1
  have hb := X.2.1
  unfold wX12_apart_b47 at h
  refine lv_iconst (v := 2) hx hb dX12_apart_47 (by decide) ?_
  refine o_callSl (k := 1) EvM_ok X S (mX12_refused l 2 σ _ h) k_1024 k_1022 k_1023 k_14 ⟨by decide, by decide, by decide +kernel⟩ ⟨rfl, rfl⟩ ⟨Nat.le_of_ble_eq_true rfl, Nat.le_of_ble_eq_true rfl⟩ rfl hl.1 rfl (Nat.le_of_ble_eq_true rfl) dX12_apart_48 (fun r_10 σ_11 H locs h S => ?_)
  exact o_lret X S hr h dX12_apart_51
set_option maxHeartbeats 4000000 in
set_option maxRecDepth 100000 in
theorem mX12_apart_L60 {D : va_G} {cy : Nat → ClassId} {ad : Nat → Nat} (l : Launch) {p : Program} {e : Env} {s : State} {m : MethodId} {args : Array Value} {below : List Frame} {meth : Method} {c : Code} {A : Nat → Prop} {k87 : Sg → Prop} {Q : Int64 → Sg → Prop} (X : Fx D (tyM cy) EvM p s m args meth c cX12_apart 11 "BackBayModel" A) (hr : meth.sig.returnType = some .long) (x1 : Int32) (x2 : Int32) (x3 : Int32) (hk87 : ∀ (σ : Sg) (H : Heap) (locs : List Loc) (ls : Array Slot), St D ad 34 (shM cy ad) A s σ H locs → lv_has ls 11 [(0, .ref (ad 0)), (1, .int x1), (2, .int x2), (3, .int x3)] → k87 σ → W p l e ({ frames := 7, cells := 0, slots := 0, locals := 159 }) s m args below meth c H locs 0 0 (MQ below (va_Ql Q (PosW D (tyM cy) ad 34 (shM cy ad) A) A) args s 0 0 A) (F0 m 87 ls [])) : ∀ (n : Nat) (x4 : Int32) (σ : Sg) (H : Heap) (locs : List Loc) (ls : Array Slot), St D ad 34 (shM cy ad) A s σ H locs → lv_has ls 11 [(0, .ref (ad 0)), (1, .int x1), (2, .int x2), (3, .int x3), (4, .int x4)] → wX12_apart_L60 x1 x2 x3 k87 Q n x4 σ → W p l e ({ frames := 7, cells := 0, slots := 0, locals := 159 }) s m args below meth c H locs 0 0 (MQ below (va_Ql Q (PosW D (tyM cy) ad 34 (shM cy ad) A) A) args s 0 0 A) (F0 m 60 ls []) := by
  have hx := X.1
  have hb := X.2.1
  intro n
  induction n with
  | zero =>
    intro _ _ _ _ _ _ _ h
    exact absurd h (by unfold wX12_apart_L60; exact id)
  | succ n ih =>
    intro x4 σ H locs ls S hl h
    unfold wX12_apart_L60 at h
    refine lv_iload hx hb dX12_apart_60 (lv_at hl 4 rfl) ?_
    refine lv_bipush (v := 10) hx hb dX12_apart_62 (by decide) ?_
    refine lv_icmp_ge (tgt := 87) hx hb dX12_apart_64 (by decide) (fun q_15 => ?_) (fun q_15 => ?_)
    · replace h := h.1 q_15
      exact hk87 _ _ _ _ S (lv_sub hl [0, 1, 2, 3] rfl) h
    · replace h := h.2 q_15
      refine lv_aload_n hx hb dX12_apart_67 rfl (lv_at hl 0 rfl) ?_
      refine o_get X S 0 41 (by decide) rfl rfl in_12 (by decide) k_908 rfl dX12_apart_68 ?_
      refine lv_iload hx hb dX12_apart_71 (lv_at hl 4 rfl) ?_
      refine lv_aload_n hx hb dX12_apart_73 rfl (lv_at hl 0 rfl) ?_
      refine o_get X S 0 21 (by decide) rfl rfl in_12 (by decide) k_888 rfl dX12_apart_74 ?_
      refine lv_iload hx hb dX12_apart_77 (lv_at hl 4 rfl) ?_
      refine o_iald X S 11 0 (by decide) (fun _ => rfl) rfl h.1 dX12_apart_79 ?_
      replace h := h.2
      refine o_iast X S 29 0 (by decide) (fun _ => rfl) rfl h.1 dX12_apart_80 (fun σ_16 H locs eσ_16 S => ?_)
      replace h := h.2 σ_16 eσ_16
      obtain ⟨x4_17, ex4_17⟩ : ∃ y : Int32, y = x4 + 1 := ⟨_, rfl⟩
      replace h := h x4_17 ex4_17
      refine lv_iinc (v := x4_17) (lv' := [(4, .int x4_17), (0, .ref (ad 0)), (1, .int x1), (2, .int x2), (3, .int x3)]) hx hb dX12_apart_81 hl (k := 4) rfl (by rw [ex4_17]; rfl) (by decide) rfl (fun ls hl => ?_)
      refine lv_goto (tgt := 60) hx hb dX12_apart_84 (by decide) ?_
      exact ih _ _ _ _ _ S (lv_sub hl [1, 2, 3, 4, 0] rfl) h
set_option maxHeartbeats 4000000 in
set_option maxRecDepth 100000 in
theorem mX12_apart_L109 {D : va_G} {cy : Nat → ClassId} {ad : Nat → Nat} (l : Launch) {p : Program} {e : Env} {s : State} {m : MethodId} {args : Array Value} {below : List Frame} {meth : Method} {c : Code} {A : Nat → Prop} {k145 : Sg → Prop} {Q : Int64 → Sg → Prop} (X : Fx D (tyM cy) EvM p s m args meth c cX12_apart 11 "BackBayModel" A) (hr : meth.sig.returnType = some .long) (x2 : Int32) (x3 : Int32) (x4 : Int32) (hk145 : ∀ (σ : Sg) (H : Heap) (locs : List Loc) (ls : Array Slot), St D ad 34 (shM cy ad) A s σ H locs → lv_has ls 11 [(0, .ref (ad 0)), (2, .int x2), (3, .int x3), (4, .int x4)] → k145 σ → W p l e ({ frames := 7, cells := 0, slots := 0, locals := 159 }) s m args below meth c H locs 0 0 (MQ below (va_Ql Q (PosW D (tyM cy) ad 34 (shM cy ad) A) A) args s 0 0 A) (F0 m 145 ls [])) : ∀ (n : Nat) (x5 : Int32) (σ : Sg) (H : Heap) (locs : List Loc) (ls : Array Slot), St D ad 34 (shM cy ad) A s σ H locs → lv_has ls 11 [(0, .ref (ad 0)), (2, .int x2), (3, .int x3), (4, .int x4), (5, .int x5)] → wX12_apart_L109 x2 x3 x4 k145 Q n x5 σ → W p l e ({ frames := 7, cells := 0, slots := 0, locals := 159 }) s m args below meth c H locs 0 0 (MQ below (va_Ql Q (PosW D (tyM cy) ad 34 (shM cy ad) A) A) args s 0 0 A) (F0 m 109 ls []) := by
  have hx := X.1
  have hb := X.2.1
  intro n
  induction n with
  | zero =>
    intro _ _ _ _ _ _ _ h
    exact absurd h (by unfold wX12_apart_L109; exact id)
  | succ n ih =>
    intro x5 σ H locs ls S hl h
    unfold wX12_apart_L109 at h
    refine lv_iload hx hb dX12_apart_109 (lv_at hl 4 rfl) ?_
    refine lv_aload_n hx hb dX12_apart_111 rfl (lv_at hl 0 rfl) ?_
    refine o_get X S 0 19 (by decide) rfl rfl in_12 (by decide) k_886 rfl dX12_apart_112 ?_
    refine lv_icmp_ge (tgt := 145) hx hb dX12_apart_115 (by decide) (fun q_24 => ?_) (fun q_24 => ?_)
    · replace h := h.1 q_24
      exact hk145 _ _ _ _ S (lv_sub hl [0, 1, 2, 3] rfl) h
    · replace h := h.2 q_24
      refine lv_aload_n hx hb dX12_apart_118 rfl (lv_at hl 0 rfl) ?_
      refine o_get X S 0 45 (by decide) rfl rfl in_12 (by decide) k_912 rfl dX12_apart_119 ?_
      refine lv_bipush (v := 10) hx hb dX12_apart_122 (by decide) ?_
      refine lv_iload hx hb dX12_apart_124 (lv_at hl 3 rfl) ?_
      refine lv_imul hx hb dX12_apart_126 ?_
      refine lv_iload hx hb dX12_apart_127 (lv_at hl 4 rfl) ?_
      refine lv_iadd hx hb dX12_apart_129 ?_
      refine lv_aload_n hx hb dX12_apart_130 rfl (lv_at hl 0 rfl) ?_
      refine lv_iload hx hb dX12_apart_131 (lv_at hl 3 rfl) ?_
      refine lv_iload hx hb dX12_apart_133 (lv_at hl 4 rfl) ?_
      refine o_callVi (k := 2) EvM_ok X S (mX12_stateAt l x4 x5 σ _ h) (by decide) rfl rfl k_1150 k_1147 k_1149 ks_49 k_14 ⟨rfl, by decide, by decide, by decide +kernel⟩ ⟨rfl, rfl⟩ ⟨Nat.le_of_ble_eq_true rfl, Nat.le_of_ble_eq_true rfl⟩ rfl hl.1 rfl (Nat.le_of_ble_eq_true rfl) dX12_apart_135 (fun r_25 σ_26 H locs h S => ?_)
      refine o_iast X S 32 0 (by decide) (fun _ => rfl) rfl h.1 dX12_apart_138 (fun σ_27 H locs eσ_27 S => ?_)
      replace h := h.2 σ_27 eσ_27
      obtain ⟨x5_28, ex5_28⟩ : ∃ y : Int32, y = x5 + 1 := ⟨_, rfl⟩
      replace h := h x5_28 ex5_28
      refine lv_iinc (v := x5_28) (lv' := [(5, .int x5_28), (0, .ref (ad 0)), (2, .int x2), (3, .int x3), (4, .int x4)]) hx hb dX12_apart_139 hl (k := 4) rfl (by rw [ex5_28]; rfl) (by decide) rfl (fun ls hl => ?_)
      refine lv_goto (tgt := 109) hx hb dX12_apart_142 (by decide) ?_
      exact ih _ _ _ _ _ S (lv_sub hl [1, 2, 3, 4, 0] rfl) h
set_option maxHeartbeats 4000000 in
set_option maxRecDepth 100000 in
theorem mX12_apart_L100 {D : va_G} {cy : Nat → ClassId} {ad : Nat → Nat} (l : Launch) {p : Program} {e : Env} {s : State} {m : MethodId} {args : Array Value} {below : List Frame} {meth : Method} {c : Code} {A : Nat → Prop} {k151 : Sg → Prop} {Q : Int64 → Sg → Prop} (X : Fx D (tyM cy) EvM p s m args meth c cX12_apart 11 "BackBayModel" A) (hr : meth.sig.returnType = some .long) (x2 : Int32) (x3 : Int32) (hk151 : ∀ (σ : Sg) (H : Heap) (locs : List Loc) (ls : Array Slot), St D ad 34 (shM cy ad) A s σ H locs → lv_has ls 11 [(0, .ref (ad 0)), (2, .int x2), (3, .int x3)] → k151 σ → W p l e ({ frames := 7, cells := 0, slots := 0, locals := 159 }) s m args below meth c H locs 0 0 (MQ below (va_Ql Q (PosW D (tyM cy) ad 34 (shM cy ad) A) A) args s 0 0 A) (F0 m 151 ls [])) : ∀ (n : Nat) (x4 : Int32) (σ : Sg) (H : Heap) (locs : List Loc) (ls : Array Slot), St D ad 34 (shM cy ad) A s σ H locs → lv_has ls 11 [(0, .ref (ad 0)), (2, .int x2), (3, .int x3), (4, .int x4)] → wX12_apart_L100 x2 x3 k151 Q n x4 σ → W p l e ({ frames := 7, cells := 0, slots := 0, locals := 159 }) s m args below meth c H locs 0 0 (MQ below (va_Ql Q (PosW D (tyM cy) ad 34 (shM cy ad) A) A) args s 0 0 A) (F0 m 100 ls []) := by
  have hx := X.1
  have hb := X.2.1
  intro n
  induction n with
  | zero =>
    intro _ _ _ _ _ _ _ h
    exact absurd h (by unfold wX12_apart_L100; exact id)
  | succ n ih =>
    intro x4 σ H locs ls S hl h
    unfold wX12_apart_L100 at h
    refine lv_iload hx hb dX12_apart_100 (lv_at hl 3 rfl) ?_
    refine lv_iload_n hx hb dX12_apart_102 rfl (lv_at hl 2 rfl) ?_
    refine lv_icmp_gt (tgt := 151) hx hb dX12_apart_103 (by decide) (fun q_23 => ?_) (fun q_23 => ?_)
    · replace h := h.1 q_23
      exact hk151 _ _ _ _ S (lv_sub hl [0, 1, 2] rfl) h
    · replace h := h.2 q_23
      refine lv_iconst (v := 0) hx hb dX12_apart_106 (by decide) ?_
      refine lv_istore (lv' := [(5, .int 0), (0, .ref (ad 0)), (2, .int x2), (3, .int x3), (4, .int x4)]) hx hb dX12_apart_107 hl (by decide) rfl (fun ls hl => ?_)
      obtain ⟨n_109, h⟩ := h
      refine mX12_apart_L109 l X hr x2 x3 x4 ?_ n_109 _ _ _ _ _ S (lv_sub hl [1, 2, 3, 4, 0] rfl) h
      · intro σ_29 H locs ls S hl h
        obtain ⟨x4_30, ex4_30⟩ : ∃ y : Int32, y = x4 + 1 := ⟨_, rfl⟩
        replace h := h x4_30 ex4_30
        refine lv_iinc (v := x4_30) (lv' := [(4, .int x4_30), (0, .ref (ad 0)), (2, .int x2), (3, .int x3)]) hx hb dX12_apart_145 hl (k := 3) rfl (by rw [ex4_30]; rfl) (by decide) rfl (fun ls hl => ?_)
        refine lv_goto (tgt := 100) hx hb dX12_apart_148 (by decide) ?_
        exact ih _ _ _ _ _ S (lv_sub hl [1, 2, 3, 0] rfl) h
set_option maxHeartbeats 4000000 in
set_option maxRecDepth 100000 in
theorem mX12_apart_b255 {D : va_G} {cy : Nat → ClassId} {ad : Nat → Nat} (l : Launch) {p : Program} {e : Env} {s : State} {m : MethodId} {args : Array Value} {below : List Frame} {meth : Method} {c : Code} {A : Nat → Prop} {k261 : Int64 → Int32 → Sg → Prop} {kb181 : Int64 → Int32 → Int32 → Sg → Prop} {Q : Int64 → Sg → Prop} (X : Fx D (tyM cy) EvM p s m args meth c cX12_apart 11 "BackBayModel" A) (hr : meth.sig.returnType = some .long) (x3 : Int32) (x4 : Int64) (x6 : Int32) (x7 : Int32) (x8 : Int32) (hk261 : ∀ (x4 : Int64) (x6 : Int32) (σ : Sg) (H : Heap) (locs : List Loc) (ls : Array Slot), St D ad 34 (shM cy ad) A s σ H locs → lv_has ls 11 [(0, .ref (ad 0)), (3, .int x3), (4, .long x4), (6, .int x6), (7, .int x7)] → k261 x4 x6 σ → W p l e ({ frames := 7, cells := 0, slots := 0, locals := 159 }) s m args below meth c H locs 0 0 (MQ below (va_Ql Q (PosW D (tyM cy) ad 34 (shM cy ad) A) A) args s 0 0 A) (F0 m 261 ls [])) (hkb181 : ∀ (x4 : Int64) (x6 : Int32) (x8 : Int32) (σ : Sg) (H : Heap) (locs : List Loc) (ls : Array Slot), St D ad 34 (shM cy ad) A s σ H locs → lv_has ls 11 [(0, .ref (ad 0)), (3, .int x3), (4, .long x4), (6, .int x6), (7, .int x7), (8, .int x8)] → kb181 x4 x6 x8 σ → W p l e ({ frames := 7, cells := 0, slots := 0, locals := 159 }) s m args below meth c H locs 0 0 (MQ below (va_Ql Q (PosW D (tyM cy) ad 34 (shM cy ad) A) A) args s 0 0 A) (F0 m 181 ls [])) {σ : Sg} {H : Heap} {locs : List Loc} {ls : Array Slot} (S : St D ad 34 (shM cy ad) A s σ H locs) (hl : lv_has ls 11 [(0, .ref (ad 0)), (3, .int x3), (4, .long x4), (6, .int x6), (7, .int x7), (8, .int x8)]) (h : wX12_apart_b255 x3 x4 x6 x7 x8 σ k261 kb181 Q) : W p l e ({ frames := 7, cells := 0, slots := 0, locals := 159 }) s m args below meth c H locs 0 0 (MQ below (va_Ql Q (PosW D (tyM cy) ad 34 (shM cy ad) A) A) args s 0 0 A) (F0 m 255 ls []) := by
  have hx := X.1
  have hb := X.2.1
  unfold wX12_apart_b255 at h
  obtain ⟨x8_43, ex8_43⟩ : ∃ y : Int32, y = x8 + 1 := ⟨_, rfl⟩
  replace h := h x8_43 ex8_43
  refine lv_iinc (v := x8_43) (lv' := [(8, .int x8_43), (0, .ref (ad 0)), (3, .int x3), (4, .long x4), (6, .int x6), (7, .int x7)]) hx hb dX12_apart_255 hl (k := 5) rfl (by rw [ex8_43]; rfl) (by decide) rfl (fun ls hl => ?_)
  refine lv_goto (tgt := 181) hx hb dX12_apart_258 (by decide) ?_
  exact hkb181 _ _ _ _ _ _ _ S (lv_sub hl [1, 2, 3, 4, 5, 0] rfl) h
set_option maxHeartbeats 4000000 in
set_option maxRecDepth 100000 in
theorem mX12_apart_b231 {D : va_G} {cy : Nat → ClassId} {ad : Nat → Nat} (l : Launch) {p : Program} {e : Env} {s : State} {m : MethodId} {args : Array Value} {below : List Frame} {meth : Method} {c : Code} {A : Nat → Prop} {k261 : Int64 → Int32 → Sg → Prop} {kb181 : Int64 → Int32 → Int32 → Sg → Prop} {Q : Int64 → Sg → Prop} (X : Fx D (tyM cy) EvM p s m args meth c cX12_apart 11 "BackBayModel" A) (hr : meth.sig.returnType = some .long) (x3 : Int32) (x4 : Int64) (x6 : Int32) (x7 : Int32) (x8 : Int32) (y0 : Int64) (hk261 : ∀ (x4 : Int64) (x6 : Int32) (σ : Sg) (H : Heap) (locs : List Loc) (ls : Array Slot), St D ad 34 (shM cy ad) A s σ H locs → lv_has ls 11 [(0, .ref (ad 0)), (3, .int x3), (4, .long x4), (6, .int x6), (7, .int x7)] → k261 x4 x6 σ → W p l e ({ frames := 7, cells := 0, slots := 0, locals := 159 }) s m args below meth c H locs 0 0 (MQ below (va_Ql Q (PosW D (tyM cy) ad 34 (shM cy ad) A) A) args s 0 0 A) (F0 m 261 ls [])) (hkb181 : ∀ (x4 : Int64) (x6 : Int32) (x8 : Int32) (σ : Sg) (H : Heap) (locs : List Loc) (ls : Array Slot), St D ad 34 (shM cy ad) A s σ H locs → lv_has ls 11 [(0, .ref (ad 0)), (3, .int x3), (4, .long x4), (6, .int x6), (7, .int x7), (8, .int x8)] → kb181 x4 x6 x8 σ → W p l e ({ frames := 7, cells := 0, slots := 0, locals := 159 }) s m args below meth c H locs 0 0 (MQ below (va_Ql Q (PosW D (tyM cy) ad 34 (shM cy ad) A) A) args s 0 0 A) (F0 m 181 ls [])) {σ : Sg} {H : Heap} {locs : List Loc} {ls : Array Slot} (S : St D ad 34 (shM cy ad) A s σ H locs) (hl : lv_has ls 11 [(0, .ref (ad 0)), (3, .int x3), (4, .long x4), (6, .int x6), (7, .int x7), (8, .int x8)]) (h : wX12_apart_b231 x3 x4 x6 x7 x8 y0 σ k261 kb181 Q) : W p l e ({ frames := 7, cells := 0, slots := 0, locals := 159 }) s m args below meth c H locs 0 0 (MQ below (va_Ql Q (PosW D (tyM cy) ad 34 (shM cy ad) A) A) args s 0 0 A) (F0 m 231 ls [.long y0]) := by
  have hx := X.1
  have hb := X.2.1
  unfold wX12_apart_b231 at h
  refine lv_lstore (lv' := [(9, .long y0), (0, .ref (ad 0)), (3, .int x3), (4, .long x4), (6, .int x6), (7, .int x7), (8, .int x8)]) hx hb dX12_apart_231 hl (by decide) rfl (fun ls hl => ?_)
  refine lv_lload hx hb dX12_apart_233 (lv_at hl 0 rfl) ?_
  refine lv_lload hx hb dX12_apart_235 (lv_at hl 3 rfl) ?_
  refine W.lcmp hx hb dX12_apart_237 ?_
  refine lv_if_le (tgt := 255) hx hb dX12_apart_238 (by decide) (fun q_42 => ?_) (fun q_42 => ?_)
  · replace h := h.1 q_42
    exact mX12_apart_b255 l X hr x3 x4 x6 x7 x8 hk261 hkb181 S (lv_sub hl [1, 2, 3, 4, 5, 6] rfl) h
  · replace h := h.2 q_42
    refine lv_lload hx hb dX12_apart_241 (lv_at hl 0 rfl) ?_
    refine lv_lstore (lv' := [(4, .long y0), (9, .long y0), (0, .ref (ad 0)), (3, .int x3), (6, .int x6), (7, .int x7), (8, .int x8)]) hx hb dX12_apart_243 hl (by decide) rfl (fun ls hl => ?_)
    refine lv_bipush (v := 16) hx hb dX12_apart_245 (by decide) ?_
    refine lv_iload hx hb dX12_apart_247 (lv_at hl 5 rfl) ?_
    refine lv_imul hx hb dX12_apart_249 ?_
    refine lv_iload hx hb dX12_apart_250 (lv_at hl 6 rfl) ?_
    refine lv_iadd hx hb dX12_apart_252 ?_
    refine lv_topi (fun x6_44 ex6_44 => ?_)
    replace h := h x6_44 ex6_44
    refine lv_istore (lv' := [(6, .int x6_44), (4, .long y0), (9, .long y0), (0, .ref (ad 0)), (3, .int x3), (7, .int x7), (8, .int x8)]) hx hb dX12_apart_253 hl (by decide) rfl (fun ls hl => ?_)
    exact mX12_apart_b255 l X hr x3 y0 x6_44 x7 x8 hk261 hkb181 S (lv_sub hl [3, 4, 1, 0, 5, 6] rfl) h
set_option maxHeartbeats 4000000 in
set_option maxRecDepth 100000 in
theorem mX12_apart_L181 {D : va_G} {cy : Nat → ClassId} {ad : Nat → Nat} (l : Launch) {p : Program} {e : Env} {s : State} {m : MethodId} {args : Array Value} {below : List Frame} {meth : Method} {c : Code} {A : Nat → Prop} {k261 : Int64 → Int32 → Sg → Prop} {Q : Int64 → Sg → Prop} (X : Fx D (tyM cy) EvM p s m args meth c cX12_apart 11 "BackBayModel" A) (hr : meth.sig.returnType = some .long) (x3 : Int32) (x7 : Int32) (hk261 : ∀ (x4 : Int64) (x6 : Int32) (σ : Sg) (H : Heap) (locs : List Loc) (ls : Array Slot), St D ad 34 (shM cy ad) A s σ H locs → lv_has ls 11 [(0, .ref (ad 0)), (3, .int x3), (4, .long x4), (6, .int x6), (7, .int x7)] → k261 x4 x6 σ → W p l e ({ frames := 7, cells := 0, slots := 0, locals := 159 }) s m args below meth c H locs 0 0 (MQ below (va_Ql Q (PosW D (tyM cy) ad 34 (shM cy ad) A) A) args s 0 0 A) (F0 m 261 ls [])) : ∀ (n : Nat) (x4 : Int64) (x6 : Int32) (x8 : Int32) (σ : Sg) (H : Heap) (locs : List Loc) (ls : Array Slot), St D ad 34 (shM cy ad) A s σ H locs → lv_has ls 11 [(0, .ref (ad 0)), (3, .int x3), (4, .long x4), (6, .int x6), (7, .int x7), (8, .int x8)] → wX12_apart_L181 x3 x7 k261 Q n x4 x6 x8 σ → W p l e ({ frames := 7, cells := 0, slots := 0, locals := 159 }) s m args below meth c H locs 0 0 (MQ below (va_Ql Q (PosW D (tyM cy) ad 34 (shM cy ad) A) A) args s 0 0 A) (F0 m 181 ls []) := by
  have hx := X.1
  have hb := X.2.1
  intro n
  induction n with
  | zero =>
    intro _ _ _ _ _ _ _ _ _ h
    exact absurd h (by unfold wX12_apart_L181; exact id)
  | succ n ih =>
    intro x4 x6 x8 σ H locs ls S hl h
    unfold wX12_apart_L181 at h
    refine lv_iload hx hb dX12_apart_181 (lv_at hl 5 rfl) ?_
    refine lv_aload_n hx hb dX12_apart_183 rfl (lv_at hl 0 rfl) ?_
    refine o_get X S 0 19 (by decide) rfl rfl in_12 (by decide) k_886 rfl dX12_apart_184 ?_
    refine lv_icmp_ge (tgt := 261) hx hb dX12_apart_187 (by decide) (fun q_37 => ?_) (fun q_37 => ?_)
    · replace h := h.1 q_37
      exact hk261 _ _ _ _ _ _ S (lv_sub hl [0, 1, 2, 3, 4] rfl) h
    · replace h := h.2 q_37
      refine lv_aload_n hx hb dX12_apart_190 rfl (lv_at hl 0 rfl) ?_
      refine o_get X S 0 45 (by decide) rfl rfl in_12 (by decide) k_912 rfl dX12_apart_191 ?_
      refine lv_bipush (v := 10) hx hb dX12_apart_194 (by decide) ?_
      refine lv_iload hx hb dX12_apart_196 (lv_at hl 4 rfl) ?_
      refine lv_imul hx hb dX12_apart_198 ?_
      refine lv_iload hx hb dX12_apart_199 (lv_at hl 5 rfl) ?_
      refine lv_iadd hx hb dX12_apart_201 ?_
      refine o_iald X S 32 0 (by decide) (fun _ => rfl) rfl h.1 dX12_apart_202 ?_
      replace h := h.2
      refine lv_i2l hx hb dX12_apart_203 rfl ?_
      refine lv_aload_n hx hb dX12_apart_204 rfl (lv_at hl 0 rfl) ?_
      refine lv_iload hx hb dX12_apart_205 (lv_at hl 4 rfl) ?_
      refine lv_iload hx hb dX12_apart_207 (lv_at hl 5 rfl) ?_
      refine o_callVi (k := 2) EvM_ok X S (mX12_stateAt l x7 x8 σ _ h) (by decide) rfl rfl k_1150 k_1147 k_1149 ks_49 k_14 ⟨rfl, by decide, by decide, by decide +kernel⟩ ⟨rfl, rfl⟩ ⟨Nat.le_of_ble_eq_true rfl, Nat.le_of_ble_eq_true rfl⟩ rfl hl.1 rfl (Nat.le_of_ble_eq_true rfl) dX12_apart_209 (fun r_38 σ_39 H locs h S => ?_)
      refine lv_i2l hx hb dX12_apart_212 rfl ?_
      refine lv_lsub hx hb dX12_apart_213 ?_
      refine lv_topl (fun x9_40 ex9_40 => ?_)
      replace h := h x9_40 ex9_40
      refine lv_lstore (lv' := [(9, .long x9_40), (0, .ref (ad 0)), (3, .int x3), (4, .long x4), (6, .int x6), (7, .int x7), (8, .int x8)]) hx hb dX12_apart_214 hl (by decide) rfl (fun ls hl => ?_)
      refine lv_lload hx hb dX12_apart_216 (lv_at hl 0 rfl) ?_
      refine lv_lconst (v := 0) hx hb dX12_apart_218 (by decide) ?_
      refine W.lcmp hx hb dX12_apart_219 ?_
      refine lv_if_ge (tgt := 229) hx hb dX12_apart_220 (by decide) (fun q_41 => ?_) (fun q_41 => ?_)
      · replace h := h.1 q_41
        refine lv_lload hx hb dX12_apart_229 (lv_at hl 0 rfl) ?_
        exact mX12_apart_b231 l X hr x3 x4 x6 x7 x8 x9_40 hk261 ih S (lv_sub hl [1, 2, 3, 4, 5, 6] rfl) h
      · replace h := h.2 q_41
        refine lv_lload hx hb dX12_apart_223 (lv_at hl 0 rfl) ?_
        refine lv_lneg hx hb dX12_apart_225 ?_
        refine lv_goto (tgt := 231) hx hb dX12_apart_226 (by decide) ?_
        exact mX12_apart_b231 l X hr x3 x4 x6 x7 x8 (-x9_40) hk261 ih S (lv_sub hl [1, 2, 3, 4, 5, 6] rfl) h
set_option maxHeartbeats 4000000 in
set_option maxRecDepth 100000 in
theorem mX12_apart_L172 {D : va_G} {cy : Nat → ClassId} {ad : Nat → Nat} (l : Launch) {p : Program} {e : Env} {s : State} {m : MethodId} {args : Array Value} {below : List Frame} {meth : Method} {c : Code} {A : Nat → Prop} {k267 : Int32 → Sg → Prop} {Q : Int64 → Sg → Prop} (X : Fx D (tyM cy) EvM p s m args meth c cX12_apart 11 "BackBayModel" A) (hr : meth.sig.returnType = some .long) (x3 : Int32) (hk267 : ∀ (x6 : Int32) (σ : Sg) (H : Heap) (locs : List Loc) (ls : Array Slot), St D ad 34 (shM cy ad) A s σ H locs → lv_has ls 11 [(0, .ref (ad 0)), (6, .int x6)] → k267 x6 σ → W p l e ({ frames := 7, cells := 0, slots := 0, locals := 159 }) s m args below meth c H locs 0 0 (MQ below (va_Ql Q (PosW D (tyM cy) ad 34 (shM cy ad) A) A) args s 0 0 A) (F0 m 267 ls [])) : ∀ (n : Nat) (x4 : Int64) (x6 : Int32) (x7 : Int32) (σ : Sg) (H : Heap) (locs : List Loc) (ls : Array Slot), St D ad 34 (shM cy ad) A s σ H locs → lv_has ls 11 [(0, .ref (ad 0)), (3, .int x3), (4, .long x4), (6, .int x6), (7, .int x7)] → wX12_apart_L172 x3 k267 Q n x4 x6 x7 σ → W p l e ({ frames := 7, cells := 0, slots := 0, locals := 159 }) s m args below meth c H locs 0 0 (MQ below (va_Ql Q (PosW D (tyM cy) ad 34 (shM cy ad) A) A) args s 0 0 A) (F0 m 172 ls []) := by
  have hx := X.1
  have hb := X.2.1
  intro n
  induction n with
  | zero =>
    intro _ _ _ _ _ _ _ _ _ h
    exact absurd h (by unfold wX12_apart_L172; exact id)
  | succ n ih =>
    intro x4 x6 x7 σ H locs ls S hl h
    unfold wX12_apart_L172 at h
    refine lv_iload hx hb dX12_apart_172 (lv_at hl 4 rfl) ?_
    refine lv_iload_n hx hb dX12_apart_174 rfl (lv_at hl 1 rfl) ?_
    refine lv_icmp_gt (tgt := 267) hx hb dX12_apart_175 (by decide) (fun q_36 => ?_) (fun q_36 => ?_)
    · replace h := h.1 q_36
      exact hk267 _ _ _ _ _ S (lv_sub hl [0, 3] rfl) h
    · replace h := h.2 q_36
      refine lv_iconst (v := 0) hx hb dX12_apart_178 (by decide) ?_
      refine lv_istore (lv' := [(8, .int 0), (0, .ref (ad 0)), (3, .int x3), (4, .long x4), (6, .int x6), (7, .int x7)]) hx hb dX12_apart_179 hl (by decide) rfl (fun ls hl => ?_)
      obtain ⟨n_181, h⟩ := h
      refine mX12_apart_L181 l X hr x3 x7 ?_ n_181 _ _ _ _ _ _ _ S (lv_sub hl [1, 2, 3, 4, 5, 0] rfl) h
      · intro x4_45 x6_46 σ_47 H locs ls S hl h
        obtain ⟨x7_48, ex7_48⟩ : ∃ y : Int32, y = x7 + 1 := ⟨_, rfl⟩
        replace h := h x7_48 ex7_48
        refine lv_iinc (v := x7_48) (lv' := [(7, .int x7_48), (0, .ref (ad 0)), (3, .int x3), (4, .long x4_45), (6, .int x6_46)]) hx hb dX12_apart_261 hl (k := 4) rfl (by rw [ex7_48]; rfl) (by decide) rfl (fun ls hl => ?_)
        refine lv_goto (tgt := 172) hx hb dX12_apart_264 (by decide) ?_
        exact ih _ _ _ _ _ _ _ S (lv_sub hl [1, 2, 3, 4, 0] rfl) h
set_option maxHeartbeats 4000000 in
set_option maxRecDepth 100000 in
theorem mX12_apart_L270 {D : va_G} {cy : Nat → ClassId} {ad : Nat → Nat} (l : Launch) {p : Program} {e : Env} {s : State} {m : MethodId} {args : Array Value} {below : List Frame} {meth : Method} {c : Code} {A : Nat → Prop} {k297 : Sg → Prop} {Q : Int64 → Sg → Prop} (X : Fx D (tyM cy) EvM p s m args meth c cX12_apart 11 "BackBayModel" A) (hr : meth.sig.returnType = some .long) (x6 : Int32) (hk297 : ∀ (σ : Sg) (H : Heap) (locs : List Loc) (ls : Array Slot), St D ad 34 (shM cy ad) A s σ H locs → lv_has ls 11 [(6, .int x6)] → k297 σ → W p l e ({ frames := 7, cells := 0, slots := 0, locals := 159 }) s m args below meth c H locs 0 0 (MQ below (va_Ql Q (PosW D (tyM cy) ad 34 (shM cy ad) A) A) args s 0 0 A) (F0 m 297 ls [])) : ∀ (n : Nat) (x7 : Int32) (σ : Sg) (H : Heap) (locs : List Loc) (ls : Array Slot), St D ad 34 (shM cy ad) A s σ H locs → lv_has ls 11 [(0, .ref (ad 0)), (6, .int x6), (7, .int x7)] → wX12_apart_L270 x6 k297 Q n x7 σ → W p l e ({ frames := 7, cells := 0, slots := 0, locals := 159 }) s m args below meth c H locs 0 0 (MQ below (va_Ql Q (PosW D (tyM cy) ad 34 (shM cy ad) A) A) args s 0 0 A) (F0 m 270 ls []) := by
  have hx := X.1
  have hb := X.2.1
  intro n
  induction n with
  | zero =>
    intro _ _ _ _ _ _ _ h
    exact absurd h (by unfold wX12_apart_L270; exact id)
  | succ n ih =>
    intro x7 σ H locs ls S hl h
    unfold wX12_apart_L270 at h
    refine lv_iload hx hb dX12_apart_270 (lv_at hl 2 rfl) ?_
    refine lv_bipush (v := 10) hx hb dX12_apart_272 (by decide) ?_
    refine lv_icmp_ge (tgt := 297) hx hb dX12_apart_274 (by decide) (fun q_51 => ?_) (fun q_51 => ?_)
    · replace h := h.1 q_51
      exact hk297 _ _ _ _ S (lv_sub hl [1] rfl) h
    · replace h := h.2 q_51
      refine lv_aload_n hx hb dX12_apart_277 rfl (lv_at hl 0 rfl) ?_
      refine o_get X S 0 21 (by decide) rfl rfl in_12 (by decide) k_888 rfl dX12_apart_278 ?_
      refine lv_iload hx hb dX12_apart_281 (lv_at hl 2 rfl) ?_
      refine lv_aload_n hx hb dX12_apart_283 rfl (lv_at hl 0 rfl) ?_
      refine o_get X S 0 41 (by decide) rfl rfl in_12 (by decide) k_908 rfl dX12_apart_284 ?_
      refine lv_iload hx hb dX12_apart_287 (lv_at hl 2 rfl) ?_
      refine o_iald X S 29 0 (by decide) (fun _ => rfl) rfl h.1 dX12_apart_289 ?_
      replace h := h.2
      refine o_iast X S 11 0 (by decide) (fun _ => rfl) rfl h.1 dX12_apart_290 (fun σ_52 H locs eσ_52 S => ?_)
      replace h := h.2 σ_52 eσ_52
      obtain ⟨x7_53, ex7_53⟩ : ∃ y : Int32, y = x7 + 1 := ⟨_, rfl⟩
      replace h := h x7_53 ex7_53
      refine lv_iinc (v := x7_53) (lv' := [(7, .int x7_53), (0, .ref (ad 0)), (6, .int x6)]) hx hb dX12_apart_291 hl (k := 2) rfl (by rw [ex7_53]; rfl) (by decide) rfl (fun ls hl => ?_)
      refine lv_goto (tgt := 270) hx hb dX12_apart_294 (by decide) ?_
      exact ih _ _ _ _ _ S (lv_sub hl [1, 2, 0] rfl) h
set_option maxHeartbeats 4000000 in
set_option maxRecDepth 100000 in
theorem mX12_apart {D : va_G} {cy : Nat → ClassId} {ad : Nat → Nat} (l : Launch) (x1 : Int32) (x2 : Int32) (σ : Sg) (Q : Int64 → Sg → Prop) (h : wX12_apart x1 x2 σ Q) : MLM D cy ad l yX12_apart (.code yX12_apart cX12_apart 11 (some .long) :: gT) ({ frames := 7, cells := 0, slots := 0, locals := 159 }) [.ref (ad 0), .int x1, .int x2] σ Q := by
  refine metL_of (by decide +kernel) (Nat.le_of_ble_eq_true rfl) ?_
  intro p e s m args below meth c A ls X hr hl S
  have X : Fx D (tyM cy) EvM p s m args meth c cX12_apart 11 "BackBayModel" A := X
  have hl : lv_has ls 11 [(0, .ref (ad 0)), (1, .int x1), (2, .int x2)] := hl
  have hx := X.1
  have hb := X.2.1
  unfold wX12_apart at h
  refine lv_aload_n hx hb dX12_apart_0 rfl (lv_at hl 0 rfl) ?_
  refine lv_iload_n hx hb dX12_apart_1 rfl (lv_at hl 1 rfl) ?_
  refine o_callVi (k := 1) EvM_ok X S (mX12_isStripping l x1 σ _ h) (by decide) rfl rfl k_1234 k_1231 k_1233 ks_59 k_14 ⟨rfl, by decide, by decide, by decide +kernel⟩ ⟨rfl, rfl⟩ ⟨Nat.le_of_ble_eq_true rfl, Nat.le_of_ble_eq_true rfl⟩ rfl hl.1 rfl (Nat.le_of_ble_eq_true rfl) dX12_apart_2 (fun r_1 σ_2 H locs h S => ?_)
  refine lv_if_eq (tgt := 16) hx hb dX12_apart_5 (by decide) (fun q_3 => ?_) (fun q_3 => ?_)
  · replace h := h.1 q_3
    exact mX12_apart_b16 l X hr S (lv_sub hl [] rfl) h
  · replace h := h.2 q_3
    refine lv_aload_n hx hb dX12_apart_8 rfl (lv_at hl 0 rfl) ?_
    refine lv_iload_n hx hb dX12_apart_9 rfl (lv_at hl 2 rfl) ?_
    refine o_callVi (k := 1) EvM_ok X S (mX12_isStripping l x2 σ_2 _ h) (by decide) rfl rfl k_1234 k_1231 k_1233 ks_59 k_14 ⟨rfl, by decide, by decide, by decide +kernel⟩ ⟨rfl, rfl⟩ ⟨Nat.le_of_ble_eq_true rfl, Nat.le_of_ble_eq_true rfl⟩ rfl hl.1 rfl (Nat.le_of_ble_eq_true rfl) dX12_apart_10 (fun r_6 σ_7 H locs h S => ?_)
    refine lv_if_ne (tgt := 21) hx hb dX12_apart_13 (by decide) (fun q_8 => ?_) (fun q_8 => ?_)
    · replace h := h.2 q_8
      refine lv_aload_n hx hb dX12_apart_21 rfl (lv_at hl 0 rfl) ?_
      refine o_get X S 0 44 (by decide) rfl rfl in_12 (by decide) k_911 rfl dX12_apart_22 ?_
      refine lv_iload_n hx hb dX12_apart_25 rfl (lv_at hl 1 rfl) ?_
      refine o_iald X S 31 0 (by decide) (fun _ => rfl) rfl h.1 dX12_apart_26 ?_
      replace h := h.2
      refine lv_aload_n hx hb dX12_apart_27 rfl (lv_at hl 0 rfl) ?_
      refine o_get X S 0 19 (by decide) rfl rfl in_12 (by decide) k_886 rfl dX12_apart_28 ?_
      refine lv_icmp_ne (tgt := 47) hx hb dX12_apart_31 (by decide) (fun q_9 => ?_) (fun q_9 => ?_)
      · replace h := h.2 q_9
        exact mX12_apart_b47 l X hr S (lv_sub hl [] rfl) h
      · replace h := h.1 q_9
        refine lv_aload_n hx hb dX12_apart_34 rfl (lv_at hl 0 rfl) ?_
        refine o_get X S 0 44 (by decide) rfl rfl in_12 (by decide) k_911 rfl dX12_apart_35 ?_
        refine lv_iload_n hx hb dX12_apart_38 rfl (lv_at hl 2 rfl) ?_
        refine o_iald X S 31 0 (by decide) (fun _ => rfl) rfl h.1 dX12_apart_39 ?_
        replace h := h.2
        refine lv_aload_n hx hb dX12_apart_40 rfl (lv_at hl 0 rfl) ?_
        refine o_get X S 0 19 (by decide) rfl rfl in_12 (by decide) k_886 rfl dX12_apart_41 ?_
        refine lv_icmp_eq (tgt := 52) hx hb dX12_apart_44 (by decide) (fun q_12 => ?_) (fun q_12 => ?_)
        · replace h := h.1 q_12
          refine lv_aload_n hx hb dX12_apart_52 rfl (lv_at hl 0 rfl) ?_
          refine o_callVi (k := 0) EvM_ok X S (mX12_last l σ_7 _ h) (by decide) rfl rfl k_1170 k_1167 k_1169 ks_51 k_14 ⟨rfl, by decide, by decide, by decide +kernel⟩ ⟨rfl, rfl⟩ ⟨Nat.le_of_ble_eq_true rfl, Nat.le_of_ble_eq_true rfl⟩ rfl hl.1 rfl (Nat.le_of_ble_eq_true rfl) dX12_apart_53 (fun r_13 σ_14 H locs h S => ?_)
          refine lv_istore_n (lv' := [(3, .int r_13), (0, .ref (ad 0)), (1, .int x1), (2, .int x2)]) hx hb dX12_apart_56 rfl hl (by decide) rfl (fun ls hl => ?_)
          refine lv_iconst (v := 0) hx hb dX12_apart_57 (by decide) ?_
          refine lv_istore (lv' := [(4, .int 0), (3, .int r_13), (0, .ref (ad 0)), (1, .int x1), (2, .int x2)]) hx hb dX12_apart_58 hl (by decide) rfl (fun ls hl => ?_)
          obtain ⟨n_60, h⟩ := h
          refine mX12_apart_L60 l X hr x1 x2 r_13 ?_ n_60 _ _ _ _ _ S (lv_sub hl [2, 3, 4, 1, 0] rfl) h
          · intro σ_18 H locs ls S hl h
            refine lv_aload_n hx hb dX12_apart_87 rfl (lv_at hl 0 rfl) ?_
            refine lv_iload_n hx hb dX12_apart_88 rfl (lv_at hl 1 rfl) ?_
            refine o_callVv (k := 1) EvM_ok X S (mX12_layStripping l x1 σ_18 _ h) (by decide) rfl rfl k_1238 k_1235 k_1237 ks_60 k_14 ⟨rfl, by decide, by decide, by decide +kernel⟩ ⟨rfl, rfl⟩ ⟨Nat.le_of_ble_eq_true rfl, Nat.le_of_ble_eq_true rfl⟩ rfl hl.1 rfl (Nat.le_of_ble_eq_true rfl) dX12_apart_89 (fun σ_20 H locs h S => ?_)
            refine lv_aload_n hx hb dX12_apart_92 rfl (lv_at hl 0 rfl) ?_
            refine lv_iload_n hx hb dX12_apart_93 rfl (lv_at hl 3 rfl) ?_
            refine o_callVv (k := 1) EvM_ok X S (mX12_go l r_13 σ_20 _ h) (by decide) rfl rfl k_1114 k_1111 k_1113 ks_40 k_14 ⟨rfl, by decide, by decide, by decide +kernel⟩ ⟨rfl, rfl⟩ ⟨Nat.le_of_ble_eq_true rfl, Nat.le_of_ble_eq_true rfl⟩ rfl hl.1 rfl (Nat.le_of_ble_eq_true rfl) dX12_apart_94 (fun σ_22 H locs h S => ?_)
            refine lv_iconst (v := 0) hx hb dX12_apart_97 (by decide) ?_
            refine lv_istore (lv' := [(4, .int 0), (0, .ref (ad 0)), (1, .int x1), (2, .int x2), (3, .int r_13)]) hx hb dX12_apart_98 hl (by decide) rfl (fun ls hl => ?_)
            obtain ⟨n_100, h⟩ := h
            refine mX12_apart_L100 l X hr x2 r_13 ?_ n_100 _ _ _ _ _ S (lv_sub hl [1, 3, 4, 0] rfl) h
            · intro σ_31 H locs ls S hl h
              refine lv_aload_n hx hb dX12_apart_151 rfl (lv_at hl 0 rfl) ?_
              refine lv_iload_n hx hb dX12_apart_152 rfl (lv_at hl 1 rfl) ?_
              refine o_callVv (k := 1) EvM_ok X S (mX12_layStripping l x2 σ_31 _ h) (by decide) rfl rfl k_1238 k_1235 k_1237 ks_60 k_14 ⟨rfl, by decide, by decide, by decide +kernel⟩ ⟨rfl, rfl⟩ ⟨Nat.le_of_ble_eq_true rfl, Nat.le_of_ble_eq_true rfl⟩ rfl hl.1 rfl (Nat.le_of_ble_eq_true rfl) dX12_apart_153 (fun σ_33 H locs h S => ?_)
              refine lv_aload_n hx hb dX12_apart_156 rfl (lv_at hl 0 rfl) ?_
              refine lv_iload_n hx hb dX12_apart_157 rfl (lv_at hl 2 rfl) ?_
              refine o_callVv (k := 1) EvM_ok X S (mX12_go l r_13 σ_33 _ h) (by decide) rfl rfl k_1114 k_1111 k_1113 ks_40 k_14 ⟨rfl, by decide, by decide, by decide +kernel⟩ ⟨rfl, rfl⟩ ⟨Nat.le_of_ble_eq_true rfl, Nat.le_of_ble_eq_true rfl⟩ rfl hl.1 rfl (Nat.le_of_ble_eq_true rfl) dX12_apart_158 (fun σ_35 H locs h S => ?_)
              refine lv_lconst (v := 0) hx hb dX12_apart_161 (by decide) ?_
              refine lv_lstore (lv' := [(4, .long (0 : Int64)), (0, .ref (ad 0)), (2, .int x2), (3, .int r_13)]) hx hb dX12_apart_162 hl (by decide) rfl (fun ls hl => ?_)
              refine lv_ldcw (v := (-1000000)) hx hb X.2.2.2.1 (X.2.2.2.2.1 _ k_1207) dX12_apart_164 ?_
              refine lv_istore (lv' := [(6, .int (-1000000)), (4, .long (0 : Int64)), (0, .ref (ad 0)), (2, .int x2), (3, .int r_13)]) hx hb dX12_apart_167 hl (by decide) rfl (fun ls hl => ?_)
              refine lv_iconst (v := 0) hx hb dX12_apart_169 (by decide) ?_
              refine lv_istore (lv' := [(7, .int 0), (6, .int (-1000000)), (4, .long (0 : Int64)), (0, .ref (ad 0)), (2, .int x2), (3, .int r_13)]) hx hb dX12_apart_170 hl (by decide) rfl (fun ls hl => ?_)
              obtain ⟨n_172, h⟩ := h
              refine mX12_apart_L172 l X hr r_13 ?_ n_172 _ _ _ _ _ _ _ S (lv_sub hl [3, 5, 2, 1, 0] rfl) h
              · intro x6_49 σ_50 H locs ls S hl h
                refine lv_iconst (v := 0) hx hb dX12_apart_267 (by decide) ?_
                refine lv_istore (lv' := [(7, .int 0), (0, .ref (ad 0)), (6, .int x6_49)]) hx hb dX12_apart_268 hl (by decide) rfl (fun ls hl => ?_)
                obtain ⟨n_270, h⟩ := h
                refine mX12_apart_L270 l X hr x6_49 ?_ n_270 _ _ _ _ _ S (lv_sub hl [1, 2, 0] rfl) h
                · intro σ_54 H locs ls S hl h
                  refine lv_iload hx hb dX12_apart_297 (lv_at hl 0 rfl) ?_
                  refine lv_i2l hx hb dX12_apart_299 rfl ?_
                  exact o_lret X S hr h dX12_apart_300
        · replace h := h.2 q_12
          exact mX12_apart_b47 l X hr S (lv_sub hl [] rfl) h
    · replace h := h.1 q_8
      exact mX12_apart_b16 l X hr S (lv_sub hl [] rfl) h
def wX12_begins_b29 (σ : Sg) (Q : Sg → Prop) : Prop :=
  Q σ
def wX12_begins (x1 : Int32) (σ : Sg) (Q : Sg → Prop) : Prop :=
  ((16 ≤ (σ 0 47) → wX12_begins_b29 σ Q) ∧ (¬ 16 ≤ (σ 0 47) → (vp_in (σ 0 47) 16 ∧ ∀ σ_2, σ_2 = sto σ 33 (σ 0 47).toNatClampNeg x1 → (∀ σ_3, σ_3 = sto σ_2 0 47 ((σ_2 0 47) + 1) → wX12_begins_b29 σ_3 Q))))
set_option maxHeartbeats 4000000 in
set_option maxRecDepth 100000 in
theorem mX12_begins_b29 {D : va_G} {cy : Nat → ClassId} {ad : Nat → Nat} (l : Launch) {p : Program} {e : Env} {s : State} {m : MethodId} {args : Array Value} {below : List Frame} {meth : Method} {c : Code} {A : Nat → Prop} {Q : Sg → Prop} (X : Fx D (tyM cy) EvM p s m args meth c cX12_begins 2 "BackBayModel" A) (hr : meth.sig.returnType = none) {σ : Sg} {H : Heap} {locs : List Loc} {ls : Array Slot} (S : St D ad 34 (shM cy ad) A s σ H locs) (hl : lv_has ls 2 []) (h : wX12_begins_b29 σ Q) : W p l e ({ frames := 0, cells := 0, slots := 0, locals := 0 }) s m args below meth c H locs 0 0 (MQ below (va_Qv Q (PosW D (tyM cy) ad 34 (shM cy ad) A) A) args s 0 0 A) (F0 m 29 ls []) := by
  have hx := X.1
  have hb := X.2.1
  unfold wX12_begins_b29 at h
  exact o_vret X S hr h dX12_begins_29
set_option maxHeartbeats 4000000 in
set_option maxRecDepth 100000 in
theorem mX12_begins {D : va_G} {cy : Nat → ClassId} {ad : Nat → Nat} (l : Launch) (x1 : Int32) (σ : Sg) (Q : Sg → Prop) (h : wX12_begins x1 σ Q) : MVM D cy ad l yX12_begins (.code yX12_begins cX12_begins 2 none :: gT) ({ frames := 0, cells := 0, slots := 0, locals := 0 }) [.ref (ad 0), .int x1] σ Q := by
  refine metV_of (by decide +kernel) (Nat.le_of_ble_eq_true rfl) ?_
  intro p e s m args below meth c A ls X hr hl S
  have X : Fx D (tyM cy) EvM p s m args meth c cX12_begins 2 "BackBayModel" A := X
  have hl : lv_has ls 2 [(0, .ref (ad 0)), (1, .int x1)] := hl
  have hx := X.1
  have hb := X.2.1
  unfold wX12_begins at h
  refine lv_aload_n hx hb dX12_begins_0 rfl (lv_at hl 0 rfl) ?_
  refine o_get X S 0 47 (by decide) rfl rfl in_12 (by decide) k_914 rfl dX12_begins_1 ?_
  refine lv_bipush (v := 16) hx hb dX12_begins_4 (by decide) ?_
  refine lv_icmp_ge (tgt := 29) hx hb dX12_begins_6 (by decide) (fun q_1 => ?_) (fun q_1 => ?_)
  · replace h := h.1 q_1
    exact mX12_begins_b29 l X hr S (lv_sub hl [] rfl) h
  · replace h := h.2 q_1
    refine lv_aload_n hx hb dX12_begins_9 rfl (lv_at hl 0 rfl) ?_
    refine o_get X S 0 46 (by decide) rfl rfl in_12 (by decide) k_913 rfl dX12_begins_10 ?_
    refine lv_aload_n hx hb dX12_begins_13 rfl (lv_at hl 0 rfl) ?_
    refine o_get X S 0 47 (by decide) rfl rfl in_12 (by decide) k_914 rfl dX12_begins_14 ?_
    refine lv_iload_n hx hb dX12_begins_17 rfl (lv_at hl 1 rfl) ?_
    refine o_iast X S 33 0 (by decide) (fun _ => rfl) rfl h.1 dX12_begins_18 (fun σ_2 H locs eσ_2 S => ?_)
    replace h := h.2 σ_2 eσ_2
    refine lv_aload_n hx hb dX12_begins_19 rfl (lv_at hl 0 rfl) ?_
    refine lv_dup hx hb dX12_begins_20 rfl ?_
    refine o_get X S 0 47 (by decide) rfl rfl in_12 (by decide) k_914 rfl dX12_begins_21 ?_
    refine lv_iconst (v := 1) hx hb dX12_begins_24 (by decide) ?_
    refine lv_iadd hx hb dX12_begins_25 ?_
    refine o_puti X S (fs := fun c => [.int (c 0), .ref (ad 1), .ref (ad 2), .ref (ad 3), .ref (ad 4), .int (c 5), .int (c 6), .int (c 7), .ref (ad 5), .ref (ad 6), .ref (ad 7), .ref (ad 8), .int (c 12), .int (c 13), .int (c 14), .int (c 15), .ref (ad 9), .int (c 17), .int (c 18), .int (c 19), .ref (ad 10), .ref (ad 11), .ref (ad 12), .ref (ad 13), .ref (ad 14), .ref (ad 15), .ref (ad 16), .int (c 27), .int (c 28), .ref (ad 17), .ref (ad 18), .ref (ad 19), .ref (ad 20), .ref (ad 21), .ref (ad 22), .ref (ad 23), .ref (ad 24), .ref (ad 25), .ref (ad 26), .ref (ad 27), .ref (ad 28), .ref (ad 29), .int (c 42), .ref (ad 30), .ref (ad 31), .ref (ad 32), .ref (ad 33), .int (c 47)]) 0 47 (by decide) (fun _ => rfl) (fun _ _ => rfl) rfl in_12 tyX12_ok nmX12 (by decide) k_914 rfl rfl rfl rfl (fun _ => Nat.le_of_ble_eq_true rfl) dX12_begins_26 (fun σ_3 H locs eσ_3 S => ?_)
    replace h := h σ_3 eσ_3
    exact mX12_begins_b29 l X hr S (lv_sub hl [] rfl) h
def wX12_isNode (x1 : Int32) (σ : Sg) (Q : Int32 → Sg → Prop) : Prop :=
  (wX12_within x1 0 ((σ 0 7) - 1) σ (fun r_1 σ_2 => (bok r_1 ∧ Q r_1 σ_2)))
set_option maxHeartbeats 4000000 in
set_option maxRecDepth 100000 in
theorem mX12_isNode {D : va_G} {cy : Nat → ClassId} {ad : Nat → Nat} (l : Launch) (x1 : Int32) (σ : Sg) (Q : Int32 → Sg → Prop) (h : wX12_isNode x1 σ Q) : MIM D cy ad l yX12_isNode (.code yX12_isNode cX12_isNode 2 (some .boolean) :: gT) ({ frames := 1, cells := 0, slots := 0, locals := 22 }) [.ref (ad 0), .int x1] σ Q := by
  refine metI_of (by decide +kernel) (Nat.le_of_ble_eq_true rfl) ?_
  intro p e s m args below meth c A ls X hr hl S
  have X : Fx D (tyM cy) EvM p s m args meth c cX12_isNode 2 "BackBayModel" A := X
  have hl : lv_has ls 2 [(0, .ref (ad 0)), (1, .int x1)] := hl
  have hx := X.1
  have hb := X.2.1
  unfold wX12_isNode at h
  refine lv_iload_n hx hb dX12_isNode_0 rfl (lv_at hl 1 rfl) ?_
  refine lv_iconst (v := 0) hx hb dX12_isNode_1 (by decide) ?_
  refine lv_aload_n hx hb dX12_isNode_2 rfl (lv_at hl 0 rfl) ?_
  refine o_get X S 0 7 (by decide) rfl rfl in_12 (by decide) k_874 rfl dX12_isNode_3 ?_
  refine lv_iconst (v := 1) hx hb dX12_isNode_6 (by decide) ?_
  refine lv_isub hx hb dX12_isNode_7 ?_
  refine o_callSi (k := 3) EvM_ok X S (mX12_within l x1 0 ((σ 0 7) - 1) σ _ h) k_1021 k_1019 k_1020 k_14 ⟨by decide, by decide, by decide +kernel⟩ ⟨rfl, rfl⟩ ⟨Nat.le_of_ble_eq_true rfl, Nat.le_of_ble_eq_true rfl⟩ rfl hl.1 rfl (Nat.le_of_ble_eq_true rfl) dX12_isNode_8 (fun r_1 σ_2 H locs h S => ?_)
  exact o_zret X S hr h.1 h.2 dX12_isNode_11
def wX12_kind_b22 (y0 : Int64) (σ : Sg) (Q : Int64 → Sg → Prop) : Prop :=
  Q y0 σ
def wX12_kind (x1 : Int32) (σ : Sg) (Q : Int64 → Sg → Prop) : Prop :=
  (wX12_isNode x1 σ (fun r_1 σ_2 => ((r_1 = 0 → (wX12_refused 1 σ_2 (fun r_4 σ_5 => wX12_kind_b22 r_4 σ_5 Q))) ∧ (¬ r_1 = 0 → (vp_in x1 120 ∧ wX12_kind_b22 ((σ_2 6 x1.toNatClampNeg).toInt64) σ_2 Q)))))
set_option maxHeartbeats 4000000 in
set_option maxRecDepth 100000 in
theorem mX12_kind_b22 {D : va_G} {cy : Nat → ClassId} {ad : Nat → Nat} (l : Launch) {p : Program} {e : Env} {s : State} {m : MethodId} {args : Array Value} {below : List Frame} {meth : Method} {c : Code} {A : Nat → Prop} {Q : Int64 → Sg → Prop} (X : Fx D (tyM cy) EvM p s m args meth c cX12_kind 2 "BackBayModel" A) (hr : meth.sig.returnType = some .long) (y0 : Int64) {σ : Sg} {H : Heap} {locs : List Loc} {ls : Array Slot} (S : St D ad 34 (shM cy ad) A s σ H locs) (hl : lv_has ls 2 []) (h : wX12_kind_b22 y0 σ Q) : W p l e ({ frames := 2, cells := 0, slots := 0, locals := 43 }) s m args below meth c H locs 0 0 (MQ below (va_Ql Q (PosW D (tyM cy) ad 34 (shM cy ad) A) A) args s 0 0 A) (F0 m 22 ls [.long y0]) := by
  have hx := X.1
  have hb := X.2.1
  unfold wX12_kind_b22 at h
  exact o_lret X S hr h dX12_kind_22
set_option maxHeartbeats 4000000 in
set_option maxRecDepth 100000 in
theorem mX12_kind {D : va_G} {cy : Nat → ClassId} {ad : Nat → Nat} (l : Launch) (x1 : Int32) (σ : Sg) (Q : Int64 → Sg → Prop) (h : wX12_kind x1 σ Q) : MLM D cy ad l yX12_kind (.code yX12_kind cX12_kind 2 (some .long) :: gT) ({ frames := 2, cells := 0, slots := 0, locals := 43 }) [.ref (ad 0), .int x1] σ Q := by
  refine metL_of (by decide +kernel) (Nat.le_of_ble_eq_true rfl) ?_
  intro p e s m args below meth c A ls X hr hl S
  have X : Fx D (tyM cy) EvM p s m args meth c cX12_kind 2 "BackBayModel" A := X
  have hl : lv_has ls 2 [(0, .ref (ad 0)), (1, .int x1)] := hl
  have hx := X.1
  have hb := X.2.1
  unfold wX12_kind at h
  refine lv_aload_n hx hb dX12_kind_0 rfl (lv_at hl 0 rfl) ?_
  refine lv_iload_n hx hb dX12_kind_1 rfl (lv_at hl 1 rfl) ?_
  refine o_callVi (k := 1) EvM_ok X S (mX12_isNode l x1 σ _ h) (by decide) rfl rfl k_1250 k_1247 k_1249 ks_61 k_14 ⟨rfl, by decide, by decide, by decide +kernel⟩ ⟨rfl, rfl⟩ ⟨Nat.le_of_ble_eq_true rfl, Nat.le_of_ble_eq_true rfl⟩ rfl hl.1 rfl (Nat.le_of_ble_eq_true rfl) dX12_kind_2 (fun r_1 σ_2 H locs h S => ?_)
  refine lv_if_eq (tgt := 18) hx hb dX12_kind_5 (by decide) (fun q_3 => ?_) (fun q_3 => ?_)
  · replace h := h.1 q_3
    refine lv_iconst (v := 1) hx hb dX12_kind_18 (by decide) ?_
    refine o_callSl (k := 1) EvM_ok X S (mX12_refused l 1 σ_2 _ h) k_1024 k_1022 k_1023 k_14 ⟨by decide, by decide, by decide +kernel⟩ ⟨rfl, rfl⟩ ⟨Nat.le_of_ble_eq_true rfl, Nat.le_of_ble_eq_true rfl⟩ rfl hl.1 rfl (Nat.le_of_ble_eq_true rfl) dX12_kind_19 (fun r_4 σ_5 H locs h S => ?_)
    exact mX12_kind_b22 l X hr r_4 S (lv_sub hl [] rfl) h
  · replace h := h.2 q_3
    refine lv_aload_n hx hb dX12_kind_8 rfl (lv_at hl 0 rfl) ?_
    refine o_get X S 0 9 (by decide) rfl rfl in_12 (by decide) k_876 rfl dX12_kind_9 ?_
    refine lv_iload_n hx hb dX12_kind_12 rfl (lv_at hl 1 rfl) ?_
    refine o_iald X S 6 0 (by decide) (fun _ => rfl) rfl h.1 dX12_kind_13 ?_
    replace h := h.2
    refine lv_i2l hx hb dX12_kind_14 rfl ?_
    refine lv_goto (tgt := 22) hx hb dX12_kind_15 (by decide) ?_
    exact mX12_kind_b22 l X hr ((σ_2 6 x1.toNatClampNeg).toInt64) S (lv_sub hl [] rfl) h
def wX12_isKind_b34 (y0 : Int32) (σ : Sg) (Q : Int32 → Sg → Prop) : Prop :=
  (bok y0 ∧ Q y0 σ)
def wX12_isKind_b29 (σ : Sg) (Q : Int32 → Sg → Prop) : Prop :=
  wX12_isKind_b34 1 σ Q
def wX12_isKind_b33 (σ : Sg) (Q : Int32 → Sg → Prop) : Prop :=
  wX12_isKind_b34 0 σ Q
def wX12_isKind_b19 (x0 : Int32) (x1 : Int32) (σ : Sg) (Q : Int32 → Sg → Prop) : Prop :=
  ((x0 = 4 → ((x1 = 3 → wX12_isKind_b29 σ Q) ∧ (¬ x1 = 3 → wX12_isKind_b33 σ Q))) ∧ (¬ x0 = 4 → wX12_isKind_b33 σ Q))
def wX12_isKind (x0 : Int32) (x1 : Int32) (σ : Sg) (Q : Int32 → Sg → Prop) : Prop :=
  ((x1 = 0 → wX12_isKind_b29 σ Q) ∧ (¬ x1 = 0 → ((x0 = x1 → wX12_isKind_b29 σ Q) ∧ (¬ x0 = x1 → ((x0 = 2 → ((x1 = 1 → wX12_isKind_b29 σ Q) ∧ (¬ x1 = 1 → wX12_isKind_b19 x0 x1 σ Q))) ∧ (¬ x0 = 2 → wX12_isKind_b19 x0 x1 σ Q))))))
set_option maxHeartbeats 4000000 in
set_option maxRecDepth 100000 in
theorem mX12_isKind_b34 {D : va_G} {cy : Nat → ClassId} {ad : Nat → Nat} (l : Launch) {p : Program} {e : Env} {s : State} {m : MethodId} {args : Array Value} {below : List Frame} {meth : Method} {c : Code} {A : Nat → Prop} {Q : Int32 → Sg → Prop} (X : Fx D (tyM cy) EvM p s m args meth c cX12_isKind 2 "BackBayModel" A) (hr : meth.sig.returnType = some .boolean) (y0 : Int32) {σ : Sg} {H : Heap} {locs : List Loc} {ls : Array Slot} (S : St D ad 34 (shM cy ad) A s σ H locs) (hl : lv_has ls 2 []) (h : wX12_isKind_b34 y0 σ Q) : W p l e ({ frames := 0, cells := 0, slots := 0, locals := 0 }) s m args below meth c H locs 0 0 (MQ below (va_Qi Q (PosW D (tyM cy) ad 34 (shM cy ad) A) A) args s 0 0 A) (F0 m 34 ls [.int y0]) := by
  have hx := X.1
  have hb := X.2.1
  unfold wX12_isKind_b34 at h
  exact o_zret X S hr h.1 h.2 dX12_isKind_34
set_option maxHeartbeats 4000000 in
set_option maxRecDepth 100000 in
theorem mX12_isKind_b29 {D : va_G} {cy : Nat → ClassId} {ad : Nat → Nat} (l : Launch) {p : Program} {e : Env} {s : State} {m : MethodId} {args : Array Value} {below : List Frame} {meth : Method} {c : Code} {A : Nat → Prop} {Q : Int32 → Sg → Prop} (X : Fx D (tyM cy) EvM p s m args meth c cX12_isKind 2 "BackBayModel" A) (hr : meth.sig.returnType = some .boolean) {σ : Sg} {H : Heap} {locs : List Loc} {ls : Array Slot} (S : St D ad 34 (shM cy ad) A s σ H locs) (hl : lv_has ls 2 []) (h : wX12_isKind_b29 σ Q) : W p l e ({ frames := 0, cells := 0, slots := 0, locals := 0 }) s m args below meth c H locs 0 0 (MQ below (va_Qi Q (PosW D (tyM cy) ad 34 (shM cy ad) A) A) args s 0 0 A) (F0 m 29 ls []) := by
  have hx := X.1
  have hb := X.2.1
  unfold wX12_isKind_b29 at h
  refine lv_iconst (v := 1) hx hb dX12_isKind_29 (by decide) ?_
  refine lv_goto (tgt := 34) hx hb dX12_isKind_30 (by decide) ?_
  exact mX12_isKind_b34 l X hr 1 S (lv_sub hl [] rfl) h
set_option maxHeartbeats 4000000 in
set_option maxRecDepth 100000 in
theorem mX12_isKind_b33 {D : va_G} {cy : Nat → ClassId} {ad : Nat → Nat} (l : Launch) {p : Program} {e : Env} {s : State} {m : MethodId} {args : Array Value} {below : List Frame} {meth : Method} {c : Code} {A : Nat → Prop} {Q : Int32 → Sg → Prop} (X : Fx D (tyM cy) EvM p s m args meth c cX12_isKind 2 "BackBayModel" A) (hr : meth.sig.returnType = some .boolean) {σ : Sg} {H : Heap} {locs : List Loc} {ls : Array Slot} (S : St D ad 34 (shM cy ad) A s σ H locs) (hl : lv_has ls 2 []) (h : wX12_isKind_b33 σ Q) : W p l e ({ frames := 0, cells := 0, slots := 0, locals := 0 }) s m args below meth c H locs 0 0 (MQ below (va_Qi Q (PosW D (tyM cy) ad 34 (shM cy ad) A) A) args s 0 0 A) (F0 m 33 ls []) := by
  have hx := X.1
  have hb := X.2.1
  unfold wX12_isKind_b33 at h
  refine lv_iconst (v := 0) hx hb dX12_isKind_33 (by decide) ?_
  exact mX12_isKind_b34 l X hr 0 S (lv_sub hl [] rfl) h
set_option maxHeartbeats 4000000 in
set_option maxRecDepth 100000 in
theorem mX12_isKind_b19 {D : va_G} {cy : Nat → ClassId} {ad : Nat → Nat} (l : Launch) {p : Program} {e : Env} {s : State} {m : MethodId} {args : Array Value} {below : List Frame} {meth : Method} {c : Code} {A : Nat → Prop} {Q : Int32 → Sg → Prop} (X : Fx D (tyM cy) EvM p s m args meth c cX12_isKind 2 "BackBayModel" A) (hr : meth.sig.returnType = some .boolean) (x0 : Int32) (x1 : Int32) {σ : Sg} {H : Heap} {locs : List Loc} {ls : Array Slot} (S : St D ad 34 (shM cy ad) A s σ H locs) (hl : lv_has ls 2 [(0, .int x0), (1, .int x1)]) (h : wX12_isKind_b19 x0 x1 σ Q) : W p l e ({ frames := 0, cells := 0, slots := 0, locals := 0 }) s m args below meth c H locs 0 0 (MQ below (va_Qi Q (PosW D (tyM cy) ad 34 (shM cy ad) A) A) args s 0 0 A) (F0 m 19 ls []) := by
  have hx := X.1
  have hb := X.2.1
  unfold wX12_isKind_b19 at h
  refine lv_iload_n hx hb dX12_isKind_19 rfl (lv_at hl 0 rfl) ?_
  refine lv_iconst (v := 4) hx hb dX12_isKind_20 (by decide) ?_
  refine lv_icmp_ne (tgt := 33) hx hb dX12_isKind_21 (by decide) (fun q_4 => ?_) (fun q_4 => ?_)
  · replace h := h.2 q_4
    exact mX12_isKind_b33 l X hr S (lv_sub hl [] rfl) h
  · replace h := h.1 q_4
    refine lv_iload_n hx hb dX12_isKind_24 rfl (lv_at hl 1 rfl) ?_
    refine lv_iconst (v := 3) hx hb dX12_isKind_25 (by decide) ?_
    refine lv_icmp_ne (tgt := 33) hx hb dX12_isKind_26 (by decide) (fun q_5 => ?_) (fun q_5 => ?_)
    · replace h := h.2 q_5
      exact mX12_isKind_b33 l X hr S (lv_sub hl [] rfl) h
    · replace h := h.1 q_5
      exact mX12_isKind_b29 l X hr S (lv_sub hl [] rfl) h
set_option maxHeartbeats 4000000 in
set_option maxRecDepth 100000 in
theorem mX12_isKind {D : va_G} {cy : Nat → ClassId} {ad : Nat → Nat} (l : Launch) (x0 : Int32) (x1 : Int32) (σ : Sg) (Q : Int32 → Sg → Prop) (h : wX12_isKind x0 x1 σ Q) : MIM D cy ad l yX12_isKind (.code yX12_isKind cX12_isKind 2 (some .boolean) :: gT) ({ frames := 0, cells := 0, slots := 0, locals := 0 }) [.int x0, .int x1] σ Q := by
  refine metI_of (by decide +kernel) (Nat.le_of_ble_eq_true rfl) ?_
  intro p e s m args below meth c A ls X hr hl S
  have X : Fx D (tyM cy) EvM p s m args meth c cX12_isKind 2 "BackBayModel" A := X
  have hl : lv_has ls 2 [(0, .int x0), (1, .int x1)] := hl
  have hx := X.1
  have hb := X.2.1
  unfold wX12_isKind at h
  refine lv_iload_n hx hb dX12_isKind_0 rfl (lv_at hl 1 rfl) ?_
  refine lv_if_eq (tgt := 29) hx hb dX12_isKind_1 (by decide) (fun q_1 => ?_) (fun q_1 => ?_)
  · replace h := h.1 q_1
    exact mX12_isKind_b29 l X hr S (lv_sub hl [] rfl) h
  · replace h := h.2 q_1
    refine lv_iload_n hx hb dX12_isKind_4 rfl (lv_at hl 0 rfl) ?_
    refine lv_iload_n hx hb dX12_isKind_5 rfl (lv_at hl 1 rfl) ?_
    refine lv_icmp_eq (tgt := 29) hx hb dX12_isKind_6 (by decide) (fun q_2 => ?_) (fun q_2 => ?_)
    · replace h := h.1 q_2
      exact mX12_isKind_b29 l X hr S (lv_sub hl [] rfl) h
    · replace h := h.2 q_2
      refine lv_iload_n hx hb dX12_isKind_9 rfl (lv_at hl 0 rfl) ?_
      refine lv_iconst (v := 2) hx hb dX12_isKind_10 (by decide) ?_
      refine lv_icmp_ne (tgt := 19) hx hb dX12_isKind_11 (by decide) (fun q_3 => ?_) (fun q_3 => ?_)
      · replace h := h.2 q_3
        exact mX12_isKind_b19 l X hr x0 x1 S (lv_sub hl [0, 1] rfl) h
      · replace h := h.1 q_3
        refine lv_iload_n hx hb dX12_isKind_14 rfl (lv_at hl 1 rfl) ?_
        refine lv_iconst (v := 1) hx hb dX12_isKind_15 (by decide) ?_
        refine lv_icmp_eq (tgt := 29) hx hb dX12_isKind_16 (by decide) (fun q_6 => ?_) (fun q_6 => ?_)
        · replace h := h.1 q_6
          exact mX12_isKind_b29 l X hr S (lv_sub hl [] rfl) h
        · replace h := h.2 q_6
          exact mX12_isKind_b19 l X hr x0 x1 S (lv_sub hl [0, 1] rfl) h
def wX12_as_b17 (σ : Sg) (Q : Int64 → Sg → Prop) : Prop :=
  (wX12_refused 1 σ (fun r_4 σ_5 => Q r_4 σ_5))
def wX12_as (x1 : Int32) (x2 : Int32) (σ : Sg) (Q : Int64 → Sg → Prop) : Prop :=
  (wX12_isNode x1 σ (fun r_1 σ_2 => ((r_1 = 0 → wX12_as_b17 σ_2 Q) ∧ (¬ r_1 = 0 → (wX12_within x2 0 5 σ_2 (fun r_6 σ_7 => ((r_6 = 0 → wX12_as_b17 σ_7 Q) ∧ (¬ r_6 = 0 → (vp_in x1 120 ∧ (wX12_isKind (σ_7 6 x1.toNatClampNeg) x2 σ_7 (fun r_9 σ_10 => ((r_9 = 0 → (wX12_finds 3 σ_10 (fun r_13 σ_14 => Q r_13 σ_14))) ∧ (¬ r_9 = 0 → (∀ σ_12, σ_12 = sto σ_10 0 0 0 → (vp_in x1 120 ∧ Q ((σ_12 8 x1.toNatClampNeg).toInt64) σ_12)))))))))))))))
set_option maxHeartbeats 4000000 in
set_option maxRecDepth 100000 in
theorem mX12_as_b17 {D : va_G} {cy : Nat → ClassId} {ad : Nat → Nat} (l : Launch) {p : Program} {e : Env} {s : State} {m : MethodId} {args : Array Value} {below : List Frame} {meth : Method} {c : Code} {A : Nat → Prop} {Q : Int64 → Sg → Prop} (X : Fx D (tyM cy) EvM p s m args meth c cX12_as 3 "BackBayModel" A) (hr : meth.sig.returnType = some .long) {σ : Sg} {H : Heap} {locs : List Loc} {ls : Array Slot} (S : St D ad 34 (shM cy ad) A s σ H locs) (hl : lv_has ls 3 []) (h : wX12_as_b17 σ Q) : W p l e ({ frames := 2, cells := 0, slots := 0, locals := 43 }) s m args below meth c H locs 0 0 (MQ below (va_Ql Q (PosW D (tyM cy) ad 34 (shM cy ad) A) A) args s 0 0 A) (F0 m 17 ls []) := by
  have hx := X.1
  have hb := X.2.1
  unfold wX12_as_b17 at h
  refine lv_iconst (v := 1) hx hb dX12_as_17 (by decide) ?_
  refine o_callSl (k := 1) EvM_ok X S (mX12_refused l 1 σ _ h) k_1024 k_1022 k_1023 k_14 ⟨by decide, by decide, by decide +kernel⟩ ⟨rfl, rfl⟩ ⟨Nat.le_of_ble_eq_true rfl, Nat.le_of_ble_eq_true rfl⟩ rfl hl.1 rfl (Nat.le_of_ble_eq_true rfl) dX12_as_18 (fun r_4 σ_5 H locs h S => ?_)
  exact o_lret X S hr h dX12_as_21
set_option maxHeartbeats 4000000 in
set_option maxRecDepth 100000 in
theorem mX12_as {D : va_G} {cy : Nat → ClassId} {ad : Nat → Nat} (l : Launch) (x1 : Int32) (x2 : Int32) (σ : Sg) (Q : Int64 → Sg → Prop) (h : wX12_as x1 x2 σ Q) : MLM D cy ad l yX12_as (.code yX12_as cX12_as 3 (some .long) :: gT) ({ frames := 2, cells := 0, slots := 0, locals := 43 }) [.ref (ad 0), .int x1, .int x2] σ Q := by
  refine metL_of (by decide +kernel) (Nat.le_of_ble_eq_true rfl) ?_
  intro p e s m args below meth c A ls X hr hl S
  have X : Fx D (tyM cy) EvM p s m args meth c cX12_as 3 "BackBayModel" A := X
  have hl : lv_has ls 3 [(0, .ref (ad 0)), (1, .int x1), (2, .int x2)] := hl
  have hx := X.1
  have hb := X.2.1
  unfold wX12_as at h
  refine lv_aload_n hx hb dX12_as_0 rfl (lv_at hl 0 rfl) ?_
  refine lv_iload_n hx hb dX12_as_1 rfl (lv_at hl 1 rfl) ?_
  refine o_callVi (k := 1) EvM_ok X S (mX12_isNode l x1 σ _ h) (by decide) rfl rfl k_1250 k_1247 k_1249 ks_61 k_14 ⟨rfl, by decide, by decide, by decide +kernel⟩ ⟨rfl, rfl⟩ ⟨Nat.le_of_ble_eq_true rfl, Nat.le_of_ble_eq_true rfl⟩ rfl hl.1 rfl (Nat.le_of_ble_eq_true rfl) dX12_as_2 (fun r_1 σ_2 H locs h S => ?_)
  refine lv_if_eq (tgt := 17) hx hb dX12_as_5 (by decide) (fun q_3 => ?_) (fun q_3 => ?_)
  · replace h := h.1 q_3
    exact mX12_as_b17 l X hr S (lv_sub hl [] rfl) h
  · replace h := h.2 q_3
    refine lv_iload_n hx hb dX12_as_8 rfl (lv_at hl 2 rfl) ?_
    refine lv_iconst (v := 0) hx hb dX12_as_9 (by decide) ?_
    refine lv_iconst (v := 5) hx hb dX12_as_10 (by decide) ?_
    refine o_callSi (k := 3) EvM_ok X S (mX12_within l x2 0 5 σ_2 _ h) k_1021 k_1019 k_1020 k_14 ⟨by decide, by decide, by decide +kernel⟩ ⟨rfl, rfl⟩ ⟨Nat.le_of_ble_eq_true rfl, Nat.le_of_ble_eq_true rfl⟩ rfl hl.1 rfl (Nat.le_of_ble_eq_true rfl) dX12_as_11 (fun r_6 σ_7 H locs h S => ?_)
    refine lv_if_ne (tgt := 22) hx hb dX12_as_14 (by decide) (fun q_8 => ?_) (fun q_8 => ?_)
    · replace h := h.2 q_8
      refine lv_aload_n hx hb dX12_as_22 rfl (lv_at hl 0 rfl) ?_
      refine o_get X S 0 9 (by decide) rfl rfl in_12 (by decide) k_876 rfl dX12_as_23 ?_
      refine lv_iload_n hx hb dX12_as_26 rfl (lv_at hl 1 rfl) ?_
      refine o_iald X S 6 0 (by decide) (fun _ => rfl) rfl h.1 dX12_as_27 ?_
      replace h := h.2
      refine lv_iload_n hx hb dX12_as_28 rfl (lv_at hl 2 rfl) ?_
      refine o_callSi (k := 2) EvM_ok X S (mX12_isKind l (σ_7 6 x1.toNatClampNeg) x2 σ_7 _ h) k_1257 k_1255 k_1256 k_14 ⟨by decide, by decide, by decide +kernel⟩ ⟨rfl, rfl⟩ ⟨Nat.le_of_ble_eq_true rfl, Nat.le_of_ble_eq_true rfl⟩ rfl hl.1 rfl (Nat.le_of_ble_eq_true rfl) dX12_as_29 (fun r_9 σ_10 H locs h S => ?_)
      refine lv_if_ne (tgt := 41) hx hb dX12_as_32 (by decide) (fun q_11 => ?_) (fun q_11 => ?_)
      · replace h := h.2 q_11
        refine lv_aload_n hx hb dX12_as_41 rfl (lv_at hl 0 rfl) ?_
        refine lv_iconst (v := 0) hx hb dX12_as_42 (by decide) ?_
        refine o_puti X S (fs := fun c => [.int (c 0), .ref (ad 1), .ref (ad 2), .ref (ad 3), .ref (ad 4), .int (c 5), .int (c 6), .int (c 7), .ref (ad 5), .ref (ad 6), .ref (ad 7), .ref (ad 8), .int (c 12), .int (c 13), .int (c 14), .int (c 15), .ref (ad 9), .int (c 17), .int (c 18), .int (c 19), .ref (ad 10), .ref (ad 11), .ref (ad 12), .ref (ad 13), .ref (ad 14), .ref (ad 15), .ref (ad 16), .int (c 27), .int (c 28), .ref (ad 17), .ref (ad 18), .ref (ad 19), .ref (ad 20), .ref (ad 21), .ref (ad 22), .ref (ad 23), .ref (ad 24), .ref (ad 25), .ref (ad 26), .ref (ad 27), .ref (ad 28), .ref (ad 29), .int (c 42), .ref (ad 30), .ref (ad 31), .ref (ad 32), .ref (ad 33), .int (c 47)]) 0 0 (by decide) (fun _ => rfl) (fun _ _ => rfl) rfl in_12 tyX12_ok nmX12 (by decide) k_867 rfl rfl rfl rfl (fun _ => Nat.le_of_ble_eq_true rfl) dX12_as_43 (fun σ_12 H locs eσ_12 S => ?_)
        replace h := h σ_12 eσ_12
        refine lv_aload_n hx hb dX12_as_46 rfl (lv_at hl 0 rfl) ?_
        refine o_get X S 0 11 (by decide) rfl rfl in_12 (by decide) k_878 rfl dX12_as_47 ?_
        refine lv_iload_n hx hb dX12_as_50 rfl (lv_at hl 1 rfl) ?_
        refine o_iald X S 8 0 (by decide) (fun _ => rfl) rfl h.1 dX12_as_51 ?_
        replace h := h.2
        refine lv_i2l hx hb dX12_as_52 rfl ?_
        exact o_lret X S hr h dX12_as_53
      · replace h := h.1 q_11
        refine lv_aload_n hx hb dX12_as_35 rfl (lv_at hl 0 rfl) ?_
        refine lv_iconst (v := 3) hx hb dX12_as_36 (by decide) ?_
        refine o_callVl (k := 1) EvM_ok X S (mX12_finds l 3 σ_10 _ h) (by decide) rfl rfl k_1029 k_1026 k_1028 ks_34 k_14 ⟨rfl, by decide, by decide, by decide +kernel⟩ ⟨rfl, rfl⟩ ⟨Nat.le_of_ble_eq_true rfl, Nat.le_of_ble_eq_true rfl⟩ rfl hl.1 rfl (Nat.le_of_ble_eq_true rfl) dX12_as_37 (fun r_13 σ_14 H locs h S => ?_)
        exact o_lret X S hr h dX12_as_40
    · replace h := h.1 q_8
      exact mX12_as_b17 l X hr S (lv_sub hl [] rfl) h
def wX12_markOf_b107 (x1 : Int32) (σ : Sg) (Q : Int64 → Sg → Prop) : Prop :=
  (wX12_begins 20 σ (fun σ_15 => Q (x1.toInt64) σ_15))
def wX12_markOf (x1 : Int32) (σ : Sg) (Q : Int64 → Sg → Prop) : Prop :=
  (vp_in x1 120 ∧ (((σ 6 x1.toNatClampNeg) = 1 → (wX12_begins 21 σ (fun σ_3 => (wX12_begins 20 σ_3 (fun σ_5 => Q ((x1.toInt64) + (100 : Int64)) σ_5))))) ∧ (¬ (σ 6 x1.toNatClampNeg) = 1 → (((σ 6 x1.toNatClampNeg) = 2 → (wX12_begins 22 σ (fun σ_8 => (wX12_begins 21 σ_8 (fun σ_10 => (wX12_begins 20 σ_10 (fun σ_12 => Q ((2 : Int64) * ((x1.toInt64) + (100 : Int64))) σ_12))))))) ∧ (¬ (σ 6 x1.toNatClampNeg) = 2 → (((σ 6 x1.toNatClampNeg) = 3 → wX12_markOf_b107 x1 σ Q) ∧ (¬ (σ 6 x1.toNatClampNeg) = 3 → (((σ 6 x1.toNatClampNeg) = 4 → (wX12_begins 23 σ (fun σ_18 => (wX12_begins 20 σ_18 (fun σ_20 => (vp_in x1 120 ∧ Q ((x1.toInt64) + ((σ_20 8 x1.toNatClampNeg).toInt64)) σ_20)))))) ∧ (¬ (σ 6 x1.toNatClampNeg) = 4 → wX12_markOf_b107 x1 σ Q)))))))))
set_option maxHeartbeats 4000000 in
set_option maxRecDepth 100000 in
theorem mX12_markOf_b107 {D : va_G} {cy : Nat → ClassId} {ad : Nat → Nat} (l : Launch) {p : Program} {e : Env} {s : State} {m : MethodId} {args : Array Value} {below : List Frame} {meth : Method} {c : Code} {A : Nat → Prop} {Q : Int64 → Sg → Prop} (X : Fx D (tyM cy) EvM p s m args meth c cX12_markOf 2 "BackBayModel" A) (hr : meth.sig.returnType = some .long) (x1 : Int32) {σ : Sg} {H : Heap} {locs : List Loc} {ls : Array Slot} (S : St D ad 34 (shM cy ad) A s σ H locs) (hl : lv_has ls 2 [(0, .ref (ad 0)), (1, .int x1)]) (h : wX12_markOf_b107 x1 σ Q) : W p l e ({ frames := 1, cells := 0, slots := 0, locals := 21 }) s m args below meth c H locs 0 0 (MQ below (va_Ql Q (PosW D (tyM cy) ad 34 (shM cy ad) A) A) args s 0 0 A) (F0 m 107 ls []) := by
  have hx := X.1
  have hb := X.2.1
  unfold wX12_markOf_b107 at h
  refine lv_aload_n hx hb dX12_markOf_107 rfl (lv_at hl 0 rfl) ?_
  refine lv_bipush (v := 20) hx hb dX12_markOf_108 (by decide) ?_
  refine o_callVv (k := 1) EvM_ok X S (mX12_begins l 20 σ _ h) (by decide) rfl rfl k_1269 k_1266 k_1268 ks_63 k_14 ⟨rfl, by decide, by decide, by decide +kernel⟩ ⟨rfl, rfl⟩ ⟨Nat.le_of_ble_eq_true rfl, Nat.le_of_ble_eq_true rfl⟩ rfl hl.1 rfl (Nat.le_of_ble_eq_true rfl) dX12_markOf_110 (fun σ_15 H locs h S => ?_)
  refine lv_iload_n hx hb dX12_markOf_113 rfl (lv_at hl 1 rfl) ?_
  refine lv_i2l hx hb dX12_markOf_114 rfl ?_
  exact o_lret X S hr h dX12_markOf_115
set_option maxHeartbeats 4000000 in
set_option maxRecDepth 100000 in
theorem mX12_markOf {D : va_G} {cy : Nat → ClassId} {ad : Nat → Nat} (l : Launch) (x1 : Int32) (σ : Sg) (Q : Int64 → Sg → Prop) (h : wX12_markOf x1 σ Q) : MLM D cy ad l yX12_markOf (.code yX12_markOf cX12_markOf 2 (some .long) :: gT) ({ frames := 1, cells := 0, slots := 0, locals := 21 }) [.ref (ad 0), .int x1] σ Q := by
  refine metL_of (by decide +kernel) (Nat.le_of_ble_eq_true rfl) ?_
  intro p e s m args below meth c A ls X hr hl S
  have X : Fx D (tyM cy) EvM p s m args meth c cX12_markOf 2 "BackBayModel" A := X
  have hl : lv_has ls 2 [(0, .ref (ad 0)), (1, .int x1)] := hl
  have hx := X.1
  have hb := X.2.1
  unfold wX12_markOf at h
  refine lv_aload_n hx hb dX12_markOf_0 rfl (lv_at hl 0 rfl) ?_
  refine o_get X S 0 9 (by decide) rfl rfl in_12 (by decide) k_876 rfl dX12_markOf_1 ?_
  refine lv_iload_n hx hb dX12_markOf_4 rfl (lv_at hl 1 rfl) ?_
  refine o_iald X S 6 0 (by decide) (fun _ => rfl) rfl h.1 dX12_markOf_5 ?_
  replace h := h.2
  by_cases q_1 : (σ 6 x1.toNatClampNeg) = 1
  · refine lv_tableIn (tgt := 36) hx hb dX12_markOf_6 (by rw [q_1] <;> decide) (by rw [q_1] <;> decide) (by rw [q_1] <;> rfl) (by decide) ?_
    replace h := h.1 q_1
    refine lv_aload_n hx hb dX12_markOf_36 rfl (lv_at hl 0 rfl) ?_
    refine lv_bipush (v := 21) hx hb dX12_markOf_37 (by decide) ?_
    refine o_callVv (k := 1) EvM_ok X S (mX12_begins l 21 σ _ h) (by decide) rfl rfl k_1269 k_1266 k_1268 ks_63 k_14 ⟨rfl, by decide, by decide, by decide +kernel⟩ ⟨rfl, rfl⟩ ⟨Nat.le_of_ble_eq_true rfl, Nat.le_of_ble_eq_true rfl⟩ rfl hl.1 rfl (Nat.le_of_ble_eq_true rfl) dX12_markOf_39 (fun σ_3 H locs h S => ?_)
    refine lv_aload_n hx hb dX12_markOf_42 rfl (lv_at hl 0 rfl) ?_
    refine lv_bipush (v := 20) hx hb dX12_markOf_43 (by decide) ?_
    refine o_callVv (k := 1) EvM_ok X S (mX12_begins l 20 σ_3 _ h) (by decide) rfl rfl k_1269 k_1266 k_1268 ks_63 k_14 ⟨rfl, by decide, by decide, by decide +kernel⟩ ⟨rfl, rfl⟩ ⟨Nat.le_of_ble_eq_true rfl, Nat.le_of_ble_eq_true rfl⟩ rfl hl.1 rfl (Nat.le_of_ble_eq_true rfl) dX12_markOf_45 (fun σ_5 H locs h S => ?_)
    refine lv_iload_n hx hb dX12_markOf_48 rfl (lv_at hl 1 rfl) ?_
    refine lv_i2l hx hb dX12_markOf_49 rfl ?_
    refine lv_ldc2 (v := 100) hx hb X.2.2.2.1 (X.2.2.2.2.1 _ k_1274) dX12_markOf_50 ?_
    refine lv_ladd hx hb dX12_markOf_53 ?_
    exact o_lret X S hr h dX12_markOf_54
  replace h := h.2 q_1
  by_cases q_6 : (σ 6 x1.toNatClampNeg) = 2
  · refine lv_tableIn (tgt := 55) hx hb dX12_markOf_6 (by rw [q_6] <;> decide) (by rw [q_6] <;> decide) (by rw [q_6] <;> rfl) (by decide) ?_
    replace h := h.1 q_6
    refine lv_aload_n hx hb dX12_markOf_55 rfl (lv_at hl 0 rfl) ?_
    refine lv_bipush (v := 22) hx hb dX12_markOf_56 (by decide) ?_
    refine o_callVv (k := 1) EvM_ok X S (mX12_begins l 22 σ _ h) (by decide) rfl rfl k_1269 k_1266 k_1268 ks_63 k_14 ⟨rfl, by decide, by decide, by decide +kernel⟩ ⟨rfl, rfl⟩ ⟨Nat.le_of_ble_eq_true rfl, Nat.le_of_ble_eq_true rfl⟩ rfl hl.1 rfl (Nat.le_of_ble_eq_true rfl) dX12_markOf_58 (fun σ_8 H locs h S => ?_)
    refine lv_aload_n hx hb dX12_markOf_61 rfl (lv_at hl 0 rfl) ?_
    refine lv_bipush (v := 21) hx hb dX12_markOf_62 (by decide) ?_
    refine o_callVv (k := 1) EvM_ok X S (mX12_begins l 21 σ_8 _ h) (by decide) rfl rfl k_1269 k_1266 k_1268 ks_63 k_14 ⟨rfl, by decide, by decide, by decide +kernel⟩ ⟨rfl, rfl⟩ ⟨Nat.le_of_ble_eq_true rfl, Nat.le_of_ble_eq_true rfl⟩ rfl hl.1 rfl (Nat.le_of_ble_eq_true rfl) dX12_markOf_64 (fun σ_10 H locs h S => ?_)
    refine lv_aload_n hx hb dX12_markOf_67 rfl (lv_at hl 0 rfl) ?_
    refine lv_bipush (v := 20) hx hb dX12_markOf_68 (by decide) ?_
    refine o_callVv (k := 1) EvM_ok X S (mX12_begins l 20 σ_10 _ h) (by decide) rfl rfl k_1269 k_1266 k_1268 ks_63 k_14 ⟨rfl, by decide, by decide, by decide +kernel⟩ ⟨rfl, rfl⟩ ⟨Nat.le_of_ble_eq_true rfl, Nat.le_of_ble_eq_true rfl⟩ rfl hl.1 rfl (Nat.le_of_ble_eq_true rfl) dX12_markOf_70 (fun σ_12 H locs h S => ?_)
    refine lv_ldc2 (v := 2) hx hb X.2.2.2.1 (X.2.2.2.2.1 _ k_1275) dX12_markOf_73 ?_
    refine lv_iload_n hx hb dX12_markOf_76 rfl (lv_at hl 1 rfl) ?_
    refine lv_i2l hx hb dX12_markOf_77 rfl ?_
    refine lv_ldc2 (v := 100) hx hb X.2.2.2.1 (X.2.2.2.2.1 _ k_1274) dX12_markOf_78 ?_
    refine lv_ladd hx hb dX12_markOf_81 ?_
    refine lv_lmul hx hb dX12_markOf_82 ?_
    exact o_lret X S hr h dX12_markOf_83
  replace h := h.2 q_6
  by_cases q_13 : (σ 6 x1.toNatClampNeg) = 3
  · refine lv_tableIn (tgt := 107) hx hb dX12_markOf_6 (by rw [q_13] <;> decide) (by rw [q_13] <;> decide) (by rw [q_13] <;> rfl) (by decide) ?_
    replace h := h.1 q_13
    exact mX12_markOf_b107 l X hr x1 S (lv_sub hl [0, 1] rfl) h
  replace h := h.2 q_13
  by_cases q_16 : (σ 6 x1.toNatClampNeg) = 4
  · refine lv_tableIn (tgt := 84) hx hb dX12_markOf_6 (by rw [q_16] <;> decide) (by rw [q_16] <;> decide) (by rw [q_16] <;> rfl) (by decide) ?_
    replace h := h.1 q_16
    refine lv_aload_n hx hb dX12_markOf_84 rfl (lv_at hl 0 rfl) ?_
    refine lv_bipush (v := 23) hx hb dX12_markOf_85 (by decide) ?_
    refine o_callVv (k := 1) EvM_ok X S (mX12_begins l 23 σ _ h) (by decide) rfl rfl k_1269 k_1266 k_1268 ks_63 k_14 ⟨rfl, by decide, by decide, by decide +kernel⟩ ⟨rfl, rfl⟩ ⟨Nat.le_of_ble_eq_true rfl, Nat.le_of_ble_eq_true rfl⟩ rfl hl.1 rfl (Nat.le_of_ble_eq_true rfl) dX12_markOf_87 (fun σ_18 H locs h S => ?_)
    refine lv_aload_n hx hb dX12_markOf_90 rfl (lv_at hl 0 rfl) ?_
    refine lv_bipush (v := 20) hx hb dX12_markOf_91 (by decide) ?_
    refine o_callVv (k := 1) EvM_ok X S (mX12_begins l 20 σ_18 _ h) (by decide) rfl rfl k_1269 k_1266 k_1268 ks_63 k_14 ⟨rfl, by decide, by decide, by decide +kernel⟩ ⟨rfl, rfl⟩ ⟨Nat.le_of_ble_eq_true rfl, Nat.le_of_ble_eq_true rfl⟩ rfl hl.1 rfl (Nat.le_of_ble_eq_true rfl) dX12_markOf_93 (fun σ_20 H locs h S => ?_)
    refine lv_iload_n hx hb dX12_markOf_96 rfl (lv_at hl 1 rfl) ?_
    refine lv_i2l hx hb dX12_markOf_97 rfl ?_
    refine lv_aload_n hx hb dX12_markOf_98 rfl (lv_at hl 0 rfl) ?_
    refine o_get X S 0 11 (by decide) rfl rfl in_12 (by decide) k_878 rfl dX12_markOf_99 ?_
    refine lv_iload_n hx hb dX12_markOf_102 rfl (lv_at hl 1 rfl) ?_
    refine o_iald X S 8 0 (by decide) (fun _ => rfl) rfl h.1 dX12_markOf_103 ?_
    replace h := h.2
    refine lv_i2l hx hb dX12_markOf_104 rfl ?_
    refine lv_ladd hx hb dX12_markOf_105 ?_
    exact o_lret X S hr h dX12_markOf_106
  replace h := h.2 q_16
  refine lv_tableOut (tgt := 107) hx hb dX12_markOf_6 (by have r0 := lv_neT (a := 1) q_1 rfl; have r1 := lv_neT (a := 2) q_6 rfl; have r2 := lv_neT (a := 3) q_13 rfl; have r3 := lv_neT (a := 4) q_16 rfl; omega) (by decide) ?_
  exact mX12_markOf_b107 l X hr x1 S (lv_sub hl [0, 1] rfl) h
def wX12_sizeOf (x1 : Int32) (σ : Sg) (Q : Int64 → Sg → Prop) : Prop :=
  (vp_in x1 120 ∧ (((σ 6 x1.toNatClampNeg) = 2 → (wX12_begins 11 σ (fun σ_3 => (wX12_begins 10 σ_3 (fun σ_5 => (vp_in x1 120 ∧ (wX12_markOf x1 σ_5 (fun r_6 σ_7 => Q (((σ_5 8 x1.toNatClampNeg).toInt64) + r_6) σ_7)))))))) ∧ (¬ (σ 6 x1.toNatClampNeg) = 2 → (((σ 6 x1.toNatClampNeg) = 3 → (wX12_begins 12 σ (fun σ_10 => (wX12_begins 10 σ_10 (fun σ_12 => (vp_in x1 120 ∧ Q ((2 : Int64) * ((σ_12 8 x1.toNatClampNeg).toInt64)) σ_12)))))) ∧ (¬ (σ 6 x1.toNatClampNeg) = 3 → (((σ 6 x1.toNatClampNeg) = 4 → (wX12_begins 13 σ (fun σ_15 => (wX12_begins 12 σ_15 (fun σ_17 => (wX12_begins 10 σ_17 (fun σ_19 => (vp_in x1 120 ∧ (wX12_markOf x1 σ_19 (fun r_20 σ_21 => Q (((2 : Int64) * ((σ_19 8 x1.toNatClampNeg).toInt64)) + r_20) σ_21)))))))))) ∧ (¬ (σ 6 x1.toNatClampNeg) = 4 → (((σ 6 x1.toNatClampNeg) = 5 → (wX12_begins 14 σ (fun σ_24 => (wX12_begins 10 σ_24 (fun σ_26 => (vp_in x1 120 ∧ (wX12_markOf x1 σ_26 (fun r_27 σ_28 => Q (((σ_26 8 x1.toNatClampNeg).toInt64) - r_27) σ_28)))))))) ∧ (¬ (σ 6 x1.toNatClampNeg) = 5 → (wX12_begins 10 σ (fun σ_30 => (vp_in x1 120 ∧ Q ((σ_30 8 x1.toNatClampNeg).toInt64) σ_30))))))))))))
set_option maxHeartbeats 4000000 in
set_option maxRecDepth 100000 in
theorem mX12_sizeOf {D : va_G} {cy : Nat → ClassId} {ad : Nat → Nat} (l : Launch) (x1 : Int32) (σ : Sg) (Q : Int64 → Sg → Prop) (h : wX12_sizeOf x1 σ Q) : MLM D cy ad l yX12_sizeOf (.code yX12_sizeOf cX12_sizeOf 2 (some .long) :: gT) ({ frames := 2, cells := 0, slots := 0, locals := 42 }) [.ref (ad 0), .int x1] σ Q := by
  refine metL_of (by decide +kernel) (Nat.le_of_ble_eq_true rfl) ?_
  intro p e s m args below meth c A ls X hr hl S
  have X : Fx D (tyM cy) EvM p s m args meth c cX12_sizeOf 2 "BackBayModel" A := X
  have hl : lv_has ls 2 [(0, .ref (ad 0)), (1, .int x1)] := hl
  have hx := X.1
  have hb := X.2.1
  unfold wX12_sizeOf at h
  refine lv_aload_n hx hb dX12_sizeOf_0 rfl (lv_at hl 0 rfl) ?_
  refine o_get X S 0 9 (by decide) rfl rfl in_12 (by decide) k_876 rfl dX12_sizeOf_1 ?_
  refine lv_iload_n hx hb dX12_sizeOf_4 rfl (lv_at hl 1 rfl) ?_
  refine o_iald X S 6 0 (by decide) (fun _ => rfl) rfl h.1 dX12_sizeOf_5 ?_
  replace h := h.2
  by_cases q_1 : (σ 6 x1.toNatClampNeg) = 2
  · refine lv_tableIn (tgt := 36) hx hb dX12_sizeOf_6 (by rw [q_1] <;> decide) (by rw [q_1] <;> decide) (by rw [q_1] <;> rfl) (by decide) ?_
    replace h := h.1 q_1
    refine lv_aload_n hx hb dX12_sizeOf_36 rfl (lv_at hl 0 rfl) ?_
    refine lv_bipush (v := 11) hx hb dX12_sizeOf_37 (by decide) ?_
    refine o_callVv (k := 1) EvM_ok X S (mX12_begins l 11 σ _ h) (by decide) rfl rfl k_1269 k_1266 k_1268 ks_63 k_14 ⟨rfl, by decide, by decide, by decide +kernel⟩ ⟨rfl, rfl⟩ ⟨Nat.le_of_ble_eq_true rfl, Nat.le_of_ble_eq_true rfl⟩ rfl hl.1 rfl (Nat.le_of_ble_eq_true rfl) dX12_sizeOf_39 (fun σ_3 H locs h S => ?_)
    refine lv_aload_n hx hb dX12_sizeOf_42 rfl (lv_at hl 0 rfl) ?_
    refine lv_bipush (v := 10) hx hb dX12_sizeOf_43 (by decide) ?_
    refine o_callVv (k := 1) EvM_ok X S (mX12_begins l 10 σ_3 _ h) (by decide) rfl rfl k_1269 k_1266 k_1268 ks_63 k_14 ⟨rfl, by decide, by decide, by decide +kernel⟩ ⟨rfl, rfl⟩ ⟨Nat.le_of_ble_eq_true rfl, Nat.le_of_ble_eq_true rfl⟩ rfl hl.1 rfl (Nat.le_of_ble_eq_true rfl) dX12_sizeOf_45 (fun σ_5 H locs h S => ?_)
    refine lv_aload_n hx hb dX12_sizeOf_48 rfl (lv_at hl 0 rfl) ?_
    refine o_get X S 0 11 (by decide) rfl rfl in_12 (by decide) k_878 rfl dX12_sizeOf_49 ?_
    refine lv_iload_n hx hb dX12_sizeOf_52 rfl (lv_at hl 1 rfl) ?_
    refine o_iald X S 8 0 (by decide) (fun _ => rfl) rfl h.1 dX12_sizeOf_53 ?_
    replace h := h.2
    refine lv_i2l hx hb dX12_sizeOf_54 rfl ?_
    refine lv_aload_n hx hb dX12_sizeOf_55 rfl (lv_at hl 0 rfl) ?_
    refine lv_iload_n hx hb dX12_sizeOf_56 rfl (lv_at hl 1 rfl) ?_
    refine o_callVl (k := 1) EvM_ok X S (mX12_markOf l x1 σ_5 _ h) (by decide) rfl rfl k_1273 k_1270 k_1272 ks_64 k_14 ⟨rfl, by decide, by decide, by decide +kernel⟩ ⟨rfl, rfl⟩ ⟨Nat.le_of_ble_eq_true rfl, Nat.le_of_ble_eq_true rfl⟩ rfl hl.1 rfl (Nat.le_of_ble_eq_true rfl) dX12_sizeOf_57 (fun r_6 σ_7 H locs h S => ?_)
    refine lv_ladd hx hb dX12_sizeOf_60 ?_
    exact o_lret X S hr h dX12_sizeOf_61
  replace h := h.2 q_1
  by_cases q_8 : (σ 6 x1.toNatClampNeg) = 3
  · refine lv_tableIn (tgt := 62) hx hb dX12_sizeOf_6 (by rw [q_8] <;> decide) (by rw [q_8] <;> decide) (by rw [q_8] <;> rfl) (by decide) ?_
    replace h := h.1 q_8
    refine lv_aload_n hx hb dX12_sizeOf_62 rfl (lv_at hl 0 rfl) ?_
    refine lv_bipush (v := 12) hx hb dX12_sizeOf_63 (by decide) ?_
    refine o_callVv (k := 1) EvM_ok X S (mX12_begins l 12 σ _ h) (by decide) rfl rfl k_1269 k_1266 k_1268 ks_63 k_14 ⟨rfl, by decide, by decide, by decide +kernel⟩ ⟨rfl, rfl⟩ ⟨Nat.le_of_ble_eq_true rfl, Nat.le_of_ble_eq_true rfl⟩ rfl hl.1 rfl (Nat.le_of_ble_eq_true rfl) dX12_sizeOf_65 (fun σ_10 H locs h S => ?_)
    refine lv_aload_n hx hb dX12_sizeOf_68 rfl (lv_at hl 0 rfl) ?_
    refine lv_bipush (v := 10) hx hb dX12_sizeOf_69 (by decide) ?_
    refine o_callVv (k := 1) EvM_ok X S (mX12_begins l 10 σ_10 _ h) (by decide) rfl rfl k_1269 k_1266 k_1268 ks_63 k_14 ⟨rfl, by decide, by decide, by decide +kernel⟩ ⟨rfl, rfl⟩ ⟨Nat.le_of_ble_eq_true rfl, Nat.le_of_ble_eq_true rfl⟩ rfl hl.1 rfl (Nat.le_of_ble_eq_true rfl) dX12_sizeOf_71 (fun σ_12 H locs h S => ?_)
    refine lv_ldc2 (v := 2) hx hb X.2.2.2.1 (X.2.2.2.2.1 _ k_1275) dX12_sizeOf_74 ?_
    refine lv_aload_n hx hb dX12_sizeOf_77 rfl (lv_at hl 0 rfl) ?_
    refine o_get X S 0 11 (by decide) rfl rfl in_12 (by decide) k_878 rfl dX12_sizeOf_78 ?_
    refine lv_iload_n hx hb dX12_sizeOf_81 rfl (lv_at hl 1 rfl) ?_
    refine o_iald X S 8 0 (by decide) (fun _ => rfl) rfl h.1 dX12_sizeOf_82 ?_
    replace h := h.2
    refine lv_i2l hx hb dX12_sizeOf_83 rfl ?_
    refine lv_lmul hx hb dX12_sizeOf_84 ?_
    exact o_lret X S hr h dX12_sizeOf_85
  replace h := h.2 q_8
  by_cases q_13 : (σ 6 x1.toNatClampNeg) = 4
  · refine lv_tableIn (tgt := 86) hx hb dX12_sizeOf_6 (by rw [q_13] <;> decide) (by rw [q_13] <;> decide) (by rw [q_13] <;> rfl) (by decide) ?_
    replace h := h.1 q_13
    refine lv_aload_n hx hb dX12_sizeOf_86 rfl (lv_at hl 0 rfl) ?_
    refine lv_bipush (v := 13) hx hb dX12_sizeOf_87 (by decide) ?_
    refine o_callVv (k := 1) EvM_ok X S (mX12_begins l 13 σ _ h) (by decide) rfl rfl k_1269 k_1266 k_1268 ks_63 k_14 ⟨rfl, by decide, by decide, by decide +kernel⟩ ⟨rfl, rfl⟩ ⟨Nat.le_of_ble_eq_true rfl, Nat.le_of_ble_eq_true rfl⟩ rfl hl.1 rfl (Nat.le_of_ble_eq_true rfl) dX12_sizeOf_89 (fun σ_15 H locs h S => ?_)
    refine lv_aload_n hx hb dX12_sizeOf_92 rfl (lv_at hl 0 rfl) ?_
    refine lv_bipush (v := 12) hx hb dX12_sizeOf_93 (by decide) ?_
    refine o_callVv (k := 1) EvM_ok X S (mX12_begins l 12 σ_15 _ h) (by decide) rfl rfl k_1269 k_1266 k_1268 ks_63 k_14 ⟨rfl, by decide, by decide, by decide +kernel⟩ ⟨rfl, rfl⟩ ⟨Nat.le_of_ble_eq_true rfl, Nat.le_of_ble_eq_true rfl⟩ rfl hl.1 rfl (Nat.le_of_ble_eq_true rfl) dX12_sizeOf_95 (fun σ_17 H locs h S => ?_)
    refine lv_aload_n hx hb dX12_sizeOf_98 rfl (lv_at hl 0 rfl) ?_
    refine lv_bipush (v := 10) hx hb dX12_sizeOf_99 (by decide) ?_
    refine o_callVv (k := 1) EvM_ok X S (mX12_begins l 10 σ_17 _ h) (by decide) rfl rfl k_1269 k_1266 k_1268 ks_63 k_14 ⟨rfl, by decide, by decide, by decide +kernel⟩ ⟨rfl, rfl⟩ ⟨Nat.le_of_ble_eq_true rfl, Nat.le_of_ble_eq_true rfl⟩ rfl hl.1 rfl (Nat.le_of_ble_eq_true rfl) dX12_sizeOf_101 (fun σ_19 H locs h S => ?_)
    refine lv_ldc2 (v := 2) hx hb X.2.2.2.1 (X.2.2.2.2.1 _ k_1275) dX12_sizeOf_104 ?_
    refine lv_aload_n hx hb dX12_sizeOf_107 rfl (lv_at hl 0 rfl) ?_
    refine o_get X S 0 11 (by decide) rfl rfl in_12 (by decide) k_878 rfl dX12_sizeOf_108 ?_
    refine lv_iload_n hx hb dX12_sizeOf_111 rfl (lv_at hl 1 rfl) ?_
    refine o_iald X S 8 0 (by decide) (fun _ => rfl) rfl h.1 dX12_sizeOf_112 ?_
    replace h := h.2
    refine lv_i2l hx hb dX12_sizeOf_113 rfl ?_
    refine lv_lmul hx hb dX12_sizeOf_114 ?_
    refine lv_aload_n hx hb dX12_sizeOf_115 rfl (lv_at hl 0 rfl) ?_
    refine lv_iload_n hx hb dX12_sizeOf_116 rfl (lv_at hl 1 rfl) ?_
    refine o_callVl (k := 1) EvM_ok X S (mX12_markOf l x1 σ_19 _ h) (by decide) rfl rfl k_1273 k_1270 k_1272 ks_64 k_14 ⟨rfl, by decide, by decide, by decide +kernel⟩ ⟨rfl, rfl⟩ ⟨Nat.le_of_ble_eq_true rfl, Nat.le_of_ble_eq_true rfl⟩ rfl hl.1 rfl (Nat.le_of_ble_eq_true rfl) dX12_sizeOf_117 (fun r_20 σ_21 H locs h S => ?_)
    refine lv_ladd hx hb dX12_sizeOf_120 ?_
    exact o_lret X S hr h dX12_sizeOf_121
  replace h := h.2 q_13
  by_cases q_22 : (σ 6 x1.toNatClampNeg) = 5
  · refine lv_tableIn (tgt := 122) hx hb dX12_sizeOf_6 (by rw [q_22] <;> decide) (by rw [q_22] <;> decide) (by rw [q_22] <;> rfl) (by decide) ?_
    replace h := h.1 q_22
    refine lv_aload_n hx hb dX12_sizeOf_122 rfl (lv_at hl 0 rfl) ?_
    refine lv_bipush (v := 14) hx hb dX12_sizeOf_123 (by decide) ?_
    refine o_callVv (k := 1) EvM_ok X S (mX12_begins l 14 σ _ h) (by decide) rfl rfl k_1269 k_1266 k_1268 ks_63 k_14 ⟨rfl, by decide, by decide, by decide +kernel⟩ ⟨rfl, rfl⟩ ⟨Nat.le_of_ble_eq_true rfl, Nat.le_of_ble_eq_true rfl⟩ rfl hl.1 rfl (Nat.le_of_ble_eq_true rfl) dX12_sizeOf_125 (fun σ_24 H locs h S => ?_)
    refine lv_aload_n hx hb dX12_sizeOf_128 rfl (lv_at hl 0 rfl) ?_
    refine lv_bipush (v := 10) hx hb dX12_sizeOf_129 (by decide) ?_
    refine o_callVv (k := 1) EvM_ok X S (mX12_begins l 10 σ_24 _ h) (by decide) rfl rfl k_1269 k_1266 k_1268 ks_63 k_14 ⟨rfl, by decide, by decide, by decide +kernel⟩ ⟨rfl, rfl⟩ ⟨Nat.le_of_ble_eq_true rfl, Nat.le_of_ble_eq_true rfl⟩ rfl hl.1 rfl (Nat.le_of_ble_eq_true rfl) dX12_sizeOf_131 (fun σ_26 H locs h S => ?_)
    refine lv_aload_n hx hb dX12_sizeOf_134 rfl (lv_at hl 0 rfl) ?_
    refine o_get X S 0 11 (by decide) rfl rfl in_12 (by decide) k_878 rfl dX12_sizeOf_135 ?_
    refine lv_iload_n hx hb dX12_sizeOf_138 rfl (lv_at hl 1 rfl) ?_
    refine o_iald X S 8 0 (by decide) (fun _ => rfl) rfl h.1 dX12_sizeOf_139 ?_
    replace h := h.2
    refine lv_i2l hx hb dX12_sizeOf_140 rfl ?_
    refine lv_aload_n hx hb dX12_sizeOf_141 rfl (lv_at hl 0 rfl) ?_
    refine lv_iload_n hx hb dX12_sizeOf_142 rfl (lv_at hl 1 rfl) ?_
    refine o_callVl (k := 1) EvM_ok X S (mX12_markOf l x1 σ_26 _ h) (by decide) rfl rfl k_1273 k_1270 k_1272 ks_64 k_14 ⟨rfl, by decide, by decide, by decide +kernel⟩ ⟨rfl, rfl⟩ ⟨Nat.le_of_ble_eq_true rfl, Nat.le_of_ble_eq_true rfl⟩ rfl hl.1 rfl (Nat.le_of_ble_eq_true rfl) dX12_sizeOf_143 (fun r_27 σ_28 H locs h S => ?_)
    refine lv_lsub hx hb dX12_sizeOf_146 ?_
    exact o_lret X S hr h dX12_sizeOf_147
  replace h := h.2 q_22
  refine lv_tableOut (tgt := 148) hx hb dX12_sizeOf_6 (by have r0 := lv_neT (a := 2) q_1 rfl; have r1 := lv_neT (a := 3) q_8 rfl; have r2 := lv_neT (a := 4) q_13 rfl; have r3 := lv_neT (a := 5) q_22 rfl; omega) (by decide) ?_
  refine lv_aload_n hx hb dX12_sizeOf_148 rfl (lv_at hl 0 rfl) ?_
  refine lv_bipush (v := 10) hx hb dX12_sizeOf_149 (by decide) ?_
  refine o_callVv (k := 1) EvM_ok X S (mX12_begins l 10 σ _ h) (by decide) rfl rfl k_1269 k_1266 k_1268 ks_63 k_14 ⟨rfl, by decide, by decide, by decide +kernel⟩ ⟨rfl, rfl⟩ ⟨Nat.le_of_ble_eq_true rfl, Nat.le_of_ble_eq_true rfl⟩ rfl hl.1 rfl (Nat.le_of_ble_eq_true rfl) dX12_sizeOf_151 (fun σ_30 H locs h S => ?_)
  refine lv_aload_n hx hb dX12_sizeOf_154 rfl (lv_at hl 0 rfl) ?_
  refine o_get X S 0 11 (by decide) rfl rfl in_12 (by decide) k_878 rfl dX12_sizeOf_155 ?_
  refine lv_iload_n hx hb dX12_sizeOf_158 rfl (lv_at hl 1 rfl) ?_
  refine o_iald X S 8 0 (by decide) (fun _ => rfl) rfl h.1 dX12_sizeOf_159 ?_
  replace h := h.2
  refine lv_i2l hx hb dX12_sizeOf_160 rfl ?_
  exact o_lret X S hr h dX12_sizeOf_161
def wX12_ask_b17 (σ : Sg) (Q : Int64 → Sg → Prop) : Prop :=
  (wX12_refused 1 σ (fun r_4 σ_5 => Q r_4 σ_5))
def wX12_ask_b44 (y0 : Int64) (σ : Sg) (Q : Int64 → Sg → Prop) : Prop :=
  Q y0 σ
def wX12_ask (x1 : Int32) (x2 : Int32) (σ : Sg) (Q : Int64 → Sg → Prop) : Prop :=
  (wX12_isNode x1 σ (fun r_1 σ_2 => ((r_1 = 0 → wX12_ask_b17 σ_2 Q) ∧ (¬ r_1 = 0 → (wX12_within x2 0 1 σ_2 (fun r_6 σ_7 => ((r_6 = 0 → wX12_ask_b17 σ_7 Q) ∧ (¬ r_6 = 0 → (∀ σ_9, σ_9 = sto σ_7 0 47 0 → ((x2 = 0 → (wX12_sizeOf x1 σ_9 (fun r_13 σ_14 => wX12_ask_b44 r_13 σ_14 Q))) ∧ (¬ x2 = 0 → (wX12_markOf x1 σ_9 (fun r_11 σ_12 => wX12_ask_b44 r_11 σ_12 Q)))))))))))))
set_option maxHeartbeats 4000000 in
set_option maxRecDepth 100000 in
theorem mX12_ask_b17 {D : va_G} {cy : Nat → ClassId} {ad : Nat → Nat} (l : Launch) {p : Program} {e : Env} {s : State} {m : MethodId} {args : Array Value} {below : List Frame} {meth : Method} {c : Code} {A : Nat → Prop} {Q : Int64 → Sg → Prop} (X : Fx D (tyM cy) EvM p s m args meth c cX12_ask 3 "BackBayModel" A) (hr : meth.sig.returnType = some .long) {σ : Sg} {H : Heap} {locs : List Loc} {ls : Array Slot} (S : St D ad 34 (shM cy ad) A s σ H locs) (hl : lv_has ls 3 []) (h : wX12_ask_b17 σ Q) : W p l e ({ frames := 3, cells := 0, slots := 0, locals := 63 }) s m args below meth c H locs 0 0 (MQ below (va_Ql Q (PosW D (tyM cy) ad 34 (shM cy ad) A) A) args s 0 0 A) (F0 m 17 ls []) := by
  have hx := X.1
  have hb := X.2.1
  unfold wX12_ask_b17 at h
  refine lv_iconst (v := 1) hx hb dX12_ask_17 (by decide) ?_
  refine o_callSl (k := 1) EvM_ok X S (mX12_refused l 1 σ _ h) k_1024 k_1022 k_1023 k_14 ⟨by decide, by decide, by decide +kernel⟩ ⟨rfl, rfl⟩ ⟨Nat.le_of_ble_eq_true rfl, Nat.le_of_ble_eq_true rfl⟩ rfl hl.1 rfl (Nat.le_of_ble_eq_true rfl) dX12_ask_18 (fun r_4 σ_5 H locs h S => ?_)
  exact o_lret X S hr h dX12_ask_21
set_option maxHeartbeats 4000000 in
set_option maxRecDepth 100000 in
theorem mX12_ask_b44 {D : va_G} {cy : Nat → ClassId} {ad : Nat → Nat} (l : Launch) {p : Program} {e : Env} {s : State} {m : MethodId} {args : Array Value} {below : List Frame} {meth : Method} {c : Code} {A : Nat → Prop} {Q : Int64 → Sg → Prop} (X : Fx D (tyM cy) EvM p s m args meth c cX12_ask 3 "BackBayModel" A) (hr : meth.sig.returnType = some .long) (y0 : Int64) {σ : Sg} {H : Heap} {locs : List Loc} {ls : Array Slot} (S : St D ad 34 (shM cy ad) A s σ H locs) (hl : lv_has ls 3 []) (h : wX12_ask_b44 y0 σ Q) : W p l e ({ frames := 3, cells := 0, slots := 0, locals := 63 }) s m args below meth c H locs 0 0 (MQ below (va_Ql Q (PosW D (tyM cy) ad 34 (shM cy ad) A) A) args s 0 0 A) (F0 m 44 ls [.long y0]) := by
  have hx := X.1
  have hb := X.2.1
  unfold wX12_ask_b44 at h
  exact o_lret X S hr h dX12_ask_44
set_option maxHeartbeats 4000000 in
set_option maxRecDepth 100000 in
theorem mX12_ask {D : va_G} {cy : Nat → ClassId} {ad : Nat → Nat} (l : Launch) (x1 : Int32) (x2 : Int32) (σ : Sg) (Q : Int64 → Sg → Prop) (h : wX12_ask x1 x2 σ Q) : MLM D cy ad l yX12_ask (.code yX12_ask cX12_ask 3 (some .long) :: gT) ({ frames := 3, cells := 0, slots := 0, locals := 63 }) [.ref (ad 0), .int x1, .int x2] σ Q := by
  refine metL_of (by decide +kernel) (Nat.le_of_ble_eq_true rfl) ?_
  intro p e s m args below meth c A ls X hr hl S
  have X : Fx D (tyM cy) EvM p s m args meth c cX12_ask 3 "BackBayModel" A := X
  have hl : lv_has ls 3 [(0, .ref (ad 0)), (1, .int x1), (2, .int x2)] := hl
  have hx := X.1
  have hb := X.2.1
  unfold wX12_ask at h
  refine lv_aload_n hx hb dX12_ask_0 rfl (lv_at hl 0 rfl) ?_
  refine lv_iload_n hx hb dX12_ask_1 rfl (lv_at hl 1 rfl) ?_
  refine o_callVi (k := 1) EvM_ok X S (mX12_isNode l x1 σ _ h) (by decide) rfl rfl k_1250 k_1247 k_1249 ks_61 k_14 ⟨rfl, by decide, by decide, by decide +kernel⟩ ⟨rfl, rfl⟩ ⟨Nat.le_of_ble_eq_true rfl, Nat.le_of_ble_eq_true rfl⟩ rfl hl.1 rfl (Nat.le_of_ble_eq_true rfl) dX12_ask_2 (fun r_1 σ_2 H locs h S => ?_)
  refine lv_if_eq (tgt := 17) hx hb dX12_ask_5 (by decide) (fun q_3 => ?_) (fun q_3 => ?_)
  · replace h := h.1 q_3
    exact mX12_ask_b17 l X hr S (lv_sub hl [] rfl) h
  · replace h := h.2 q_3
    refine lv_iload_n hx hb dX12_ask_8 rfl (lv_at hl 2 rfl) ?_
    refine lv_iconst (v := 0) hx hb dX12_ask_9 (by decide) ?_
    refine lv_iconst (v := 1) hx hb dX12_ask_10 (by decide) ?_
    refine o_callSi (k := 3) EvM_ok X S (mX12_within l x2 0 1 σ_2 _ h) k_1021 k_1019 k_1020 k_14 ⟨by decide, by decide, by decide +kernel⟩ ⟨rfl, rfl⟩ ⟨Nat.le_of_ble_eq_true rfl, Nat.le_of_ble_eq_true rfl⟩ rfl hl.1 rfl (Nat.le_of_ble_eq_true rfl) dX12_ask_11 (fun r_6 σ_7 H locs h S => ?_)
    refine lv_if_ne (tgt := 22) hx hb dX12_ask_14 (by decide) (fun q_8 => ?_) (fun q_8 => ?_)
    · replace h := h.2 q_8
      refine lv_aload_n hx hb dX12_ask_22 rfl (lv_at hl 0 rfl) ?_
      refine lv_iconst (v := 0) hx hb dX12_ask_23 (by decide) ?_
      refine o_puti X S (fs := fun c => [.int (c 0), .ref (ad 1), .ref (ad 2), .ref (ad 3), .ref (ad 4), .int (c 5), .int (c 6), .int (c 7), .ref (ad 5), .ref (ad 6), .ref (ad 7), .ref (ad 8), .int (c 12), .int (c 13), .int (c 14), .int (c 15), .ref (ad 9), .int (c 17), .int (c 18), .int (c 19), .ref (ad 10), .ref (ad 11), .ref (ad 12), .ref (ad 13), .ref (ad 14), .ref (ad 15), .ref (ad 16), .int (c 27), .int (c 28), .ref (ad 17), .ref (ad 18), .ref (ad 19), .ref (ad 20), .ref (ad 21), .ref (ad 22), .ref (ad 23), .ref (ad 24), .ref (ad 25), .ref (ad 26), .ref (ad 27), .ref (ad 28), .ref (ad 29), .int (c 42), .ref (ad 30), .ref (ad 31), .ref (ad 32), .ref (ad 33), .int (c 47)]) 0 47 (by decide) (fun _ => rfl) (fun _ _ => rfl) rfl in_12 tyX12_ok nmX12 (by decide) k_914 rfl rfl rfl rfl (fun _ => Nat.le_of_ble_eq_true rfl) dX12_ask_24 (fun σ_9 H locs eσ_9 S => ?_)
      replace h := h σ_9 eσ_9
      refine lv_iload_n hx hb dX12_ask_27 rfl (lv_at hl 2 rfl) ?_
      refine lv_if_ne (tgt := 39) hx hb dX12_ask_28 (by decide) (fun q_10 => ?_) (fun q_10 => ?_)
      · replace h := h.2 q_10
        refine lv_aload_n hx hb dX12_ask_39 rfl (lv_at hl 0 rfl) ?_
        refine lv_iload_n hx hb dX12_ask_40 rfl (lv_at hl 1 rfl) ?_
        refine o_callVl (k := 1) EvM_ok X S (mX12_markOf l x1 σ_9 _ h) (by decide) rfl rfl k_1273 k_1270 k_1272 ks_64 k_14 ⟨rfl, by decide, by decide, by decide +kernel⟩ ⟨rfl, rfl⟩ ⟨Nat.le_of_ble_eq_true rfl, Nat.le_of_ble_eq_true rfl⟩ rfl hl.1 rfl (Nat.le_of_ble_eq_true rfl) dX12_ask_41 (fun r_11 σ_12 H locs h S => ?_)
        exact mX12_ask_b44 l X hr r_11 S (lv_sub hl [] rfl) h
      · replace h := h.1 q_10
        refine lv_aload_n hx hb dX12_ask_31 rfl (lv_at hl 0 rfl) ?_
        refine lv_iload_n hx hb dX12_ask_32 rfl (lv_at hl 1 rfl) ?_
        refine o_callVl (k := 1) EvM_ok X S (mX12_sizeOf l x1 σ_9 _ h) (by decide) rfl rfl k_1265 k_1262 k_1264 ks_62 k_14 ⟨rfl, by decide, by decide, by decide +kernel⟩ ⟨rfl, rfl⟩ ⟨Nat.le_of_ble_eq_true rfl, Nat.le_of_ble_eq_true rfl⟩ rfl hl.1 rfl (Nat.le_of_ble_eq_true rfl) dX12_ask_33 (fun r_13 σ_14 H locs h S => ?_)
        refine lv_goto (tgt := 44) hx hb dX12_ask_36 (by decide) ?_
        exact mX12_ask_b44 l X hr r_13 S (lv_sub hl [] rfl) h
    · replace h := h.1 q_8
      exact mX12_ask_b17 l X hr S (lv_sub hl [] rfl) h
def wX12_trace_b24 (y0 : Int32) (σ : Sg) (Q : Int32 → Sg → Prop) : Prop :=
  Q y0 σ
def wX12_trace_b21 (σ : Sg) (Q : Int32 → Sg → Prop) : Prop :=
  wX12_trace_b24 (-1000000) σ Q
def wX12_trace (x1 : Int32) (σ : Sg) (Q : Int32 → Sg → Prop) : Prop :=
  ((x1 < 0 → wX12_trace_b21 σ Q) ∧ (¬ x1 < 0 → (((σ 0 47) ≤ x1 → wX12_trace_b21 σ Q) ∧ (¬ (σ 0 47) ≤ x1 → (vp_in x1 16 ∧ wX12_trace_b24 (σ 33 x1.toNatClampNeg) σ Q)))))
set_option maxHeartbeats 4000000 in
set_option maxRecDepth 100000 in
theorem mX12_trace_b24 {D : va_G} {cy : Nat → ClassId} {ad : Nat → Nat} (l : Launch) {p : Program} {e : Env} {s : State} {m : MethodId} {args : Array Value} {below : List Frame} {meth : Method} {c : Code} {A : Nat → Prop} {Q : Int32 → Sg → Prop} (X : Fx D (tyM cy) EvM p s m args meth c cX12_trace 2 "BackBayModel" A) (hr : meth.sig.returnType = some .int) (y0 : Int32) {σ : Sg} {H : Heap} {locs : List Loc} {ls : Array Slot} (S : St D ad 34 (shM cy ad) A s σ H locs) (hl : lv_has ls 2 []) (h : wX12_trace_b24 y0 σ Q) : W p l e ({ frames := 0, cells := 0, slots := 0, locals := 0 }) s m args below meth c H locs 0 0 (MQ below (va_Qi Q (PosW D (tyM cy) ad 34 (shM cy ad) A) A) args s 0 0 A) (F0 m 24 ls [.int y0]) := by
  have hx := X.1
  have hb := X.2.1
  unfold wX12_trace_b24 at h
  exact o_iret X S hr h dX12_trace_24
set_option maxHeartbeats 4000000 in
set_option maxRecDepth 100000 in
theorem mX12_trace_b21 {D : va_G} {cy : Nat → ClassId} {ad : Nat → Nat} (l : Launch) {p : Program} {e : Env} {s : State} {m : MethodId} {args : Array Value} {below : List Frame} {meth : Method} {c : Code} {A : Nat → Prop} {Q : Int32 → Sg → Prop} (X : Fx D (tyM cy) EvM p s m args meth c cX12_trace 2 "BackBayModel" A) (hr : meth.sig.returnType = some .int) {σ : Sg} {H : Heap} {locs : List Loc} {ls : Array Slot} (S : St D ad 34 (shM cy ad) A s σ H locs) (hl : lv_has ls 2 []) (h : wX12_trace_b21 σ Q) : W p l e ({ frames := 0, cells := 0, slots := 0, locals := 0 }) s m args below meth c H locs 0 0 (MQ below (va_Qi Q (PosW D (tyM cy) ad 34 (shM cy ad) A) A) args s 0 0 A) (F0 m 21 ls []) := by
  have hx := X.1
  have hb := X.2.1
  unfold wX12_trace_b21 at h
  refine lv_ldcw (v := (-1000000)) hx hb X.2.2.2.1 (X.2.2.2.2.1 _ k_1207) dX12_trace_21 ?_
  exact mX12_trace_b24 l X hr (-1000000) S (lv_sub hl [] rfl) h
set_option maxHeartbeats 4000000 in
set_option maxRecDepth 100000 in
theorem mX12_trace {D : va_G} {cy : Nat → ClassId} {ad : Nat → Nat} (l : Launch) (x1 : Int32) (σ : Sg) (Q : Int32 → Sg → Prop) (h : wX12_trace x1 σ Q) : MIM D cy ad l yX12_trace (.code yX12_trace cX12_trace 2 (some .int) :: gT) ({ frames := 0, cells := 0, slots := 0, locals := 0 }) [.ref (ad 0), .int x1] σ Q := by
  refine metI_of (by decide +kernel) (Nat.le_of_ble_eq_true rfl) ?_
  intro p e s m args below meth c A ls X hr hl S
  have X : Fx D (tyM cy) EvM p s m args meth c cX12_trace 2 "BackBayModel" A := X
  have hl : lv_has ls 2 [(0, .ref (ad 0)), (1, .int x1)] := hl
  have hx := X.1
  have hb := X.2.1
  unfold wX12_trace at h
  refine lv_iload_n hx hb dX12_trace_0 rfl (lv_at hl 1 rfl) ?_
  refine lv_if_lt (tgt := 21) hx hb dX12_trace_1 (by decide) (fun q_1 => ?_) (fun q_1 => ?_)
  · replace h := h.1 q_1
    exact mX12_trace_b21 l X hr S (lv_sub hl [] rfl) h
  · replace h := h.2 q_1
    refine lv_iload_n hx hb dX12_trace_4 rfl (lv_at hl 1 rfl) ?_
    refine lv_aload_n hx hb dX12_trace_5 rfl (lv_at hl 0 rfl) ?_
    refine o_get X S 0 47 (by decide) rfl rfl in_12 (by decide) k_914 rfl dX12_trace_6 ?_
    refine lv_icmp_ge (tgt := 21) hx hb dX12_trace_9 (by decide) (fun q_2 => ?_) (fun q_2 => ?_)
    · replace h := h.1 q_2
      exact mX12_trace_b21 l X hr S (lv_sub hl [] rfl) h
    · replace h := h.2 q_2
      refine lv_aload_n hx hb dX12_trace_12 rfl (lv_at hl 0 rfl) ?_
      refine o_get X S 0 46 (by decide) rfl rfl in_12 (by decide) k_913 rfl dX12_trace_13 ?_
      refine lv_iload_n hx hb dX12_trace_16 rfl (lv_at hl 1 rfl) ?_
      refine o_iald X S 33 0 (by decide) (fun _ => rfl) rfl h.1 dX12_trace_17 ?_
      replace h := h.2
      refine lv_goto (tgt := 24) hx hb dX12_trace_18 (by decide) ?_
      exact mX12_trace_b24 l X hr (σ 33 x1.toNatClampNeg) S (lv_sub hl [] rfl) h
def wX12_manyRows_b25 (x2 : Int32) (y0 : Int32) (y1 : Int32) (σ : Sg) (k33 : Int32 → Sg → Prop) (kb4 : Int32 → Int32 → Sg → Prop) (Q : Int32 → Sg → Prop) : Prop :=
  (∀ x1_3, x1_3 = (y1 + y0) → (∀ x2_4 : Int32, x2_4 = x2 + 1 → kb4 x1_3 x2_4 σ))
def wX12_manyRows_L4 (k33 : Int32 → Sg → Prop) (Q : Int32 → Sg → Prop) : Nat → Int32 → Int32 → Sg → Prop
  | 0, _, _, _ => False
  | nn4 + 1, x1, x2, σ =>
  ((8 ≤ x2 → k33 x1 σ) ∧ (¬ 8 ≤ x2 → (vp_in x2 8 ∧ ((0 ≤ (σ 1 x2.toNatClampNeg) → wX12_manyRows_b25 x2 1 x1 σ k33 (wX12_manyRows_L4 k33 Q nn4) Q) ∧ (¬ 0 ≤ (σ 1 x2.toNatClampNeg) → wX12_manyRows_b25 x2 0 x1 σ k33 (wX12_manyRows_L4 k33 Q nn4) Q)))))
def wX12_manyRows (σ : Sg) (Q : Int32 → Sg → Prop) : Prop :=
  (∃ nf, wX12_manyRows_L4 (fun x1_5 σ_6 => Q x1_5 σ_6) Q nf 0 0 σ)
set_option maxHeartbeats 4000000 in
set_option maxRecDepth 100000 in
theorem mX12_manyRows_b25 {D : va_G} {cy : Nat → ClassId} {ad : Nat → Nat} (l : Launch) {p : Program} {e : Env} {s : State} {m : MethodId} {args : Array Value} {below : List Frame} {meth : Method} {c : Code} {A : Nat → Prop} {k33 : Int32 → Sg → Prop} {kb4 : Int32 → Int32 → Sg → Prop} {Q : Int32 → Sg → Prop} (X : Fx D (tyM cy) EvM p s m args meth c cX12_manyRows 3 "BackBayModel" A) (hr : meth.sig.returnType = some .int) (x2 : Int32) (y0 : Int32) (y1 : Int32) (hk33 : ∀ (x1 : Int32) (σ : Sg) (H : Heap) (locs : List Loc) (ls : Array Slot), St D ad 34 (shM cy ad) A s σ H locs → lv_has ls 3 [(1, .int x1)] → k33 x1 σ → W p l e ({ frames := 0, cells := 0, slots := 0, locals := 0 }) s m args below meth c H locs 0 0 (MQ below (va_Qi Q (PosW D (tyM cy) ad 34 (shM cy ad) A) A) args s 0 0 A) (F0 m 33 ls [])) (hkb4 : ∀ (x1 : Int32) (x2 : Int32) (σ : Sg) (H : Heap) (locs : List Loc) (ls : Array Slot), St D ad 34 (shM cy ad) A s σ H locs → lv_has ls 3 [(0, .ref (ad 0)), (1, .int x1), (2, .int x2)] → kb4 x1 x2 σ → W p l e ({ frames := 0, cells := 0, slots := 0, locals := 0 }) s m args below meth c H locs 0 0 (MQ below (va_Qi Q (PosW D (tyM cy) ad 34 (shM cy ad) A) A) args s 0 0 A) (F0 m 4 ls [])) {σ : Sg} {H : Heap} {locs : List Loc} {ls : Array Slot} (S : St D ad 34 (shM cy ad) A s σ H locs) (hl : lv_has ls 3 [(0, .ref (ad 0)), (2, .int x2)]) (h : wX12_manyRows_b25 x2 y0 y1 σ k33 kb4 Q) : W p l e ({ frames := 0, cells := 0, slots := 0, locals := 0 }) s m args below meth c H locs 0 0 (MQ below (va_Qi Q (PosW D (tyM cy) ad 34 (shM cy ad) A) A) args s 0 0 A) (F0 m 25 ls [.int y0, .int y1]) := by
  have hx := X.1
  have hb := X.2.1
  unfold wX12_manyRows_b25 at h
  refine lv_iadd hx hb dX12_manyRows_25 ?_
  refine lv_topi (fun x1_3 ex1_3 => ?_)
  replace h := h x1_3 ex1_3
  refine lv_istore_n (lv' := [(1, .int x1_3), (0, .ref (ad 0)), (2, .int x2)]) hx hb dX12_manyRows_26 rfl hl (by decide) rfl (fun ls hl => ?_)
  obtain ⟨x2_4, ex2_4⟩ : ∃ y : Int32, y = x2 + 1 := ⟨_, rfl⟩
  replace h := h x2_4 ex2_4
  refine lv_iinc (v := x2_4) (lv' := [(2, .int x2_4), (1, .int x1_3), (0, .ref (ad 0))]) hx hb dX12_manyRows_27 hl (k := 2) rfl (by rw [ex2_4]; rfl) (by decide) rfl (fun ls hl => ?_)
  refine lv_goto (tgt := 4) hx hb dX12_manyRows_30 (by decide) ?_
  exact hkb4 _ _ _ _ _ _ S (lv_sub hl [2, 1, 0] rfl) h
set_option maxHeartbeats 4000000 in
set_option maxRecDepth 100000 in
theorem mX12_manyRows_L4 {D : va_G} {cy : Nat → ClassId} {ad : Nat → Nat} (l : Launch) {p : Program} {e : Env} {s : State} {m : MethodId} {args : Array Value} {below : List Frame} {meth : Method} {c : Code} {A : Nat → Prop} {k33 : Int32 → Sg → Prop} {Q : Int32 → Sg → Prop} (X : Fx D (tyM cy) EvM p s m args meth c cX12_manyRows 3 "BackBayModel" A) (hr : meth.sig.returnType = some .int) (hk33 : ∀ (x1 : Int32) (σ : Sg) (H : Heap) (locs : List Loc) (ls : Array Slot), St D ad 34 (shM cy ad) A s σ H locs → lv_has ls 3 [(1, .int x1)] → k33 x1 σ → W p l e ({ frames := 0, cells := 0, slots := 0, locals := 0 }) s m args below meth c H locs 0 0 (MQ below (va_Qi Q (PosW D (tyM cy) ad 34 (shM cy ad) A) A) args s 0 0 A) (F0 m 33 ls [])) : ∀ (n : Nat) (x1 : Int32) (x2 : Int32) (σ : Sg) (H : Heap) (locs : List Loc) (ls : Array Slot), St D ad 34 (shM cy ad) A s σ H locs → lv_has ls 3 [(0, .ref (ad 0)), (1, .int x1), (2, .int x2)] → wX12_manyRows_L4 k33 Q n x1 x2 σ → W p l e ({ frames := 0, cells := 0, slots := 0, locals := 0 }) s m args below meth c H locs 0 0 (MQ below (va_Qi Q (PosW D (tyM cy) ad 34 (shM cy ad) A) A) args s 0 0 A) (F0 m 4 ls []) := by
  have hx := X.1
  have hb := X.2.1
  intro n
  induction n with
  | zero =>
    intro _ _ _ _ _ _ _ _ h
    exact absurd h (by unfold wX12_manyRows_L4; exact id)
  | succ n ih =>
    intro x1 x2 σ H locs ls S hl h
    unfold wX12_manyRows_L4 at h
    refine lv_iload_n hx hb dX12_manyRows_4 rfl (lv_at hl 2 rfl) ?_
    refine lv_bipush (v := 8) hx hb dX12_manyRows_5 (by decide) ?_
    refine lv_icmp_ge (tgt := 33) hx hb dX12_manyRows_7 (by decide) (fun q_1 => ?_) (fun q_1 => ?_)
    · replace h := h.1 q_1
      exact hk33 _ _ _ _ _ S (lv_sub hl [1] rfl) h
    · replace h := h.2 q_1
      refine lv_iload_n hx hb dX12_manyRows_10 rfl (lv_at hl 1 rfl) ?_
      refine lv_aload_n hx hb dX12_manyRows_11 rfl (lv_at hl 0 rfl) ?_
      refine o_get X S 0 1 (by decide) rfl rfl in_12 (by decide) k_868 rfl dX12_manyRows_12 ?_
      refine lv_iload_n hx hb dX12_manyRows_15 rfl (lv_at hl 2 rfl) ?_
      refine o_iald X S 1 0 (by decide) (fun _ => rfl) rfl h.1 dX12_manyRows_16 ?_
      replace h := h.2
      refine lv_if_ge (tgt := 24) hx hb dX12_manyRows_17 (by decide) (fun q_2 => ?_) (fun q_2 => ?_)
      · replace h := h.1 q_2
        refine lv_iconst (v := 1) hx hb dX12_manyRows_24 (by decide) ?_
        exact mX12_manyRows_b25 l X hr x2 1 x1 hk33 ih S (lv_sub hl [0, 2] rfl) h
      · replace h := h.2 q_2
        refine lv_iconst (v := 0) hx hb dX12_manyRows_20 (by decide) ?_
        refine lv_goto (tgt := 25) hx hb dX12_manyRows_21 (by decide) ?_
        exact mX12_manyRows_b25 l X hr x2 0 x1 hk33 ih S (lv_sub hl [0, 2] rfl) h
set_option maxHeartbeats 4000000 in
set_option maxRecDepth 100000 in
theorem mX12_manyRows {D : va_G} {cy : Nat → ClassId} {ad : Nat → Nat} (l : Launch) (σ : Sg) (Q : Int32 → Sg → Prop) (h : wX12_manyRows σ Q) : MIM D cy ad l yX12_manyRows (.code yX12_manyRows cX12_manyRows 3 (some .int) :: gT) ({ frames := 0, cells := 0, slots := 0, locals := 0 }) [.ref (ad 0)] σ Q := by
  refine metI_of (by decide +kernel) (Nat.le_of_ble_eq_true rfl) ?_
  intro p e s m args below meth c A ls X hr hl S
  have X : Fx D (tyM cy) EvM p s m args meth c cX12_manyRows 3 "BackBayModel" A := X
  have hl : lv_has ls 3 [(0, .ref (ad 0))] := hl
  have hx := X.1
  have hb := X.2.1
  unfold wX12_manyRows at h
  refine lv_iconst (v := 0) hx hb dX12_manyRows_0 (by decide) ?_
  refine lv_istore_n (lv' := [(1, .int 0), (0, .ref (ad 0))]) hx hb dX12_manyRows_1 rfl hl (by decide) rfl (fun ls hl => ?_)
  refine lv_iconst (v := 0) hx hb dX12_manyRows_2 (by decide) ?_
  refine lv_istore_n (lv' := [(2, .int 0), (1, .int 0), (0, .ref (ad 0))]) hx hb dX12_manyRows_3 rfl hl (by decide) rfl (fun ls hl => ?_)
  obtain ⟨n_4, h⟩ := h
  refine mX12_manyRows_L4 l X hr ?_ n_4 _ _ _ _ _ _ S (lv_sub hl [2, 1, 0] rfl) h
  · intro x1_5 σ_6 H locs ls S hl h
    refine lv_iload_n hx hb dX12_manyRows_33 rfl (lv_at hl 0 rfl) ?_
    exact o_iret X S hr h dX12_manyRows_34
def wX12_manyOut_b27 (x2 : Int32) (y0 : Int32) (y1 : Int32) (σ : Sg) (k35 : Int32 → Sg → Prop) (kb4 : Int32 → Int32 → Sg → Prop) (Q : Int32 → Sg → Prop) : Prop :=
  (∀ x1_3, x1_3 = (y1 + y0) → (∀ x2_4 : Int32, x2_4 = x2 + 1 → kb4 x1_3 x2_4 σ))
def wX12_manyOut_L4 (k35 : Int32 → Sg → Prop) (Q : Int32 → Sg → Prop) : Nat → Int32 → Int32 → Sg → Prop
  | 0, _, _, _ => False
  | nn4 + 1, x1, x2, σ =>
  (((σ 0 28) ≤ x2 → k35 x1 σ) ∧ (¬ (σ 0 28) ≤ x2 → (vp_in x2 12 ∧ (((σ 21 x2.toNatClampNeg) = 0 → wX12_manyOut_b27 x2 0 x1 σ k35 (wX12_manyOut_L4 k35 Q nn4) Q) ∧ (¬ (σ 21 x2.toNatClampNeg) = 0 → wX12_manyOut_b27 x2 1 x1 σ k35 (wX12_manyOut_L4 k35 Q nn4) Q)))))
def wX12_manyOut (σ : Sg) (Q : Int32 → Sg → Prop) : Prop :=
  (∃ nf, wX12_manyOut_L4 (fun x1_5 σ_6 => Q x1_5 σ_6) Q nf 0 0 σ)
set_option maxHeartbeats 4000000 in
set_option maxRecDepth 100000 in
theorem mX12_manyOut_b27 {D : va_G} {cy : Nat → ClassId} {ad : Nat → Nat} (l : Launch) {p : Program} {e : Env} {s : State} {m : MethodId} {args : Array Value} {below : List Frame} {meth : Method} {c : Code} {A : Nat → Prop} {k35 : Int32 → Sg → Prop} {kb4 : Int32 → Int32 → Sg → Prop} {Q : Int32 → Sg → Prop} (X : Fx D (tyM cy) EvM p s m args meth c cX12_manyOut 3 "BackBayModel" A) (hr : meth.sig.returnType = some .int) (x2 : Int32) (y0 : Int32) (y1 : Int32) (hk35 : ∀ (x1 : Int32) (σ : Sg) (H : Heap) (locs : List Loc) (ls : Array Slot), St D ad 34 (shM cy ad) A s σ H locs → lv_has ls 3 [(1, .int x1)] → k35 x1 σ → W p l e ({ frames := 0, cells := 0, slots := 0, locals := 0 }) s m args below meth c H locs 0 0 (MQ below (va_Qi Q (PosW D (tyM cy) ad 34 (shM cy ad) A) A) args s 0 0 A) (F0 m 35 ls [])) (hkb4 : ∀ (x1 : Int32) (x2 : Int32) (σ : Sg) (H : Heap) (locs : List Loc) (ls : Array Slot), St D ad 34 (shM cy ad) A s σ H locs → lv_has ls 3 [(0, .ref (ad 0)), (1, .int x1), (2, .int x2)] → kb4 x1 x2 σ → W p l e ({ frames := 0, cells := 0, slots := 0, locals := 0 }) s m args below meth c H locs 0 0 (MQ below (va_Qi Q (PosW D (tyM cy) ad 34 (shM cy ad) A) A) args s 0 0 A) (F0 m 4 ls [])) {σ : Sg} {H : Heap} {locs : List Loc} {ls : Array Slot} (S : St D ad 34 (shM cy ad) A s σ H locs) (hl : lv_has ls 3 [(0, .ref (ad 0)), (2, .int x2)]) (h : wX12_manyOut_b27 x2 y0 y1 σ k35 kb4 Q) : W p l e ({ frames := 0, cells := 0, slots := 0, locals := 0 }) s m args below meth c H locs 0 0 (MQ below (va_Qi Q (PosW D (tyM cy) ad 34 (shM cy ad) A) A) args s 0 0 A) (F0 m 27 ls [.int y0, .int y1]) := by
  have hx := X.1
  have hb := X.2.1
  unfold wX12_manyOut_b27 at h
  refine lv_iadd hx hb dX12_manyOut_27 ?_
  refine lv_topi (fun x1_3 ex1_3 => ?_)
  replace h := h x1_3 ex1_3
  refine lv_istore_n (lv' := [(1, .int x1_3), (0, .ref (ad 0)), (2, .int x2)]) hx hb dX12_manyOut_28 rfl hl (by decide) rfl (fun ls hl => ?_)
  obtain ⟨x2_4, ex2_4⟩ : ∃ y : Int32, y = x2 + 1 := ⟨_, rfl⟩
  replace h := h x2_4 ex2_4
  refine lv_iinc (v := x2_4) (lv' := [(2, .int x2_4), (1, .int x1_3), (0, .ref (ad 0))]) hx hb dX12_manyOut_29 hl (k := 2) rfl (by rw [ex2_4]; rfl) (by decide) rfl (fun ls hl => ?_)
  refine lv_goto (tgt := 4) hx hb dX12_manyOut_32 (by decide) ?_
  exact hkb4 _ _ _ _ _ _ S (lv_sub hl [2, 1, 0] rfl) h
set_option maxHeartbeats 4000000 in
set_option maxRecDepth 100000 in
theorem mX12_manyOut_L4 {D : va_G} {cy : Nat → ClassId} {ad : Nat → Nat} (l : Launch) {p : Program} {e : Env} {s : State} {m : MethodId} {args : Array Value} {below : List Frame} {meth : Method} {c : Code} {A : Nat → Prop} {k35 : Int32 → Sg → Prop} {Q : Int32 → Sg → Prop} (X : Fx D (tyM cy) EvM p s m args meth c cX12_manyOut 3 "BackBayModel" A) (hr : meth.sig.returnType = some .int) (hk35 : ∀ (x1 : Int32) (σ : Sg) (H : Heap) (locs : List Loc) (ls : Array Slot), St D ad 34 (shM cy ad) A s σ H locs → lv_has ls 3 [(1, .int x1)] → k35 x1 σ → W p l e ({ frames := 0, cells := 0, slots := 0, locals := 0 }) s m args below meth c H locs 0 0 (MQ below (va_Qi Q (PosW D (tyM cy) ad 34 (shM cy ad) A) A) args s 0 0 A) (F0 m 35 ls [])) : ∀ (n : Nat) (x1 : Int32) (x2 : Int32) (σ : Sg) (H : Heap) (locs : List Loc) (ls : Array Slot), St D ad 34 (shM cy ad) A s σ H locs → lv_has ls 3 [(0, .ref (ad 0)), (1, .int x1), (2, .int x2)] → wX12_manyOut_L4 k35 Q n x1 x2 σ → W p l e ({ frames := 0, cells := 0, slots := 0, locals := 0 }) s m args below meth c H locs 0 0 (MQ below (va_Qi Q (PosW D (tyM cy) ad 34 (shM cy ad) A) A) args s 0 0 A) (F0 m 4 ls []) := by
  have hx := X.1
  have hb := X.2.1
  intro n
  induction n with
  | zero =>
    intro _ _ _ _ _ _ _ _ h
    exact absurd h (by unfold wX12_manyOut_L4; exact id)
  | succ n ih =>
    intro x1 x2 σ H locs ls S hl h
    unfold wX12_manyOut_L4 at h
    refine lv_iload_n hx hb dX12_manyOut_4 rfl (lv_at hl 2 rfl) ?_
    refine lv_aload_n hx hb dX12_manyOut_5 rfl (lv_at hl 0 rfl) ?_
    refine o_get X S 0 28 (by decide) rfl rfl in_12 (by decide) k_895 rfl dX12_manyOut_6 ?_
    refine lv_icmp_ge (tgt := 35) hx hb dX12_manyOut_9 (by decide) (fun q_1 => ?_) (fun q_1 => ?_)
    · replace h := h.1 q_1
      exact hk35 _ _ _ _ _ S (lv_sub hl [1] rfl) h
    · replace h := h.2 q_1
      refine lv_iload_n hx hb dX12_manyOut_12 rfl (lv_at hl 1 rfl) ?_
      refine lv_aload_n hx hb dX12_manyOut_13 rfl (lv_at hl 0 rfl) ?_
      refine o_get X S 0 33 (by decide) rfl rfl in_12 (by decide) k_900 rfl dX12_manyOut_14 ?_
      refine lv_iload_n hx hb dX12_manyOut_17 rfl (lv_at hl 2 rfl) ?_
      refine o_zald X S 21 1 (by decide) (fun _ => rfl) rfl h.1 dX12_manyOut_18 ?_
      replace h := h.2
      refine lv_if_eq (tgt := 26) hx hb dX12_manyOut_19 (by decide) (fun q_2 => ?_) (fun q_2 => ?_)
      · replace h := h.1 q_2
        refine lv_iconst (v := 0) hx hb dX12_manyOut_26 (by decide) ?_
        exact mX12_manyOut_b27 l X hr x2 0 x1 hk35 ih S (lv_sub hl [0, 2] rfl) h
      · replace h := h.2 q_2
        refine lv_iconst (v := 1) hx hb dX12_manyOut_22 (by decide) ?_
        refine lv_goto (tgt := 27) hx hb dX12_manyOut_23 (by decide) ?_
        exact mX12_manyOut_b27 l X hr x2 1 x1 hk35 ih S (lv_sub hl [0, 2] rfl) h
set_option maxHeartbeats 4000000 in
set_option maxRecDepth 100000 in
theorem mX12_manyOut {D : va_G} {cy : Nat → ClassId} {ad : Nat → Nat} (l : Launch) (σ : Sg) (Q : Int32 → Sg → Prop) (h : wX12_manyOut σ Q) : MIM D cy ad l yX12_manyOut (.code yX12_manyOut cX12_manyOut 3 (some .int) :: gT) ({ frames := 0, cells := 0, slots := 0, locals := 0 }) [.ref (ad 0)] σ Q := by
  refine metI_of (by decide +kernel) (Nat.le_of_ble_eq_true rfl) ?_
  intro p e s m args below meth c A ls X hr hl S
  have X : Fx D (tyM cy) EvM p s m args meth c cX12_manyOut 3 "BackBayModel" A := X
  have hl : lv_has ls 3 [(0, .ref (ad 0))] := hl
  have hx := X.1
  have hb := X.2.1
  unfold wX12_manyOut at h
  refine lv_iconst (v := 0) hx hb dX12_manyOut_0 (by decide) ?_
  refine lv_istore_n (lv' := [(1, .int 0), (0, .ref (ad 0))]) hx hb dX12_manyOut_1 rfl hl (by decide) rfl (fun ls hl => ?_)
  refine lv_iconst (v := 0) hx hb dX12_manyOut_2 (by decide) ?_
  refine lv_istore_n (lv' := [(2, .int 0), (1, .int 0), (0, .ref (ad 0))]) hx hb dX12_manyOut_3 rfl hl (by decide) rfl (fun ls hl => ?_)
  obtain ⟨n_4, h⟩ := h
  refine mX12_manyOut_L4 l X hr ?_ n_4 _ _ _ _ _ _ S (lv_sub hl [2, 1, 0] rfl) h
  · intro x1_5 σ_6 H locs ls S hl h
    refine lv_iload_n hx hb dX12_manyOut_35 rfl (lv_at hl 0 rfl) ?_
    exact o_iret X S hr h dX12_manyOut_36
def wX12_count (x1 : Int32) (σ : Sg) (Q : Int64 → Sg → Prop) : Prop :=
  ((x1 = 0 → (wX12_manyRows σ (fun r_2 σ_3 => Q (r_2.toInt64) σ_3))) ∧ (¬ x1 = 0 → ((x1 = 1 → Q ((σ 0 6).toInt64) σ) ∧ (¬ x1 = 1 → ((x1 = 2 → Q ((σ 0 7).toInt64) σ) ∧ (¬ x1 = 2 → ((x1 = 3 → Q ((σ 0 19).toInt64) σ) ∧ (¬ x1 = 3 → ((x1 = 4 → Q ((σ 0 28).toInt64) σ) ∧ (¬ x1 = 4 → ((x1 = 5 → (wX12_manyOut σ (fun r_9 σ_10 => Q (r_9.toInt64) σ_10))) ∧ (¬ x1 = 5 → ((x1 = 6 → Q ((σ 0 42).toInt64) σ) ∧ (¬ x1 = 6 → ((x1 = 7 → Q ((σ 0 5).toInt64) σ) ∧ (¬ x1 = 7 → (wX12_refused 1 σ (fun r_13 σ_14 => Q r_13 σ_14))))))))))))))))))
set_option maxHeartbeats 4000000 in
set_option maxRecDepth 100000 in
theorem mX12_count {D : va_G} {cy : Nat → ClassId} {ad : Nat → Nat} (l : Launch) (x1 : Int32) (σ : Sg) (Q : Int64 → Sg → Prop) (h : wX12_count x1 σ Q) : MLM D cy ad l yX12_count (.code yX12_count cX12_count 2 (some .long) :: gT) ({ frames := 1, cells := 0, slots := 0, locals := 22 }) [.ref (ad 0), .int x1] σ Q := by
  refine metL_of (by decide +kernel) (Nat.le_of_ble_eq_true rfl) ?_
  intro p e s m args below meth c A ls X hr hl S
  have X : Fx D (tyM cy) EvM p s m args meth c cX12_count 2 "BackBayModel" A := X
  have hl : lv_has ls 2 [(0, .ref (ad 0)), (1, .int x1)] := hl
  have hx := X.1
  have hb := X.2.1
  unfold wX12_count at h
  refine lv_iload_n hx hb dX12_count_0 rfl (lv_at hl 1 rfl) ?_
  by_cases q_1 : x1 = 0
  · refine lv_tableIn (tgt := 48) hx hb dX12_count_1 (by rw [q_1] <;> decide) (by rw [q_1] <;> decide) (by rw [q_1] <;> rfl) (by decide) ?_
    replace h := h.1 q_1
    refine lv_aload_n hx hb dX12_count_48 rfl (lv_at hl 0 rfl) ?_
    refine o_callVi (k := 0) EvM_ok X S (mX12_manyRows l σ _ h) (by decide) rfl rfl k_1287 k_1284 k_1286 ks_65 k_14 ⟨rfl, by decide, by decide, by decide +kernel⟩ ⟨rfl, rfl⟩ ⟨Nat.le_of_ble_eq_true rfl, Nat.le_of_ble_eq_true rfl⟩ rfl hl.1 rfl (Nat.le_of_ble_eq_true rfl) dX12_count_49 (fun r_2 σ_3 H locs h S => ?_)
    refine lv_i2l hx hb dX12_count_52 rfl ?_
    exact o_lret X S hr h dX12_count_53
  replace h := h.2 q_1
  by_cases q_4 : x1 = 1
  · refine lv_tableIn (tgt := 54) hx hb dX12_count_1 (by rw [q_4] <;> decide) (by rw [q_4] <;> decide) (by rw [q_4] <;> rfl) (by decide) ?_
    replace h := h.1 q_4
    refine lv_aload_n hx hb dX12_count_54 rfl (lv_at hl 0 rfl) ?_
    refine o_get X S 0 6 (by decide) rfl rfl in_12 (by decide) k_873 rfl dX12_count_55 ?_
    refine lv_i2l hx hb dX12_count_58 rfl ?_
    exact o_lret X S hr h dX12_count_59
  replace h := h.2 q_4
  by_cases q_5 : x1 = 2
  · refine lv_tableIn (tgt := 60) hx hb dX12_count_1 (by rw [q_5] <;> decide) (by rw [q_5] <;> decide) (by rw [q_5] <;> rfl) (by decide) ?_
    replace h := h.1 q_5
    refine lv_aload_n hx hb dX12_count_60 rfl (lv_at hl 0 rfl) ?_
    refine o_get X S 0 7 (by decide) rfl rfl in_12 (by decide) k_874 rfl dX12_count_61 ?_
    refine lv_i2l hx hb dX12_count_64 rfl ?_
    exact o_lret X S hr h dX12_count_65
  replace h := h.2 q_5
  by_cases q_6 : x1 = 3
  · refine lv_tableIn (tgt := 66) hx hb dX12_count_1 (by rw [q_6] <;> decide) (by rw [q_6] <;> decide) (by rw [q_6] <;> rfl) (by decide) ?_
    replace h := h.1 q_6
    refine lv_aload_n hx hb dX12_count_66 rfl (lv_at hl 0 rfl) ?_
    refine o_get X S 0 19 (by decide) rfl rfl in_12 (by decide) k_886 rfl dX12_count_67 ?_
    refine lv_i2l hx hb dX12_count_70 rfl ?_
    exact o_lret X S hr h dX12_count_71
  replace h := h.2 q_6
  by_cases q_7 : x1 = 4
  · refine lv_tableIn (tgt := 72) hx hb dX12_count_1 (by rw [q_7] <;> decide) (by rw [q_7] <;> decide) (by rw [q_7] <;> rfl) (by decide) ?_
    replace h := h.1 q_7
    refine lv_aload_n hx hb dX12_count_72 rfl (lv_at hl 0 rfl) ?_
    refine o_get X S 0 28 (by decide) rfl rfl in_12 (by decide) k_895 rfl dX12_count_73 ?_
    refine lv_i2l hx hb dX12_count_76 rfl ?_
    exact o_lret X S hr h dX12_count_77
  replace h := h.2 q_7
  by_cases q_8 : x1 = 5
  · refine lv_tableIn (tgt := 78) hx hb dX12_count_1 (by rw [q_8] <;> decide) (by rw [q_8] <;> decide) (by rw [q_8] <;> rfl) (by decide) ?_
    replace h := h.1 q_8
    refine lv_aload_n hx hb dX12_count_78 rfl (lv_at hl 0 rfl) ?_
    refine o_callVi (k := 0) EvM_ok X S (mX12_manyOut l σ _ h) (by decide) rfl rfl k_1291 k_1288 k_1290 ks_66 k_14 ⟨rfl, by decide, by decide, by decide +kernel⟩ ⟨rfl, rfl⟩ ⟨Nat.le_of_ble_eq_true rfl, Nat.le_of_ble_eq_true rfl⟩ rfl hl.1 rfl (Nat.le_of_ble_eq_true rfl) dX12_count_79 (fun r_9 σ_10 H locs h S => ?_)
    refine lv_i2l hx hb dX12_count_82 rfl ?_
    exact o_lret X S hr h dX12_count_83
  replace h := h.2 q_8
  by_cases q_11 : x1 = 6
  · refine lv_tableIn (tgt := 84) hx hb dX12_count_1 (by rw [q_11] <;> decide) (by rw [q_11] <;> decide) (by rw [q_11] <;> rfl) (by decide) ?_
    replace h := h.1 q_11
    refine lv_aload_n hx hb dX12_count_84 rfl (lv_at hl 0 rfl) ?_
    refine o_get X S 0 42 (by decide) rfl rfl in_12 (by decide) k_909 rfl dX12_count_85 ?_
    refine lv_i2l hx hb dX12_count_88 rfl ?_
    exact o_lret X S hr h dX12_count_89
  replace h := h.2 q_11
  by_cases q_12 : x1 = 7
  · refine lv_tableIn (tgt := 90) hx hb dX12_count_1 (by rw [q_12] <;> decide) (by rw [q_12] <;> decide) (by rw [q_12] <;> rfl) (by decide) ?_
    replace h := h.1 q_12
    refine lv_aload_n hx hb dX12_count_90 rfl (lv_at hl 0 rfl) ?_
    refine o_get X S 0 5 (by decide) rfl rfl in_12 (by decide) k_872 rfl dX12_count_91 ?_
    refine lv_i2l hx hb dX12_count_94 rfl ?_
    exact o_lret X S hr h dX12_count_95
  replace h := h.2 q_12
  refine lv_tableOut (tgt := 96) hx hb dX12_count_1 (by have r0 := lv_neT (a := 0) q_1 rfl; have r1 := lv_neT (a := 1) q_4 rfl; have r2 := lv_neT (a := 2) q_5 rfl; have r3 := lv_neT (a := 3) q_6 rfl; have r4 := lv_neT (a := 4) q_7 rfl; have r5 := lv_neT (a := 5) q_8 rfl; have r6 := lv_neT (a := 6) q_11 rfl; have r7 := lv_neT (a := 7) q_12 rfl; omega) (by decide) ?_
  refine lv_iconst (v := 1) hx hb dX12_count_96 (by decide) ?_
  refine o_callSl (k := 1) EvM_ok X S (mX12_refused l 1 σ _ h) k_1024 k_1022 k_1023 k_14 ⟨by decide, by decide, by decide +kernel⟩ ⟨rfl, rfl⟩ ⟨Nat.le_of_ble_eq_true rfl, Nat.le_of_ble_eq_true rfl⟩ rfl hl.1 rfl (Nat.le_of_ble_eq_true rfl) dX12_count_97 (fun r_13 σ_14 H locs h S => ?_)
  exact o_lret X S hr h dX12_count_100
def wX12_status (σ : Sg) (Q : Int32 → Sg → Prop) : Prop :=
  Q (σ 0 0) σ
set_option maxHeartbeats 4000000 in
set_option maxRecDepth 100000 in
theorem mX12_status {D : va_G} {cy : Nat → ClassId} {ad : Nat → Nat} (l : Launch) (σ : Sg) (Q : Int32 → Sg → Prop) (h : wX12_status σ Q) : MIM D cy ad l yX12_status (.code yX12_status cX12_status 1 (some .int) :: gT) ({ frames := 0, cells := 0, slots := 0, locals := 0 }) [.ref (ad 0)] σ Q := by
  refine metI_of (by decide +kernel) (Nat.le_of_ble_eq_true rfl) ?_
  intro p e s m args below meth c A ls X hr hl S
  have X : Fx D (tyM cy) EvM p s m args meth c cX12_status 1 "BackBayModel" A := X
  have hl : lv_has ls 1 [(0, .ref (ad 0))] := hl
  have hx := X.1
  have hb := X.2.1
  unfold wX12_status at h
  refine lv_aload_n hx hb dX12_status_0 rfl (lv_at hl 0 rfl) ?_
  refine o_get X S 0 0 (by decide) rfl rfl in_12 (by decide) k_867 rfl dX12_status_1 ?_
  exact o_iret X S hr h dX12_status_4
