def wX11_isWithin_b15 (y0 : Int32) (σ : Sg) (Q : Int32 → Sg → Prop) : Prop :=
  (bok y0 ∧ Q y0 σ)
def wX11_isWithin_b14 (σ : Sg) (Q : Int32 → Sg → Prop) : Prop :=
  wX11_isWithin_b15 0 σ Q
def wX11_isWithin (x0 : Int32) (x1 : Int32) (x2 : Int32) (σ : Sg) (Q : Int32 → Sg → Prop) : Prop :=
  ((x0 < x1 → wX11_isWithin_b14 σ Q) ∧ (¬ x0 < x1 → ((x2 < x0 → wX11_isWithin_b14 σ Q) ∧ (¬ x2 < x0 → wX11_isWithin_b15 1 σ Q))))
set_option maxHeartbeats 4000000 in
set_option maxRecDepth 100000 in
theorem mX11_isWithin_b15 {D : va_G} {cy : Nat → ClassId} {ad z : Nat → Nat} (l : Launch) {p : Program} {e : Env} {s : State} {m : MethodId} {args : Array Value} {below : List Frame} {meth : Method} {c : Code} {A : Nat → Prop} {Q : Int32 → Sg → Prop} (X : Fx D (tyB cy) (EvB z) p s m args meth c cX11_isWithin 3 "BackBay" A) (hr : meth.sig.returnType = some .boolean) (y0 : Int32) {σ : Sg} {H : Heap} {locs : List Loc} {ls : Array Slot} (S : St D ad 75 (shB cy ad) A s σ H locs) (hl : lv_has ls 3 []) (h : wX11_isWithin_b15 y0 σ Q) : W p l e ({ frames := 0, cells := 0, slots := 0, locals := 0 }) s m args below meth c H locs 0 0 (MQ below (va_Qi Q (PosW D (tyB cy) ad 75 (shB cy ad) A) A) args s 0 0 A) (F0 m 15 ls [.int y0]) := by
  have hx := X.1
  have hb := X.2.1
  unfold wX11_isWithin_b15 at h
  exact o_zret X S hr h.1 h.2 dX11_isWithin_15
set_option maxHeartbeats 4000000 in
set_option maxRecDepth 100000 in
theorem mX11_isWithin_b14 {D : va_G} {cy : Nat → ClassId} {ad z : Nat → Nat} (l : Launch) {p : Program} {e : Env} {s : State} {m : MethodId} {args : Array Value} {below : List Frame} {meth : Method} {c : Code} {A : Nat → Prop} {Q : Int32 → Sg → Prop} (X : Fx D (tyB cy) (EvB z) p s m args meth c cX11_isWithin 3 "BackBay" A) (hr : meth.sig.returnType = some .boolean) {σ : Sg} {H : Heap} {locs : List Loc} {ls : Array Slot} (S : St D ad 75 (shB cy ad) A s σ H locs) (hl : lv_has ls 3 []) (h : wX11_isWithin_b14 σ Q) : W p l e ({ frames := 0, cells := 0, slots := 0, locals := 0 }) s m args below meth c H locs 0 0 (MQ below (va_Qi Q (PosW D (tyB cy) ad 75 (shB cy ad) A) A) args s 0 0 A) (F0 m 14 ls []) := by
  have hx := X.1
  have hb := X.2.1
  unfold wX11_isWithin_b14 at h
  refine lv_iconst (v := 0) hx hb dX11_isWithin_14 (by decide) ?_
  exact mX11_isWithin_b15 l X hr 0 S (lv_sub hl [] rfl) h
set_option maxHeartbeats 4000000 in
set_option maxRecDepth 100000 in
theorem mX11_isWithin {D : va_G} {cy : Nat → ClassId} {ad z : Nat → Nat} (l : Launch) (x0 : Int32) (x1 : Int32) (x2 : Int32) (σ : Sg) (Q : Int32 → Sg → Prop) (h : wX11_isWithin x0 x1 x2 σ Q) : MIB D cy ad z l yX11_isWithin (.code yX11_isWithin cX11_isWithin 3 (some .boolean) :: gT) ({ frames := 0, cells := 0, slots := 0, locals := 0 }) [.int x0, .int x1, .int x2] σ Q := by
  refine metI_of (by decide +kernel) (Nat.le_of_ble_eq_true rfl) ?_
  intro p e s m args below meth c A ls X hr hl S
  have X : Fx D (tyB cy) (EvB z) p s m args meth c cX11_isWithin 3 "BackBay" A := X
  have hl : lv_has ls 3 [(0, .int x0), (1, .int x1), (2, .int x2)] := hl
  have hx := X.1
  have hb := X.2.1
  unfold wX11_isWithin at h
  refine lv_iload_n hx hb dX11_isWithin_0 rfl (lv_at hl 0 rfl) ?_
  refine lv_iload_n hx hb dX11_isWithin_1 rfl (lv_at hl 1 rfl) ?_
  refine lv_icmp_lt (tgt := 14) hx hb dX11_isWithin_2 (by decide) (fun q_1 => ?_) (fun q_1 => ?_)
  · replace h := h.1 q_1
    exact mX11_isWithin_b14 l X hr S (lv_sub hl [] rfl) h
  · replace h := h.2 q_1
    refine lv_iload_n hx hb dX11_isWithin_5 rfl (lv_at hl 0 rfl) ?_
    refine lv_iload_n hx hb dX11_isWithin_6 rfl (lv_at hl 2 rfl) ?_
    refine lv_icmp_gt (tgt := 14) hx hb dX11_isWithin_7 (by decide) (fun q_2 => ?_) (fun q_2 => ?_)
    · replace h := h.1 q_2
      exact mX11_isWithin_b14 l X hr S (lv_sub hl [] rfl) h
    · replace h := h.2 q_2
      refine lv_iconst (v := 1) hx hb dX11_isWithin_10 (by decide) ?_
      refine lv_goto (tgt := 15) hx hb dX11_isWithin_11 (by decide) ?_
      exact mX11_isWithin_b15 l X hr 1 S (lv_sub hl [] rfl) h
def wX11_isRow (x0 : Int32) (σ : Sg) (Q : Int32 → Sg → Prop) : Prop :=
  (wX11_isWithin x0 0 7 σ (fun r_1 σ_2 => (bok r_1 ∧ Q r_1 σ_2)))
set_option maxHeartbeats 4000000 in
set_option maxRecDepth 100000 in
theorem mX11_isRow {D : va_G} {cy : Nat → ClassId} {ad z : Nat → Nat} (l : Launch) (x0 : Int32) (σ : Sg) (Q : Int32 → Sg → Prop) (h : wX11_isRow x0 σ Q) : MIB D cy ad z l yX11_isRow (.code yX11_isRow cX11_isRow 1 (some .boolean) :: gT) ({ frames := 1, cells := 0, slots := 0, locals := 22 }) [.int x0] σ Q := by
  refine metI_of (by decide +kernel) (Nat.le_of_ble_eq_true rfl) ?_
  intro p e s m args below meth c A ls X hr hl S
  have X : Fx D (tyB cy) (EvB z) p s m args meth c cX11_isRow 1 "BackBay" A := X
  have hl : lv_has ls 1 [(0, .int x0)] := hl
  have hx := X.1
  have hb := X.2.1
  unfold wX11_isRow at h
  refine lv_iload_n hx hb dX11_isRow_0 rfl (lv_at hl 0 rfl) ?_
  refine lv_iconst (v := 0) hx hb dX11_isRow_1 (by decide) ?_
  refine lv_bipush (v := 7) hx hb dX11_isRow_2 (by decide) ?_
  refine o_callSi (k := 3) (EvB_ok z) X S (mX11_isWithin l x0 0 7 σ _ h) k_371 k_369 k_370 k_1 ⟨by decide, by decide, by decide +kernel⟩ ⟨rfl, rfl⟩ ⟨Nat.le_of_ble_eq_true rfl, Nat.le_of_ble_eq_true rfl⟩ rfl hl.1 rfl (Nat.le_of_ble_eq_true rfl) dX11_isRow_4 (fun r_1 σ_2 H locs h S => ?_)
  exact o_zret X S hr h.1 h.2 dX11_isRow_7
def wX11_found (x1 : Int32) (σ : Sg) (Q : Int64 → Sg → Prop) : Prop :=
  (∀ σ_1, σ_1 = sto σ 0 1 x1 → Q ((-9000000000000000010 : Int64) - (x1.toInt64)) σ_1)
set_option maxHeartbeats 4000000 in
set_option maxRecDepth 100000 in
theorem mX11_found {D : va_G} {cy : Nat → ClassId} {ad z : Nat → Nat} (l : Launch) (x1 : Int32) (σ : Sg) (Q : Int64 → Sg → Prop) (h : wX11_found x1 σ Q) : MLB D cy ad z l yX11_found (.code yX11_found cX11_found 2 (some .long) :: gT) ({ frames := 0, cells := 0, slots := 0, locals := 0 }) [.ref (ad 0), .int x1] σ Q := by
  refine metL_of (by decide +kernel) (Nat.le_of_ble_eq_true rfl) ?_
  intro p e s m args below meth c A ls X hr hl S
  have X : Fx D (tyB cy) (EvB z) p s m args meth c cX11_found 2 "BackBay" A := X
  have hl : lv_has ls 2 [(0, .ref (ad 0)), (1, .int x1)] := hl
  have hx := X.1
  have hb := X.2.1
  unfold wX11_found at h
  refine lv_aload_n hx hb dX11_found_0 rfl (lv_at hl 0 rfl) ?_
  refine lv_iload_n hx hb dX11_found_1 rfl (lv_at hl 1 rfl) ?_
  refine o_puti X S (fs := fun c => [.ref (ad 1), .int (c 1), .ref (ad 2), .ref (ad (c 3).toNatClampNeg), .ref (ad (c 4).toNatClampNeg), .ref (ad 4), .ref (ad 8), .ref (ad 14), .ref (ad 36), .ref (ad 38), .ref (ad 40), .ref (ad 45), .ref (ad 48), .ref (ad 57)]) 0 1 (by decide) (fun _ => rfl) (fun _ _ => rfl) rfl in_11 tyX11_ok nmX11 (by decide) k_320 rfl rfl rfl rfl (fun _ => Nat.le_of_ble_eq_true rfl) dX11_found_2 (fun σ_1 H locs eσ_1 S => ?_)
  replace h := h σ_1 eσ_1
  refine lv_ldc2 (v := (-9000000000000000010)) hx hb X.2.2.2.1 (X.2.2.2.2.1 _ k_377) dX11_found_5 ?_
  refine lv_iload_n hx hb dX11_found_8 rfl (lv_at hl 1 rfl) ?_
  refine lv_i2l hx hb dX11_found_9 rfl ?_
  refine lv_lsub hx hb dX11_found_10 ?_
  exact o_lret X S hr h dX11_found_11
def wX11_foundNothing (x1 : Int64) (σ : Sg) (Q : Int64 → Sg → Prop) : Prop :=
  (∀ σ_1, σ_1 = sto σ 0 1 0 → Q x1 σ_1)
set_option maxHeartbeats 4000000 in
set_option maxRecDepth 100000 in
theorem mX11_foundNothing {D : va_G} {cy : Nat → ClassId} {ad z : Nat → Nat} (l : Launch) (x1 : Int64) (σ : Sg) (Q : Int64 → Sg → Prop) (h : wX11_foundNothing x1 σ Q) : MLB D cy ad z l yX11_foundNothing (.code yX11_foundNothing cX11_foundNothing 3 (some .long) :: gT) ({ frames := 0, cells := 0, slots := 0, locals := 0 }) [.ref (ad 0), .long x1] σ Q := by
  refine metL_of (by decide +kernel) (Nat.le_of_ble_eq_true rfl) ?_
  intro p e s m args below meth c A ls X hr hl S
  have X : Fx D (tyB cy) (EvB z) p s m args meth c cX11_foundNothing 3 "BackBay" A := X
  have hl : lv_has ls 3 [(0, .ref (ad 0)), (1, .long x1)] := hl
  have hx := X.1
  have hb := X.2.1
  unfold wX11_foundNothing at h
  refine lv_aload_n hx hb dX11_foundNothing_0 rfl (lv_at hl 0 rfl) ?_
  refine lv_iconst (v := 0) hx hb dX11_foundNothing_1 (by decide) ?_
  refine o_puti X S (fs := fun c => [.ref (ad 1), .int (c 1), .ref (ad 2), .ref (ad (c 3).toNatClampNeg), .ref (ad (c 4).toNatClampNeg), .ref (ad 4), .ref (ad 8), .ref (ad 14), .ref (ad 36), .ref (ad 38), .ref (ad 40), .ref (ad 45), .ref (ad 48), .ref (ad 57)]) 0 1 (by decide) (fun _ => rfl) (fun _ _ => rfl) rfl in_11 tyX11_ok nmX11 (by decide) k_320 rfl rfl rfl rfl (fun _ => Nat.le_of_ble_eq_true rfl) dX11_foundNothing_2 (fun σ_1 H locs eσ_1 S => ?_)
  replace h := h σ_1 eσ_1
  refine lv_lload_n hx hb dX11_foundNothing_5 rfl (lv_at hl 1 rfl) ?_
  exact o_lret X S hr h dX11_foundNothing_6
def wX11_isKind_L4 (x1 : Int32) (k37 : Sg → Prop) (k23 : Sg → Prop) (Q : Int32 → Sg → Prop) : Nat → Int32 → Int32 → Sg → Prop
  | 0, _, _, _ => False
  | nn4 + 1, x2, x3, σ =>
  ((6 ≤ x3 → k37 σ) ∧ (¬ 6 ≤ x3 → ((x2 = (-1000000) → k37 σ) ∧ (¬ x2 = (-1000000) → ((x2 = x1 → k23 σ) ∧ (¬ x2 = x1 → (vp_in x2 6 ∧ (∀ x2_4, x2_4 = (tabA x2.toNatClampNeg) → (∀ x3_5 : Int32, x3_5 = x3 + 1 → wX11_isKind_L4 x1 k37 k23 Q nn4 x2_4 x3_5 σ)))))))))
def wX11_isKind_b37 (σ : Sg) (Q : Int32 → Sg → Prop) : Prop :=
  Q 0 σ
def wX11_isKind (x0 : Int32) (x1 : Int32) (σ : Sg) (Q : Int32 → Sg → Prop) : Prop :=
  (∃ nf, wX11_isKind_L4 x1 (fun σ_6 => wX11_isKind_b37 σ_6 Q) (fun σ_7 => Q 1 σ_7) Q nf x0 0 σ)
set_option maxHeartbeats 4000000 in
set_option maxRecDepth 100000 in
theorem mX11_isKind_L4 {D : va_G} {cy : Nat → ClassId} {ad z : Nat → Nat} (l : Launch) {p : Program} {e : Env} {s : State} {m : MethodId} {args : Array Value} {below : List Frame} {meth : Method} {c : Code} {A : Nat → Prop} {k37 : Sg → Prop} {k23 : Sg → Prop} {Q : Int32 → Sg → Prop} (X : Fx D (tyB cy) (EvB z) p s m args meth c cX11_isKind 4 "BackBay" A) (hr : meth.sig.returnType = some .boolean) (x1 : Int32) (hk37 : ∀ (σ : Sg) (H : Heap) (locs : List Loc) (ls : Array Slot), St D ad 75 (shB cy ad) A s σ H locs → lv_has ls 4 [] → k37 σ → W p l e ({ frames := 0, cells := 0, slots := 0, locals := 0 }) s m args below meth c H locs 0 0 (MQ below (va_Qi Q (PosW D (tyB cy) ad 75 (shB cy ad) A) A) args s 0 0 A) (F0 m 37 ls [])) (hk23 : ∀ (σ : Sg) (H : Heap) (locs : List Loc) (ls : Array Slot), St D ad 75 (shB cy ad) A s σ H locs → lv_has ls 4 [] → k23 σ → W p l e ({ frames := 0, cells := 0, slots := 0, locals := 0 }) s m args below meth c H locs 0 0 (MQ below (va_Qi Q (PosW D (tyB cy) ad 75 (shB cy ad) A) A) args s 0 0 A) (F0 m 23 ls [])) : ∀ (n : Nat) (x2 : Int32) (x3 : Int32) (σ : Sg) (H : Heap) (locs : List Loc) (ls : Array Slot), St D ad 75 (shB cy ad) A s σ H locs → lv_has ls 4 [(1, .int x1), (2, .int x2), (3, .int x3)] → wX11_isKind_L4 x1 k37 k23 Q n x2 x3 σ → W p l e ({ frames := 0, cells := 0, slots := 0, locals := 0 }) s m args below meth c H locs 0 0 (MQ below (va_Qi Q (PosW D (tyB cy) ad 75 (shB cy ad) A) A) args s 0 0 A) (F0 m 4 ls []) := by
  have hx := X.1
  have hb := X.2.1
  intro n
  induction n with
  | zero =>
    intro _ _ _ _ _ _ _ _ h
    exact absurd h (by unfold wX11_isKind_L4; exact id)
  | succ n ih =>
    intro x2 x3 σ H locs ls S hl h
    unfold wX11_isKind_L4 at h
    refine lv_iload_n hx hb dX11_isKind_4 rfl (lv_at hl 2 rfl) ?_
    refine va_gets hx hb X.2.2.2.2.2.2.2.1.2.2.1.1 S.2.2 X.2.2.2.1 (X.2.2.2.2.1 _ k_785) (fun _ h => h) dX11_isKind_5 ?_
    refine va_tlen (v := 6) hx hb X.2.2.2.2.2.2.2.1.2.2.1.2 S.2.2 rfl dX11_isKind_8 ?_
    refine lv_icmp_ge (tgt := 37) hx hb dX11_isKind_9 (by decide) (fun q_1 => ?_) (fun q_1 => ?_)
    · replace h := h.1 q_1
      exact hk37 _ _ _ _ S (lv_sub hl [] rfl) h
    · replace h := h.2 q_1
      refine lv_iload_n hx hb dX11_isKind_12 rfl (lv_at hl 1 rfl) ?_
      refine lv_ldc (v := (-1000000)) hx hb X.2.2.2.1 (X.2.2.2.2.1 _ k_724) dX11_isKind_13 ?_
      refine lv_icmp_eq (tgt := 37) hx hb dX11_isKind_15 (by decide) (fun q_2 => ?_) (fun q_2 => ?_)
      · replace h := h.1 q_2
        exact hk37 _ _ _ _ S (lv_sub hl [] rfl) h
      · replace h := h.2 q_2
        refine lv_iload_n hx hb dX11_isKind_18 rfl (lv_at hl 1 rfl) ?_
        refine lv_iload_n hx hb dX11_isKind_19 rfl (lv_at hl 0 rfl) ?_
        refine lv_icmp_ne (tgt := 25) hx hb dX11_isKind_20 (by decide) (fun q_3 => ?_) (fun q_3 => ?_)
        · replace h := h.2 q_3
          refine va_gets hx hb X.2.2.2.2.2.2.2.1.2.2.1.1 S.2.2 X.2.2.2.1 (X.2.2.2.2.1 _ k_785) (fun _ h => h) dX11_isKind_25 ?_
          refine lv_iload_n hx hb dX11_isKind_28 rfl (lv_at hl 1 rfl) ?_
          refine va_ti hx hb X.2.2.2.2.2.2.2.1.2.2.1.2 S.2.2 h.1 rfl dX11_isKind_29 ?_
          replace h := h.2
          refine lv_topi (fun x2_4 ex2_4 => ?_)
          replace h := h x2_4 ex2_4
          refine lv_istore_n (lv' := [(2, .int x2_4), (1, .int x1), (3, .int x3)]) hx hb dX11_isKind_30 rfl hl (by decide) rfl (fun ls hl => ?_)
          obtain ⟨x3_5, ex3_5⟩ : ∃ y : Int32, y = x3 + 1 := ⟨_, rfl⟩
          replace h := h x3_5 ex3_5
          refine lv_iinc (v := x3_5) (lv' := [(3, .int x3_5), (2, .int x2_4), (1, .int x1)]) hx hb dX11_isKind_31 hl (k := 2) rfl (by rw [ex3_5]; rfl) (by decide) rfl (fun ls hl => ?_)
          refine lv_goto (tgt := 4) hx hb dX11_isKind_34 (by decide) ?_
          exact ih _ _ _ _ _ _ S (lv_sub hl [2, 1, 0] rfl) h
        · replace h := h.1 q_3
          exact hk23 _ _ _ _ S (lv_sub hl [] rfl) h
set_option maxHeartbeats 4000000 in
set_option maxRecDepth 100000 in
theorem mX11_isKind_b37 {D : va_G} {cy : Nat → ClassId} {ad z : Nat → Nat} (l : Launch) {p : Program} {e : Env} {s : State} {m : MethodId} {args : Array Value} {below : List Frame} {meth : Method} {c : Code} {A : Nat → Prop} {Q : Int32 → Sg → Prop} (X : Fx D (tyB cy) (EvB z) p s m args meth c cX11_isKind 4 "BackBay" A) (hr : meth.sig.returnType = some .boolean) {σ : Sg} {H : Heap} {locs : List Loc} {ls : Array Slot} (S : St D ad 75 (shB cy ad) A s σ H locs) (hl : lv_has ls 4 []) (h : wX11_isKind_b37 σ Q) : W p l e ({ frames := 0, cells := 0, slots := 0, locals := 0 }) s m args below meth c H locs 0 0 (MQ below (va_Qi Q (PosW D (tyB cy) ad 75 (shB cy ad) A) A) args s 0 0 A) (F0 m 37 ls []) := by
  have hx := X.1
  have hb := X.2.1
  unfold wX11_isKind_b37 at h
  refine lv_iconst (v := 0) hx hb dX11_isKind_37 (by decide) ?_
  exact o_zret X S hr bok0 h dX11_isKind_38
set_option maxHeartbeats 4000000 in
set_option maxRecDepth 100000 in
theorem mX11_isKind {D : va_G} {cy : Nat → ClassId} {ad z : Nat → Nat} (l : Launch) (x0 : Int32) (x1 : Int32) (σ : Sg) (Q : Int32 → Sg → Prop) (h : wX11_isKind x0 x1 σ Q) : MIB D cy ad z l yX11_isKind (.code yX11_isKind cX11_isKind 4 (some .boolean) :: gT) ({ frames := 0, cells := 0, slots := 0, locals := 0 }) [.int x0, .int x1] σ Q := by
  refine metI_of (by decide +kernel) (Nat.le_of_ble_eq_true rfl) ?_
  intro p e s m args below meth c A ls X hr hl S
  have X : Fx D (tyB cy) (EvB z) p s m args meth c cX11_isKind 4 "BackBay" A := X
  have hl : lv_has ls 4 [(0, .int x0), (1, .int x1)] := hl
  have hx := X.1
  have hb := X.2.1
  unfold wX11_isKind at h
  refine lv_iload_n hx hb dX11_isKind_0 rfl (lv_at hl 0 rfl) ?_
  refine lv_istore_n (lv' := [(2, .int x0), (0, .int x0), (1, .int x1)]) hx hb dX11_isKind_1 rfl hl (by decide) rfl (fun ls hl => ?_)
  refine lv_iconst (v := 0) hx hb dX11_isKind_2 (by decide) ?_
  refine lv_istore_n (lv' := [(3, .int 0), (2, .int x0), (0, .int x0), (1, .int x1)]) hx hb dX11_isKind_3 rfl hl (by decide) rfl (fun ls hl => ?_)
  obtain ⟨n_4, h⟩ := h
  refine mX11_isKind_L4 l X hr x1 ?_ ?_ n_4 _ _ _ _ _ _ S (lv_sub hl [3, 1, 0] rfl) h
  · intro σ_6 H locs ls S hl h
    exact mX11_isKind_b37 l X hr S (lv_sub hl [] rfl) h
  · intro σ_7 H locs ls S hl h
    refine lv_iconst (v := 1) hx hb dX11_isKind_23 (by decide) ?_
    exact o_zret X S hr bok1 h dX11_isKind_24
def wJ7_fill_53178_L5 (a : Nat) (len : Nat) (x1 : Int32) (x3 : Int32) (k20 : Sg → Prop) (Q : Sg → Prop) : Nat → Int32 → Sg → Prop
  | 0, _, _ => False
  | nn5 + 1, x2, σ =>
  ((x3 ≤ x2 → k20 σ) ∧ (¬ x3 ≤ x2 → (vp_in x2 len ∧ ∀ σ_3, σ_3 = sto σ a x2.toNatClampNeg x1 → (∀ x2_4 : Int32, x2_4 = x2 + 1 → wJ7_fill_53178_L5 a len x1 x3 k20 Q nn5 x2_4 σ_3))))
def wJ7_fill_53178 (a : Nat) (len : Nat) (x1 : Int32) (σ : Sg) (Q : Sg → Prop) : Prop :=
  (∀ x3_1, x3_1 = (nI len) → (∃ nf, wJ7_fill_53178_L5 a len x1 x3_1 (fun σ_5 => Q σ_5) Q nf 0 σ))
set_option maxHeartbeats 4000000 in
set_option maxRecDepth 100000 in
theorem mJ7_fill_53178_L5 {D : va_G} {cy : Nat → ClassId} {ad z : Nat → Nat} (l : Launch) {a : Nat} (ha : a < 75) {len : Nat} (hsh : ∀ c, (shB cy ad) a c = .inl (cy 0, len, .inl c)) {p : Program} {e : Env} {s : State} {m : MethodId} {args : Array Value} {below : List Frame} {meth : Method} {c : Code} {A : Nat → Prop} {k20 : Sg → Prop} {Q : Sg → Prop} (X : Fx D (tyB cy) (EvB z) p s m args meth c cJ7_fill_53178 4 "java/util/Arrays" A) (hr : meth.sig.returnType = none) (x1 : Int32) (x3 : Int32) (hk20 : ∀ (σ : Sg) (H : Heap) (locs : List Loc) (ls : Array Slot), St D ad 75 (shB cy ad) A s σ H locs → lv_has ls 4 [] → k20 σ → W p l e ({ frames := 0, cells := 0, slots := 0, locals := 0 }) s m args below meth c H locs 0 0 (MQ below (va_Qv Q (PosW D (tyB cy) ad 75 (shB cy ad) A) A) args s 0 0 A) (F0 m 20 ls [])) : ∀ (n : Nat) (x2 : Int32) (σ : Sg) (H : Heap) (locs : List Loc) (ls : Array Slot), St D ad 75 (shB cy ad) A s σ H locs → lv_has ls 4 [(0, .ref (ad a)), (1, .int x1), (2, .int x2), (3, .int x3)] → wJ7_fill_53178_L5 a len x1 x3 k20 Q n x2 σ → W p l e ({ frames := 0, cells := 0, slots := 0, locals := 0 }) s m args below meth c H locs 0 0 (MQ below (va_Qv Q (PosW D (tyB cy) ad 75 (shB cy ad) A) A) args s 0 0 A) (F0 m 5 ls []) := by
  have hx := X.1
  have hb := X.2.1
  intro n
  induction n with
  | zero =>
    intro _ _ _ _ _ _ _ h
    exact absurd h (by unfold wJ7_fill_53178_L5; exact id)
  | succ n ih =>
    intro x2 σ H locs ls S hl h
    unfold wJ7_fill_53178_L5 at h
    refine lv_iload_n hx hb dJ7_fill_53178_5 rfl (lv_at hl 2 rfl) ?_
    refine lv_iload_n hx hb dJ7_fill_53178_6 rfl (lv_at hl 3 rfl) ?_
    refine lv_icmp_ge (tgt := 20) hx hb dJ7_fill_53178_7 (by decide) (fun q_2 => ?_) (fun q_2 => ?_)
    · replace h := h.1 q_2
      exact hk20 _ _ _ _ S (lv_sub hl [] rfl) h
    · replace h := h.2 q_2
      refine lv_aload_n hx hb dJ7_fill_53178_10 rfl (lv_at hl 0 rfl) ?_
      refine lv_iload_n hx hb dJ7_fill_53178_11 rfl (lv_at hl 2 rfl) ?_
      refine lv_iload_n hx hb dJ7_fill_53178_12 rfl (lv_at hl 1 rfl) ?_
      refine o_iast X S a 0 ha hsh rfl h.1 dJ7_fill_53178_13 (fun σ_3 H locs eσ_3 S => ?_)
      replace h := h.2 σ_3 eσ_3
      obtain ⟨x2_4, ex2_4⟩ : ∃ y : Int32, y = x2 + 1 := ⟨_, rfl⟩
      replace h := h x2_4 ex2_4
      refine lv_iinc (v := x2_4) (lv' := [(2, .int x2_4), (0, .ref (ad a)), (1, .int x1), (3, .int x3)]) hx hb dJ7_fill_53178_14 hl (k := 2) rfl (by rw [ex2_4]; rfl) (by decide) rfl (fun ls hl => ?_)
      refine lv_goto (tgt := 5) hx hb dJ7_fill_53178_17 (by decide) ?_
      exact ih _ _ _ _ _ S (lv_sub hl [1, 2, 0, 3] rfl) h
set_option maxHeartbeats 4000000 in
set_option maxRecDepth 100000 in
theorem mJ7_fill_53178 {D : va_G} {cy : Nat → ClassId} {ad z : Nat → Nat} (l : Launch) {a : Nat} (ha : a < 75) {len : Nat} (hsh : ∀ c, (shB cy ad) a c = .inl (cy 0, len, .inl c)) (x1 : Int32) (σ : Sg) (Q : Sg → Prop) (h : wJ7_fill_53178 a len x1 σ Q) : MVB D cy ad z l yJ7_fill_53178 (.code yJ7_fill_53178 cJ7_fill_53178 4 none :: gT) ({ frames := 0, cells := 0, slots := 0, locals := 0 }) [.ref (ad a), .int x1] σ Q := by
  refine metV_of (by decide +kernel) (Nat.le_of_ble_eq_true rfl) ?_
  intro p e s m args below meth c A ls X hr hl S
  have X : Fx D (tyB cy) (EvB z) p s m args meth c cJ7_fill_53178 4 "java/util/Arrays" A := X
  have hl : lv_has ls 4 [(0, .ref (ad a)), (1, .int x1)] := hl
  have hx := X.1
  have hb := X.2.1
  unfold wJ7_fill_53178 at h
  refine lv_iconst (v := 0) hx hb dJ7_fill_53178_0 (by decide) ?_
  refine lv_istore_n (lv' := [(2, .int 0), (0, .ref (ad a)), (1, .int x1)]) hx hb dJ7_fill_53178_1 rfl hl (by decide) rfl (fun ls hl => ?_)
  refine lv_aload_n hx hb dJ7_fill_53178_2 rfl (lv_at hl 1 rfl) ?_
  refine o_alen X S a 0 ha (hsh _) rfl rfl dJ7_fill_53178_3 ?_
  refine lv_topi (fun x3_1 ex3_1 => ?_)
  replace h := h x3_1 ex3_1
  refine lv_istore_n (lv' := [(3, .int x3_1), (2, .int 0), (0, .ref (ad a)), (1, .int x1)]) hx hb dJ7_fill_53178_4 rfl hl (by decide) rfl (fun ls hl => ?_)
  obtain ⟨n_5, h⟩ := h
  refine mJ7_fill_53178_L5 l ha hsh X hr x1 x3_1 ?_ n_5 _ _ _ _ _ S (lv_sub hl [2, 3, 1, 0] rfl) h
  · intro σ_5 H locs ls S hl h
    exact o_vret X S hr h dJ7_fill_53178_20
def wX6_begin (w : Nat) (x1 : Int32) (x2 : Int32) (σ : Sg) (Q : Sg → Prop) : Prop :=
  (∀ σ_1, σ_1 = sto σ w 1 1 → (∀ σ_2, σ_2 = sto σ_1 w 2 x1 → (∀ σ_3, σ_3 = sto σ_2 w 3 x2 → (wJ7_fill_53178 (w + 1) 20 0 σ_3 (fun σ_5 => Q σ_5)))))
set_option maxHeartbeats 4000000 in
set_option maxRecDepth 100000 in
theorem mX6_begin {D : va_G} {cy : Nat → ClassId} {ad z : Nat → Nat} (l : Launch) {w : Nat} (hw : isRow w) (x1 : Int32) (x2 : Int32) (σ : Sg) (Q : Sg → Prop) (h : wX6_begin w x1 x2 σ Q) : MVB D cy ad z l yX6_begin (.code yX6_begin cX6_begin 3 none :: gT) ({ frames := 1, cells := 0, slots := 0, locals := 23 }) [.ref (ad w), .int x1, .int x2] σ Q := by
  refine metV_of (by decide +kernel) (Nat.le_of_ble_eq_true rfl) ?_
  intro p e s m args below meth c A ls X hr hl S
  have X : Fx D (tyB cy) (EvB z) p s m args meth c cX6_begin 3 "BackBay$Row" A := X
  have hl : lv_has ls 3 [(0, .ref (ad w)), (1, .int x1), (2, .int x2)] := hl
  have hx := X.1
  have hb := X.2.1
  unfold wX6_begin at h
  refine lv_aload_n hx hb dX6_begin_0 rfl (lv_at hl 0 rfl) ?_
  refine lv_iconst (v := 1) hx hb dX6_begin_1 (by decide) ?_
  refine o_puti X S (fs := fun c => [.ref (ad (w + 1)), .int (c 1), .int (c 2), .int (c 3)]) w 1 (isRow_lt hw 0 (by decide)) (shR0 hw) (fun _ _ => rfl) rfl in_6 tyX6_ok nmX6 (by decide) k_304 rfl rfl rfl rfl (fun _ => Nat.le_of_ble_eq_true rfl) dX6_begin_2 (fun σ_1 H locs eσ_1 S => ?_)
  replace h := h σ_1 eσ_1
  refine lv_aload_n hx hb dX6_begin_5 rfl (lv_at hl 0 rfl) ?_
  refine lv_iload_n hx hb dX6_begin_6 rfl (lv_at hl 1 rfl) ?_
  refine o_puti X S (fs := fun c => [.ref (ad (w + 1)), .int (c 1), .int (c 2), .int (c 3)]) w 2 (isRow_lt hw 0 (by decide)) (shR0 hw) (fun _ _ => rfl) rfl in_6 tyX6_ok nmX6 (by decide) k_306 rfl rfl rfl rfl (fun _ => Nat.le_of_ble_eq_true rfl) dX6_begin_7 (fun σ_2 H locs eσ_2 S => ?_)
  replace h := h σ_2 eσ_2
  refine lv_aload_n hx hb dX6_begin_10 rfl (lv_at hl 0 rfl) ?_
  refine lv_iload_n hx hb dX6_begin_11 rfl (lv_at hl 2 rfl) ?_
  refine o_puti X S (fs := fun c => [.ref (ad (w + 1)), .int (c 1), .int (c 2), .int (c 3)]) w 3 (isRow_lt hw 0 (by decide)) (shR0 hw) (fun _ _ => rfl) rfl in_6 tyX6_ok nmX6 (by decide) k_308 rfl rfl rfl rfl (fun _ => Nat.le_of_ble_eq_true rfl) dX6_begin_12 (fun σ_3 H locs eσ_3 S => ?_)
  replace h := h σ_3 eσ_3
  refine lv_aload_n hx hb dX6_begin_15 rfl (lv_at hl 0 rfl) ?_
  refine o_get X S w 0 (isRow_lt hw 0 (by decide)) ((shR0 hw) _) rfl in_6 (by decide) k_302 rfl dX6_begin_16 ?_
  refine lv_iconst (v := 0) hx hb dX6_begin_19 (by decide) ?_
  refine o_callSv (k := 2) (EvB_ok z) X S (mJ7_fill_53178 l (isRow_lt hw 1 (by decide)) (shR1 hw) 0 σ_3 _ h) k_125 k_382 k_124 k_5 ⟨by decide, by decide, by decide +kernel⟩ ⟨rfl, rfl⟩ ⟨Nat.le_of_ble_eq_true rfl, Nat.le_of_ble_eq_true rfl⟩ rfl hl.1 rfl (Nat.le_of_ble_eq_true rfl) dX6_begin_20 (fun σ_5 H locs h S => ?_)
  exact o_vret X S hr h dX6_begin_23
def wX6_has_b23 (w : Nat) (y0 : Int32) (σ : Sg) (Q : Int32 → Sg → Prop) : Prop :=
  (bok y0 ∧ Q y0 σ)
def wX6_has_b22 (w : Nat) (σ : Sg) (Q : Int32 → Sg → Prop) : Prop :=
  wX6_has_b23 w 0 σ Q
def wX6_has (w : Nat) (x1 : Int32) (x2 : Int32) (σ : Sg) (Q : Int32 → Sg → Prop) : Prop :=
  ((x1 < 0 → wX6_has_b22 w σ Q) ∧ (¬ x1 < 0 → ((x2 < 0 → wX6_has_b22 w σ Q) ∧ (¬ x2 < 0 → ((((σ w 3) - x1) < x2 → wX6_has_b22 w σ Q) ∧ (¬ ((σ w 3) - x1) < x2 → wX6_has_b23 w 1 σ Q))))))
set_option maxHeartbeats 4000000 in
set_option maxRecDepth 100000 in
theorem mX6_has_b23 {D : va_G} {cy : Nat → ClassId} {ad z : Nat → Nat} (l : Launch) {w : Nat} (hw : isRow w) {p : Program} {e : Env} {s : State} {m : MethodId} {args : Array Value} {below : List Frame} {meth : Method} {c : Code} {A : Nat → Prop} {Q : Int32 → Sg → Prop} (X : Fx D (tyB cy) (EvB z) p s m args meth c cX6_has 3 "BackBay$Row" A) (hr : meth.sig.returnType = some .boolean) (y0 : Int32) {σ : Sg} {H : Heap} {locs : List Loc} {ls : Array Slot} (S : St D ad 75 (shB cy ad) A s σ H locs) (hl : lv_has ls 3 []) (h : wX6_has_b23 w y0 σ Q) : W p l e ({ frames := 0, cells := 0, slots := 0, locals := 0 }) s m args below meth c H locs 0 0 (MQ below (va_Qi Q (PosW D (tyB cy) ad 75 (shB cy ad) A) A) args s 0 0 A) (F0 m 23 ls [.int y0]) := by
  have hx := X.1
  have hb := X.2.1
  unfold wX6_has_b23 at h
  exact o_zret X S hr h.1 h.2 dX6_has_23
set_option maxHeartbeats 4000000 in
set_option maxRecDepth 100000 in
theorem mX6_has_b22 {D : va_G} {cy : Nat → ClassId} {ad z : Nat → Nat} (l : Launch) {w : Nat} (hw : isRow w) {p : Program} {e : Env} {s : State} {m : MethodId} {args : Array Value} {below : List Frame} {meth : Method} {c : Code} {A : Nat → Prop} {Q : Int32 → Sg → Prop} (X : Fx D (tyB cy) (EvB z) p s m args meth c cX6_has 3 "BackBay$Row" A) (hr : meth.sig.returnType = some .boolean) {σ : Sg} {H : Heap} {locs : List Loc} {ls : Array Slot} (S : St D ad 75 (shB cy ad) A s σ H locs) (hl : lv_has ls 3 []) (h : wX6_has_b22 w σ Q) : W p l e ({ frames := 0, cells := 0, slots := 0, locals := 0 }) s m args below meth c H locs 0 0 (MQ below (va_Qi Q (PosW D (tyB cy) ad 75 (shB cy ad) A) A) args s 0 0 A) (F0 m 22 ls []) := by
  have hx := X.1
  have hb := X.2.1
  unfold wX6_has_b22 at h
  refine lv_iconst (v := 0) hx hb dX6_has_22 (by decide) ?_
  exact mX6_has_b23 l hw X hr 0 S (lv_sub hl [] rfl) h
set_option maxHeartbeats 4000000 in
set_option maxRecDepth 100000 in
theorem mX6_has {D : va_G} {cy : Nat → ClassId} {ad z : Nat → Nat} (l : Launch) {w : Nat} (hw : isRow w) (x1 : Int32) (x2 : Int32) (σ : Sg) (Q : Int32 → Sg → Prop) (h : wX6_has w x1 x2 σ Q) : MIB D cy ad z l yX6_has (.code yX6_has cX6_has 3 (some .boolean) :: gT) ({ frames := 0, cells := 0, slots := 0, locals := 0 }) [.ref (ad w), .int x1, .int x2] σ Q := by
  refine metI_of (by decide +kernel) (Nat.le_of_ble_eq_true rfl) ?_
  intro p e s m args below meth c A ls X hr hl S
  have X : Fx D (tyB cy) (EvB z) p s m args meth c cX6_has 3 "BackBay$Row" A := X
  have hl : lv_has ls 3 [(0, .ref (ad w)), (1, .int x1), (2, .int x2)] := hl
  have hx := X.1
  have hb := X.2.1
  unfold wX6_has at h
  refine lv_iload_n hx hb dX6_has_0 rfl (lv_at hl 1 rfl) ?_
  refine lv_if_lt (tgt := 22) hx hb dX6_has_1 (by decide) (fun q_1 => ?_) (fun q_1 => ?_)
  · replace h := h.1 q_1
    exact mX6_has_b22 l hw X hr S (lv_sub hl [] rfl) h
  · replace h := h.2 q_1
    refine lv_iload_n hx hb dX6_has_4 rfl (lv_at hl 2 rfl) ?_
    refine lv_if_lt (tgt := 22) hx hb dX6_has_5 (by decide) (fun q_2 => ?_) (fun q_2 => ?_)
    · replace h := h.1 q_2
      exact mX6_has_b22 l hw X hr S (lv_sub hl [] rfl) h
    · replace h := h.2 q_2
      refine lv_iload_n hx hb dX6_has_8 rfl (lv_at hl 2 rfl) ?_
      refine lv_aload_n hx hb dX6_has_9 rfl (lv_at hl 0 rfl) ?_
      refine o_get X S w 3 (isRow_lt hw 0 (by decide)) ((shR0 hw) _) rfl in_6 (by decide) k_308 rfl dX6_has_10 ?_
      refine lv_iload_n hx hb dX6_has_13 rfl (lv_at hl 1 rfl) ?_
      refine lv_isub hx hb dX6_has_14 ?_
      refine lv_icmp_gt (tgt := 22) hx hb dX6_has_15 (by decide) (fun q_3 => ?_) (fun q_3 => ?_)
      · replace h := h.1 q_3
        exact mX6_has_b22 l hw X hr S (lv_sub hl [] rfl) h
      · replace h := h.2 q_3
        refine lv_iconst (v := 1) hx hb dX6_has_18 (by decide) ?_
        refine lv_goto (tgt := 23) hx hb dX6_has_19 (by decide) ?_
        exact mX6_has_b23 l hw X hr 1 S (lv_sub hl [] rfl) h
def wX6_put_b31 (w : Nat) (x1 : Int32) (y0 : Int32) (y1 : Int32) (σ : Sg) (Q : Int32 → Sg → Prop) : Prop :=
  (vp_in y1 20 ∧ ∀ σ_3, σ_3 = sto σ (w + 1) y1.toNatClampNeg y0 → (vp_in x1 20 ∧ Q (σ_3 (w + 1) x1.toNatClampNeg) σ_3))
def wX6_put (w : Nat) (x1 : Int32) (x2 : Int32) (σ : Sg) (Q : Int32 → Sg → Prop) : Prop :=
  (((σ w 2) = 0 → wX6_put_b31 w x1 (x2.toInt8.toInt32) x1 σ Q) ∧ (¬ (σ w 2) = 0 → (((σ w 2) = 1 → wX6_put_b31 w x1 (x2.toInt16.toInt32) x1 σ Q) ∧ (¬ (σ w 2) = 1 → wX6_put_b31 w x1 x2 x1 σ Q))))
set_option maxHeartbeats 4000000 in
set_option maxRecDepth 100000 in
theorem mX6_put_b31 {D : va_G} {cy : Nat → ClassId} {ad z : Nat → Nat} (l : Launch) {w : Nat} (hw : isRow w) {p : Program} {e : Env} {s : State} {m : MethodId} {args : Array Value} {below : List Frame} {meth : Method} {c : Code} {A : Nat → Prop} {Q : Int32 → Sg → Prop} (X : Fx D (tyB cy) (EvB z) p s m args meth c cX6_put 3 "BackBay$Row" A) (hr : meth.sig.returnType = some .int) (x1 : Int32) (y0 : Int32) (y1 : Int32) {σ : Sg} {H : Heap} {locs : List Loc} {ls : Array Slot} (S : St D ad 75 (shB cy ad) A s σ H locs) (hl : lv_has ls 3 [(0, .ref (ad w)), (1, .int x1)]) (h : wX6_put_b31 w x1 y0 y1 σ Q) : W p l e ({ frames := 0, cells := 0, slots := 0, locals := 0 }) s m args below meth c H locs 0 0 (MQ below (va_Qi Q (PosW D (tyB cy) ad 75 (shB cy ad) A) A) args s 0 0 A) (F0 m 31 ls [.int y0, .int y1, .ref (ad (w + 1))]) := by
  have hx := X.1
  have hb := X.2.1
  unfold wX6_put_b31 at h
  refine o_iast X S (w + 1) 0 (isRow_lt hw 1 (by decide)) (shR1 hw) rfl h.1 dX6_put_31 (fun σ_3 H locs eσ_3 S => ?_)
  replace h := h.2 σ_3 eσ_3
  refine lv_aload_n hx hb dX6_put_32 rfl (lv_at hl 0 rfl) ?_
  refine o_get X S w 0 (isRow_lt hw 0 (by decide)) ((shR0 hw) _) rfl in_6 (by decide) k_302 rfl dX6_put_33 ?_
  refine lv_iload_n hx hb dX6_put_36 rfl (lv_at hl 1 rfl) ?_
  refine o_iald X S (w + 1) 0 (isRow_lt hw 1 (by decide)) (shR1 hw) rfl h.1 dX6_put_37 ?_
  replace h := h.2
  exact o_iret X S hr h dX6_put_38
set_option maxHeartbeats 4000000 in
set_option maxRecDepth 100000 in
theorem mX6_put {D : va_G} {cy : Nat → ClassId} {ad z : Nat → Nat} (l : Launch) {w : Nat} (hw : isRow w) (x1 : Int32) (x2 : Int32) (σ : Sg) (Q : Int32 → Sg → Prop) (h : wX6_put w x1 x2 σ Q) : MIB D cy ad z l yX6_put (.code yX6_put cX6_put 3 (some .int) :: gT) ({ frames := 0, cells := 0, slots := 0, locals := 0 }) [.ref (ad w), .int x1, .int x2] σ Q := by
  refine metI_of (by decide +kernel) (Nat.le_of_ble_eq_true rfl) ?_
  intro p e s m args below meth c A ls X hr hl S
  have X : Fx D (tyB cy) (EvB z) p s m args meth c cX6_put 3 "BackBay$Row" A := X
  have hl : lv_has ls 3 [(0, .ref (ad w)), (1, .int x1), (2, .int x2)] := hl
  have hx := X.1
  have hb := X.2.1
  unfold wX6_put at h
  refine lv_aload_n hx hb dX6_put_0 rfl (lv_at hl 0 rfl) ?_
  refine o_get X S w 0 (isRow_lt hw 0 (by decide)) ((shR0 hw) _) rfl in_6 (by decide) k_302 rfl dX6_put_1 ?_
  refine lv_iload_n hx hb dX6_put_4 rfl (lv_at hl 1 rfl) ?_
  refine lv_aload_n hx hb dX6_put_5 rfl (lv_at hl 0 rfl) ?_
  refine o_get X S w 2 (isRow_lt hw 0 (by decide)) ((shR0 hw) _) rfl in_6 (by decide) k_306 rfl dX6_put_6 ?_
  refine lv_if_ne (tgt := 17) hx hb dX6_put_9 (by decide) (fun q_1 => ?_) (fun q_1 => ?_)
  · replace h := h.2 q_1
    refine lv_aload_n hx hb dX6_put_17 rfl (lv_at hl 0 rfl) ?_
    refine o_get X S w 2 (isRow_lt hw 0 (by decide)) ((shR0 hw) _) rfl in_6 (by decide) k_306 rfl dX6_put_18 ?_
    refine lv_iconst (v := 1) hx hb dX6_put_21 (by decide) ?_
    refine lv_icmp_ne (tgt := 30) hx hb dX6_put_22 (by decide) (fun q_2 => ?_) (fun q_2 => ?_)
    · replace h := h.2 q_2
      refine lv_iload_n hx hb dX6_put_30 rfl (lv_at hl 2 rfl) ?_
      exact mX6_put_b31 l hw X hr x1 x2 x1 S (lv_sub hl [0, 1] rfl) h
    · replace h := h.1 q_2
      refine lv_iload_n hx hb dX6_put_25 rfl (lv_at hl 2 rfl) ?_
      refine lv_i2s hx hb dX6_put_26 rfl ?_
      refine lv_goto (tgt := 31) hx hb dX6_put_27 (by decide) ?_
      exact mX6_put_b31 l hw X hr x1 (x2.toInt16.toInt32) x1 S (lv_sub hl [0, 1] rfl) h
  · replace h := h.1 q_1
    refine lv_iload_n hx hb dX6_put_12 rfl (lv_at hl 2 rfl) ?_
    refine lv_i2b hx hb dX6_put_13 rfl ?_
    refine lv_goto (tgt := 31) hx hb dX6_put_14 (by decide) ?_
    exact mX6_put_b31 l hw X hr x1 (x2.toInt8.toInt32) x1 S (lv_sub hl [0, 1] rfl) h
def wX1_begin (x1 : Int32) (σ : Sg) (Q : Sg → Prop) : Prop :=
  (∀ σ_1, σ_1 = sto σ 4 0 x1 → (wJ7_fill_53178 5 10 0 σ_1 (fun σ_3 => (wJ7_fill_53178 6 10 1 σ_3 (fun σ_5 => Q σ_5)))))
set_option maxHeartbeats 4000000 in
set_option maxRecDepth 100000 in
theorem mX1_begin {D : va_G} {cy : Nat → ClassId} {ad z : Nat → Nat} (l : Launch) (x1 : Int32) (σ : Sg) (Q : Sg → Prop) (h : wX1_begin x1 σ Q) : MVB D cy ad z l yX1_begin (.code yX1_begin cX1_begin 2 none :: gT) ({ frames := 1, cells := 0, slots := 0, locals := 23 }) [.ref (ad 4), .int x1] σ Q := by
  refine metV_of (by decide +kernel) (Nat.le_of_ble_eq_true rfl) ?_
  intro p e s m args below meth c A ls X hr hl S
  have X : Fx D (tyB cy) (EvB z) p s m args meth c cX1_begin 2 "BackBay$Bay" A := X
  have hl : lv_has ls 2 [(0, .ref (ad 4)), (1, .int x1)] := hl
  have hx := X.1
  have hb := X.2.1
  unfold wX1_begin at h
  refine lv_aload_n hx hb dX1_begin_0 rfl (lv_at hl 0 rfl) ?_
  refine lv_iload_n hx hb dX1_begin_1 rfl (lv_at hl 1 rfl) ?_
  refine o_puti X S (fs := fun c => [.int (c 0), .ref (ad 5), .ref (ad 6), .ref (ad 7)]) 4 0 (by decide) (fun _ => rfl) (fun _ _ => rfl) rfl in_1 tyX1_ok nmX1 (by decide) k_126 rfl rfl rfl rfl (fun _ => Nat.le_of_ble_eq_true rfl) dX1_begin_2 (fun σ_1 H locs eσ_1 S => ?_)
  replace h := h σ_1 eσ_1
  refine lv_aload_n hx hb dX1_begin_5 rfl (lv_at hl 0 rfl) ?_
  refine o_get X S 4 1 (by decide) rfl rfl in_1 (by decide) k_131 rfl dX1_begin_6 ?_
  refine lv_iconst (v := 0) hx hb dX1_begin_9 (by decide) ?_
  refine o_callSv (k := 2) (EvB_ok z) X S (mJ7_fill_53178 l (by decide) (fun _ => rfl) 0 σ_1 _ h) k_125 k_123 k_124 k_5 ⟨by decide, by decide, by decide +kernel⟩ ⟨rfl, rfl⟩ ⟨Nat.le_of_ble_eq_true rfl, Nat.le_of_ble_eq_true rfl⟩ rfl hl.1 rfl (Nat.le_of_ble_eq_true rfl) dX1_begin_10 (fun σ_3 H locs h S => ?_)
  refine lv_aload_n hx hb dX1_begin_13 rfl (lv_at hl 0 rfl) ?_
  refine o_get X S 4 2 (by decide) rfl rfl in_1 (by decide) k_134 rfl dX1_begin_14 ?_
  refine lv_iconst (v := 1) hx hb dX1_begin_17 (by decide) ?_
  refine o_callSv (k := 2) (EvB_ok z) X S (mJ7_fill_53178 l (by decide) (fun _ => rfl) 1 σ_3 _ h) k_125 k_123 k_124 k_5 ⟨by decide, by decide, by decide +kernel⟩ ⟨rfl, rfl⟩ ⟨Nat.le_of_ble_eq_true rfl, Nat.le_of_ble_eq_true rfl⟩ rfl hl.1 rfl (Nat.le_of_ble_eq_true rfl) dX1_begin_18 (fun σ_5 H locs h S => ?_)
  exact o_vret X S hr h dX1_begin_21
def wX1_has (x1 : Int32) (σ : Sg) (Q : Int32 → Sg → Prop) : Prop :=
  (wX11_isWithin x1 0 ((σ 4 0) - 1) σ (fun r_1 σ_2 => (bok r_1 ∧ Q r_1 σ_2)))
set_option maxHeartbeats 4000000 in
set_option maxRecDepth 100000 in
theorem mX1_has {D : va_G} {cy : Nat → ClassId} {ad z : Nat → Nat} (l : Launch) (x1 : Int32) (σ : Sg) (Q : Int32 → Sg → Prop) (h : wX1_has x1 σ Q) : MIB D cy ad z l yX1_has (.code yX1_has cX1_has 2 (some .boolean) :: gT) ({ frames := 1, cells := 0, slots := 0, locals := 22 }) [.ref (ad 4), .int x1] σ Q := by
  refine metI_of (by decide +kernel) (Nat.le_of_ble_eq_true rfl) ?_
  intro p e s m args below meth c A ls X hr hl S
  have X : Fx D (tyB cy) (EvB z) p s m args meth c cX1_has 2 "BackBay$Bay" A := X
  have hl : lv_has ls 2 [(0, .ref (ad 4)), (1, .int x1)] := hl
  have hx := X.1
  have hb := X.2.1
  unfold wX1_has at h
  refine lv_iload_n hx hb dX1_has_0 rfl (lv_at hl 1 rfl) ?_
  refine lv_iconst (v := 0) hx hb dX1_has_1 (by decide) ?_
  refine lv_aload_n hx hb dX1_has_2 rfl (lv_at hl 0 rfl) ?_
  refine o_get X S 4 0 (by decide) rfl rfl in_1 (by decide) k_126 rfl dX1_has_3 ?_
  refine lv_iconst (v := 1) hx hb dX1_has_6 (by decide) ?_
  refine lv_isub hx hb dX1_has_7 ?_
  refine o_callNi (k := 3) (EvB_ok z) X S (mX11_isWithin l x1 0 ((σ 4 0) - 1) σ _ h) k_371 X.2.2.2.2.2.2.2.1.2.2.2.2.2.2.2.2.2.2.2.2.2.2.2.2.1 k_370 k_1 ⟨by decide, by decide, by decide +kernel⟩ ⟨rfl, rfl⟩ ⟨Nat.le_of_ble_eq_true rfl, Nat.le_of_ble_eq_true rfl⟩ rfl hl.1 rfl (Nat.le_of_ble_eq_true rfl) dX1_has_8 (fun r_1 σ_2 H locs h S => ?_)
  exact o_zret X S hr h.1 h.2 dX1_has_11
def wX9_has (x1 : Int32) (σ : Sg) (Q : Int32 → Sg → Prop) : Prop :=
  (wX11_isWithin x1 0 ((σ 48 0) - 1) σ (fun r_1 σ_2 => (bok r_1 ∧ Q r_1 σ_2)))
set_option maxHeartbeats 4000000 in
set_option maxRecDepth 100000 in
theorem mX9_has {D : va_G} {cy : Nat → ClassId} {ad z : Nat → Nat} (l : Launch) (x1 : Int32) (σ : Sg) (Q : Int32 → Sg → Prop) (h : wX9_has x1 σ Q) : MIB D cy ad z l yX9_has (.code yX9_has cX9_has 2 (some .boolean) :: gT) ({ frames := 1, cells := 0, slots := 0, locals := 22 }) [.ref (ad 48), .int x1] σ Q := by
  refine metI_of (by decide +kernel) (Nat.le_of_ble_eq_true rfl) ?_
  intro p e s m args below meth c A ls X hr hl S
  have X : Fx D (tyB cy) (EvB z) p s m args meth c cX9_has 2 "BackBay$Strippings" A := X
  have hl : lv_has ls 2 [(0, .ref (ad 48)), (1, .int x1)] := hl
  have hx := X.1
  have hb := X.2.1
  unfold wX9_has at h
  refine lv_iload_n hx hb dX9_has_0 rfl (lv_at hl 1 rfl) ?_
  refine lv_iconst (v := 0) hx hb dX9_has_1 (by decide) ?_
  refine lv_aload_n hx hb dX9_has_2 rfl (lv_at hl 0 rfl) ?_
  refine o_get X S 48 0 (by decide) rfl rfl in_9 (by decide) k_269 rfl dX9_has_3 ?_
  refine lv_iconst (v := 1) hx hb dX9_has_6 (by decide) ?_
  refine lv_isub hx hb dX9_has_7 ?_
  refine o_callNi (k := 3) (EvB_ok z) X S (mX11_isWithin l x1 0 ((σ 48 0) - 1) σ _ h) k_371 X.2.2.2.2.2.2.2.1.2.2.2.2.2.2.2.2.2.2.2.2.2.2.2.2.2.1 k_370 k_1 ⟨by decide, by decide, by decide +kernel⟩ ⟨rfl, rfl⟩ ⟨Nat.le_of_ble_eq_true rfl, Nat.le_of_ble_eq_true rfl⟩ rfl hl.1 rfl (Nat.le_of_ble_eq_true rfl) dX9_has_8 (fun r_1 σ_2 H locs h S => ?_)
  exact o_zret X S hr h.1 h.2 dX9_has_11
def wX9_add (σ : Sg) (Q : Sg → Prop) : Prop :=
  (vp_in (σ 48 0) 6 ∧ ∀ σ_1, σ_1 = sto σ 49 (σ 48 0).toNatClampNeg (σ 4 0) → (vp_in (σ_1 48 0) 6 ∧ ∀ r_2, r_2 = 51 + (σ_1 48 0).toNatClampNeg → (cpok 0 0 (σ_1 4 0) 10 10 ∧ ∀ σ_3, σ_3 = cpy σ_1 6 r_2 0 0 (σ_1 4 0).toNatClampNeg → (∀ σ_4, σ_4 = sto σ_3 48 0 ((σ_3 48 0) + 1) → Q σ_4))))
set_option maxHeartbeats 4000000 in
set_option maxRecDepth 100000 in
theorem mX9_add {D : va_G} {cy : Nat → ClassId} {ad z : Nat → Nat} (l : Launch) (σ : Sg) (Q : Sg → Prop) (h : wX9_add σ Q) : MVB D cy ad z l yX9_add (.code yX9_add cX9_add 2 none :: gT) ({ frames := 1, cells := 0, slots := 0, locals := 60 }) [.ref (ad 48), .ref (ad 4)] σ Q := by
  refine metV_of (by decide +kernel) (Nat.le_of_ble_eq_true rfl) ?_
  intro p e s m args below meth c A ls X hr hl S
  have X : Fx D (tyB cy) (EvB z) p s m args meth c cX9_add 2 "BackBay$Strippings" A := X
  have hl : lv_has ls 2 [(0, .ref (ad 48)), (1, .ref (ad 4))] := hl
  have hx := X.1
  have hb := X.2.1
  unfold wX9_add at h
  refine lv_aload_n hx hb dX9_add_0 rfl (lv_at hl 0 rfl) ?_
  refine o_get X S 48 1 (by decide) rfl rfl in_9 (by decide) k_271 rfl dX9_add_1 ?_
  refine lv_aload_n hx hb dX9_add_4 rfl (lv_at hl 0 rfl) ?_
  refine o_get X S 48 0 (by decide) rfl rfl in_9 (by decide) k_269 rfl dX9_add_5 ?_
  refine lv_aload_n hx hb dX9_add_8 rfl (lv_at hl 1 rfl) ?_
  refine o_get X S 4 0 (by decide) rfl rfl in_1 (by decide) k_127 rfl dX9_add_9 ?_
  refine o_iast X S 49 0 (by decide) (fun _ => rfl) rfl h.1 dX9_add_12 (fun σ_1 H locs eσ_1 S => ?_)
  replace h := h.2 σ_1 eσ_1
  refine lv_aload_n hx hb dX9_add_13 rfl (lv_at hl 1 rfl) ?_
  refine o_get X S 4 2 (by decide) rfl rfl in_1 (by decide) k_135 rfl dX9_add_14 ?_
  refine lv_iconst (v := 0) hx hb dX9_add_17 (by decide) ?_
  refine lv_aload_n hx hb dX9_add_18 rfl (lv_at hl 0 rfl) ?_
  refine o_get X S 48 2 (by decide) rfl rfl in_9 (by decide) k_273 rfl dX9_add_19 ?_
  refine lv_aload_n hx hb dX9_add_22 rfl (lv_at hl 0 rfl) ?_
  refine o_get X S 48 0 (by decide) rfl rfl in_9 (by decide) k_269 rfl dX9_add_23 ?_
  obtain ⟨r_2, er_2⟩ : ∃ y : Nat, y = 51 + (σ_1 48 0).toNatClampNeg := ⟨_, rfl⟩
  refine o_rald2 X S (r := r_2) 50 3 (by decide) rfl rfl h.1 (by rw [er_2]) dX9_add_26 ?_
  have hr_2 : isStr r_2 := er_2 ▸ isStr_of h.1
  replace h := h.2 r_2 er_2
  refine lv_iconst (v := 0) hx hb dX9_add_27 (by decide) ?_
  refine lv_aload_n hx hb dX9_add_28 rfl (lv_at hl 1 rfl) ?_
  refine o_get X S 4 0 (by decide) rfl rfl in_1 (by decide) k_127 rfl dX9_add_29 ?_
  refine o_copyi X S hl.1 (X.2.2.2.2.1 _ k_741) (X.2.2.2.2.1 _ k_405) (X.2.2.2.2.1 _ k_404) (X.2.2.2.2.1 _ k_15) 6 r_2 0 0 (by decide) (isStr_lt hr_2) (fun _ => rfl) (shT hr_2) rfl rfl h.1 (Nat.le_of_ble_eq_true rfl) (Nat.le_of_ble_eq_true rfl) dX9_add_32 (fun σ_3 H locs eσ_3 S => ?_)
  replace h := h.2 σ_3 eσ_3
  refine lv_aload_n hx hb dX9_add_35 rfl (lv_at hl 0 rfl) ?_
  refine lv_dup hx hb dX9_add_36 rfl ?_
  refine o_get X S 48 0 (by decide) rfl rfl in_9 (by decide) k_269 rfl dX9_add_37 ?_
  refine lv_iconst (v := 1) hx hb dX9_add_40 (by decide) ?_
  refine lv_iadd hx hb dX9_add_41 ?_
  refine o_puti X S (fs := fun c => [.int (c 0), .ref (ad 49), .ref (ad 50)]) 48 0 (by decide) (fun _ => rfl) (fun _ _ => rfl) rfl in_9 tyX9_ok nmX9 (by decide) k_269 rfl rfl rfl rfl (fun _ => Nat.le_of_ble_eq_true rfl) dX9_add_42 (fun σ_4 H locs eσ_4 S => ?_)
  replace h := h σ_4 eσ_4
  exact o_vret X S hr h dX9_add_45
def wX8_clear (T : Nat) (σ : Sg) (Q : Sg → Prop) : Prop :=
  (∀ σ_1, σ_1 = sto σ T 0 0 → (∀ σ_2, σ_2 = sto σ_1 T 1 0 → Q σ_2))
set_option maxHeartbeats 4000000 in
set_option maxRecDepth 100000 in
theorem mX8_clear {D : va_G} {cy : Nat → ClassId} {ad z : Nat → Nat} (l : Launch) {T : Nat} (hT : isSten T) (σ : Sg) (Q : Sg → Prop) (h : wX8_clear T σ Q) : MVB D cy ad z l yX8_clear (.code yX8_clear cX8_clear 1 none :: gT) ({ frames := 0, cells := 0, slots := 0, locals := 0 }) [.ref (ad T)] σ Q := by
  refine metV_of (by decide +kernel) (Nat.le_of_ble_eq_true rfl) ?_
  intro p e s m args below meth c A ls X hr hl S
  have X : Fx D (tyB cy) (EvB z) p s m args meth c cX8_clear 1 "BackBay$Stencils" A := X
  have hl : lv_has ls 1 [(0, .ref (ad T))] := hl
  have hx := X.1
  have hb := X.2.1
  unfold wX8_clear at h
  refine lv_aload_n hx hb dX8_clear_0 rfl (lv_at hl 0 rfl) ?_
  refine lv_iconst (v := 0) hx hb dX8_clear_1 (by decide) ?_
  refine o_puti X S (fs := fun c => [.int (c 0), .int (c 1), .ref (ad (T + 1)), .ref (ad (T + 2)), .ref (ad (T + 3)), .ref (ad (T + 4)), .ref (ad (T + 5)), .ref (ad (T + 6)), .ref (ad (T + 7))]) T 0 (isSten_lt hT 0 (by decide)) (shS0 hT) (fun _ _ => rfl) rfl in_8 tyX8_ok nmX8 (by decide) k_72 rfl rfl rfl rfl (fun _ => Nat.le_of_ble_eq_true rfl) dX8_clear_2 (fun σ_1 H locs eσ_1 S => ?_)
  replace h := h σ_1 eσ_1
  refine lv_aload_n hx hb dX8_clear_5 rfl (lv_at hl 0 rfl) ?_
  refine lv_iconst (v := 0) hx hb dX8_clear_6 (by decide) ?_
  refine o_puti X S (fs := fun c => [.int (c 0), .int (c 1), .ref (ad (T + 1)), .ref (ad (T + 2)), .ref (ad (T + 3)), .ref (ad (T + 4)), .ref (ad (T + 5)), .ref (ad (T + 6)), .ref (ad (T + 7))]) T 1 (isSten_lt hT 0 (by decide)) (shS0 hT) (fun _ _ => rfl) rfl in_8 tyX8_ok nmX8 (by decide) k_77 rfl rfl rfl rfl (fun _ => Nat.le_of_ble_eq_true rfl) dX8_clear_7 (fun σ_2 H locs eσ_2 S => ?_)
  replace h := h σ_2 eσ_2
  exact o_vret X S hr h dX8_clear_10
def wX8_has (T : Nat) (x1 : Int32) (σ : Sg) (Q : Int32 → Sg → Prop) : Prop :=
  (wX11_isWithin x1 0 ((σ T 1) - 1) σ (fun r_1 σ_2 => (bok r_1 ∧ Q r_1 σ_2)))
set_option maxHeartbeats 4000000 in
set_option maxRecDepth 100000 in
theorem mX8_has {D : va_G} {cy : Nat → ClassId} {ad z : Nat → Nat} (l : Launch) {T : Nat} (hT : isSten T) (x1 : Int32) (σ : Sg) (Q : Int32 → Sg → Prop) (h : wX8_has T x1 σ Q) : MIB D cy ad z l yX8_has (.code yX8_has cX8_has 2 (some .boolean) :: gT) ({ frames := 1, cells := 0, slots := 0, locals := 22 }) [.ref (ad T), .int x1] σ Q := by
  refine metI_of (by decide +kernel) (Nat.le_of_ble_eq_true rfl) ?_
  intro p e s m args below meth c A ls X hr hl S
  have X : Fx D (tyB cy) (EvB z) p s m args meth c cX8_has 2 "BackBay$Stencils" A := X
  have hl : lv_has ls 2 [(0, .ref (ad T)), (1, .int x1)] := hl
  have hx := X.1
  have hb := X.2.1
  unfold wX8_has at h
  refine lv_iload_n hx hb dX8_has_0 rfl (lv_at hl 1 rfl) ?_
  refine lv_iconst (v := 0) hx hb dX8_has_1 (by decide) ?_
  refine lv_aload_n hx hb dX8_has_2 rfl (lv_at hl 0 rfl) ?_
  refine o_get X S T 1 (isSten_lt hT 0 (by decide)) ((shS0 hT) _) rfl in_8 (by decide) k_77 rfl dX8_has_3 ?_
  refine lv_iconst (v := 1) hx hb dX8_has_6 (by decide) ?_
  refine lv_isub hx hb dX8_has_7 ?_
  refine o_callNi (k := 3) (EvB_ok z) X S (mX11_isWithin l x1 0 ((σ T 1) - 1) σ _ h) k_371 X.2.2.2.2.2.2.2.1.2.2.2.2.2.2.2.2.2.2.2.2.2.2.2.2.2.2.1 k_370 k_1 ⟨by decide, by decide, by decide +kernel⟩ ⟨rfl, rfl⟩ ⟨Nat.le_of_ble_eq_true rfl, Nat.le_of_ble_eq_true rfl⟩ rfl hl.1 rfl (Nat.le_of_ble_eq_true rfl) dX8_has_8 (fun r_1 σ_2 H locs h S => ?_)
  exact o_zret X S hr h.1 h.2 dX8_has_11
def wX8_kindOf (T : Nat) (x1 : Int32) (σ : Sg) (Q : Int32 → Sg → Prop) : Prop :=
  (vp_in x1 60 ∧ (vp_in (σ (T + 2) x1.toNatClampNeg) 11 ∧ Q (tabK (σ (T + 2) x1.toNatClampNeg).toNatClampNeg) σ))
set_option maxHeartbeats 4000000 in
set_option maxRecDepth 100000 in
theorem mX8_kindOf {D : va_G} {cy : Nat → ClassId} {ad z : Nat → Nat} (l : Launch) {T : Nat} (hT : isSten T) (x1 : Int32) (σ : Sg) (Q : Int32 → Sg → Prop) (h : wX8_kindOf T x1 σ Q) : MIB D cy ad z l yX8_kindOf (.code yX8_kindOf cX8_kindOf 2 (some .int) :: gT) ({ frames := 0, cells := 0, slots := 0, locals := 0 }) [.ref (ad T), .int x1] σ Q := by
  refine metI_of (by decide +kernel) (Nat.le_of_ble_eq_true rfl) ?_
  intro p e s m args below meth c A ls X hr hl S
  have X : Fx D (tyB cy) (EvB z) p s m args meth c cX8_kindOf 2 "BackBay$Stencils" A := X
  have hl : lv_has ls 2 [(0, .ref (ad T)), (1, .int x1)] := hl
  have hx := X.1
  have hb := X.2.1
  unfold wX8_kindOf at h
  refine va_getsN hx hb X.2.2.2.2.2.2.2.1.2.1.1 S.2.2 X.2.2.2.1 (va_Nw.use rfl X.2.2.2.2.2.2.2.1.2.2.2.2.2.2.2.2.2.2.2.2.2.2.2.2.2.2.2.2) (fun _ h => h) dX8_kindOf_0 ?_
  refine lv_aload_n hx hb dX8_kindOf_3 rfl (lv_at hl 0 rfl) ?_
  refine o_get X S T 3 (isSten_lt hT 0 (by decide)) ((shS0 hT) _) rfl in_8 (by decide) k_81 rfl dX8_kindOf_4 ?_
  refine lv_iload_n hx hb dX8_kindOf_7 rfl (lv_at hl 1 rfl) ?_
  refine o_iald X S (T + 2) 0 (isSten_lt hT 2 (by decide)) (shS2 hT) rfl h.1 dX8_kindOf_8 ?_
  replace h := h.2
  refine va_ti hx hb X.2.2.2.2.2.2.2.1.2.1.2 S.2.2 h.1 rfl dX8_kindOf_9 ?_
  replace h := h.2
  exact o_iret X S hr h dX8_kindOf_10
def wX8_nodesOfOpen (T : Nat) (σ : Sg) (Q : Int32 → Sg → Prop) : Prop :=
  (vp_in (σ T 0) 4 ∧ Q ((σ T 1) - (σ (T + 1) (σ T 0).toNatClampNeg)) σ)
set_option maxHeartbeats 4000000 in
set_option maxRecDepth 100000 in
theorem mX8_nodesOfOpen {D : va_G} {cy : Nat → ClassId} {ad z : Nat → Nat} (l : Launch) {T : Nat} (hT : isSten T) (σ : Sg) (Q : Int32 → Sg → Prop) (h : wX8_nodesOfOpen T σ Q) : MIB D cy ad z l yX8_nodesOfOpen (.code yX8_nodesOfOpen cX8_nodesOfOpen 1 (some .int) :: gT) ({ frames := 0, cells := 0, slots := 0, locals := 0 }) [.ref (ad T)] σ Q := by
  refine metI_of (by decide +kernel) (Nat.le_of_ble_eq_true rfl) ?_
  intro p e s m args below meth c A ls X hr hl S
  have X : Fx D (tyB cy) (EvB z) p s m args meth c cX8_nodesOfOpen 1 "BackBay$Stencils" A := X
  have hl : lv_has ls 1 [(0, .ref (ad T))] := hl
  have hx := X.1
  have hb := X.2.1
  unfold wX8_nodesOfOpen at h
  refine lv_aload_n hx hb dX8_nodesOfOpen_0 rfl (lv_at hl 0 rfl) ?_
  refine o_get X S T 1 (isSten_lt hT 0 (by decide)) ((shS0 hT) _) rfl in_8 (by decide) k_77 rfl dX8_nodesOfOpen_1 ?_
  refine lv_aload_n hx hb dX8_nodesOfOpen_4 rfl (lv_at hl 0 rfl) ?_
  refine o_get X S T 2 (isSten_lt hT 0 (by decide)) ((shS0 hT) _) rfl in_8 (by decide) k_79 rfl dX8_nodesOfOpen_5 ?_
  refine lv_aload_n hx hb dX8_nodesOfOpen_8 rfl (lv_at hl 0 rfl) ?_
  refine o_get X S T 0 (isSten_lt hT 0 (by decide)) ((shS0 hT) _) rfl in_8 (by decide) k_72 rfl dX8_nodesOfOpen_9 ?_
  refine o_iald X S (T + 1) 0 (isSten_lt hT 1 (by decide)) (shS1 hT) rfl h.1 dX8_nodesOfOpen_12 ?_
  replace h := h.2
  refine lv_isub hx hb dX8_nodesOfOpen_13 ?_
  exact o_iret X S hr h dX8_nodesOfOpen_14
def wX8_addNode (T : Nat) (x1 : Int32) (x2 : Int32) (σ : Sg) (Q : Int32 → Sg → Prop) : Prop :=
  (vp_in (σ T 1) 60 ∧ ∀ σ_1, σ_1 = sto σ (T + 2) (σ T 1).toNatClampNeg x1 → (vp_in (σ_1 T 1) 60 ∧ ∀ σ_2, σ_2 = sto σ_1 (T + 3) (σ_1 T 1).toNatClampNeg x2 → (∀ σ_3, σ_3 = sto σ_2 T 1 ((σ_2 T 1) + 1) → Q ((σ_3 T 1) - 1) σ_3)))
set_option maxHeartbeats 4000000 in
set_option maxRecDepth 100000 in
theorem mX8_addNode {D : va_G} {cy : Nat → ClassId} {ad z : Nat → Nat} (l : Launch) {T : Nat} (hT : isSten T) (x1 : Int32) (x2 : Int32) (σ : Sg) (Q : Int32 → Sg → Prop) (h : wX8_addNode T x1 x2 σ Q) : MIB D cy ad z l yX8_addNode (.code yX8_addNode cX8_addNode 3 (some .int) :: gT) ({ frames := 0, cells := 0, slots := 0, locals := 0 }) [.ref (ad T), .int x1, .int x2] σ Q := by
  refine metI_of (by decide +kernel) (Nat.le_of_ble_eq_true rfl) ?_
  intro p e s m args below meth c A ls X hr hl S
  have X : Fx D (tyB cy) (EvB z) p s m args meth c cX8_addNode 3 "BackBay$Stencils" A := X
  have hl : lv_has ls 3 [(0, .ref (ad T)), (1, .int x1), (2, .int x2)] := hl
  have hx := X.1
  have hb := X.2.1
  unfold wX8_addNode at h
  refine lv_aload_n hx hb dX8_addNode_0 rfl (lv_at hl 0 rfl) ?_
  refine o_get X S T 3 (isSten_lt hT 0 (by decide)) ((shS0 hT) _) rfl in_8 (by decide) k_81 rfl dX8_addNode_1 ?_
  refine lv_aload_n hx hb dX8_addNode_4 rfl (lv_at hl 0 rfl) ?_
  refine o_get X S T 1 (isSten_lt hT 0 (by decide)) ((shS0 hT) _) rfl in_8 (by decide) k_77 rfl dX8_addNode_5 ?_
  refine lv_iload_n hx hb dX8_addNode_8 rfl (lv_at hl 1 rfl) ?_
  refine o_iast X S (T + 2) 0 (isSten_lt hT 2 (by decide)) (shS2 hT) rfl h.1 dX8_addNode_9 (fun σ_1 H locs eσ_1 S => ?_)
  replace h := h.2 σ_1 eσ_1
  refine lv_aload_n hx hb dX8_addNode_10 rfl (lv_at hl 0 rfl) ?_
  refine o_get X S T 4 (isSten_lt hT 0 (by decide)) ((shS0 hT) _) rfl in_8 (by decide) k_83 rfl dX8_addNode_11 ?_
  refine lv_aload_n hx hb dX8_addNode_14 rfl (lv_at hl 0 rfl) ?_
  refine o_get X S T 1 (isSten_lt hT 0 (by decide)) ((shS0 hT) _) rfl in_8 (by decide) k_77 rfl dX8_addNode_15 ?_
  refine lv_iload_n hx hb dX8_addNode_18 rfl (lv_at hl 2 rfl) ?_
  refine o_iast X S (T + 3) 0 (isSten_lt hT 3 (by decide)) (shS3 hT) rfl h.1 dX8_addNode_19 (fun σ_2 H locs eσ_2 S => ?_)
  replace h := h.2 σ_2 eσ_2
  refine lv_aload_n hx hb dX8_addNode_20 rfl (lv_at hl 0 rfl) ?_
  refine lv_dup hx hb dX8_addNode_21 rfl ?_
  refine o_get X S T 1 (isSten_lt hT 0 (by decide)) ((shS0 hT) _) rfl in_8 (by decide) k_77 rfl dX8_addNode_22 ?_
  refine lv_iconst (v := 1) hx hb dX8_addNode_25 (by decide) ?_
  refine lv_iadd hx hb dX8_addNode_26 ?_
  refine o_puti X S (fs := fun c => [.int (c 0), .int (c 1), .ref (ad (T + 1)), .ref (ad (T + 2)), .ref (ad (T + 3)), .ref (ad (T + 4)), .ref (ad (T + 5)), .ref (ad (T + 6)), .ref (ad (T + 7))]) T 1 (isSten_lt hT 0 (by decide)) (shS0 hT) (fun _ _ => rfl) rfl in_8 tyX8_ok nmX8 (by decide) k_77 rfl rfl rfl rfl (fun _ => Nat.le_of_ble_eq_true rfl) dX8_addNode_27 (fun σ_3 H locs eσ_3 S => ?_)
  replace h := h σ_3 eσ_3
  refine lv_aload_n hx hb dX8_addNode_30 rfl (lv_at hl 0 rfl) ?_
  refine o_get X S T 1 (isSten_lt hT 0 (by decide)) ((shS0 hT) _) rfl in_8 (by decide) k_77 rfl dX8_addNode_31 ?_
  refine lv_iconst (v := 1) hx hb dX8_addNode_34 (by decide) ?_
  refine lv_isub hx hb dX8_addNode_35 ?_
  exact o_iret X S hr h dX8_addNode_36
def wX8_behind (T : Nat) (x1 : Int32) (σ : Sg) (Q : Int32 → Sg → Prop) : Prop :=
  (vp_in x1 60 ∧ Q (x1 + (σ (T + 4) x1.toNatClampNeg)) σ)
set_option maxHeartbeats 4000000 in
set_option maxRecDepth 100000 in
theorem mX8_behind {D : va_G} {cy : Nat → ClassId} {ad z : Nat → Nat} (l : Launch) {T : Nat} (hT : isSten T) (x1 : Int32) (σ : Sg) (Q : Int32 → Sg → Prop) (h : wX8_behind T x1 σ Q) : MIB D cy ad z l yX8_behind (.code yX8_behind cX8_behind 2 (some .int) :: gT) ({ frames := 0, cells := 0, slots := 0, locals := 0 }) [.ref (ad T), .int x1] σ Q := by
  refine metI_of (by decide +kernel) (Nat.le_of_ble_eq_true rfl) ?_
  intro p e s m args below meth c A ls X hr hl S
  have X : Fx D (tyB cy) (EvB z) p s m args meth c cX8_behind 2 "BackBay$Stencils" A := X
  have hl : lv_has ls 2 [(0, .ref (ad T)), (1, .int x1)] := hl
  have hx := X.1
  have hb := X.2.1
  unfold wX8_behind at h
  refine lv_iload_n hx hb dX8_behind_0 rfl (lv_at hl 1 rfl) ?_
  refine lv_aload_n hx hb dX8_behind_1 rfl (lv_at hl 0 rfl) ?_
  refine o_get X S T 5 (isSten_lt hT 0 (by decide)) ((shS0 hT) _) rfl in_8 (by decide) k_85 rfl dX8_behind_2 ?_
  refine lv_iload_n hx hb dX8_behind_5 rfl (lv_at hl 1 rfl) ?_
  refine o_iald X S (T + 4) 0 (isSten_lt hT 4 (by decide)) (shS4 hT) rfl h.1 dX8_behind_6 ?_
  replace h := h.2
  refine lv_iadd hx hb dX8_behind_7 ?_
  exact o_iret X S hr h dX8_behind_8
def wX8_closeNode_b78 (T : Nat) (σ : Sg) (Q : Sg → Prop) : Prop :=
  Q σ
def wX8_closeNode_b35 (T : Nat) (x1 : Int32) (σ : Sg) (Q : Sg → Prop) : Prop :=
  (vp_in x1 60 ∧ (((σ (T + 2) x1.toNatClampNeg) = 10 → (vp_in x1 60 ∧ (wX8_behind T (σ (T + 5) x1.toNatClampNeg) σ (fun r_4 σ_5 => (vp_in x1 60 ∧ ∀ σ_6, σ_6 = sto σ_5 (T + 6) x1.toNatClampNeg r_4 → (vp_in x1 60 ∧ (wX8_behind T (σ_6 (T + 6) x1.toNatClampNeg) σ_6 (fun r_7 σ_8 => (vp_in x1 60 ∧ ∀ σ_9, σ_9 = sto σ_8 (T + 7) x1.toNatClampNeg r_7 → wX8_closeNode_b78 T σ_9 Q))))))))) ∧ (¬ (σ (T + 2) x1.toNatClampNeg) = 10 → wX8_closeNode_b78 T σ Q)))
def wX8_closeNode (T : Nat) (x1 : Int32) (σ : Sg) (Q : Sg → Prop) : Prop :=
  (vp_in x1 60 ∧ ∀ σ_1, σ_1 = sto σ (T + 4) x1.toNatClampNeg ((σ T 1) - x1) → (vp_in x1 60 ∧ (((σ_1 (T + 2) x1.toNatClampNeg) < 5 → wX8_closeNode_b35 T x1 σ_1 Q) ∧ (¬ (σ_1 (T + 2) x1.toNatClampNeg) < 5 → (wX8_behind T (x1 + 1) σ_1 (fun r_10 σ_11 => (vp_in x1 60 ∧ ∀ σ_12, σ_12 = sto σ_11 (T + 5) x1.toNatClampNeg r_10 → wX8_closeNode_b35 T x1 σ_12 Q)))))))
set_option maxHeartbeats 4000000 in
set_option maxRecDepth 100000 in
theorem mX8_closeNode_b78 {D : va_G} {cy : Nat → ClassId} {ad z : Nat → Nat} (l : Launch) {T : Nat} (hT : isSten T) {p : Program} {e : Env} {s : State} {m : MethodId} {args : Array Value} {below : List Frame} {meth : Method} {c : Code} {A : Nat → Prop} {Q : Sg → Prop} (X : Fx D (tyB cy) (EvB z) p s m args meth c cX8_closeNode 2 "BackBay$Stencils" A) (hr : meth.sig.returnType = none) {σ : Sg} {H : Heap} {locs : List Loc} {ls : Array Slot} (S : St D ad 75 (shB cy ad) A s σ H locs) (hl : lv_has ls 2 []) (h : wX8_closeNode_b78 T σ Q) : W p l e ({ frames := 1, cells := 0, slots := 0, locals := 21 }) s m args below meth c H locs 0 0 (MQ below (va_Qv Q (PosW D (tyB cy) ad 75 (shB cy ad) A) A) args s 0 0 A) (F0 m 78 ls []) := by
  have hx := X.1
  have hb := X.2.1
  unfold wX8_closeNode_b78 at h
  exact o_vret X S hr h dX8_closeNode_78
set_option maxHeartbeats 4000000 in
set_option maxRecDepth 100000 in
theorem mX8_closeNode_b35 {D : va_G} {cy : Nat → ClassId} {ad z : Nat → Nat} (l : Launch) {T : Nat} (hT : isSten T) {p : Program} {e : Env} {s : State} {m : MethodId} {args : Array Value} {below : List Frame} {meth : Method} {c : Code} {A : Nat → Prop} {Q : Sg → Prop} (X : Fx D (tyB cy) (EvB z) p s m args meth c cX8_closeNode 2 "BackBay$Stencils" A) (hr : meth.sig.returnType = none) (x1 : Int32) {σ : Sg} {H : Heap} {locs : List Loc} {ls : Array Slot} (S : St D ad 75 (shB cy ad) A s σ H locs) (hl : lv_has ls 2 [(0, .ref (ad T)), (1, .int x1)]) (h : wX8_closeNode_b35 T x1 σ Q) : W p l e ({ frames := 1, cells := 0, slots := 0, locals := 21 }) s m args below meth c H locs 0 0 (MQ below (va_Qv Q (PosW D (tyB cy) ad 75 (shB cy ad) A) A) args s 0 0 A) (F0 m 35 ls []) := by
  have hx := X.1
  have hb := X.2.1
  unfold wX8_closeNode_b35 at h
  refine lv_aload_n hx hb dX8_closeNode_35 rfl (lv_at hl 0 rfl) ?_
  refine o_get X S T 3 (isSten_lt hT 0 (by decide)) ((shS0 hT) _) rfl in_8 (by decide) k_81 rfl dX8_closeNode_36 ?_
  refine lv_iload_n hx hb dX8_closeNode_39 rfl (lv_at hl 1 rfl) ?_
  refine o_iald X S (T + 2) 0 (isSten_lt hT 2 (by decide)) (shS2 hT) rfl h.1 dX8_closeNode_40 ?_
  replace h := h.2
  refine lv_bipush (v := 10) hx hb dX8_closeNode_41 (by decide) ?_
  refine lv_icmp_ne (tgt := 78) hx hb dX8_closeNode_43 (by decide) (fun q_3 => ?_) (fun q_3 => ?_)
  · replace h := h.2 q_3
    exact mX8_closeNode_b78 l hT X hr S (lv_sub hl [] rfl) h
  · replace h := h.1 q_3
    refine lv_aload_n hx hb dX8_closeNode_46 rfl (lv_at hl 0 rfl) ?_
    refine o_get X S T 7 (isSten_lt hT 0 (by decide)) ((shS0 hT) _) rfl in_8 (by decide) k_90 rfl dX8_closeNode_47 ?_
    refine lv_iload_n hx hb dX8_closeNode_50 rfl (lv_at hl 1 rfl) ?_
    refine lv_aload_n hx hb dX8_closeNode_51 rfl (lv_at hl 0 rfl) ?_
    refine lv_aload_n hx hb dX8_closeNode_52 rfl (lv_at hl 0 rfl) ?_
    refine o_get X S T 6 (isSten_lt hT 0 (by decide)) ((shS0 hT) _) rfl in_8 (by decide) k_88 rfl dX8_closeNode_53 ?_
    refine lv_iload_n hx hb dX8_closeNode_56 rfl (lv_at hl 1 rfl) ?_
    refine o_iald X S (T + 5) 0 (isSten_lt hT 5 (by decide)) (shS5 hT) rfl h.1 dX8_closeNode_57 ?_
    replace h := h.2
    refine o_callVi (k := 1) (EvB_ok z) X S (mX8_behind l hT (σ (T + 5) x1.toNatClampNeg) σ _ h) (isSten_lt hT 0 (by decide)) ((shS0 hT) _) rfl k_539 k_536 k_538 ks_10 k_3 ⟨rfl, by decide, by decide, by decide +kernel⟩ ⟨rfl, rfl⟩ ⟨Nat.le_of_ble_eq_true rfl, Nat.le_of_ble_eq_true rfl⟩ rfl hl.1 rfl (Nat.le_of_ble_eq_true rfl) dX8_closeNode_58 (fun r_4 σ_5 H locs h S => ?_)
    refine o_iast X S (T + 6) 0 (isSten_lt hT 6 (by decide)) (shS6 hT) rfl h.1 dX8_closeNode_61 (fun σ_6 H locs eσ_6 S => ?_)
    replace h := h.2 σ_6 eσ_6
    refine lv_aload_n hx hb dX8_closeNode_62 rfl (lv_at hl 0 rfl) ?_
    refine o_get X S T 8 (isSten_lt hT 0 (by decide)) ((shS0 hT) _) rfl in_8 (by decide) k_92 rfl dX8_closeNode_63 ?_
    refine lv_iload_n hx hb dX8_closeNode_66 rfl (lv_at hl 1 rfl) ?_
    refine lv_aload_n hx hb dX8_closeNode_67 rfl (lv_at hl 0 rfl) ?_
    refine lv_aload_n hx hb dX8_closeNode_68 rfl (lv_at hl 0 rfl) ?_
    refine o_get X S T 7 (isSten_lt hT 0 (by decide)) ((shS0 hT) _) rfl in_8 (by decide) k_90 rfl dX8_closeNode_69 ?_
    refine lv_iload_n hx hb dX8_closeNode_72 rfl (lv_at hl 1 rfl) ?_
    refine o_iald X S (T + 6) 0 (isSten_lt hT 6 (by decide)) (shS6 hT) rfl h.1 dX8_closeNode_73 ?_
    replace h := h.2
    refine o_callVi (k := 1) (EvB_ok z) X S (mX8_behind l hT (σ_6 (T + 6) x1.toNatClampNeg) σ_6 _ h) (isSten_lt hT 0 (by decide)) ((shS0 hT) _) rfl k_539 k_536 k_538 ks_10 k_3 ⟨rfl, by decide, by decide, by decide +kernel⟩ ⟨rfl, rfl⟩ ⟨Nat.le_of_ble_eq_true rfl, Nat.le_of_ble_eq_true rfl⟩ rfl hl.1 rfl (Nat.le_of_ble_eq_true rfl) dX8_closeNode_74 (fun r_7 σ_8 H locs h S => ?_)
    refine o_iast X S (T + 7) 0 (isSten_lt hT 7 (by decide)) (shS7 hT) rfl h.1 dX8_closeNode_77 (fun σ_9 H locs eσ_9 S => ?_)
    replace h := h.2 σ_9 eσ_9
    exact mX8_closeNode_b78 l hT X hr S (lv_sub hl [] rfl) h
set_option maxHeartbeats 4000000 in
set_option maxRecDepth 100000 in
theorem mX8_closeNode {D : va_G} {cy : Nat → ClassId} {ad z : Nat → Nat} (l : Launch) {T : Nat} (hT : isSten T) (x1 : Int32) (σ : Sg) (Q : Sg → Prop) (h : wX8_closeNode T x1 σ Q) : MVB D cy ad z l yX8_closeNode (.code yX8_closeNode cX8_closeNode 2 none :: gT) ({ frames := 1, cells := 0, slots := 0, locals := 21 }) [.ref (ad T), .int x1] σ Q := by
  refine metV_of (by decide +kernel) (Nat.le_of_ble_eq_true rfl) ?_
  intro p e s m args below meth c A ls X hr hl S
  have X : Fx D (tyB cy) (EvB z) p s m args meth c cX8_closeNode 2 "BackBay$Stencils" A := X
  have hl : lv_has ls 2 [(0, .ref (ad T)), (1, .int x1)] := hl
  have hx := X.1
  have hb := X.2.1
  unfold wX8_closeNode at h
  refine lv_aload_n hx hb dX8_closeNode_0 rfl (lv_at hl 0 rfl) ?_
  refine o_get X S T 5 (isSten_lt hT 0 (by decide)) ((shS0 hT) _) rfl in_8 (by decide) k_85 rfl dX8_closeNode_1 ?_
  refine lv_iload_n hx hb dX8_closeNode_4 rfl (lv_at hl 1 rfl) ?_
  refine lv_aload_n hx hb dX8_closeNode_5 rfl (lv_at hl 0 rfl) ?_
  refine o_get X S T 1 (isSten_lt hT 0 (by decide)) ((shS0 hT) _) rfl in_8 (by decide) k_77 rfl dX8_closeNode_6 ?_
  refine lv_iload_n hx hb dX8_closeNode_9 rfl (lv_at hl 1 rfl) ?_
  refine lv_isub hx hb dX8_closeNode_10 ?_
  refine o_iast X S (T + 4) 0 (isSten_lt hT 4 (by decide)) (shS4 hT) rfl h.1 dX8_closeNode_11 (fun σ_1 H locs eσ_1 S => ?_)
  replace h := h.2 σ_1 eσ_1
  refine lv_aload_n hx hb dX8_closeNode_12 rfl (lv_at hl 0 rfl) ?_
  refine o_get X S T 3 (isSten_lt hT 0 (by decide)) ((shS0 hT) _) rfl in_8 (by decide) k_81 rfl dX8_closeNode_13 ?_
  refine lv_iload_n hx hb dX8_closeNode_16 rfl (lv_at hl 1 rfl) ?_
  refine o_iald X S (T + 2) 0 (isSten_lt hT 2 (by decide)) (shS2 hT) rfl h.1 dX8_closeNode_17 ?_
  replace h := h.2
  refine lv_iconst (v := 5) hx hb dX8_closeNode_18 (by decide) ?_
  refine lv_icmp_lt (tgt := 35) hx hb dX8_closeNode_19 (by decide) (fun q_2 => ?_) (fun q_2 => ?_)
  · replace h := h.1 q_2
    exact mX8_closeNode_b35 l hT X hr x1 S (lv_sub hl [0, 1] rfl) h
  · replace h := h.2 q_2
    refine lv_aload_n hx hb dX8_closeNode_22 rfl (lv_at hl 0 rfl) ?_
    refine o_get X S T 6 (isSten_lt hT 0 (by decide)) ((shS0 hT) _) rfl in_8 (by decide) k_88 rfl dX8_closeNode_23 ?_
    refine lv_iload_n hx hb dX8_closeNode_26 rfl (lv_at hl 1 rfl) ?_
    refine lv_aload_n hx hb dX8_closeNode_27 rfl (lv_at hl 0 rfl) ?_
    refine lv_iload_n hx hb dX8_closeNode_28 rfl (lv_at hl 1 rfl) ?_
    refine lv_iconst (v := 1) hx hb dX8_closeNode_29 (by decide) ?_
    refine lv_iadd hx hb dX8_closeNode_30 ?_
    refine o_callVi (k := 1) (EvB_ok z) X S (mX8_behind l hT (x1 + 1) σ_1 _ h) (isSten_lt hT 0 (by decide)) ((shS0 hT) _) rfl k_539 k_536 k_538 ks_10 k_3 ⟨rfl, by decide, by decide, by decide +kernel⟩ ⟨rfl, rfl⟩ ⟨Nat.le_of_ble_eq_true rfl, Nat.le_of_ble_eq_true rfl⟩ rfl hl.1 rfl (Nat.le_of_ble_eq_true rfl) dX8_closeNode_31 (fun r_10 σ_11 H locs h S => ?_)
    refine o_iast X S (T + 5) 0 (isSten_lt hT 5 (by decide)) (shS5 hT) rfl h.1 dX8_closeNode_34 (fun σ_12 H locs eσ_12 S => ?_)
    replace h := h.2 σ_12 eσ_12
    exact mX8_closeNode_b35 l hT X hr x1 S (lv_sub hl [0, 1] rfl) h
def wX8_closeStencil (T : Nat) (σ : Sg) (Q : Sg → Prop) : Prop :=
  (∀ σ_1, σ_1 = sto σ T 0 ((σ T 0) + 1) → (vp_in (σ_1 T 0) 4 ∧ ∀ σ_2, σ_2 = sto σ_1 (T + 1) (σ_1 T 0).toNatClampNeg (σ_1 T 1) → Q σ_2))
set_option maxHeartbeats 4000000 in
set_option maxRecDepth 100000 in
theorem mX8_closeStencil {D : va_G} {cy : Nat → ClassId} {ad z : Nat → Nat} (l : Launch) {T : Nat} (hT : isSten T) (σ : Sg) (Q : Sg → Prop) (h : wX8_closeStencil T σ Q) : MVB D cy ad z l yX8_closeStencil (.code yX8_closeStencil cX8_closeStencil 1 none :: gT) ({ frames := 0, cells := 0, slots := 0, locals := 0 }) [.ref (ad T)] σ Q := by
  refine metV_of (by decide +kernel) (Nat.le_of_ble_eq_true rfl) ?_
  intro p e s m args below meth c A ls X hr hl S
  have X : Fx D (tyB cy) (EvB z) p s m args meth c cX8_closeStencil 1 "BackBay$Stencils" A := X
  have hl : lv_has ls 1 [(0, .ref (ad T))] := hl
  have hx := X.1
  have hb := X.2.1
  unfold wX8_closeStencil at h
  refine lv_aload_n hx hb dX8_closeStencil_0 rfl (lv_at hl 0 rfl) ?_
  refine lv_dup hx hb dX8_closeStencil_1 rfl ?_
  refine o_get X S T 0 (isSten_lt hT 0 (by decide)) ((shS0 hT) _) rfl in_8 (by decide) k_72 rfl dX8_closeStencil_2 ?_
  refine lv_iconst (v := 1) hx hb dX8_closeStencil_5 (by decide) ?_
  refine lv_iadd hx hb dX8_closeStencil_6 ?_
  refine o_puti X S (fs := fun c => [.int (c 0), .int (c 1), .ref (ad (T + 1)), .ref (ad (T + 2)), .ref (ad (T + 3)), .ref (ad (T + 4)), .ref (ad (T + 5)), .ref (ad (T + 6)), .ref (ad (T + 7))]) T 0 (isSten_lt hT 0 (by decide)) (shS0 hT) (fun _ _ => rfl) rfl in_8 tyX8_ok nmX8 (by decide) k_72 rfl rfl rfl rfl (fun _ => Nat.le_of_ble_eq_true rfl) dX8_closeStencil_7 (fun σ_1 H locs eσ_1 S => ?_)
  replace h := h σ_1 eσ_1
  refine lv_aload_n hx hb dX8_closeStencil_10 rfl (lv_at hl 0 rfl) ?_
  refine o_get X S T 2 (isSten_lt hT 0 (by decide)) ((shS0 hT) _) rfl in_8 (by decide) k_79 rfl dX8_closeStencil_11 ?_
  refine lv_aload_n hx hb dX8_closeStencil_14 rfl (lv_at hl 0 rfl) ?_
  refine o_get X S T 0 (isSten_lt hT 0 (by decide)) ((shS0 hT) _) rfl in_8 (by decide) k_72 rfl dX8_closeStencil_15 ?_
  refine lv_aload_n hx hb dX8_closeStencil_18 rfl (lv_at hl 0 rfl) ?_
  refine o_get X S T 1 (isSten_lt hT 0 (by decide)) ((shS0 hT) _) rfl in_8 (by decide) k_77 rfl dX8_closeStencil_19 ?_
  refine o_iast X S (T + 1) 0 (isSten_lt hT 1 (by decide)) (shS1 hT) rfl h.1 dX8_closeStencil_22 (fun σ_2 H locs eσ_2 S => ?_)
  replace h := h.2 σ_2 eσ_2
  exact o_vret X S hr h dX8_closeStencil_23
def wX3_taken_b110 (T : Nat) (y0 : Int32) (σ : Sg) (Q : Int32 → Sg → Prop) : Prop :=
  Q y0 σ
def wX3_taken_b91 (T : Nat) (x2 : Int32) (y0 : Int32) (σ : Sg) (Q : Int32 → Sg → Prop) : Prop :=
  ((y0 = 0 → (vp_in x2 60 ∧ wX3_taken_b110 T (σ (T + 5) x2.toNatClampNeg) σ Q)) ∧ (¬ y0 = 0 → wX3_taken_b110 T (x2 + 1) σ Q))
def wX3_taken_b54 (T : Nat) (y0 : Int32) (σ : Sg) (Q : Int32 → Sg → Prop) : Prop :=
  Q y0 σ
def wX3_taken (T : Nat) (x2 : Int32) (σ : Sg) (Q : Int32 → Sg → Prop) : Prop :=
  (vp_in (x2 + 1) 60 ∧ (∀ x3_1, x3_1 = (σ 15 (x2 + 1).toNatClampNeg) → (vp_in x2 60 ∧ (vp_in (σ (T + 5) x2.toNatClampNeg) 60 ∧ (∀ x4_2, x4_2 = (σ 15 (σ (T + 5) x2.toNatClampNeg).toNatClampNeg) → (vp_in x2 60 ∧ (((σ (T + 2) x2.toNatClampNeg) = 10 → ((x3_1 ≤ x4_2 → (vp_in x2 60 ∧ wX3_taken_b54 T (σ (T + 7) x2.toNatClampNeg) σ Q)) ∧ (¬ x3_1 ≤ x4_2 → (vp_in x2 60 ∧ wX3_taken_b54 T (σ (T + 6) x2.toNatClampNeg) σ Q)))) ∧ (¬ (σ (T + 2) x2.toNatClampNeg) = 10 → (vp_in x2 60 ∧ (((σ (T + 2) x2.toNatClampNeg) = 8 → ((x4_2 < x3_1 → wX3_taken_b91 T x2 0 σ Q) ∧ (¬ x4_2 < x3_1 → wX3_taken_b91 T x2 1 σ Q))) ∧ (¬ (σ (T + 2) x2.toNatClampNeg) = 8 → ((x3_1 < x4_2 → wX3_taken_b91 T x2 0 σ Q) ∧ (¬ x3_1 < x4_2 → wX3_taken_b91 T x2 1 σ Q)))))))))))))
set_option maxHeartbeats 4000000 in
set_option maxRecDepth 100000 in
theorem mX3_taken_b110 {D : va_G} {cy : Nat → ClassId} {ad z : Nat → Nat} (l : Launch) {T : Nat} (hT : isSten T) {p : Program} {e : Env} {s : State} {m : MethodId} {args : Array Value} {below : List Frame} {meth : Method} {c : Code} {A : Nat → Prop} {Q : Int32 → Sg → Prop} (X : Fx D (tyB cy) (EvB z) p s m args meth c cX3_taken 6 "BackBay$Desk" A) (hr : meth.sig.returnType = some .int) (y0 : Int32) {σ : Sg} {H : Heap} {locs : List Loc} {ls : Array Slot} (S : St D ad 75 (shB cy ad) A s σ H locs) (hl : lv_has ls 6 []) (h : wX3_taken_b110 T y0 σ Q) : W p l e ({ frames := 0, cells := 0, slots := 0, locals := 0 }) s m args below meth c H locs 0 0 (MQ below (va_Qi Q (PosW D (tyB cy) ad 75 (shB cy ad) A) A) args s 0 0 A) (F0 m 110 ls [.int y0]) := by
  have hx := X.1
  have hb := X.2.1
  unfold wX3_taken_b110 at h
  exact o_iret X S hr h dX3_taken_110
set_option maxHeartbeats 4000000 in
set_option maxRecDepth 100000 in
theorem mX3_taken_b91 {D : va_G} {cy : Nat → ClassId} {ad z : Nat → Nat} (l : Launch) {T : Nat} (hT : isSten T) {p : Program} {e : Env} {s : State} {m : MethodId} {args : Array Value} {below : List Frame} {meth : Method} {c : Code} {A : Nat → Prop} {Q : Int32 → Sg → Prop} (X : Fx D (tyB cy) (EvB z) p s m args meth c cX3_taken 6 "BackBay$Desk" A) (hr : meth.sig.returnType = some .int) (x2 : Int32) (y0 : Int32) {σ : Sg} {H : Heap} {locs : List Loc} {ls : Array Slot} (S : St D ad 75 (shB cy ad) A s σ H locs) (hl : lv_has ls 6 [(1, .ref (ad T)), (2, .int x2)]) (h : wX3_taken_b91 T x2 y0 σ Q) : W p l e ({ frames := 0, cells := 0, slots := 0, locals := 0 }) s m args below meth c H locs 0 0 (MQ below (va_Qi Q (PosW D (tyB cy) ad 75 (shB cy ad) A) A) args s 0 0 A) (F0 m 91 ls [.int y0]) := by
  have hx := X.1
  have hb := X.2.1
  unfold wX3_taken_b91 at h
  refine lv_istore (lv' := [(5, .int y0), (1, .ref (ad T)), (2, .int x2)]) hx hb dX3_taken_91 hl (by decide) rfl (fun ls hl => ?_)
  refine lv_iload hx hb dX3_taken_93 (lv_at hl 0 rfl) ?_
  refine lv_if_eq (tgt := 104) hx hb dX3_taken_95 (by decide) (fun q_6 => ?_) (fun q_6 => ?_)
  · replace h := h.1 q_6
    refine lv_aload_n hx hb dX3_taken_104 rfl (lv_at hl 1 rfl) ?_
    refine o_get X S T 6 (isSten_lt hT 0 (by decide)) ((shS0 hT) _) rfl in_8 (by decide) k_89 rfl dX3_taken_105 ?_
    refine lv_iload_n hx hb dX3_taken_108 rfl (lv_at hl 2 rfl) ?_
    refine o_iald X S (T + 5) 0 (isSten_lt hT 5 (by decide)) (shS5 hT) rfl h.1 dX3_taken_109 ?_
    replace h := h.2
    exact mX3_taken_b110 l hT X hr (σ (T + 5) x2.toNatClampNeg) S (lv_sub hl [] rfl) h
  · replace h := h.2 q_6
    refine lv_iload_n hx hb dX3_taken_98 rfl (lv_at hl 2 rfl) ?_
    refine lv_iconst (v := 1) hx hb dX3_taken_99 (by decide) ?_
    refine lv_iadd hx hb dX3_taken_100 ?_
    refine lv_goto (tgt := 110) hx hb dX3_taken_101 (by decide) ?_
    exact mX3_taken_b110 l hT X hr (x2 + 1) S (lv_sub hl [] rfl) h
set_option maxHeartbeats 4000000 in
set_option maxRecDepth 100000 in
theorem mX3_taken_b54 {D : va_G} {cy : Nat → ClassId} {ad z : Nat → Nat} (l : Launch) {T : Nat} (hT : isSten T) {p : Program} {e : Env} {s : State} {m : MethodId} {args : Array Value} {below : List Frame} {meth : Method} {c : Code} {A : Nat → Prop} {Q : Int32 → Sg → Prop} (X : Fx D (tyB cy) (EvB z) p s m args meth c cX3_taken 6 "BackBay$Desk" A) (hr : meth.sig.returnType = some .int) (y0 : Int32) {σ : Sg} {H : Heap} {locs : List Loc} {ls : Array Slot} (S : St D ad 75 (shB cy ad) A s σ H locs) (hl : lv_has ls 6 []) (h : wX3_taken_b54 T y0 σ Q) : W p l e ({ frames := 0, cells := 0, slots := 0, locals := 0 }) s m args below meth c H locs 0 0 (MQ below (va_Qi Q (PosW D (tyB cy) ad 75 (shB cy ad) A) A) args s 0 0 A) (F0 m 54 ls [.int y0]) := by
  have hx := X.1
  have hb := X.2.1
  unfold wX3_taken_b54 at h
  exact o_iret X S hr h dX3_taken_54
set_option maxHeartbeats 4000000 in
set_option maxRecDepth 100000 in
theorem mX3_taken {D : va_G} {cy : Nat → ClassId} {ad z : Nat → Nat} (l : Launch) {T : Nat} (hT : isSten T) (x2 : Int32) (σ : Sg) (Q : Int32 → Sg → Prop) (h : wX3_taken T x2 σ Q) : MIB D cy ad z l yX3_taken (.code yX3_taken cX3_taken 6 (some .int) :: gT) ({ frames := 0, cells := 0, slots := 0, locals := 0 }) [.ref (ad 14), .ref (ad T), .int x2] σ Q := by
  refine metI_of (by decide +kernel) (Nat.le_of_ble_eq_true rfl) ?_
  intro p e s m args below meth c A ls X hr hl S
  have X : Fx D (tyB cy) (EvB z) p s m args meth c cX3_taken 6 "BackBay$Desk" A := X
  have hl : lv_has ls 6 [(0, .ref (ad 14)), (1, .ref (ad T)), (2, .int x2)] := hl
  have hx := X.1
  have hb := X.2.1
  unfold wX3_taken at h
  refine lv_aload_n hx hb dX3_taken_0 rfl (lv_at hl 0 rfl) ?_
  refine o_get X S 14 0 (by decide) rfl rfl in_3 (by decide) k_184 rfl dX3_taken_1 ?_
  refine lv_iload_n hx hb dX3_taken_4 rfl (lv_at hl 2 rfl) ?_
  refine lv_iconst (v := 1) hx hb dX3_taken_5 (by decide) ?_
  refine lv_iadd hx hb dX3_taken_6 ?_
  refine o_iald X S 15 0 (by decide) (fun _ => rfl) rfl h.1 dX3_taken_7 ?_
  replace h := h.2
  refine lv_topi (fun x3_1 ex3_1 => ?_)
  replace h := h x3_1 ex3_1
  refine lv_istore_n (lv' := [(3, .int x3_1), (0, .ref (ad 14)), (1, .ref (ad T)), (2, .int x2)]) hx hb dX3_taken_8 rfl hl (by decide) rfl (fun ls hl => ?_)
  refine lv_aload_n hx hb dX3_taken_9 rfl (lv_at hl 1 rfl) ?_
  refine o_get X S 14 0 (by decide) rfl rfl in_3 (by decide) k_184 rfl dX3_taken_10 ?_
  refine lv_aload_n hx hb dX3_taken_13 rfl (lv_at hl 2 rfl) ?_
  refine o_get X S T 6 (isSten_lt hT 0 (by decide)) ((shS0 hT) _) rfl in_8 (by decide) k_89 rfl dX3_taken_14 ?_
  refine lv_iload_n hx hb dX3_taken_17 rfl (lv_at hl 3 rfl) ?_
  refine o_iald X S (T + 5) 0 (isSten_lt hT 5 (by decide)) (shS5 hT) rfl h.1 dX3_taken_18 ?_
  replace h := h.2
  refine o_iald X S 15 0 (by decide) (fun _ => rfl) rfl h.1 dX3_taken_19 ?_
  replace h := h.2
  refine lv_topi (fun x4_2 ex4_2 => ?_)
  replace h := h x4_2 ex4_2
  refine lv_istore (lv' := [(4, .int x4_2), (3, .int x3_1), (0, .ref (ad 14)), (1, .ref (ad T)), (2, .int x2)]) hx hb dX3_taken_20 hl (by decide) rfl (fun ls hl => ?_)
  refine lv_aload_n hx hb dX3_taken_22 rfl (lv_at hl 3 rfl) ?_
  refine o_get X S T 3 (isSten_lt hT 0 (by decide)) ((shS0 hT) _) rfl in_8 (by decide) k_82 rfl dX3_taken_23 ?_
  refine lv_iload_n hx hb dX3_taken_26 rfl (lv_at hl 4 rfl) ?_
  refine o_iald X S (T + 2) 0 (isSten_lt hT 2 (by decide)) (shS2 hT) rfl h.1 dX3_taken_27 ?_
  replace h := h.2
  refine lv_bipush (v := 10) hx hb dX3_taken_28 (by decide) ?_
  refine lv_icmp_ne (tgt := 55) hx hb dX3_taken_30 (by decide) (fun q_3 => ?_) (fun q_3 => ?_)
  · replace h := h.2 q_3
    refine lv_aload_n hx hb dX3_taken_55 rfl (lv_at hl 3 rfl) ?_
    refine o_get X S T 3 (isSten_lt hT 0 (by decide)) ((shS0 hT) _) rfl in_8 (by decide) k_82 rfl dX3_taken_56 ?_
    refine lv_iload_n hx hb dX3_taken_59 rfl (lv_at hl 4 rfl) ?_
    refine o_iald X S (T + 2) 0 (isSten_lt hT 2 (by decide)) (shS2 hT) rfl h.1 dX3_taken_60 ?_
    replace h := h.2
    refine lv_bipush (v := 8) hx hb dX3_taken_61 (by decide) ?_
    refine lv_icmp_ne (tgt := 80) hx hb dX3_taken_63 (by decide) (fun q_4 => ?_) (fun q_4 => ?_)
    · replace h := h.2 q_4
      refine lv_iload_n hx hb dX3_taken_80 rfl (lv_at hl 1 rfl) ?_
      refine lv_iload hx hb dX3_taken_81 (lv_at hl 0 rfl) ?_
      refine lv_icmp_lt (tgt := 90) hx hb dX3_taken_83 (by decide) (fun q_5 => ?_) (fun q_5 => ?_)
      · replace h := h.1 q_5
        refine lv_iconst (v := 0) hx hb dX3_taken_90 (by decide) ?_
        exact mX3_taken_b91 l hT X hr x2 0 S (lv_sub hl [3, 4] rfl) h
      · replace h := h.2 q_5
        refine lv_iconst (v := 1) hx hb dX3_taken_86 (by decide) ?_
        refine lv_goto (tgt := 91) hx hb dX3_taken_87 (by decide) ?_
        exact mX3_taken_b91 l hT X hr x2 1 S (lv_sub hl [3, 4] rfl) h
    · replace h := h.1 q_4
      refine lv_iload_n hx hb dX3_taken_66 rfl (lv_at hl 1 rfl) ?_
      refine lv_iload hx hb dX3_taken_67 (lv_at hl 0 rfl) ?_
      refine lv_icmp_gt (tgt := 76) hx hb dX3_taken_69 (by decide) (fun q_7 => ?_) (fun q_7 => ?_)
      · replace h := h.1 q_7
        refine lv_iconst (v := 0) hx hb dX3_taken_76 (by decide) ?_
        refine lv_goto (tgt := 91) hx hb dX3_taken_77 (by decide) ?_
        exact mX3_taken_b91 l hT X hr x2 0 S (lv_sub hl [3, 4] rfl) h
      · replace h := h.2 q_7
        refine lv_iconst (v := 1) hx hb dX3_taken_72 (by decide) ?_
        refine lv_goto (tgt := 91) hx hb dX3_taken_73 (by decide) ?_
        exact mX3_taken_b91 l hT X hr x2 1 S (lv_sub hl [3, 4] rfl) h
  · replace h := h.1 q_3
    refine lv_iload_n hx hb dX3_taken_33 rfl (lv_at hl 1 rfl) ?_
    refine lv_iload hx hb dX3_taken_34 (lv_at hl 0 rfl) ?_
    refine lv_icmp_le (tgt := 48) hx hb dX3_taken_36 (by decide) (fun q_8 => ?_) (fun q_8 => ?_)
    · replace h := h.1 q_8
      refine lv_aload_n hx hb dX3_taken_48 rfl (lv_at hl 3 rfl) ?_
      refine o_get X S T 8 (isSten_lt hT 0 (by decide)) ((shS0 hT) _) rfl in_8 (by decide) k_93 rfl dX3_taken_49 ?_
      refine lv_iload_n hx hb dX3_taken_52 rfl (lv_at hl 4 rfl) ?_
      refine o_iald X S (T + 7) 0 (isSten_lt hT 7 (by decide)) (shS7 hT) rfl h.1 dX3_taken_53 ?_
      replace h := h.2
      exact mX3_taken_b54 l hT X hr (σ (T + 7) x2.toNatClampNeg) S (lv_sub hl [] rfl) h
    · replace h := h.2 q_8
      refine lv_aload_n hx hb dX3_taken_39 rfl (lv_at hl 3 rfl) ?_
      refine o_get X S T 7 (isSten_lt hT 0 (by decide)) ((shS0 hT) _) rfl in_8 (by decide) k_91 rfl dX3_taken_40 ?_
      refine lv_iload_n hx hb dX3_taken_43 rfl (lv_at hl 4 rfl) ?_
      refine o_iald X S (T + 6) 0 (isSten_lt hT 6 (by decide)) (shS6 hT) rfl h.1 dX3_taken_44 ?_
      replace h := h.2
      refine lv_goto (tgt := 54) hx hb dX3_taken_45 (by decide) ?_
      exact mX3_taken_b54 l hT X hr (σ (T + 6) x2.toNatClampNeg) S (lv_sub hl [] rfl) h
def wX3_worthOf_b122 (T : Nat) (x2 : Int32) (σ : Sg) (Q : Int32 → Sg → Prop) : Prop :=
  (wX3_taken T x2 σ (fun r_7 σ_8 => (vp_in r_7 60 ∧ Q (σ_8 15 r_7.toNatClampNeg) σ_8)))
def wX3_worthOf (T : Nat) (x2 : Int32) (σ : Sg) (Q : Int32 → Sg → Prop) : Prop :=
  (vp_in x2 60 ∧ (∀ x3_1, x3_1 = (σ (T + 2) x2.toNatClampNeg) → ((x3_1 = 4 → (vp_in x2 60 ∧ Q (σ (T + 3) x2.toNatClampNeg) σ)) ∧ (¬ x3_1 = 4 → ((x3_1 = 5 → (vp_in (x2 + 1) 60 ∧ (vp_in x2 60 ∧ (vp_in (σ (T + 5) x2.toNatClampNeg) 60 ∧ Q ((σ 15 (x2 + 1).toNatClampNeg) + (σ 15 (σ (T + 5) x2.toNatClampNeg).toNatClampNeg)) σ)))) ∧ (¬ x3_1 = 5 → ((x3_1 = 6 → (vp_in (x2 + 1) 60 ∧ (vp_in x2 60 ∧ (vp_in (σ (T + 5) x2.toNatClampNeg) 60 ∧ Q ((σ 15 (x2 + 1).toNatClampNeg) - (σ 15 (σ (T + 5) x2.toNatClampNeg).toNatClampNeg)) σ)))) ∧ (¬ x3_1 = 6 → ((x3_1 = 7 → (vp_in (x2 + 1) 60 ∧ (vp_in x2 60 ∧ (vp_in (σ (T + 5) x2.toNatClampNeg) 60 ∧ Q ((σ 15 (x2 + 1).toNatClampNeg) * (σ 15 (σ (T + 5) x2.toNatClampNeg).toNatClampNeg)) σ)))) ∧ (¬ x3_1 = 7 → ((x3_1 = 8 → wX3_worthOf_b122 T x2 σ Q) ∧ (¬ x3_1 = 8 → ((x3_1 = 9 → wX3_worthOf_b122 T x2 σ Q) ∧ (¬ x3_1 = 9 → ((x3_1 = 10 → wX3_worthOf_b122 T x2 σ Q) ∧ (¬ x3_1 = 10 → (vp_in x3_1 4 ∧ Q (σ 18 x3_1.toNatClampNeg) σ)))))))))))))))))
set_option maxHeartbeats 4000000 in
set_option maxRecDepth 100000 in
theorem mX3_worthOf_b122 {D : va_G} {cy : Nat → ClassId} {ad z : Nat → Nat} (l : Launch) {T : Nat} (hT : isSten T) {p : Program} {e : Env} {s : State} {m : MethodId} {args : Array Value} {below : List Frame} {meth : Method} {c : Code} {A : Nat → Prop} {Q : Int32 → Sg → Prop} (X : Fx D (tyB cy) (EvB z) p s m args meth c cX3_worthOf 4 "BackBay$Desk" A) (hr : meth.sig.returnType = some .int) (x2 : Int32) {σ : Sg} {H : Heap} {locs : List Loc} {ls : Array Slot} (S : St D ad 75 (shB cy ad) A s σ H locs) (hl : lv_has ls 4 [(0, .ref (ad 14)), (1, .ref (ad T)), (2, .int x2)]) (h : wX3_worthOf_b122 T x2 σ Q) : W p l e ({ frames := 1, cells := 0, slots := 0, locals := 25 }) s m args below meth c H locs 0 0 (MQ below (va_Qi Q (PosW D (tyB cy) ad 75 (shB cy ad) A) A) args s 0 0 A) (F0 m 122 ls []) := by
  have hx := X.1
  have hb := X.2.1
  unfold wX3_worthOf_b122 at h
  refine lv_aload_n hx hb dX3_worthOf_122 rfl (lv_at hl 0 rfl) ?_
  refine o_get X S 14 0 (by decide) rfl rfl in_3 (by decide) k_184 rfl dX3_worthOf_123 ?_
  refine lv_aload_n hx hb dX3_worthOf_126 rfl (lv_at hl 0 rfl) ?_
  refine lv_aload_n hx hb dX3_worthOf_127 rfl (lv_at hl 1 rfl) ?_
  refine lv_iload_n hx hb dX3_worthOf_128 rfl (lv_at hl 2 rfl) ?_
  refine o_callVi (k := 2) (EvB_ok z) X S (mX3_taken l hT x2 σ _ h) (by decide) rfl rfl k_596 k_593 k_595 ks_12 k_7 ⟨rfl, by decide, by decide, by decide +kernel⟩ ⟨rfl, rfl⟩ ⟨Nat.le_of_ble_eq_true rfl, Nat.le_of_ble_eq_true rfl⟩ rfl hl.1 rfl (Nat.le_of_ble_eq_true rfl) dX3_worthOf_129 (fun r_7 σ_8 H locs h S => ?_)
  refine o_iald X S 15 0 (by decide) (fun _ => rfl) rfl h.1 dX3_worthOf_132 ?_
  replace h := h.2
  exact o_iret X S hr h dX3_worthOf_133
set_option maxHeartbeats 4000000 in
set_option maxRecDepth 100000 in
theorem mX3_worthOf {D : va_G} {cy : Nat → ClassId} {ad z : Nat → Nat} (l : Launch) {T : Nat} (hT : isSten T) (x2 : Int32) (σ : Sg) (Q : Int32 → Sg → Prop) (h : wX3_worthOf T x2 σ Q) : MIB D cy ad z l yX3_worthOf (.code yX3_worthOf cX3_worthOf 4 (some .int) :: gT) ({ frames := 1, cells := 0, slots := 0, locals := 25 }) [.ref (ad 14), .ref (ad T), .int x2] σ Q := by
  refine metI_of (by decide +kernel) (Nat.le_of_ble_eq_true rfl) ?_
  intro p e s m args below meth c A ls X hr hl S
  have X : Fx D (tyB cy) (EvB z) p s m args meth c cX3_worthOf 4 "BackBay$Desk" A := X
  have hl : lv_has ls 4 [(0, .ref (ad 14)), (1, .ref (ad T)), (2, .int x2)] := hl
  have hx := X.1
  have hb := X.2.1
  unfold wX3_worthOf at h
  refine lv_aload_n hx hb dX3_worthOf_0 rfl (lv_at hl 1 rfl) ?_
  refine o_get X S T 3 (isSten_lt hT 0 (by decide)) ((shS0 hT) _) rfl in_8 (by decide) k_82 rfl dX3_worthOf_1 ?_
  refine lv_iload_n hx hb dX3_worthOf_4 rfl (lv_at hl 2 rfl) ?_
  refine o_iald X S (T + 2) 0 (isSten_lt hT 2 (by decide)) (shS2 hT) rfl h.1 dX3_worthOf_5 ?_
  replace h := h.2
  refine lv_topi (fun x3_1 ex3_1 => ?_)
  replace h := h x3_1 ex3_1
  refine lv_istore_n (lv' := [(3, .int x3_1), (0, .ref (ad 14)), (1, .ref (ad T)), (2, .int x2)]) hx hb dX3_worthOf_6 rfl hl (by decide) rfl (fun ls hl => ?_)
  refine lv_iload_n hx hb dX3_worthOf_7 rfl (lv_at hl 0 rfl) ?_
  by_cases q_2 : x3_1 = 4
  · refine lv_tableIn (tgt := 52) hx hb dX3_worthOf_8 (by rw [q_2] <;> decide) (by rw [q_2] <;> decide) (by rw [q_2] <;> rfl) (by decide) ?_
    replace h := h.1 q_2
    refine lv_aload_n hx hb dX3_worthOf_52 rfl (lv_at hl 2 rfl) ?_
    refine o_get X S T 4 (isSten_lt hT 0 (by decide)) ((shS0 hT) _) rfl in_8 (by decide) k_84 rfl dX3_worthOf_53 ?_
    refine lv_iload_n hx hb dX3_worthOf_56 rfl (lv_at hl 3 rfl) ?_
    refine o_iald X S (T + 3) 0 (isSten_lt hT 3 (by decide)) (shS3 hT) rfl h.1 dX3_worthOf_57 ?_
    replace h := h.2
    exact o_iret X S hr h dX3_worthOf_58
  replace h := h.2 q_2
  by_cases q_3 : x3_1 = 5
  · refine lv_tableIn (tgt := 59) hx hb dX3_worthOf_8 (by rw [q_3] <;> decide) (by rw [q_3] <;> decide) (by rw [q_3] <;> rfl) (by decide) ?_
    replace h := h.1 q_3
    refine lv_aload_n hx hb dX3_worthOf_59 rfl (lv_at hl 1 rfl) ?_
    refine o_get X S 14 0 (by decide) rfl rfl in_3 (by decide) k_184 rfl dX3_worthOf_60 ?_
    refine lv_iload_n hx hb dX3_worthOf_63 rfl (lv_at hl 3 rfl) ?_
    refine lv_iconst (v := 1) hx hb dX3_worthOf_64 (by decide) ?_
    refine lv_iadd hx hb dX3_worthOf_65 ?_
    refine o_iald X S 15 0 (by decide) (fun _ => rfl) rfl h.1 dX3_worthOf_66 ?_
    replace h := h.2
    refine lv_aload_n hx hb dX3_worthOf_67 rfl (lv_at hl 1 rfl) ?_
    refine o_get X S 14 0 (by decide) rfl rfl in_3 (by decide) k_184 rfl dX3_worthOf_68 ?_
    refine lv_aload_n hx hb dX3_worthOf_71 rfl (lv_at hl 2 rfl) ?_
    refine o_get X S T 6 (isSten_lt hT 0 (by decide)) ((shS0 hT) _) rfl in_8 (by decide) k_89 rfl dX3_worthOf_72 ?_
    refine lv_iload_n hx hb dX3_worthOf_75 rfl (lv_at hl 3 rfl) ?_
    refine o_iald X S (T + 5) 0 (isSten_lt hT 5 (by decide)) (shS5 hT) rfl h.1 dX3_worthOf_76 ?_
    replace h := h.2
    refine o_iald X S 15 0 (by decide) (fun _ => rfl) rfl h.1 dX3_worthOf_77 ?_
    replace h := h.2
    refine lv_iadd hx hb dX3_worthOf_78 ?_
    exact o_iret X S hr h dX3_worthOf_79
  replace h := h.2 q_3
  by_cases q_4 : x3_1 = 6
  · refine lv_tableIn (tgt := 80) hx hb dX3_worthOf_8 (by rw [q_4] <;> decide) (by rw [q_4] <;> decide) (by rw [q_4] <;> rfl) (by decide) ?_
    replace h := h.1 q_4
    refine lv_aload_n hx hb dX3_worthOf_80 rfl (lv_at hl 1 rfl) ?_
    refine o_get X S 14 0 (by decide) rfl rfl in_3 (by decide) k_184 rfl dX3_worthOf_81 ?_
    refine lv_iload_n hx hb dX3_worthOf_84 rfl (lv_at hl 3 rfl) ?_
    refine lv_iconst (v := 1) hx hb dX3_worthOf_85 (by decide) ?_
    refine lv_iadd hx hb dX3_worthOf_86 ?_
    refine o_iald X S 15 0 (by decide) (fun _ => rfl) rfl h.1 dX3_worthOf_87 ?_
    replace h := h.2
    refine lv_aload_n hx hb dX3_worthOf_88 rfl (lv_at hl 1 rfl) ?_
    refine o_get X S 14 0 (by decide) rfl rfl in_3 (by decide) k_184 rfl dX3_worthOf_89 ?_
    refine lv_aload_n hx hb dX3_worthOf_92 rfl (lv_at hl 2 rfl) ?_
    refine o_get X S T 6 (isSten_lt hT 0 (by decide)) ((shS0 hT) _) rfl in_8 (by decide) k_89 rfl dX3_worthOf_93 ?_
    refine lv_iload_n hx hb dX3_worthOf_96 rfl (lv_at hl 3 rfl) ?_
    refine o_iald X S (T + 5) 0 (isSten_lt hT 5 (by decide)) (shS5 hT) rfl h.1 dX3_worthOf_97 ?_
    replace h := h.2
    refine o_iald X S 15 0 (by decide) (fun _ => rfl) rfl h.1 dX3_worthOf_98 ?_
    replace h := h.2
    refine lv_isub hx hb dX3_worthOf_99 ?_
    exact o_iret X S hr h dX3_worthOf_100
  replace h := h.2 q_4
  by_cases q_5 : x3_1 = 7
  · refine lv_tableIn (tgt := 101) hx hb dX3_worthOf_8 (by rw [q_5] <;> decide) (by rw [q_5] <;> decide) (by rw [q_5] <;> rfl) (by decide) ?_
    replace h := h.1 q_5
    refine lv_aload_n hx hb dX3_worthOf_101 rfl (lv_at hl 1 rfl) ?_
    refine o_get X S 14 0 (by decide) rfl rfl in_3 (by decide) k_184 rfl dX3_worthOf_102 ?_
    refine lv_iload_n hx hb dX3_worthOf_105 rfl (lv_at hl 3 rfl) ?_
    refine lv_iconst (v := 1) hx hb dX3_worthOf_106 (by decide) ?_
    refine lv_iadd hx hb dX3_worthOf_107 ?_
    refine o_iald X S 15 0 (by decide) (fun _ => rfl) rfl h.1 dX3_worthOf_108 ?_
    replace h := h.2
    refine lv_aload_n hx hb dX3_worthOf_109 rfl (lv_at hl 1 rfl) ?_
    refine o_get X S 14 0 (by decide) rfl rfl in_3 (by decide) k_184 rfl dX3_worthOf_110 ?_
    refine lv_aload_n hx hb dX3_worthOf_113 rfl (lv_at hl 2 rfl) ?_
    refine o_get X S T 6 (isSten_lt hT 0 (by decide)) ((shS0 hT) _) rfl in_8 (by decide) k_89 rfl dX3_worthOf_114 ?_
    refine lv_iload_n hx hb dX3_worthOf_117 rfl (lv_at hl 3 rfl) ?_
    refine o_iald X S (T + 5) 0 (isSten_lt hT 5 (by decide)) (shS5 hT) rfl h.1 dX3_worthOf_118 ?_
    replace h := h.2
    refine o_iald X S 15 0 (by decide) (fun _ => rfl) rfl h.1 dX3_worthOf_119 ?_
    replace h := h.2
    refine lv_imul hx hb dX3_worthOf_120 ?_
    exact o_iret X S hr h dX3_worthOf_121
  replace h := h.2 q_5
  by_cases q_6 : x3_1 = 8
  · refine lv_tableIn (tgt := 122) hx hb dX3_worthOf_8 (by rw [q_6] <;> decide) (by rw [q_6] <;> decide) (by rw [q_6] <;> rfl) (by decide) ?_
    replace h := h.1 q_6
    exact mX3_worthOf_b122 l hT X hr x2 S (lv_sub hl [1, 2, 3] rfl) h
  replace h := h.2 q_6
  by_cases q_9 : x3_1 = 9
  · refine lv_tableIn (tgt := 122) hx hb dX3_worthOf_8 (by rw [q_9] <;> decide) (by rw [q_9] <;> decide) (by rw [q_9] <;> rfl) (by decide) ?_
    replace h := h.1 q_9
    exact mX3_worthOf_b122 l hT X hr x2 S (lv_sub hl [1, 2, 3] rfl) h
  replace h := h.2 q_9
  by_cases q_10 : x3_1 = 10
  · refine lv_tableIn (tgt := 122) hx hb dX3_worthOf_8 (by rw [q_10] <;> decide) (by rw [q_10] <;> decide) (by rw [q_10] <;> rfl) (by decide) ?_
    replace h := h.1 q_10
    exact mX3_worthOf_b122 l hT X hr x2 S (lv_sub hl [1, 2, 3] rfl) h
  replace h := h.2 q_10
  refine lv_tableOut (tgt := 134) hx hb dX3_worthOf_8 (by have r0 := lv_neT (a := 4) q_2 rfl; have r1 := lv_neT (a := 5) q_3 rfl; have r2 := lv_neT (a := 6) q_4 rfl; have r3 := lv_neT (a := 7) q_5 rfl; have r4 := lv_neT (a := 8) q_6 rfl; have r5 := lv_neT (a := 9) q_9 rfl; have r6 := lv_neT (a := 10) q_10 rfl; omega) (by decide) ?_
  refine lv_aload_n hx hb dX3_worthOf_134 rfl (lv_at hl 1 rfl) ?_
  refine o_get X S 14 3 (by decide) rfl rfl in_3 (by decide) k_187 rfl dX3_worthOf_135 ?_
  refine lv_iload_n hx hb dX3_worthOf_138 rfl (lv_at hl 0 rfl) ?_
  refine o_iald X S 18 0 (by decide) (fun _ => rfl) rfl h.1 dX3_worthOf_139 ?_
  replace h := h.2
  exact o_iret X S hr h dX3_worthOf_140
def wX3_workOut_L51 (T : Nat) (x7 : Int32) (k78 : Sg → Prop) (Q : Int32 → Sg → Prop) : Nat → Int32 → Sg → Prop
  | 0, _, _ => False
  | nn51 + 1, x8, σ =>
  ((x8 < x7 → k78 σ) ∧ (¬ x8 < x7 → (wX3_worthOf T x8 σ (fun r_8 σ_9 => (vp_in x8 60 ∧ ∀ σ_10, σ_10 = sto σ_9 15 x8.toNatClampNeg r_8 → (∀ x8_11 : Int32, x8_11 = x8 + (-1) → wX3_workOut_L51 T x7 k78 Q nn51 x8_11 σ_10))))))
def wX3_workOut (T : Nat) (x2 : Int32) (x3 : Int32) (x4 : Int32) (x5 : Int32) (x6 : Int32) (σ : Sg) (Q : Int32 → Sg → Prop) : Prop :=
  (vp_in 0 4 ∧ ∀ σ_1, σ_1 = sto σ 18 0 x3 → (vp_in 1 4 ∧ ∀ σ_2, σ_2 = sto σ_1 18 1 x4 → (vp_in 2 4 ∧ ∀ σ_3, σ_3 = sto σ_2 18 2 x5 → (vp_in 3 4 ∧ ∀ σ_4, σ_4 = sto σ_3 18 3 x6 → (vp_in x2 4 ∧ (∀ x7_5, x7_5 = (σ_4 (T + 1) x2.toNatClampNeg) → (vp_in (x2 + 1) 4 ∧ (∀ x8_6, x8_6 = ((σ_4 (T + 1) (x2 + 1).toNatClampNeg) - 1) → (∃ nf, wX3_workOut_L51 T x7_5 (fun σ_12 => (vp_in x7_5 60 ∧ Q (σ_12 15 x7_5.toNatClampNeg) σ_12)) Q nf x8_6 σ_4)))))))))
set_option maxHeartbeats 4000000 in
set_option maxRecDepth 100000 in
theorem mX3_workOut_L51 {D : va_G} {cy : Nat → ClassId} {ad z : Nat → Nat} (l : Launch) {T : Nat} (hT : isSten T) {p : Program} {e : Env} {s : State} {m : MethodId} {args : Array Value} {below : List Frame} {meth : Method} {c : Code} {A : Nat → Prop} {k78 : Sg → Prop} {Q : Int32 → Sg → Prop} (X : Fx D (tyB cy) (EvB z) p s m args meth c cX3_workOut 9 "BackBay$Desk" A) (hr : meth.sig.returnType = some .int) (x7 : Int32) (hk78 : ∀ (σ : Sg) (H : Heap) (locs : List Loc) (ls : Array Slot), St D ad 75 (shB cy ad) A s σ H locs → lv_has ls 9 [(0, .ref (ad 14)), (7, .int x7)] → k78 σ → W p l e ({ frames := 2, cells := 0, slots := 0, locals := 48 }) s m args below meth c H locs 0 0 (MQ below (va_Qi Q (PosW D (tyB cy) ad 75 (shB cy ad) A) A) args s 0 0 A) (F0 m 78 ls [])) : ∀ (n : Nat) (x8 : Int32) (σ : Sg) (H : Heap) (locs : List Loc) (ls : Array Slot), St D ad 75 (shB cy ad) A s σ H locs → lv_has ls 9 [(0, .ref (ad 14)), (1, .ref (ad T)), (7, .int x7), (8, .int x8)] → wX3_workOut_L51 T x7 k78 Q n x8 σ → W p l e ({ frames := 2, cells := 0, slots := 0, locals := 48 }) s m args below meth c H locs 0 0 (MQ below (va_Qi Q (PosW D (tyB cy) ad 75 (shB cy ad) A) A) args s 0 0 A) (F0 m 51 ls []) := by
  have hx := X.1
  have hb := X.2.1
  intro n
  induction n with
  | zero =>
    intro _ _ _ _ _ _ _ h
    exact absurd h (by unfold wX3_workOut_L51; exact id)
  | succ n ih =>
    intro x8 σ H locs ls S hl h
    unfold wX3_workOut_L51 at h
    refine lv_iload hx hb dX3_workOut_51 (lv_at hl 3 rfl) ?_
    refine lv_iload hx hb dX3_workOut_53 (lv_at hl 2 rfl) ?_
    refine lv_icmp_lt (tgt := 78) hx hb dX3_workOut_55 (by decide) (fun q_7 => ?_) (fun q_7 => ?_)
    · replace h := h.1 q_7
      exact hk78 _ _ _ _ S (lv_sub hl [0, 2] rfl) h
    · replace h := h.2 q_7
      refine lv_aload_n hx hb dX3_workOut_58 rfl (lv_at hl 0 rfl) ?_
      refine o_get X S 14 0 (by decide) rfl rfl in_3 (by decide) k_184 rfl dX3_workOut_59 ?_
      refine lv_iload hx hb dX3_workOut_62 (lv_at hl 3 rfl) ?_
      refine lv_aload_n hx hb dX3_workOut_64 rfl (lv_at hl 0 rfl) ?_
      refine lv_aload_n hx hb dX3_workOut_65 rfl (lv_at hl 1 rfl) ?_
      refine lv_iload hx hb dX3_workOut_66 (lv_at hl 3 rfl) ?_
      refine o_callVi (k := 2) (EvB_ok z) X S (mX3_worthOf l hT x8 σ _ h) (by decide) rfl rfl k_592 k_589 k_591 ks_11 k_7 ⟨rfl, by decide, by decide, by decide +kernel⟩ ⟨rfl, rfl⟩ ⟨Nat.le_of_ble_eq_true rfl, Nat.le_of_ble_eq_true rfl⟩ rfl hl.1 rfl (Nat.le_of_ble_eq_true rfl) dX3_workOut_68 (fun r_8 σ_9 H locs h S => ?_)
      refine o_iast X S 15 0 (by decide) (fun _ => rfl) rfl h.1 dX3_workOut_71 (fun σ_10 H locs eσ_10 S => ?_)
      replace h := h.2 σ_10 eσ_10
      obtain ⟨x8_11, ex8_11⟩ : ∃ y : Int32, y = x8 + (-1) := ⟨_, rfl⟩
      replace h := h x8_11 ex8_11
      refine lv_iinc (v := x8_11) (lv' := [(8, .int x8_11), (0, .ref (ad 14)), (1, .ref (ad T)), (7, .int x7)]) hx hb dX3_workOut_72 hl (k := 3) rfl (by rw [ex8_11]; rfl) (by decide) rfl (fun ls hl => ?_)
      refine lv_goto (tgt := 51) hx hb dX3_workOut_75 (by decide) ?_
      exact ih _ _ _ _ _ S (lv_sub hl [1, 2, 3, 0] rfl) h
set_option maxHeartbeats 4000000 in
set_option maxRecDepth 100000 in
theorem mX3_workOut {D : va_G} {cy : Nat → ClassId} {ad z : Nat → Nat} (l : Launch) {T : Nat} (hT : isSten T) (x2 : Int32) (x3 : Int32) (x4 : Int32) (x5 : Int32) (x6 : Int32) (σ : Sg) (Q : Int32 → Sg → Prop) (h : wX3_workOut T x2 x3 x4 x5 x6 σ Q) : MIB D cy ad z l yX3_workOut (.code yX3_workOut cX3_workOut 9 (some .int) :: gT) ({ frames := 2, cells := 0, slots := 0, locals := 48 }) [.ref (ad 14), .ref (ad T), .int x2, .int x3, .int x4, .int x5, .int x6] σ Q := by
  refine metI_of (by decide +kernel) (Nat.le_of_ble_eq_true rfl) ?_
  intro p e s m args below meth c A ls X hr hl S
  have X : Fx D (tyB cy) (EvB z) p s m args meth c cX3_workOut 9 "BackBay$Desk" A := X
  have hl : lv_has ls 9 [(0, .ref (ad 14)), (1, .ref (ad T)), (2, .int x2), (3, .int x3), (4, .int x4), (5, .int x5), (6, .int x6)] := hl
  have hx := X.1
  have hb := X.2.1
  unfold wX3_workOut at h
  refine lv_aload_n hx hb dX3_workOut_0 rfl (lv_at hl 0 rfl) ?_
  refine o_get X S 14 3 (by decide) rfl rfl in_3 (by decide) k_187 rfl dX3_workOut_1 ?_
  refine lv_iconst (v := 0) hx hb dX3_workOut_4 (by decide) ?_
  refine lv_iload_n hx hb dX3_workOut_5 rfl (lv_at hl 3 rfl) ?_
  refine o_iast X S 18 0 (by decide) (fun _ => rfl) rfl h.1 dX3_workOut_6 (fun σ_1 H locs eσ_1 S => ?_)
  replace h := h.2 σ_1 eσ_1
  refine lv_aload_n hx hb dX3_workOut_7 rfl (lv_at hl 0 rfl) ?_
  refine o_get X S 14 3 (by decide) rfl rfl in_3 (by decide) k_187 rfl dX3_workOut_8 ?_
  refine lv_iconst (v := 1) hx hb dX3_workOut_11 (by decide) ?_
  refine lv_iload hx hb dX3_workOut_12 (lv_at hl 4 rfl) ?_
  refine o_iast X S 18 0 (by decide) (fun _ => rfl) rfl h.1 dX3_workOut_14 (fun σ_2 H locs eσ_2 S => ?_)
  replace h := h.2 σ_2 eσ_2
  refine lv_aload_n hx hb dX3_workOut_15 rfl (lv_at hl 0 rfl) ?_
  refine o_get X S 14 3 (by decide) rfl rfl in_3 (by decide) k_187 rfl dX3_workOut_16 ?_
  refine lv_iconst (v := 2) hx hb dX3_workOut_19 (by decide) ?_
  refine lv_iload hx hb dX3_workOut_20 (lv_at hl 5 rfl) ?_
  refine o_iast X S 18 0 (by decide) (fun _ => rfl) rfl h.1 dX3_workOut_22 (fun σ_3 H locs eσ_3 S => ?_)
  replace h := h.2 σ_3 eσ_3
  refine lv_aload_n hx hb dX3_workOut_23 rfl (lv_at hl 0 rfl) ?_
  refine o_get X S 14 3 (by decide) rfl rfl in_3 (by decide) k_187 rfl dX3_workOut_24 ?_
  refine lv_iconst (v := 3) hx hb dX3_workOut_27 (by decide) ?_
  refine lv_iload hx hb dX3_workOut_28 (lv_at hl 6 rfl) ?_
  refine o_iast X S 18 0 (by decide) (fun _ => rfl) rfl h.1 dX3_workOut_30 (fun σ_4 H locs eσ_4 S => ?_)
  replace h := h.2 σ_4 eσ_4
  refine lv_aload_n hx hb dX3_workOut_31 rfl (lv_at hl 1 rfl) ?_
  refine o_get X S T 2 (isSten_lt hT 0 (by decide)) ((shS0 hT) _) rfl in_8 (by decide) k_80 rfl dX3_workOut_32 ?_
  refine lv_iload_n hx hb dX3_workOut_35 rfl (lv_at hl 2 rfl) ?_
  refine o_iald X S (T + 1) 0 (isSten_lt hT 1 (by decide)) (shS1 hT) rfl h.1 dX3_workOut_36 ?_
  replace h := h.2
  refine lv_topi (fun x7_5 ex7_5 => ?_)
  replace h := h x7_5 ex7_5
  refine lv_istore (lv' := [(7, .int x7_5), (0, .ref (ad 14)), (1, .ref (ad T)), (2, .int x2), (3, .int x3), (4, .int x4), (5, .int x5), (6, .int x6)]) hx hb dX3_workOut_37 hl (by decide) rfl (fun ls hl => ?_)
  refine lv_aload_n hx hb dX3_workOut_39 rfl (lv_at hl 2 rfl) ?_
  refine o_get X S T 2 (isSten_lt hT 0 (by decide)) ((shS0 hT) _) rfl in_8 (by decide) k_80 rfl dX3_workOut_40 ?_
  refine lv_iload_n hx hb dX3_workOut_43 rfl (lv_at hl 3 rfl) ?_
  refine lv_iconst (v := 1) hx hb dX3_workOut_44 (by decide) ?_
  refine lv_iadd hx hb dX3_workOut_45 ?_
  refine o_iald X S (T + 1) 0 (isSten_lt hT 1 (by decide)) (shS1 hT) rfl h.1 dX3_workOut_46 ?_
  replace h := h.2
  refine lv_iconst (v := 1) hx hb dX3_workOut_47 (by decide) ?_
  refine lv_isub hx hb dX3_workOut_48 ?_
  refine lv_topi (fun x8_6 ex8_6 => ?_)
  replace h := h x8_6 ex8_6
  refine lv_istore (lv' := [(8, .int x8_6), (7, .int x7_5), (0, .ref (ad 14)), (1, .ref (ad T)), (2, .int x2), (3, .int x3), (4, .int x4), (5, .int x5), (6, .int x6)]) hx hb dX3_workOut_49 hl (by decide) rfl (fun ls hl => ?_)
  obtain ⟨n_51, h⟩ := h
  refine mX3_workOut_L51 l hT X hr x7_5 ?_ n_51 _ _ _ _ _ S (lv_sub hl [2, 3, 1, 0] rfl) h
  · intro σ_12 H locs ls S hl h
    refine lv_aload_n hx hb dX3_workOut_78 rfl (lv_at hl 0 rfl) ?_
    refine o_get X S 14 0 (by decide) rfl rfl in_3 (by decide) k_184 rfl dX3_workOut_79 ?_
    refine lv_iload hx hb dX3_workOut_82 (lv_at hl 1 rfl) ?_
    refine o_iald X S 15 0 (by decide) (fun _ => rfl) rfl h.1 dX3_workOut_84 ?_
    replace h := h.2
    exact o_iret X S hr h dX3_workOut_85
def wX3_handDown_b195 (T : Nat) (σ : Sg) (Q : Sg → Prop) : Prop :=
  Q σ
def wX3_handDown_b166 (T : Nat) (x2 : Int32) (x3 : Int32) (σ : Sg) (Q : Sg → Prop) : Prop :=
  (wX3_taken T x2 σ (fun r_16 σ_17 => (vp_in r_16 60 ∧ (vp_in r_16 60 ∧ ∀ σ_18, σ_18 = sto σ_17 16 r_16.toNatClampNeg ((σ_17 16 r_16.toNatClampNeg) + x3) → wX3_handDown_b195 T σ_18 Q))))
def wX3_handDown (T : Nat) (x2 : Int32) (σ : Sg) (Q : Sg → Prop) : Prop :=
  (vp_in x2 60 ∧ (∀ x3_1, x3_1 = (σ 16 x2.toNatClampNeg) → (vp_in x2 60 ∧ (∀ x4_2, x4_2 = (σ (T + 2) x2.toNatClampNeg) → (∀ x5_3, x5_3 = (x2 + 1) → (vp_in x2 60 ∧ (∀ x6_4, x6_4 = (σ (T + 5) x2.toNatClampNeg) → ((x4_2 = 4 → wX3_handDown_b195 T σ Q) ∧ (¬ x4_2 = 4 → ((x4_2 = 5 → (vp_in x5_3 60 ∧ (vp_in x5_3 60 ∧ ∀ σ_7, σ_7 = sto σ 16 x5_3.toNatClampNeg ((σ 16 x5_3.toNatClampNeg) + x3_1) → (vp_in x6_4 60 ∧ (vp_in x6_4 60 ∧ ∀ σ_8, σ_8 = sto σ_7 16 x6_4.toNatClampNeg ((σ_7 16 x6_4.toNatClampNeg) + x3_1) → wX3_handDown_b195 T σ_8 Q))))) ∧ (¬ x4_2 = 5 → ((x4_2 = 6 → (vp_in x5_3 60 ∧ (vp_in x5_3 60 ∧ ∀ σ_10, σ_10 = sto σ 16 x5_3.toNatClampNeg ((σ 16 x5_3.toNatClampNeg) + x3_1) → (vp_in x6_4 60 ∧ (vp_in x6_4 60 ∧ ∀ σ_11, σ_11 = sto σ_10 16 x6_4.toNatClampNeg ((σ_10 16 x6_4.toNatClampNeg) - x3_1) → wX3_handDown_b195 T σ_11 Q))))) ∧ (¬ x4_2 = 6 → ((x4_2 = 7 → (vp_in x5_3 60 ∧ (vp_in x6_4 60 ∧ (vp_in x5_3 60 ∧ ∀ σ_13, σ_13 = sto σ 16 x5_3.toNatClampNeg ((σ 16 x5_3.toNatClampNeg) + (x3_1 * (σ 15 x6_4.toNatClampNeg))) → (vp_in x6_4 60 ∧ (vp_in x5_3 60 ∧ (vp_in x6_4 60 ∧ ∀ σ_14, σ_14 = sto σ_13 16 x6_4.toNatClampNeg ((σ_13 16 x6_4.toNatClampNeg) + (x3_1 * (σ_13 15 x5_3.toNatClampNeg))) → wX3_handDown_b195 T σ_14 Q))))))) ∧ (¬ x4_2 = 7 → ((x4_2 = 8 → wX3_handDown_b166 T x2 x3_1 σ Q) ∧ (¬ x4_2 = 8 → ((x4_2 = 9 → wX3_handDown_b166 T x2 x3_1 σ Q) ∧ (¬ x4_2 = 9 → ((x4_2 = 10 → wX3_handDown_b166 T x2 x3_1 σ Q) ∧ (¬ x4_2 = 10 → (vp_in x4_2 4 ∧ (vp_in x4_2 4 ∧ ∀ σ_21, σ_21 = sto σ 19 x4_2.toNatClampNeg ((σ 19 x4_2.toNatClampNeg) + x3_1) → wX3_handDown_b195 T σ_21 Q)))))))))))))))))))))))
set_option maxHeartbeats 4000000 in
set_option maxRecDepth 100000 in
theorem mX3_handDown_b195 {D : va_G} {cy : Nat → ClassId} {ad z : Nat → Nat} (l : Launch) {T : Nat} (hT : isSten T) {p : Program} {e : Env} {s : State} {m : MethodId} {args : Array Value} {below : List Frame} {meth : Method} {c : Code} {A : Nat → Prop} {Q : Sg → Prop} (X : Fx D (tyB cy) (EvB z) p s m args meth c cX3_handDown 7 "BackBay$Desk" A) (hr : meth.sig.returnType = none) {σ : Sg} {H : Heap} {locs : List Loc} {ls : Array Slot} (S : St D ad 75 (shB cy ad) A s σ H locs) (hl : lv_has ls 7 []) (h : wX3_handDown_b195 T σ Q) : W p l e ({ frames := 1, cells := 0, slots := 0, locals := 25 }) s m args below meth c H locs 0 0 (MQ below (va_Qv Q (PosW D (tyB cy) ad 75 (shB cy ad) A) A) args s 0 0 A) (F0 m 195 ls []) := by
  have hx := X.1
  have hb := X.2.1
  unfold wX3_handDown_b195 at h
  exact o_vret X S hr h dX3_handDown_195
set_option maxHeartbeats 4000000 in
set_option maxRecDepth 100000 in
theorem mX3_handDown_b166 {D : va_G} {cy : Nat → ClassId} {ad z : Nat → Nat} (l : Launch) {T : Nat} (hT : isSten T) {p : Program} {e : Env} {s : State} {m : MethodId} {args : Array Value} {below : List Frame} {meth : Method} {c : Code} {A : Nat → Prop} {Q : Sg → Prop} (X : Fx D (tyB cy) (EvB z) p s m args meth c cX3_handDown 7 "BackBay$Desk" A) (hr : meth.sig.returnType = none) (x2 : Int32) (x3 : Int32) {σ : Sg} {H : Heap} {locs : List Loc} {ls : Array Slot} (S : St D ad 75 (shB cy ad) A s σ H locs) (hl : lv_has ls 7 [(0, .ref (ad 14)), (1, .ref (ad T)), (2, .int x2), (3, .int x3)]) (h : wX3_handDown_b166 T x2 x3 σ Q) : W p l e ({ frames := 1, cells := 0, slots := 0, locals := 25 }) s m args below meth c H locs 0 0 (MQ below (va_Qv Q (PosW D (tyB cy) ad 75 (shB cy ad) A) A) args s 0 0 A) (F0 m 166 ls []) := by
  have hx := X.1
  have hb := X.2.1
  unfold wX3_handDown_b166 at h
  refine lv_aload_n hx hb dX3_handDown_166 rfl (lv_at hl 0 rfl) ?_
  refine o_get X S 14 1 (by decide) rfl rfl in_3 (by decide) k_185 rfl dX3_handDown_167 ?_
  refine lv_aload_n hx hb dX3_handDown_170 rfl (lv_at hl 0 rfl) ?_
  refine lv_aload_n hx hb dX3_handDown_171 rfl (lv_at hl 1 rfl) ?_
  refine lv_iload_n hx hb dX3_handDown_172 rfl (lv_at hl 2 rfl) ?_
  refine o_callVi (k := 2) (EvB_ok z) X S (mX3_taken l hT x2 σ _ h) (by decide) rfl rfl k_596 k_593 k_595 ks_12 k_7 ⟨rfl, by decide, by decide, by decide +kernel⟩ ⟨rfl, rfl⟩ ⟨Nat.le_of_ble_eq_true rfl, Nat.le_of_ble_eq_true rfl⟩ rfl hl.1 rfl (Nat.le_of_ble_eq_true rfl) dX3_handDown_173 (fun r_16 σ_17 H locs h S => ?_)
  refine lv_dup2_11 hx hb dX3_handDown_176 rfl rfl ?_
  refine o_iald X S 16 0 (by decide) (fun _ => rfl) rfl h.1 dX3_handDown_177 ?_
  replace h := h.2
  refine lv_iload_n hx hb dX3_handDown_178 rfl (lv_at hl 3 rfl) ?_
  refine lv_iadd hx hb dX3_handDown_179 ?_
  refine o_iast X S 16 0 (by decide) (fun _ => rfl) rfl h.1 dX3_handDown_180 (fun σ_18 H locs eσ_18 S => ?_)
  replace h := h.2 σ_18 eσ_18
  refine lv_goto (tgt := 195) hx hb dX3_handDown_181 (by decide) ?_
  exact mX3_handDown_b195 l hT X hr S (lv_sub hl [] rfl) h
set_option maxHeartbeats 4000000 in
set_option maxRecDepth 100000 in
theorem mX3_handDown {D : va_G} {cy : Nat → ClassId} {ad z : Nat → Nat} (l : Launch) {T : Nat} (hT : isSten T) (x2 : Int32) (σ : Sg) (Q : Sg → Prop) (h : wX3_handDown T x2 σ Q) : MVB D cy ad z l yX3_handDown (.code yX3_handDown cX3_handDown 7 none :: gT) ({ frames := 1, cells := 0, slots := 0, locals := 25 }) [.ref (ad 14), .ref (ad T), .int x2] σ Q := by
  refine metV_of (by decide +kernel) (Nat.le_of_ble_eq_true rfl) ?_
  intro p e s m args below meth c A ls X hr hl S
  have X : Fx D (tyB cy) (EvB z) p s m args meth c cX3_handDown 7 "BackBay$Desk" A := X
  have hl : lv_has ls 7 [(0, .ref (ad 14)), (1, .ref (ad T)), (2, .int x2)] := hl
  have hx := X.1
  have hb := X.2.1
  unfold wX3_handDown at h
  refine lv_aload_n hx hb dX3_handDown_0 rfl (lv_at hl 0 rfl) ?_
  refine o_get X S 14 1 (by decide) rfl rfl in_3 (by decide) k_185 rfl dX3_handDown_1 ?_
  refine lv_iload_n hx hb dX3_handDown_4 rfl (lv_at hl 2 rfl) ?_
  refine o_iald X S 16 0 (by decide) (fun _ => rfl) rfl h.1 dX3_handDown_5 ?_
  replace h := h.2
  refine lv_topi (fun x3_1 ex3_1 => ?_)
  replace h := h x3_1 ex3_1
  refine lv_istore_n (lv' := [(3, .int x3_1), (0, .ref (ad 14)), (1, .ref (ad T)), (2, .int x2)]) hx hb dX3_handDown_6 rfl hl (by decide) rfl (fun ls hl => ?_)
  refine lv_aload_n hx hb dX3_handDown_7 rfl (lv_at hl 2 rfl) ?_
  refine o_get X S T 3 (isSten_lt hT 0 (by decide)) ((shS0 hT) _) rfl in_8 (by decide) k_82 rfl dX3_handDown_8 ?_
  refine lv_iload_n hx hb dX3_handDown_11 rfl (lv_at hl 3 rfl) ?_
  refine o_iald X S (T + 2) 0 (isSten_lt hT 2 (by decide)) (shS2 hT) rfl h.1 dX3_handDown_12 ?_
  replace h := h.2
  refine lv_topi (fun x4_2 ex4_2 => ?_)
  replace h := h x4_2 ex4_2
  refine lv_istore (lv' := [(4, .int x4_2), (3, .int x3_1), (0, .ref (ad 14)), (1, .ref (ad T)), (2, .int x2)]) hx hb dX3_handDown_13 hl (by decide) rfl (fun ls hl => ?_)
  refine lv_iload_n hx hb dX3_handDown_15 rfl (lv_at hl 4 rfl) ?_
  refine lv_iconst (v := 1) hx hb dX3_handDown_16 (by decide) ?_
  refine lv_iadd hx hb dX3_handDown_17 ?_
  refine lv_topi (fun x5_3 ex5_3 => ?_)
  replace h := h x5_3 ex5_3
  refine lv_istore (lv' := [(5, .int x5_3), (4, .int x4_2), (3, .int x3_1), (0, .ref (ad 14)), (1, .ref (ad T)), (2, .int x2)]) hx hb dX3_handDown_18 hl (by decide) rfl (fun ls hl => ?_)
  refine lv_aload_n hx hb dX3_handDown_20 rfl (lv_at hl 4 rfl) ?_
  refine o_get X S T 6 (isSten_lt hT 0 (by decide)) ((shS0 hT) _) rfl in_8 (by decide) k_89 rfl dX3_handDown_21 ?_
  refine lv_iload_n hx hb dX3_handDown_24 rfl (lv_at hl 5 rfl) ?_
  refine o_iald X S (T + 5) 0 (isSten_lt hT 5 (by decide)) (shS5 hT) rfl h.1 dX3_handDown_25 ?_
  replace h := h.2
  refine lv_topi (fun x6_4 ex6_4 => ?_)
  replace h := h x6_4 ex6_4
  refine lv_istore (lv' := [(6, .int x6_4), (5, .int x5_3), (4, .int x4_2), (3, .int x3_1), (0, .ref (ad 14)), (1, .ref (ad T)), (2, .int x2)]) hx hb dX3_handDown_26 hl (by decide) rfl (fun ls hl => ?_)
  refine lv_iload hx hb dX3_handDown_28 (lv_at hl 2 rfl) ?_
  by_cases q_5 : x4_2 = 4
  · refine lv_tableIn (tgt := 72) hx hb dX3_handDown_30 (by rw [q_5] <;> decide) (by rw [q_5] <;> decide) (by rw [q_5] <;> rfl) (by decide) ?_
    replace h := h.1 q_5
    refine lv_goto (tgt := 195) hx hb dX3_handDown_72 (by decide) ?_
    exact mX3_handDown_b195 l hT X hr S (lv_sub hl [] rfl) h
  replace h := h.2 q_5
  by_cases q_6 : x4_2 = 5
  · refine lv_tableIn (tgt := 75) hx hb dX3_handDown_30 (by rw [q_6] <;> decide) (by rw [q_6] <;> decide) (by rw [q_6] <;> rfl) (by decide) ?_
    replace h := h.1 q_6
    refine lv_aload_n hx hb dX3_handDown_75 rfl (lv_at hl 4 rfl) ?_
    refine o_get X S 14 1 (by decide) rfl rfl in_3 (by decide) k_185 rfl dX3_handDown_76 ?_
    refine lv_iload hx hb dX3_handDown_79 (lv_at hl 1 rfl) ?_
    refine lv_dup2_11 hx hb dX3_handDown_81 rfl rfl ?_
    refine o_iald X S 16 0 (by decide) (fun _ => rfl) rfl h.1 dX3_handDown_82 ?_
    replace h := h.2
    refine lv_iload_n hx hb dX3_handDown_83 rfl (lv_at hl 3 rfl) ?_
    refine lv_iadd hx hb dX3_handDown_84 ?_
    refine o_iast X S 16 0 (by decide) (fun _ => rfl) rfl h.1 dX3_handDown_85 (fun σ_7 H locs eσ_7 S => ?_)
    replace h := h.2 σ_7 eσ_7
    refine lv_aload_n hx hb dX3_handDown_86 rfl (lv_at hl 4 rfl) ?_
    refine o_get X S 14 1 (by decide) rfl rfl in_3 (by decide) k_185 rfl dX3_handDown_87 ?_
    refine lv_iload hx hb dX3_handDown_90 (lv_at hl 0 rfl) ?_
    refine lv_dup2_11 hx hb dX3_handDown_92 rfl rfl ?_
    refine o_iald X S 16 0 (by decide) (fun _ => rfl) rfl h.1 dX3_handDown_93 ?_
    replace h := h.2
    refine lv_iload_n hx hb dX3_handDown_94 rfl (lv_at hl 3 rfl) ?_
    refine lv_iadd hx hb dX3_handDown_95 ?_
    refine o_iast X S 16 0 (by decide) (fun _ => rfl) rfl h.1 dX3_handDown_96 (fun σ_8 H locs eσ_8 S => ?_)
    replace h := h.2 σ_8 eσ_8
    refine lv_goto (tgt := 195) hx hb dX3_handDown_97 (by decide) ?_
    exact mX3_handDown_b195 l hT X hr S (lv_sub hl [] rfl) h
  replace h := h.2 q_6
  by_cases q_9 : x4_2 = 6
  · refine lv_tableIn (tgt := 100) hx hb dX3_handDown_30 (by rw [q_9] <;> decide) (by rw [q_9] <;> decide) (by rw [q_9] <;> rfl) (by decide) ?_
    replace h := h.1 q_9
    refine lv_aload_n hx hb dX3_handDown_100 rfl (lv_at hl 4 rfl) ?_
    refine o_get X S 14 1 (by decide) rfl rfl in_3 (by decide) k_185 rfl dX3_handDown_101 ?_
    refine lv_iload hx hb dX3_handDown_104 (lv_at hl 1 rfl) ?_
    refine lv_dup2_11 hx hb dX3_handDown_106 rfl rfl ?_
    refine o_iald X S 16 0 (by decide) (fun _ => rfl) rfl h.1 dX3_handDown_107 ?_
    replace h := h.2
    refine lv_iload_n hx hb dX3_handDown_108 rfl (lv_at hl 3 rfl) ?_
    refine lv_iadd hx hb dX3_handDown_109 ?_
    refine o_iast X S 16 0 (by decide) (fun _ => rfl) rfl h.1 dX3_handDown_110 (fun σ_10 H locs eσ_10 S => ?_)
    replace h := h.2 σ_10 eσ_10
    refine lv_aload_n hx hb dX3_handDown_111 rfl (lv_at hl 4 rfl) ?_
    refine o_get X S 14 1 (by decide) rfl rfl in_3 (by decide) k_185 rfl dX3_handDown_112 ?_
    refine lv_iload hx hb dX3_handDown_115 (lv_at hl 0 rfl) ?_
    refine lv_dup2_11 hx hb dX3_handDown_117 rfl rfl ?_
    refine o_iald X S 16 0 (by decide) (fun _ => rfl) rfl h.1 dX3_handDown_118 ?_
    replace h := h.2
    refine lv_iload_n hx hb dX3_handDown_119 rfl (lv_at hl 3 rfl) ?_
    refine lv_isub hx hb dX3_handDown_120 ?_
    refine o_iast X S 16 0 (by decide) (fun _ => rfl) rfl h.1 dX3_handDown_121 (fun σ_11 H locs eσ_11 S => ?_)
    replace h := h.2 σ_11 eσ_11
    refine lv_goto (tgt := 195) hx hb dX3_handDown_122 (by decide) ?_
    exact mX3_handDown_b195 l hT X hr S (lv_sub hl [] rfl) h
  replace h := h.2 q_9
  by_cases q_12 : x4_2 = 7
  · refine lv_tableIn (tgt := 125) hx hb dX3_handDown_30 (by rw [q_12] <;> decide) (by rw [q_12] <;> decide) (by rw [q_12] <;> rfl) (by decide) ?_
    replace h := h.1 q_12
    refine lv_aload_n hx hb dX3_handDown_125 rfl (lv_at hl 4 rfl) ?_
    refine o_get X S 14 1 (by decide) rfl rfl in_3 (by decide) k_185 rfl dX3_handDown_126 ?_
    refine lv_iload hx hb dX3_handDown_129 (lv_at hl 1 rfl) ?_
    refine lv_dup2_11 hx hb dX3_handDown_131 rfl rfl ?_
    refine o_iald X S 16 0 (by decide) (fun _ => rfl) rfl h.1 dX3_handDown_132 ?_
    replace h := h.2
    refine lv_iload_n hx hb dX3_handDown_133 rfl (lv_at hl 3 rfl) ?_
    refine lv_aload_n hx hb dX3_handDown_134 rfl (lv_at hl 4 rfl) ?_
    refine o_get X S 14 0 (by decide) rfl rfl in_3 (by decide) k_184 rfl dX3_handDown_135 ?_
    refine lv_iload hx hb dX3_handDown_138 (lv_at hl 0 rfl) ?_
    refine o_iald X S 15 0 (by decide) (fun _ => rfl) rfl h.1 dX3_handDown_140 ?_
    replace h := h.2
    refine lv_imul hx hb dX3_handDown_141 ?_
    refine lv_iadd hx hb dX3_handDown_142 ?_
    refine o_iast X S 16 0 (by decide) (fun _ => rfl) rfl h.1 dX3_handDown_143 (fun σ_13 H locs eσ_13 S => ?_)
    replace h := h.2 σ_13 eσ_13
    refine lv_aload_n hx hb dX3_handDown_144 rfl (lv_at hl 4 rfl) ?_
    refine o_get X S 14 1 (by decide) rfl rfl in_3 (by decide) k_185 rfl dX3_handDown_145 ?_
    refine lv_iload hx hb dX3_handDown_148 (lv_at hl 0 rfl) ?_
    refine lv_dup2_11 hx hb dX3_handDown_150 rfl rfl ?_
    refine o_iald X S 16 0 (by decide) (fun _ => rfl) rfl h.1 dX3_handDown_151 ?_
    replace h := h.2
    refine lv_iload_n hx hb dX3_handDown_152 rfl (lv_at hl 3 rfl) ?_
    refine lv_aload_n hx hb dX3_handDown_153 rfl (lv_at hl 4 rfl) ?_
    refine o_get X S 14 0 (by decide) rfl rfl in_3 (by decide) k_184 rfl dX3_handDown_154 ?_
    refine lv_iload hx hb dX3_handDown_157 (lv_at hl 1 rfl) ?_
    refine o_iald X S 15 0 (by decide) (fun _ => rfl) rfl h.1 dX3_handDown_159 ?_
    replace h := h.2
    refine lv_imul hx hb dX3_handDown_160 ?_
    refine lv_iadd hx hb dX3_handDown_161 ?_
    refine o_iast X S 16 0 (by decide) (fun _ => rfl) rfl h.1 dX3_handDown_162 (fun σ_14 H locs eσ_14 S => ?_)
    replace h := h.2 σ_14 eσ_14
    refine lv_goto (tgt := 195) hx hb dX3_handDown_163 (by decide) ?_
    exact mX3_handDown_b195 l hT X hr S (lv_sub hl [] rfl) h
  replace h := h.2 q_12
  by_cases q_15 : x4_2 = 8
  · refine lv_tableIn (tgt := 166) hx hb dX3_handDown_30 (by rw [q_15] <;> decide) (by rw [q_15] <;> decide) (by rw [q_15] <;> rfl) (by decide) ?_
    replace h := h.1 q_15
    exact mX3_handDown_b166 l hT X hr x2 x3_1 S (lv_sub hl [4, 5, 6, 3] rfl) h
  replace h := h.2 q_15
  by_cases q_19 : x4_2 = 9
  · refine lv_tableIn (tgt := 166) hx hb dX3_handDown_30 (by rw [q_19] <;> decide) (by rw [q_19] <;> decide) (by rw [q_19] <;> rfl) (by decide) ?_
    replace h := h.1 q_19
    exact mX3_handDown_b166 l hT X hr x2 x3_1 S (lv_sub hl [4, 5, 6, 3] rfl) h
  replace h := h.2 q_19
  by_cases q_20 : x4_2 = 10
  · refine lv_tableIn (tgt := 166) hx hb dX3_handDown_30 (by rw [q_20] <;> decide) (by rw [q_20] <;> decide) (by rw [q_20] <;> rfl) (by decide) ?_
    replace h := h.1 q_20
    exact mX3_handDown_b166 l hT X hr x2 x3_1 S (lv_sub hl [4, 5, 6, 3] rfl) h
  replace h := h.2 q_20
  refine lv_tableOut (tgt := 184) hx hb dX3_handDown_30 (by have r0 := lv_neT (a := 4) q_5 rfl; have r1 := lv_neT (a := 5) q_6 rfl; have r2 := lv_neT (a := 6) q_9 rfl; have r3 := lv_neT (a := 7) q_12 rfl; have r4 := lv_neT (a := 8) q_15 rfl; have r5 := lv_neT (a := 9) q_19 rfl; have r6 := lv_neT (a := 10) q_20 rfl; omega) (by decide) ?_
  refine lv_aload_n hx hb dX3_handDown_184 rfl (lv_at hl 4 rfl) ?_
  refine o_get X S 14 4 (by decide) rfl rfl in_3 (by decide) k_188 rfl dX3_handDown_185 ?_
  refine lv_iload hx hb dX3_handDown_188 (lv_at hl 2 rfl) ?_
  refine lv_dup2_11 hx hb dX3_handDown_190 rfl rfl ?_
  refine o_iald X S 19 0 (by decide) (fun _ => rfl) rfl h.1 dX3_handDown_191 ?_
  replace h := h.2
  refine lv_iload_n hx hb dX3_handDown_192 rfl (lv_at hl 3 rfl) ?_
  refine lv_iadd hx hb dX3_handDown_193 ?_
  refine o_iast X S 19 0 (by decide) (fun _ => rfl) rfl h.1 dX3_handDown_194 (fun σ_21 H locs eσ_21 S => ?_)
  replace h := h.2 σ_21 eσ_21
  exact mX3_handDown_b195 l hT X hr S (lv_sub hl [] rfl) h
def wX3_goBack_L30 (T : Nat) (x3 : Int32) (x4 : Int32) (x5 : Int32) (k51 : Sg → Prop) (Q : Sg → Prop) : Nat → Int32 → Sg → Prop
  | 0, _, _ => False
  | nn30 + 1, x6, σ =>
  ((x5 ≤ x6 → k51 σ) ∧ (¬ x5 ≤ x6 → (vp_in x6 60 ∧ ∀ σ_6, σ_6 = sto σ 16 x6.toNatClampNeg 0 → (∀ x6_7 : Int32, x6_7 = x6 + 1 → wX3_goBack_L30 T x3 x4 x5 k51 Q nn30 x6_7 σ_6))))
def wX3_goBack_L63 (T : Nat) (x5 : Int32) (k83 : Sg → Prop) (Q : Sg → Prop) : Nat → Int32 → Sg → Prop
  | 0, _, _ => False
  | nn63 + 1, x6, σ =>
  ((x5 ≤ x6 → k83 σ) ∧ (¬ x5 ≤ x6 → (wX3_handDown T x6 σ (fun σ_12 => (∀ x6_13 : Int32, x6_13 = x6 + 1 → wX3_goBack_L63 T x5 k83 Q nn63 x6_13 σ_12)))))
def wX3_goBack (T : Nat) (x2 : Int32) (x3 : Int32) (σ : Sg) (Q : Sg → Prop) : Prop :=
  (wJ7_fill_53178 19 4 0 σ (fun σ_2 => (vp_in x2 4 ∧ (∀ x4_3, x4_3 = (σ_2 (T + 1) x2.toNatClampNeg) → (vp_in (x2 + 1) 4 ∧ (∀ x5_4, x5_4 = (σ_2 (T + 1) (x2 + 1).toNatClampNeg) → (∃ nf, wX3_goBack_L30 T x3 x4_3 x5_4 (fun σ_8 => (vp_in x4_3 60 ∧ ∀ σ_9, σ_9 = sto σ_8 16 x4_3.toNatClampNeg x3 → (∃ nf, wX3_goBack_L63 T x5_4 (fun σ_14 => Q σ_14) Q nf x4_3 σ_9))) Q nf x4_3 σ_2)))))))
set_option maxHeartbeats 4000000 in
set_option maxRecDepth 100000 in
theorem mX3_goBack_L30 {D : va_G} {cy : Nat → ClassId} {ad z : Nat → Nat} (l : Launch) {T : Nat} (hT : isSten T) {p : Program} {e : Env} {s : State} {m : MethodId} {args : Array Value} {below : List Frame} {meth : Method} {c : Code} {A : Nat → Prop} {k51 : Sg → Prop} {Q : Sg → Prop} (X : Fx D (tyB cy) (EvB z) p s m args meth c cX3_goBack 7 "BackBay$Desk" A) (hr : meth.sig.returnType = none) (x3 : Int32) (x4 : Int32) (x5 : Int32) (hk51 : ∀ (σ : Sg) (H : Heap) (locs : List Loc) (ls : Array Slot), St D ad 75 (shB cy ad) A s σ H locs → lv_has ls 7 [(0, .ref (ad 14)), (1, .ref (ad T)), (3, .int x3), (4, .int x4), (5, .int x5)] → k51 σ → W p l e ({ frames := 2, cells := 0, slots := 0, locals := 51 }) s m args below meth c H locs 0 0 (MQ below (va_Qv Q (PosW D (tyB cy) ad 75 (shB cy ad) A) A) args s 0 0 A) (F0 m 51 ls [])) : ∀ (n : Nat) (x6 : Int32) (σ : Sg) (H : Heap) (locs : List Loc) (ls : Array Slot), St D ad 75 (shB cy ad) A s σ H locs → lv_has ls 7 [(0, .ref (ad 14)), (1, .ref (ad T)), (3, .int x3), (4, .int x4), (5, .int x5), (6, .int x6)] → wX3_goBack_L30 T x3 x4 x5 k51 Q n x6 σ → W p l e ({ frames := 2, cells := 0, slots := 0, locals := 51 }) s m args below meth c H locs 0 0 (MQ below (va_Qv Q (PosW D (tyB cy) ad 75 (shB cy ad) A) A) args s 0 0 A) (F0 m 30 ls []) := by
  have hx := X.1
  have hb := X.2.1
  intro n
  induction n with
  | zero =>
    intro _ _ _ _ _ _ _ h
    exact absurd h (by unfold wX3_goBack_L30; exact id)
  | succ n ih =>
    intro x6 σ H locs ls S hl h
    unfold wX3_goBack_L30 at h
    refine lv_iload hx hb dX3_goBack_30 (lv_at hl 5 rfl) ?_
    refine lv_iload hx hb dX3_goBack_32 (lv_at hl 4 rfl) ?_
    refine lv_icmp_ge (tgt := 51) hx hb dX3_goBack_34 (by decide) (fun q_5 => ?_) (fun q_5 => ?_)
    · replace h := h.1 q_5
      exact hk51 _ _ _ _ S (lv_sub hl [0, 1, 2, 3, 4] rfl) h
    · replace h := h.2 q_5
      refine lv_aload_n hx hb dX3_goBack_37 rfl (lv_at hl 0 rfl) ?_
      refine o_get X S 14 1 (by decide) rfl rfl in_3 (by decide) k_185 rfl dX3_goBack_38 ?_
      refine lv_iload hx hb dX3_goBack_41 (lv_at hl 5 rfl) ?_
      refine lv_iconst (v := 0) hx hb dX3_goBack_43 (by decide) ?_
      refine o_iast X S 16 0 (by decide) (fun _ => rfl) rfl h.1 dX3_goBack_44 (fun σ_6 H locs eσ_6 S => ?_)
      replace h := h.2 σ_6 eσ_6
      obtain ⟨x6_7, ex6_7⟩ : ∃ y : Int32, y = x6 + 1 := ⟨_, rfl⟩
      replace h := h x6_7 ex6_7
      refine lv_iinc (v := x6_7) (lv' := [(6, .int x6_7), (0, .ref (ad 14)), (1, .ref (ad T)), (3, .int x3), (4, .int x4), (5, .int x5)]) hx hb dX3_goBack_45 hl (k := 5) rfl (by rw [ex6_7]; rfl) (by decide) rfl (fun ls hl => ?_)
      refine lv_goto (tgt := 30) hx hb dX3_goBack_48 (by decide) ?_
      exact ih _ _ _ _ _ S (lv_sub hl [1, 2, 3, 4, 5, 0] rfl) h
set_option maxHeartbeats 4000000 in
set_option maxRecDepth 100000 in
theorem mX3_goBack_L63 {D : va_G} {cy : Nat → ClassId} {ad z : Nat → Nat} (l : Launch) {T : Nat} (hT : isSten T) {p : Program} {e : Env} {s : State} {m : MethodId} {args : Array Value} {below : List Frame} {meth : Method} {c : Code} {A : Nat → Prop} {k83 : Sg → Prop} {Q : Sg → Prop} (X : Fx D (tyB cy) (EvB z) p s m args meth c cX3_goBack 7 "BackBay$Desk" A) (hr : meth.sig.returnType = none) (x5 : Int32) (hk83 : ∀ (σ : Sg) (H : Heap) (locs : List Loc) (ls : Array Slot), St D ad 75 (shB cy ad) A s σ H locs → lv_has ls 7 [] → k83 σ → W p l e ({ frames := 2, cells := 0, slots := 0, locals := 51 }) s m args below meth c H locs 0 0 (MQ below (va_Qv Q (PosW D (tyB cy) ad 75 (shB cy ad) A) A) args s 0 0 A) (F0 m 83 ls [])) : ∀ (n : Nat) (x6 : Int32) (σ : Sg) (H : Heap) (locs : List Loc) (ls : Array Slot), St D ad 75 (shB cy ad) A s σ H locs → lv_has ls 7 [(0, .ref (ad 14)), (1, .ref (ad T)), (5, .int x5), (6, .int x6)] → wX3_goBack_L63 T x5 k83 Q n x6 σ → W p l e ({ frames := 2, cells := 0, slots := 0, locals := 51 }) s m args below meth c H locs 0 0 (MQ below (va_Qv Q (PosW D (tyB cy) ad 75 (shB cy ad) A) A) args s 0 0 A) (F0 m 63 ls []) := by
  have hx := X.1
  have hb := X.2.1
  intro n
  induction n with
  | zero =>
    intro _ _ _ _ _ _ _ h
    exact absurd h (by unfold wX3_goBack_L63; exact id)
  | succ n ih =>
    intro x6 σ H locs ls S hl h
    unfold wX3_goBack_L63 at h
    refine lv_iload hx hb dX3_goBack_63 (lv_at hl 3 rfl) ?_
    refine lv_iload hx hb dX3_goBack_65 (lv_at hl 2 rfl) ?_
    refine lv_icmp_ge (tgt := 83) hx hb dX3_goBack_67 (by decide) (fun q_10 => ?_) (fun q_10 => ?_)
    · replace h := h.1 q_10
      exact hk83 _ _ _ _ S (lv_sub hl [] rfl) h
    · replace h := h.2 q_10
      refine lv_aload_n hx hb dX3_goBack_70 rfl (lv_at hl 0 rfl) ?_
      refine lv_aload_n hx hb dX3_goBack_71 rfl (lv_at hl 1 rfl) ?_
      refine lv_iload hx hb dX3_goBack_72 (lv_at hl 3 rfl) ?_
      refine o_callVv (k := 2) (EvB_ok z) X S (mX3_handDown l hT x6 σ _ h) (by decide) rfl rfl k_684 k_681 k_683 ks_19 k_7 ⟨rfl, by decide, by decide, by decide +kernel⟩ ⟨rfl, rfl⟩ ⟨Nat.le_of_ble_eq_true rfl, Nat.le_of_ble_eq_true rfl⟩ rfl hl.1 rfl (Nat.le_of_ble_eq_true rfl) dX3_goBack_74 (fun σ_12 H locs h S => ?_)
      obtain ⟨x6_13, ex6_13⟩ : ∃ y : Int32, y = x6 + 1 := ⟨_, rfl⟩
      replace h := h x6_13 ex6_13
      refine lv_iinc (v := x6_13) (lv' := [(6, .int x6_13), (0, .ref (ad 14)), (1, .ref (ad T)), (5, .int x5)]) hx hb dX3_goBack_77 hl (k := 3) rfl (by rw [ex6_13]; rfl) (by decide) rfl (fun ls hl => ?_)
      refine lv_goto (tgt := 63) hx hb dX3_goBack_80 (by decide) ?_
      exact ih _ _ _ _ _ S (lv_sub hl [1, 2, 3, 0] rfl) h
set_option maxHeartbeats 4000000 in
set_option maxRecDepth 100000 in
theorem mX3_goBack {D : va_G} {cy : Nat → ClassId} {ad z : Nat → Nat} (l : Launch) {T : Nat} (hT : isSten T) (x2 : Int32) (x3 : Int32) (σ : Sg) (Q : Sg → Prop) (h : wX3_goBack T x2 x3 σ Q) : MVB D cy ad z l yX3_goBack (.code yX3_goBack cX3_goBack 7 none :: gT) ({ frames := 2, cells := 0, slots := 0, locals := 51 }) [.ref (ad 14), .ref (ad T), .int x2, .int x3] σ Q := by
  refine metV_of (by decide +kernel) (Nat.le_of_ble_eq_true rfl) ?_
  intro p e s m args below meth c A ls X hr hl S
  have X : Fx D (tyB cy) (EvB z) p s m args meth c cX3_goBack 7 "BackBay$Desk" A := X
  have hl : lv_has ls 7 [(0, .ref (ad 14)), (1, .ref (ad T)), (2, .int x2), (3, .int x3)] := hl
  have hx := X.1
  have hb := X.2.1
  unfold wX3_goBack at h
  refine lv_aload_n hx hb dX3_goBack_0 rfl (lv_at hl 0 rfl) ?_
  refine o_get X S 14 4 (by decide) rfl rfl in_3 (by decide) k_188 rfl dX3_goBack_1 ?_
  refine lv_iconst (v := 0) hx hb dX3_goBack_4 (by decide) ?_
  refine o_callSv (k := 2) (EvB_ok z) X S (mJ7_fill_53178 l (by decide) (fun _ => rfl) 0 σ _ h) k_125 k_680 k_124 k_5 ⟨by decide, by decide, by decide +kernel⟩ ⟨rfl, rfl⟩ ⟨Nat.le_of_ble_eq_true rfl, Nat.le_of_ble_eq_true rfl⟩ rfl hl.1 rfl (Nat.le_of_ble_eq_true rfl) dX3_goBack_5 (fun σ_2 H locs h S => ?_)
  refine lv_aload_n hx hb dX3_goBack_8 rfl (lv_at hl 1 rfl) ?_
  refine o_get X S T 2 (isSten_lt hT 0 (by decide)) ((shS0 hT) _) rfl in_8 (by decide) k_80 rfl dX3_goBack_9 ?_
  refine lv_iload_n hx hb dX3_goBack_12 rfl (lv_at hl 2 rfl) ?_
  refine o_iald X S (T + 1) 0 (isSten_lt hT 1 (by decide)) (shS1 hT) rfl h.1 dX3_goBack_13 ?_
  replace h := h.2
  refine lv_topi (fun x4_3 ex4_3 => ?_)
  replace h := h x4_3 ex4_3
  refine lv_istore (lv' := [(4, .int x4_3), (0, .ref (ad 14)), (1, .ref (ad T)), (2, .int x2), (3, .int x3)]) hx hb dX3_goBack_14 hl (by decide) rfl (fun ls hl => ?_)
  refine lv_aload_n hx hb dX3_goBack_16 rfl (lv_at hl 2 rfl) ?_
  refine o_get X S T 2 (isSten_lt hT 0 (by decide)) ((shS0 hT) _) rfl in_8 (by decide) k_80 rfl dX3_goBack_17 ?_
  refine lv_iload_n hx hb dX3_goBack_20 rfl (lv_at hl 3 rfl) ?_
  refine lv_iconst (v := 1) hx hb dX3_goBack_21 (by decide) ?_
  refine lv_iadd hx hb dX3_goBack_22 ?_
  refine o_iald X S (T + 1) 0 (isSten_lt hT 1 (by decide)) (shS1 hT) rfl h.1 dX3_goBack_23 ?_
  replace h := h.2
  refine lv_topi (fun x5_4 ex5_4 => ?_)
  replace h := h x5_4 ex5_4
  refine lv_istore (lv' := [(5, .int x5_4), (4, .int x4_3), (0, .ref (ad 14)), (1, .ref (ad T)), (2, .int x2), (3, .int x3)]) hx hb dX3_goBack_24 hl (by decide) rfl (fun ls hl => ?_)
  refine lv_iload hx hb dX3_goBack_26 (lv_at hl 1 rfl) ?_
  refine lv_istore (lv' := [(6, .int x4_3), (5, .int x5_4), (4, .int x4_3), (0, .ref (ad 14)), (1, .ref (ad T)), (2, .int x2), (3, .int x3)]) hx hb dX3_goBack_28 hl (by decide) rfl (fun ls hl => ?_)
  obtain ⟨n_30, h⟩ := h
  refine mX3_goBack_L30 l hT X hr x3 x4_3 x5_4 ?_ n_30 _ _ _ _ _ S (lv_sub hl [3, 4, 6, 2, 1, 0] rfl) h
  · intro σ_8 H locs ls S hl h
    refine lv_aload_n hx hb dX3_goBack_51 rfl (lv_at hl 0 rfl) ?_
    refine o_get X S 14 1 (by decide) rfl rfl in_3 (by decide) k_185 rfl dX3_goBack_52 ?_
    refine lv_iload hx hb dX3_goBack_55 (lv_at hl 3 rfl) ?_
    refine lv_iload_n hx hb dX3_goBack_57 rfl (lv_at hl 2 rfl) ?_
    refine o_iast X S 16 0 (by decide) (fun _ => rfl) rfl h.1 dX3_goBack_58 (fun σ_9 H locs eσ_9 S => ?_)
    replace h := h.2 σ_9 eσ_9
    refine lv_iload hx hb dX3_goBack_59 (lv_at hl 3 rfl) ?_
    refine lv_istore (lv' := [(6, .int x4_3), (0, .ref (ad 14)), (1, .ref (ad T)), (3, .int x3), (4, .int x4_3), (5, .int x5_4)]) hx hb dX3_goBack_61 hl (by decide) rfl (fun ls hl => ?_)
    obtain ⟨n_63, h⟩ := h
    refine mX3_goBack_L63 l hT X hr x5_4 ?_ n_63 _ _ _ _ _ S (lv_sub hl [1, 2, 5, 0] rfl) h
    · intro σ_14 H locs ls S hl h
      exact o_vret X S hr h dX3_goBack_83
def wX3_knots_b44 (T : Nat) (x3 : Int32) (x4 : Int32) (x5 : Int32) (y0 : Int32) (y1 : Int32) (σ : Sg) (k51 : Sg → Prop) (kb20 : Int32 → Sg → Prop) (Q : Int32 → Sg → Prop) : Prop :=
  (vp_in y1 60 ∧ ∀ σ_5, σ_5 = sto σ 17 y1.toNatClampNeg (vp_nar .boolean y0) → (∀ x5_6 : Int32, x5_6 = x5 + 1 → kb20 x5_6 σ_5))
def wX3_knots_L20 (T : Nat) (x3 : Int32) (x4 : Int32) (k51 : Sg → Prop) (Q : Int32 → Sg → Prop) : Nat → Int32 → Sg → Prop
  | 0, _, _ => False
  | nn20 + 1, x5, σ =>
  ((x4 ≤ x5 → k51 σ) ∧ (¬ x4 ≤ x5 → ((x5 = x3 → wX3_knots_b44 T x3 x4 x5 1 x5 σ k51 (wX3_knots_L20 T x3 x4 k51 Q nn20) Q) ∧ (¬ x5 = x3 → wX3_knots_b44 T x3 x4 x5 0 x5 σ k51 (wX3_knots_L20 T x3 x4 k51 Q nn20) Q))))
def wX3_knots_b166 (T : Nat) (x4 : Int32) (x5 : Int32) (x6 : Int32) (σ : Sg) (k172 : Int32 → Sg → Prop) (kb57 : Int32 → Int32 → Sg → Prop) (Q : Int32 → Sg → Prop) : Prop :=
  (∀ x6_11 : Int32, x6_11 = x6 + 1 → kb57 x5 x6_11 σ)
def wX3_knots_b163 (T : Nat) (x4 : Int32) (x6 : Int32) (y0 : Int32) (y1 : Int32) (σ : Sg) (k172 : Int32 → Sg → Prop) (kb57 : Int32 → Int32 → Sg → Prop) (Q : Int32 → Sg → Prop) : Prop :=
  (∀ x5_20, x5_20 = (y1 + y0) → wX3_knots_b166 T x4 x5_20 x6 σ k172 kb57 Q)
def wX3_knots_L57 (T : Nat) (x4 : Int32) (k172 : Int32 → Sg → Prop) (Q : Int32 → Sg → Prop) : Nat → Int32 → Int32 → Sg → Prop
  | 0, _, _, _ => False
  | nn57 + 1, x5, x6, σ =>
  ((x4 ≤ x6 → k172 x5 σ) ∧ (¬ x4 ≤ x6 → (vp_in x6 60 ∧ (∀ x7_9, x7_9 = (σ (T + 2) x6.toNatClampNeg) → (vp_in x6 60 ∧ (((σ 17 x6.toNatClampNeg) = 0 → wX3_knots_b166 T x4 x5 x6 σ k172 (wX3_knots_L57 T x4 k172 Q nn57) Q) ∧ (¬ (σ 17 x6.toNatClampNeg) = 0 → ((x7_9 < 5 → wX3_knots_b166 T x4 x5 x6 σ k172 (wX3_knots_L57 T x4 k172 Q nn57) Q) ∧ (¬ x7_9 < 5 → (vp_in (x6 + 1) 60 ∧ ∀ σ_13, σ_13 = sto σ 17 (x6 + 1).toNatClampNeg (vp_nar .boolean 1) → (vp_in x6 60 ∧ (vp_in (σ_13 (T + 5) x6.toNatClampNeg) 60 ∧ ∀ σ_14, σ_14 = sto σ_13 17 (σ_13 (T + 5) x6.toNatClampNeg).toNatClampNeg (vp_nar .boolean 1) → ((x7_9 < 8 → wX3_knots_b166 T x4 x5 x6 σ_14 k172 (wX3_knots_L57 T x4 k172 Q nn57) Q) ∧ (¬ x7_9 < 8 → (wX3_taken T x6 σ_14 (fun r_16 σ_17 => (vp_in r_16 60 ∧ ∀ σ_18, σ_18 = sto σ_17 17 r_16.toNatClampNeg (vp_nar .boolean 1) → (vp_in (x6 + 1) 60 ∧ (vp_in x6 60 ∧ (vp_in (σ_18 (T + 5) x6.toNatClampNeg) 60 ∧ (((σ_18 15 (x6 + 1).toNatClampNeg) = (σ_18 15 (σ_18 (T + 5) x6.toNatClampNeg).toNatClampNeg) → wX3_knots_b163 T x4 x6 1 x5 σ_18 k172 (wX3_knots_L57 T x4 k172 Q nn57) Q) ∧ (¬ (σ_18 15 (x6 + 1).toNatClampNeg) = (σ_18 15 (σ_18 (T + 5) x6.toNatClampNeg).toNatClampNeg) → wX3_knots_b163 T x4 x6 0 x5 σ_18 k172 (wX3_knots_L57 T x4 k172 Q nn57) Q))))))))))))))))))))))
def wX3_knots (T : Nat) (x2 : Int32) (σ : Sg) (Q : Int32 → Sg → Prop) : Prop :=
  (vp_in x2 4 ∧ (∀ x3_1, x3_1 = (σ (T + 1) x2.toNatClampNeg) → (vp_in (x2 + 1) 4 ∧ (∀ x4_2, x4_2 = (σ (T + 1) (x2 + 1).toNatClampNeg) → (∃ nf, wX3_knots_L20 T x3_1 x4_2 (fun σ_7 => (∃ nf, wX3_knots_L57 T x4_2 (fun x5_21 σ_22 => Q x5_21 σ_22) Q nf 0 x3_1 σ_7)) Q nf x3_1 σ)))))
set_option maxHeartbeats 4000000 in
set_option maxRecDepth 100000 in
theorem mX3_knots_b44 {D : va_G} {cy : Nat → ClassId} {ad z : Nat → Nat} (l : Launch) {T : Nat} (hT : isSten T) {p : Program} {e : Env} {s : State} {m : MethodId} {args : Array Value} {below : List Frame} {meth : Method} {c : Code} {A : Nat → Prop} {k51 : Sg → Prop} {kb20 : Int32 → Sg → Prop} {Q : Int32 → Sg → Prop} (X : Fx D (tyB cy) (EvB z) p s m args meth c cX3_knots 8 "BackBay$Desk" A) (hr : meth.sig.returnType = some .int) (x3 : Int32) (x4 : Int32) (x5 : Int32) (y0 : Int32) (y1 : Int32) (hk51 : ∀ (σ : Sg) (H : Heap) (locs : List Loc) (ls : Array Slot), St D ad 75 (shB cy ad) A s σ H locs → lv_has ls 8 [(0, .ref (ad 14)), (1, .ref (ad T)), (3, .int x3), (4, .int x4)] → k51 σ → W p l e ({ frames := 1, cells := 0, slots := 0, locals := 25 }) s m args below meth c H locs 0 0 (MQ below (va_Qi Q (PosW D (tyB cy) ad 75 (shB cy ad) A) A) args s 0 0 A) (F0 m 51 ls [])) (hkb20 : ∀ (x5 : Int32) (σ : Sg) (H : Heap) (locs : List Loc) (ls : Array Slot), St D ad 75 (shB cy ad) A s σ H locs → lv_has ls 8 [(0, .ref (ad 14)), (1, .ref (ad T)), (3, .int x3), (4, .int x4), (5, .int x5)] → kb20 x5 σ → W p l e ({ frames := 1, cells := 0, slots := 0, locals := 25 }) s m args below meth c H locs 0 0 (MQ below (va_Qi Q (PosW D (tyB cy) ad 75 (shB cy ad) A) A) args s 0 0 A) (F0 m 20 ls [])) {σ : Sg} {H : Heap} {locs : List Loc} {ls : Array Slot} (S : St D ad 75 (shB cy ad) A s σ H locs) (hl : lv_has ls 8 [(0, .ref (ad 14)), (1, .ref (ad T)), (3, .int x3), (4, .int x4), (5, .int x5)]) (h : wX3_knots_b44 T x3 x4 x5 y0 y1 σ k51 kb20 Q) : W p l e ({ frames := 1, cells := 0, slots := 0, locals := 25 }) s m args below meth c H locs 0 0 (MQ below (va_Qi Q (PosW D (tyB cy) ad 75 (shB cy ad) A) A) args s 0 0 A) (F0 m 44 ls [.int y0, .int y1, .ref (ad 17)]) := by
  have hx := X.1
  have hb := X.2.1
  unfold wX3_knots_b44 at h
  refine o_zast X S 17 1 (by decide) (fun _ => rfl) rfl h.1 dX3_knots_44 (fun σ_5 H locs eσ_5 S => ?_)
  replace h := h.2 σ_5 eσ_5
  obtain ⟨x5_6, ex5_6⟩ : ∃ y : Int32, y = x5 + 1 := ⟨_, rfl⟩
  replace h := h x5_6 ex5_6
  refine lv_iinc (v := x5_6) (lv' := [(5, .int x5_6), (0, .ref (ad 14)), (1, .ref (ad T)), (3, .int x3), (4, .int x4)]) hx hb dX3_knots_45 hl (k := 4) rfl (by rw [ex5_6]; rfl) (by decide) rfl (fun ls hl => ?_)
  refine lv_goto (tgt := 20) hx hb dX3_knots_48 (by decide) ?_
  exact hkb20 _ _ _ _ _ S (lv_sub hl [1, 2, 3, 4, 0] rfl) h
set_option maxHeartbeats 4000000 in
set_option maxRecDepth 100000 in
theorem mX3_knots_L20 {D : va_G} {cy : Nat → ClassId} {ad z : Nat → Nat} (l : Launch) {T : Nat} (hT : isSten T) {p : Program} {e : Env} {s : State} {m : MethodId} {args : Array Value} {below : List Frame} {meth : Method} {c : Code} {A : Nat → Prop} {k51 : Sg → Prop} {Q : Int32 → Sg → Prop} (X : Fx D (tyB cy) (EvB z) p s m args meth c cX3_knots 8 "BackBay$Desk" A) (hr : meth.sig.returnType = some .int) (x3 : Int32) (x4 : Int32) (hk51 : ∀ (σ : Sg) (H : Heap) (locs : List Loc) (ls : Array Slot), St D ad 75 (shB cy ad) A s σ H locs → lv_has ls 8 [(0, .ref (ad 14)), (1, .ref (ad T)), (3, .int x3), (4, .int x4)] → k51 σ → W p l e ({ frames := 1, cells := 0, slots := 0, locals := 25 }) s m args below meth c H locs 0 0 (MQ below (va_Qi Q (PosW D (tyB cy) ad 75 (shB cy ad) A) A) args s 0 0 A) (F0 m 51 ls [])) : ∀ (n : Nat) (x5 : Int32) (σ : Sg) (H : Heap) (locs : List Loc) (ls : Array Slot), St D ad 75 (shB cy ad) A s σ H locs → lv_has ls 8 [(0, .ref (ad 14)), (1, .ref (ad T)), (3, .int x3), (4, .int x4), (5, .int x5)] → wX3_knots_L20 T x3 x4 k51 Q n x5 σ → W p l e ({ frames := 1, cells := 0, slots := 0, locals := 25 }) s m args below meth c H locs 0 0 (MQ below (va_Qi Q (PosW D (tyB cy) ad 75 (shB cy ad) A) A) args s 0 0 A) (F0 m 20 ls []) := by
  have hx := X.1
  have hb := X.2.1
  intro n
  induction n with
  | zero =>
    intro _ _ _ _ _ _ _ h
    exact absurd h (by unfold wX3_knots_L20; exact id)
  | succ n ih =>
    intro x5 σ H locs ls S hl h
    unfold wX3_knots_L20 at h
    refine lv_iload hx hb dX3_knots_20 (lv_at hl 4 rfl) ?_
    refine lv_iload hx hb dX3_knots_22 (lv_at hl 3 rfl) ?_
    refine lv_icmp_ge (tgt := 51) hx hb dX3_knots_24 (by decide) (fun q_3 => ?_) (fun q_3 => ?_)
    · replace h := h.1 q_3
      exact hk51 _ _ _ _ S (lv_sub hl [0, 1, 2, 3] rfl) h
    · replace h := h.2 q_3
      refine lv_aload_n hx hb dX3_knots_27 rfl (lv_at hl 0 rfl) ?_
      refine o_get X S 14 2 (by decide) rfl rfl in_3 (by decide) k_186 rfl dX3_knots_28 ?_
      refine lv_iload hx hb dX3_knots_31 (lv_at hl 4 rfl) ?_
      refine lv_iload hx hb dX3_knots_33 (lv_at hl 4 rfl) ?_
      refine lv_iload_n hx hb dX3_knots_35 rfl (lv_at hl 2 rfl) ?_
      refine lv_icmp_ne (tgt := 43) hx hb dX3_knots_36 (by decide) (fun q_4 => ?_) (fun q_4 => ?_)
      · replace h := h.2 q_4
        refine lv_iconst (v := 0) hx hb dX3_knots_43 (by decide) ?_
        exact mX3_knots_b44 l hT X hr x3 x4 x5 0 x5 hk51 ih S (lv_sub hl [0, 1, 2, 3, 4] rfl) h
      · replace h := h.1 q_4
        refine lv_iconst (v := 1) hx hb dX3_knots_39 (by decide) ?_
        refine lv_goto (tgt := 44) hx hb dX3_knots_40 (by decide) ?_
        exact mX3_knots_b44 l hT X hr x3 x4 x5 1 x5 hk51 ih S (lv_sub hl [0, 1, 2, 3, 4] rfl) h
set_option maxHeartbeats 4000000 in
set_option maxRecDepth 100000 in
theorem mX3_knots_b166 {D : va_G} {cy : Nat → ClassId} {ad z : Nat → Nat} (l : Launch) {T : Nat} (hT : isSten T) {p : Program} {e : Env} {s : State} {m : MethodId} {args : Array Value} {below : List Frame} {meth : Method} {c : Code} {A : Nat → Prop} {k172 : Int32 → Sg → Prop} {kb57 : Int32 → Int32 → Sg → Prop} {Q : Int32 → Sg → Prop} (X : Fx D (tyB cy) (EvB z) p s m args meth c cX3_knots 8 "BackBay$Desk" A) (hr : meth.sig.returnType = some .int) (x4 : Int32) (x5 : Int32) (x6 : Int32) (hk172 : ∀ (x5 : Int32) (σ : Sg) (H : Heap) (locs : List Loc) (ls : Array Slot), St D ad 75 (shB cy ad) A s σ H locs → lv_has ls 8 [(5, .int x5)] → k172 x5 σ → W p l e ({ frames := 1, cells := 0, slots := 0, locals := 25 }) s m args below meth c H locs 0 0 (MQ below (va_Qi Q (PosW D (tyB cy) ad 75 (shB cy ad) A) A) args s 0 0 A) (F0 m 172 ls [])) (hkb57 : ∀ (x5 : Int32) (x6 : Int32) (σ : Sg) (H : Heap) (locs : List Loc) (ls : Array Slot), St D ad 75 (shB cy ad) A s σ H locs → lv_has ls 8 [(0, .ref (ad 14)), (1, .ref (ad T)), (4, .int x4), (5, .int x5), (6, .int x6)] → kb57 x5 x6 σ → W p l e ({ frames := 1, cells := 0, slots := 0, locals := 25 }) s m args below meth c H locs 0 0 (MQ below (va_Qi Q (PosW D (tyB cy) ad 75 (shB cy ad) A) A) args s 0 0 A) (F0 m 57 ls [])) {σ : Sg} {H : Heap} {locs : List Loc} {ls : Array Slot} (S : St D ad 75 (shB cy ad) A s σ H locs) (hl : lv_has ls 8 [(0, .ref (ad 14)), (1, .ref (ad T)), (4, .int x4), (5, .int x5), (6, .int x6)]) (h : wX3_knots_b166 T x4 x5 x6 σ k172 kb57 Q) : W p l e ({ frames := 1, cells := 0, slots := 0, locals := 25 }) s m args below meth c H locs 0 0 (MQ below (va_Qi Q (PosW D (tyB cy) ad 75 (shB cy ad) A) A) args s 0 0 A) (F0 m 166 ls []) := by
  have hx := X.1
  have hb := X.2.1
  unfold wX3_knots_b166 at h
  obtain ⟨x6_11, ex6_11⟩ : ∃ y : Int32, y = x6 + 1 := ⟨_, rfl⟩
  replace h := h x6_11 ex6_11
  refine lv_iinc (v := x6_11) (lv' := [(6, .int x6_11), (0, .ref (ad 14)), (1, .ref (ad T)), (4, .int x4), (5, .int x5)]) hx hb dX3_knots_166 hl (k := 4) rfl (by rw [ex6_11]; rfl) (by decide) rfl (fun ls hl => ?_)
  refine lv_goto (tgt := 57) hx hb dX3_knots_169 (by decide) ?_
  exact hkb57 _ _ _ _ _ _ S (lv_sub hl [1, 2, 3, 4, 0] rfl) h
set_option maxHeartbeats 4000000 in
set_option maxRecDepth 100000 in
theorem mX3_knots_b163 {D : va_G} {cy : Nat → ClassId} {ad z : Nat → Nat} (l : Launch) {T : Nat} (hT : isSten T) {p : Program} {e : Env} {s : State} {m : MethodId} {args : Array Value} {below : List Frame} {meth : Method} {c : Code} {A : Nat → Prop} {k172 : Int32 → Sg → Prop} {kb57 : Int32 → Int32 → Sg → Prop} {Q : Int32 → Sg → Prop} (X : Fx D (tyB cy) (EvB z) p s m args meth c cX3_knots 8 "BackBay$Desk" A) (hr : meth.sig.returnType = some .int) (x4 : Int32) (x6 : Int32) (y0 : Int32) (y1 : Int32) (hk172 : ∀ (x5 : Int32) (σ : Sg) (H : Heap) (locs : List Loc) (ls : Array Slot), St D ad 75 (shB cy ad) A s σ H locs → lv_has ls 8 [(5, .int x5)] → k172 x5 σ → W p l e ({ frames := 1, cells := 0, slots := 0, locals := 25 }) s m args below meth c H locs 0 0 (MQ below (va_Qi Q (PosW D (tyB cy) ad 75 (shB cy ad) A) A) args s 0 0 A) (F0 m 172 ls [])) (hkb57 : ∀ (x5 : Int32) (x6 : Int32) (σ : Sg) (H : Heap) (locs : List Loc) (ls : Array Slot), St D ad 75 (shB cy ad) A s σ H locs → lv_has ls 8 [(0, .ref (ad 14)), (1, .ref (ad T)), (4, .int x4), (5, .int x5), (6, .int x6)] → kb57 x5 x6 σ → W p l e ({ frames := 1, cells := 0, slots := 0, locals := 25 }) s m args below meth c H locs 0 0 (MQ below (va_Qi Q (PosW D (tyB cy) ad 75 (shB cy ad) A) A) args s 0 0 A) (F0 m 57 ls [])) {σ : Sg} {H : Heap} {locs : List Loc} {ls : Array Slot} (S : St D ad 75 (shB cy ad) A s σ H locs) (hl : lv_has ls 8 [(0, .ref (ad 14)), (1, .ref (ad T)), (4, .int x4), (6, .int x6)]) (h : wX3_knots_b163 T x4 x6 y0 y1 σ k172 kb57 Q) : W p l e ({ frames := 1, cells := 0, slots := 0, locals := 25 }) s m args below meth c H locs 0 0 (MQ below (va_Qi Q (PosW D (tyB cy) ad 75 (shB cy ad) A) A) args s 0 0 A) (F0 m 163 ls [.int y0, .int y1]) := by
  have hx := X.1
  have hb := X.2.1
  unfold wX3_knots_b163 at h
  refine lv_iadd hx hb dX3_knots_163 ?_
  refine lv_topi (fun x5_20 ex5_20 => ?_)
  replace h := h x5_20 ex5_20
  refine lv_istore (lv' := [(5, .int x5_20), (0, .ref (ad 14)), (1, .ref (ad T)), (4, .int x4), (6, .int x6)]) hx hb dX3_knots_164 hl (by decide) rfl (fun ls hl => ?_)
  exact mX3_knots_b166 l hT X hr x4 x5_20 x6 hk172 hkb57 S (lv_sub hl [1, 2, 3, 0, 4] rfl) h
set_option maxHeartbeats 4000000 in
set_option maxRecDepth 100000 in
theorem mX3_knots_L57 {D : va_G} {cy : Nat → ClassId} {ad z : Nat → Nat} (l : Launch) {T : Nat} (hT : isSten T) {p : Program} {e : Env} {s : State} {m : MethodId} {args : Array Value} {below : List Frame} {meth : Method} {c : Code} {A : Nat → Prop} {k172 : Int32 → Sg → Prop} {Q : Int32 → Sg → Prop} (X : Fx D (tyB cy) (EvB z) p s m args meth c cX3_knots 8 "BackBay$Desk" A) (hr : meth.sig.returnType = some .int) (x4 : Int32) (hk172 : ∀ (x5 : Int32) (σ : Sg) (H : Heap) (locs : List Loc) (ls : Array Slot), St D ad 75 (shB cy ad) A s σ H locs → lv_has ls 8 [(5, .int x5)] → k172 x5 σ → W p l e ({ frames := 1, cells := 0, slots := 0, locals := 25 }) s m args below meth c H locs 0 0 (MQ below (va_Qi Q (PosW D (tyB cy) ad 75 (shB cy ad) A) A) args s 0 0 A) (F0 m 172 ls [])) : ∀ (n : Nat) (x5 : Int32) (x6 : Int32) (σ : Sg) (H : Heap) (locs : List Loc) (ls : Array Slot), St D ad 75 (shB cy ad) A s σ H locs → lv_has ls 8 [(0, .ref (ad 14)), (1, .ref (ad T)), (4, .int x4), (5, .int x5), (6, .int x6)] → wX3_knots_L57 T x4 k172 Q n x5 x6 σ → W p l e ({ frames := 1, cells := 0, slots := 0, locals := 25 }) s m args below meth c H locs 0 0 (MQ below (va_Qi Q (PosW D (tyB cy) ad 75 (shB cy ad) A) A) args s 0 0 A) (F0 m 57 ls []) := by
  have hx := X.1
  have hb := X.2.1
  intro n
  induction n with
  | zero =>
    intro _ _ _ _ _ _ _ _ h
    exact absurd h (by unfold wX3_knots_L57; exact id)
  | succ n ih =>
    intro x5 x6 σ H locs ls S hl h
    unfold wX3_knots_L57 at h
    refine lv_iload hx hb dX3_knots_57 (lv_at hl 4 rfl) ?_
    refine lv_iload hx hb dX3_knots_59 (lv_at hl 2 rfl) ?_
    refine lv_icmp_ge (tgt := 172) hx hb dX3_knots_61 (by decide) (fun q_8 => ?_) (fun q_8 => ?_)
    · replace h := h.1 q_8
      exact hk172 _ _ _ _ _ S (lv_sub hl [3] rfl) h
    · replace h := h.2 q_8
      refine lv_aload_n hx hb dX3_knots_64 rfl (lv_at hl 1 rfl) ?_
      refine o_get X S T 3 (isSten_lt hT 0 (by decide)) ((shS0 hT) _) rfl in_8 (by decide) k_82 rfl dX3_knots_65 ?_
      refine lv_iload hx hb dX3_knots_68 (lv_at hl 4 rfl) ?_
      refine o_iald X S (T + 2) 0 (isSten_lt hT 2 (by decide)) (shS2 hT) rfl h.1 dX3_knots_70 ?_
      replace h := h.2
      refine lv_topi (fun x7_9 ex7_9 => ?_)
      replace h := h x7_9 ex7_9
      refine lv_istore (lv' := [(7, .int x7_9), (0, .ref (ad 14)), (1, .ref (ad T)), (4, .int x4), (5, .int x5), (6, .int x6)]) hx hb dX3_knots_71 hl (by decide) rfl (fun ls hl => ?_)
      refine lv_aload_n hx hb dX3_knots_73 rfl (lv_at hl 1 rfl) ?_
      refine o_get X S 14 2 (by decide) rfl rfl in_3 (by decide) k_186 rfl dX3_knots_74 ?_
      refine lv_iload hx hb dX3_knots_77 (lv_at hl 5 rfl) ?_
      refine o_zald X S 17 1 (by decide) (fun _ => rfl) rfl h.1 dX3_knots_79 ?_
      replace h := h.2
      refine lv_if_eq (tgt := 166) hx hb dX3_knots_80 (by decide) (fun q_10 => ?_) (fun q_10 => ?_)
      · replace h := h.1 q_10
        exact mX3_knots_b166 l hT X hr x4 x5 x6 hk172 ih S (lv_sub hl [1, 2, 3, 4, 5] rfl) h
      · replace h := h.2 q_10
        refine lv_iload hx hb dX3_knots_83 (lv_at hl 0 rfl) ?_
        refine lv_iconst (v := 5) hx hb dX3_knots_85 (by decide) ?_
        refine lv_icmp_lt (tgt := 166) hx hb dX3_knots_86 (by decide) (fun q_12 => ?_) (fun q_12 => ?_)
        · replace h := h.1 q_12
          exact mX3_knots_b166 l hT X hr x4 x5 x6 hk172 ih S (lv_sub hl [1, 2, 3, 4, 5] rfl) h
        · replace h := h.2 q_12
          refine lv_aload_n hx hb dX3_knots_89 rfl (lv_at hl 1 rfl) ?_
          refine o_get X S 14 2 (by decide) rfl rfl in_3 (by decide) k_186 rfl dX3_knots_90 ?_
          refine lv_iload hx hb dX3_knots_93 (lv_at hl 5 rfl) ?_
          refine lv_iconst (v := 1) hx hb dX3_knots_95 (by decide) ?_
          refine lv_iadd hx hb dX3_knots_96 ?_
          refine lv_iconst (v := 1) hx hb dX3_knots_97 (by decide) ?_
          refine o_zast X S 17 1 (by decide) (fun _ => rfl) rfl h.1 dX3_knots_98 (fun σ_13 H locs eσ_13 S => ?_)
          replace h := h.2 σ_13 eσ_13
          refine lv_aload_n hx hb dX3_knots_99 rfl (lv_at hl 1 rfl) ?_
          refine o_get X S 14 2 (by decide) rfl rfl in_3 (by decide) k_186 rfl dX3_knots_100 ?_
          refine lv_aload_n hx hb dX3_knots_103 rfl (lv_at hl 2 rfl) ?_
          refine o_get X S T 6 (isSten_lt hT 0 (by decide)) ((shS0 hT) _) rfl in_8 (by decide) k_89 rfl dX3_knots_104 ?_
          refine lv_iload hx hb dX3_knots_107 (lv_at hl 5 rfl) ?_
          refine o_iald X S (T + 5) 0 (isSten_lt hT 5 (by decide)) (shS5 hT) rfl h.1 dX3_knots_109 ?_
          replace h := h.2
          refine lv_iconst (v := 1) hx hb dX3_knots_110 (by decide) ?_
          refine o_zast X S 17 1 (by decide) (fun _ => rfl) rfl h.1 dX3_knots_111 (fun σ_14 H locs eσ_14 S => ?_)
          replace h := h.2 σ_14 eσ_14
          refine lv_iload hx hb dX3_knots_112 (lv_at hl 0 rfl) ?_
          refine lv_bipush (v := 8) hx hb dX3_knots_114 (by decide) ?_
          refine lv_icmp_lt (tgt := 166) hx hb dX3_knots_116 (by decide) (fun q_15 => ?_) (fun q_15 => ?_)
          · replace h := h.1 q_15
            exact mX3_knots_b166 l hT X hr x4 x5 x6 hk172 ih S (lv_sub hl [1, 2, 3, 4, 5] rfl) h
          · replace h := h.2 q_15
            refine lv_aload_n hx hb dX3_knots_119 rfl (lv_at hl 1 rfl) ?_
            refine o_get X S 14 2 (by decide) rfl rfl in_3 (by decide) k_186 rfl dX3_knots_120 ?_
            refine lv_aload_n hx hb dX3_knots_123 rfl (lv_at hl 1 rfl) ?_
            refine lv_aload_n hx hb dX3_knots_124 rfl (lv_at hl 2 rfl) ?_
            refine lv_iload hx hb dX3_knots_125 (lv_at hl 5 rfl) ?_
            refine o_callVi (k := 2) (EvB_ok z) X S (mX3_taken l hT x6 σ_14 _ h) (by decide) rfl rfl k_596 k_593 k_595 ks_12 k_7 ⟨rfl, by decide, by decide, by decide +kernel⟩ ⟨rfl, rfl⟩ ⟨Nat.le_of_ble_eq_true rfl, Nat.le_of_ble_eq_true rfl⟩ rfl hl.1 rfl (Nat.le_of_ble_eq_true rfl) dX3_knots_127 (fun r_16 σ_17 H locs h S => ?_)
            refine lv_iconst (v := 1) hx hb dX3_knots_130 (by decide) ?_
            refine o_zast X S 17 1 (by decide) (fun _ => rfl) rfl h.1 dX3_knots_131 (fun σ_18 H locs eσ_18 S => ?_)
            replace h := h.2 σ_18 eσ_18
            refine lv_iload hx hb dX3_knots_132 (lv_at hl 4 rfl) ?_
            refine lv_aload_n hx hb dX3_knots_134 rfl (lv_at hl 1 rfl) ?_
            refine o_get X S 14 0 (by decide) rfl rfl in_3 (by decide) k_184 rfl dX3_knots_135 ?_
            refine lv_iload hx hb dX3_knots_138 (lv_at hl 5 rfl) ?_
            refine lv_iconst (v := 1) hx hb dX3_knots_140 (by decide) ?_
            refine lv_iadd hx hb dX3_knots_141 ?_
            refine o_iald X S 15 0 (by decide) (fun _ => rfl) rfl h.1 dX3_knots_142 ?_
            replace h := h.2
            refine lv_aload_n hx hb dX3_knots_143 rfl (lv_at hl 1 rfl) ?_
            refine o_get X S 14 0 (by decide) rfl rfl in_3 (by decide) k_184 rfl dX3_knots_144 ?_
            refine lv_aload_n hx hb dX3_knots_147 rfl (lv_at hl 2 rfl) ?_
            refine o_get X S T 6 (isSten_lt hT 0 (by decide)) ((shS0 hT) _) rfl in_8 (by decide) k_89 rfl dX3_knots_148 ?_
            refine lv_iload hx hb dX3_knots_151 (lv_at hl 5 rfl) ?_
            refine o_iald X S (T + 5) 0 (isSten_lt hT 5 (by decide)) (shS5 hT) rfl h.1 dX3_knots_153 ?_
            replace h := h.2
            refine o_iald X S 15 0 (by decide) (fun _ => rfl) rfl h.1 dX3_knots_154 ?_
            replace h := h.2
            refine lv_icmp_ne (tgt := 162) hx hb dX3_knots_155 (by decide) (fun q_19 => ?_) (fun q_19 => ?_)
            · replace h := h.2 q_19
              refine lv_iconst (v := 0) hx hb dX3_knots_162 (by decide) ?_
              exact mX3_knots_b163 l hT X hr x4 x6 0 x5 hk172 ih S (lv_sub hl [1, 2, 3, 5] rfl) h
            · replace h := h.1 q_19
              refine lv_iconst (v := 1) hx hb dX3_knots_158 (by decide) ?_
              refine lv_goto (tgt := 163) hx hb dX3_knots_159 (by decide) ?_
              exact mX3_knots_b163 l hT X hr x4 x6 1 x5 hk172 ih S (lv_sub hl [1, 2, 3, 5] rfl) h
set_option maxHeartbeats 4000000 in
set_option maxRecDepth 100000 in
theorem mX3_knots {D : va_G} {cy : Nat → ClassId} {ad z : Nat → Nat} (l : Launch) {T : Nat} (hT : isSten T) (x2 : Int32) (σ : Sg) (Q : Int32 → Sg → Prop) (h : wX3_knots T x2 σ Q) : MIB D cy ad z l yX3_knots (.code yX3_knots cX3_knots 8 (some .int) :: gT) ({ frames := 1, cells := 0, slots := 0, locals := 25 }) [.ref (ad 14), .ref (ad T), .int x2] σ Q := by
  refine metI_of (by decide +kernel) (Nat.le_of_ble_eq_true rfl) ?_
  intro p e s m args below meth c A ls X hr hl S
  have X : Fx D (tyB cy) (EvB z) p s m args meth c cX3_knots 8 "BackBay$Desk" A := X
  have hl : lv_has ls 8 [(0, .ref (ad 14)), (1, .ref (ad T)), (2, .int x2)] := hl
  have hx := X.1
  have hb := X.2.1
  unfold wX3_knots at h
  refine lv_aload_n hx hb dX3_knots_0 rfl (lv_at hl 1 rfl) ?_
  refine o_get X S T 2 (isSten_lt hT 0 (by decide)) ((shS0 hT) _) rfl in_8 (by decide) k_80 rfl dX3_knots_1 ?_
  refine lv_iload_n hx hb dX3_knots_4 rfl (lv_at hl 2 rfl) ?_
  refine o_iald X S (T + 1) 0 (isSten_lt hT 1 (by decide)) (shS1 hT) rfl h.1 dX3_knots_5 ?_
  replace h := h.2
  refine lv_topi (fun x3_1 ex3_1 => ?_)
  replace h := h x3_1 ex3_1
  refine lv_istore_n (lv' := [(3, .int x3_1), (0, .ref (ad 14)), (1, .ref (ad T)), (2, .int x2)]) hx hb dX3_knots_6 rfl hl (by decide) rfl (fun ls hl => ?_)
  refine lv_aload_n hx hb dX3_knots_7 rfl (lv_at hl 2 rfl) ?_
  refine o_get X S T 2 (isSten_lt hT 0 (by decide)) ((shS0 hT) _) rfl in_8 (by decide) k_80 rfl dX3_knots_8 ?_
  refine lv_iload_n hx hb dX3_knots_11 rfl (lv_at hl 3 rfl) ?_
  refine lv_iconst (v := 1) hx hb dX3_knots_12 (by decide) ?_
  refine lv_iadd hx hb dX3_knots_13 ?_
  refine o_iald X S (T + 1) 0 (isSten_lt hT 1 (by decide)) (shS1 hT) rfl h.1 dX3_knots_14 ?_
  replace h := h.2
  refine lv_topi (fun x4_2 ex4_2 => ?_)
  replace h := h x4_2 ex4_2
  refine lv_istore (lv' := [(4, .int x4_2), (3, .int x3_1), (0, .ref (ad 14)), (1, .ref (ad T)), (2, .int x2)]) hx hb dX3_knots_15 hl (by decide) rfl (fun ls hl => ?_)
  refine lv_iload_n hx hb dX3_knots_17 rfl (lv_at hl 1 rfl) ?_
  refine lv_istore (lv' := [(5, .int x3_1), (4, .int x4_2), (3, .int x3_1), (0, .ref (ad 14)), (1, .ref (ad T)), (2, .int x2)]) hx hb dX3_knots_18 hl (by decide) rfl (fun ls hl => ?_)
  obtain ⟨n_20, h⟩ := h
  refine mX3_knots_L20 l hT X hr x3_1 x4_2 ?_ n_20 _ _ _ _ _ S (lv_sub hl [3, 4, 2, 1, 0] rfl) h
  · intro σ_7 H locs ls S hl h
    refine lv_iconst (v := 0) hx hb dX3_knots_51 (by decide) ?_
    refine lv_istore (lv' := [(5, .int 0), (0, .ref (ad 14)), (1, .ref (ad T)), (3, .int x3_1), (4, .int x4_2)]) hx hb dX3_knots_52 hl (by decide) rfl (fun ls hl => ?_)
    refine lv_iload_n hx hb dX3_knots_54 rfl (lv_at hl 3 rfl) ?_
    refine lv_istore (lv' := [(6, .int x3_1), (5, .int 0), (0, .ref (ad 14)), (1, .ref (ad T)), (3, .int x3_1), (4, .int x4_2)]) hx hb dX3_knots_55 hl (by decide) rfl (fun ls hl => ?_)
    obtain ⟨n_57, h⟩ := h
    refine mX3_knots_L57 l hT X hr x4_2 ?_ n_57 _ _ _ _ _ _ S (lv_sub hl [2, 3, 5, 1, 0] rfl) h
    · intro x5_21 σ_22 H locs ls S hl h
      refine lv_iload hx hb dX3_knots_172 (lv_at hl 0 rfl) ?_
      exact o_iret X S hr h dX3_knots_174
def wX2_behind (u : Nat) (x1 : Int32) (x2 : Int32) (σ : Sg) (Q : Int32 → Sg → Prop) : Prop :=
  (vp_in (((x1 * (σ u 3)) * 10) + x2) 1210 ∧ Q (σ (u + 1) (((x1 * (σ u 3)) * 10) + x2).toNatClampNeg) σ)
set_option maxHeartbeats 4000000 in
set_option maxRecDepth 100000 in
theorem mX2_behind {D : va_G} {cy : Nat → ClassId} {ad z : Nat → Nat} (l : Launch) {u : Nat} (hu : isCou u) (x1 : Int32) (x2 : Int32) (σ : Sg) (Q : Int32 → Sg → Prop) (h : wX2_behind u x1 x2 σ Q) : MIB D cy ad z l yX2_behind (.code yX2_behind cX2_behind 3 (some .int) :: gT) ({ frames := 0, cells := 0, slots := 0, locals := 0 }) [.ref (ad u), .int x1, .int x2] σ Q := by
  refine metI_of (by decide +kernel) (Nat.le_of_ble_eq_true rfl) ?_
  intro p e s m args below meth c A ls X hr hl S
  have X : Fx D (tyB cy) (EvB z) p s m args meth c cX2_behind 3 "BackBay$Course" A := X
  have hl : lv_has ls 3 [(0, .ref (ad u)), (1, .int x1), (2, .int x2)] := hl
  have hx := X.1
  have hb := X.2.1
  unfold wX2_behind at h
  refine lv_aload_n hx hb dX2_behind_0 rfl (lv_at hl 0 rfl) ?_
  refine o_get X S u 2 (isCou_lt hu 0 (by decide)) ((shC0 hu) _) rfl in_2 (by decide) k_210 rfl dX2_behind_1 ?_
  refine lv_iload_n hx hb dX2_behind_4 rfl (lv_at hl 1 rfl) ?_
  refine lv_aload_n hx hb dX2_behind_5 rfl (lv_at hl 0 rfl) ?_
  refine o_get X S u 3 (isCou_lt hu 0 (by decide)) ((shC0 hu) _) rfl in_2 (by decide) k_211 rfl dX2_behind_6 ?_
  refine lv_imul hx hb dX2_behind_9 ?_
  refine lv_bipush (v := 10) hx hb dX2_behind_10 (by decide) ?_
  refine lv_imul hx hb dX2_behind_12 ?_
  refine lv_iload_n hx hb dX2_behind_13 rfl (lv_at hl 2 rfl) ?_
  refine lv_iadd hx hb dX2_behind_14 ?_
  refine o_iald X S (u + 1) 0 (isCou_lt hu 1 (by decide)) (shC1 hu) rfl h.1 dX2_behind_15 ?_
  replace h := h.2
  exact o_iret X S hr h dX2_behind_16
def wX2_workOut_b72 (u : Nat) (T : Nat) (a : Nat) (x4 : Int32) (x5 : Int32) (x6 : Int32) (x7 : Int32) (y0 : Int32) (σ : Sg) (Q : Int32 → Sg → Prop) : Prop :=
  (vp_in x6 1210 ∧ (vp_in x5 10 ∧ (wX3_workOut T x4 x7 (σ (u + 1) x6.toNatClampNeg) y0 (σ a x5.toNatClampNeg) σ (fun r_4 σ_5 => Q r_4 σ_5))))
def wX2_workOut_b35 (u : Nat) (T : Nat) (a : Nat) (x4 : Int32) (x5 : Int32) (x6 : Int32) (y0 : Int32) (σ : Sg) (Q : Int32 → Sg → Prop) : Prop :=
  ((((σ 4 0) - 1) ≤ x5 → (vp_in 1 2 ∧ wX2_workOut_b72 u T a x4 x5 x6 y0 (σ 7 1) σ Q)) ∧ (¬ ((σ 4 0) - 1) ≤ x5 → (vp_in (x6 + 1) 1210 ∧ wX2_workOut_b72 u T a x4 x5 x6 y0 (σ (u + 1) (x6 + 1).toNatClampNeg) σ Q)))
def wX2_workOut (u : Nat) (T : Nat) (a : Nat) (x3 : Int32) (x4 : Int32) (x5 : Int32) (σ : Sg) (Q : Int32 → Sg → Prop) : Prop :=
  (∀ x6_1, x6_1 = ((x3 * 10) + x5) → ((x5 ≤ 0 → (vp_in 0 2 ∧ wX2_workOut_b35 u T a x4 x5 x6_1 (σ 7 0) σ Q)) ∧ (¬ x5 ≤ 0 → (vp_in (x6_1 - 1) 1210 ∧ wX2_workOut_b35 u T a x4 x5 x6_1 (σ (u + 1) (x6_1 - 1).toNatClampNeg) σ Q))))
set_option maxHeartbeats 4000000 in
set_option maxRecDepth 100000 in
theorem mX2_workOut_b72 {D : va_G} {cy : Nat → ClassId} {ad z : Nat → Nat} (l : Launch) {u : Nat} (hu : isCou u) {T : Nat} (hT : isSten T) {a : Nat} (ha : isStr a) {p : Program} {e : Env} {s : State} {m : MethodId} {args : Array Value} {below : List Frame} {meth : Method} {c : Code} {A : Nat → Prop} {Q : Int32 → Sg → Prop} (X : Fx D (tyB cy) (EvB z) p s m args meth c cX2_workOut 9 "BackBay$Course" A) (hr : meth.sig.returnType = some .int) (x4 : Int32) (x5 : Int32) (x6 : Int32) (x7 : Int32) (y0 : Int32) {σ : Sg} {H : Heap} {locs : List Loc} {ls : Array Slot} (S : St D ad 75 (shB cy ad) A s σ H locs) (hl : lv_has ls 9 [(0, .ref (ad u)), (1, .ref (ad T)), (2, .ref (ad a)), (4, .int x4), (5, .int x5), (6, .int x6), (7, .int x7)]) (h : wX2_workOut_b72 u T a x4 x5 x6 x7 y0 σ Q) : W p l e ({ frames := 3, cells := 0, slots := 0, locals := 76 }) s m args below meth c H locs 0 0 (MQ below (va_Qi Q (PosW D (tyB cy) ad 75 (shB cy ad) A) A) args s 0 0 A) (F0 m 72 ls [.int y0]) := by
  have hx := X.1
  have hb := X.2.1
  unfold wX2_workOut_b72 at h
  refine lv_istore (lv' := [(8, .int y0), (0, .ref (ad u)), (1, .ref (ad T)), (2, .ref (ad a)), (4, .int x4), (5, .int x5), (6, .int x6), (7, .int x7)]) hx hb dX2_workOut_72 hl (by decide) rfl (fun ls hl => ?_)
  refine lv_aload_n hx hb dX2_workOut_74 rfl (lv_at hl 1 rfl) ?_
  refine o_get X S u 0 (isCou_lt hu 0 (by decide)) ((shC0 hu) _) rfl in_2 (by decide) k_207 rfl dX2_workOut_75 ?_
  refine lv_aload_n hx hb dX2_workOut_78 rfl (lv_at hl 2 rfl) ?_
  refine lv_iload hx hb dX2_workOut_79 (lv_at hl 4 rfl) ?_
  refine lv_iload hx hb dX2_workOut_81 (lv_at hl 7 rfl) ?_
  refine lv_aload_n hx hb dX2_workOut_83 rfl (lv_at hl 1 rfl) ?_
  refine o_get X S u 2 (isCou_lt hu 0 (by decide)) ((shC0 hu) _) rfl in_2 (by decide) k_210 rfl dX2_workOut_84 ?_
  refine lv_iload hx hb dX2_workOut_87 (lv_at hl 6 rfl) ?_
  refine o_iald X S (u + 1) 0 (isCou_lt hu 1 (by decide)) (shC1 hu) rfl h.1 dX2_workOut_89 ?_
  replace h := h.2
  refine lv_iload hx hb dX2_workOut_90 (lv_at hl 0 rfl) ?_
  refine lv_aload_n hx hb dX2_workOut_92 rfl (lv_at hl 3 rfl) ?_
  refine lv_iload hx hb dX2_workOut_93 (lv_at hl 5 rfl) ?_
  refine o_iald X S a 0 (isStr_lt ha) (shT ha) rfl h.1 dX2_workOut_95 ?_
  replace h := h.2
  refine o_callVi (k := 6) (EvB_ok z) X S (mX3_workOut l hT x4 x7 (σ (u + 1) x6.toNatClampNeg) y0 (σ a x5.toNatClampNeg) σ _ h) (by decide) rfl rfl k_588 k_585 k_586 k_587 k_7 ⟨rfl, by decide, by decide, by decide +kernel⟩ ⟨rfl, rfl⟩ ⟨Nat.le_of_ble_eq_true rfl, Nat.le_of_ble_eq_true rfl⟩ rfl hl.1 rfl (Nat.le_of_ble_eq_true rfl) dX2_workOut_96 (fun r_4 σ_5 H locs h S => ?_)
  exact o_iret X S hr h dX2_workOut_99
set_option maxHeartbeats 4000000 in
set_option maxRecDepth 100000 in
theorem mX2_workOut_b35 {D : va_G} {cy : Nat → ClassId} {ad z : Nat → Nat} (l : Launch) {u : Nat} (hu : isCou u) {T : Nat} (hT : isSten T) {a : Nat} (ha : isStr a) {p : Program} {e : Env} {s : State} {m : MethodId} {args : Array Value} {below : List Frame} {meth : Method} {c : Code} {A : Nat → Prop} {Q : Int32 → Sg → Prop} (X : Fx D (tyB cy) (EvB z) p s m args meth c cX2_workOut 9 "BackBay$Course" A) (hr : meth.sig.returnType = some .int) (x4 : Int32) (x5 : Int32) (x6 : Int32) (y0 : Int32) {σ : Sg} {H : Heap} {locs : List Loc} {ls : Array Slot} (S : St D ad 75 (shB cy ad) A s σ H locs) (hl : lv_has ls 9 [(0, .ref (ad u)), (1, .ref (ad T)), (2, .ref (ad a)), (4, .int x4), (5, .int x5), (6, .int x6)]) (h : wX2_workOut_b35 u T a x4 x5 x6 y0 σ Q) : W p l e ({ frames := 3, cells := 0, slots := 0, locals := 76 }) s m args below meth c H locs 0 0 (MQ below (va_Qi Q (PosW D (tyB cy) ad 75 (shB cy ad) A) A) args s 0 0 A) (F0 m 35 ls [.int y0]) := by
  have hx := X.1
  have hb := X.2.1
  unfold wX2_workOut_b35 at h
  refine lv_istore (lv' := [(7, .int y0), (0, .ref (ad u)), (1, .ref (ad T)), (2, .ref (ad a)), (4, .int x4), (5, .int x5), (6, .int x6)]) hx hb dX2_workOut_35 hl (by decide) rfl (fun ls hl => ?_)
  refine lv_iload hx hb dX2_workOut_37 (lv_at hl 5 rfl) ?_
  refine lv_aload_n hx hb dX2_workOut_39 rfl (lv_at hl 1 rfl) ?_
  refine o_get X S u 1 (isCou_lt hu 0 (by decide)) ((shC0 hu) _) rfl in_2 (by decide) k_209 rfl dX2_workOut_40 ?_
  refine o_get X S 4 0 (by decide) rfl rfl in_1 (by decide) k_128 rfl dX2_workOut_43 ?_
  refine lv_iconst (v := 1) hx hb dX2_workOut_46 (by decide) ?_
  refine lv_isub hx hb dX2_workOut_47 ?_
  refine lv_icmp_ge (tgt := 63) hx hb dX2_workOut_48 (by decide) (fun q_3 => ?_) (fun q_3 => ?_)
  · replace h := h.1 q_3
    refine lv_aload_n hx hb dX2_workOut_63 rfl (lv_at hl 1 rfl) ?_
    refine o_get X S u 1 (isCou_lt hu 0 (by decide)) ((shC0 hu) _) rfl in_2 (by decide) k_209 rfl dX2_workOut_64 ?_
    refine o_get X S 4 3 (by decide) rfl rfl in_1 (by decide) k_139 rfl dX2_workOut_67 ?_
    refine lv_iconst (v := 1) hx hb dX2_workOut_70 (by decide) ?_
    refine o_iald X S 7 0 (by decide) (fun _ => rfl) rfl h.1 dX2_workOut_71 ?_
    replace h := h.2
    exact mX2_workOut_b72 l hu hT ha X hr x4 x5 x6 y0 (σ 7 1) S (lv_sub hl [1, 2, 3, 4, 5, 6, 0] rfl) h
  · replace h := h.2 q_3
    refine lv_aload_n hx hb dX2_workOut_51 rfl (lv_at hl 1 rfl) ?_
    refine o_get X S u 2 (isCou_lt hu 0 (by decide)) ((shC0 hu) _) rfl in_2 (by decide) k_210 rfl dX2_workOut_52 ?_
    refine lv_iload hx hb dX2_workOut_55 (lv_at hl 6 rfl) ?_
    refine lv_iconst (v := 1) hx hb dX2_workOut_57 (by decide) ?_
    refine lv_iadd hx hb dX2_workOut_58 ?_
    refine o_iald X S (u + 1) 0 (isCou_lt hu 1 (by decide)) (shC1 hu) rfl h.1 dX2_workOut_59 ?_
    replace h := h.2
    refine lv_goto (tgt := 72) hx hb dX2_workOut_60 (by decide) ?_
    exact mX2_workOut_b72 l hu hT ha X hr x4 x5 x6 y0 (σ (u + 1) (x6 + 1).toNatClampNeg) S (lv_sub hl [1, 2, 3, 4, 5, 6, 0] rfl) h
set_option maxHeartbeats 4000000 in
set_option maxRecDepth 100000 in
theorem mX2_workOut {D : va_G} {cy : Nat → ClassId} {ad z : Nat → Nat} (l : Launch) {u : Nat} (hu : isCou u) {T : Nat} (hT : isSten T) {a : Nat} (ha : isStr a) (x3 : Int32) (x4 : Int32) (x5 : Int32) (σ : Sg) (Q : Int32 → Sg → Prop) (h : wX2_workOut u T a x3 x4 x5 σ Q) : MIB D cy ad z l yX2_workOut (.code yX2_workOut cX2_workOut 9 (some .int) :: gT) ({ frames := 3, cells := 0, slots := 0, locals := 76 }) [.ref (ad u), .ref (ad T), .ref (ad a), .int x3, .int x4, .int x5] σ Q := by
  refine metI_of (by decide +kernel) (Nat.le_of_ble_eq_true rfl) ?_
  intro p e s m args below meth c A ls X hr hl S
  have X : Fx D (tyB cy) (EvB z) p s m args meth c cX2_workOut 9 "BackBay$Course" A := X
  have hl : lv_has ls 9 [(0, .ref (ad u)), (1, .ref (ad T)), (2, .ref (ad a)), (3, .int x3), (4, .int x4), (5, .int x5)] := hl
  have hx := X.1
  have hb := X.2.1
  unfold wX2_workOut at h
  refine lv_iload_n hx hb dX2_workOut_0 rfl (lv_at hl 3 rfl) ?_
  refine lv_bipush (v := 10) hx hb dX2_workOut_1 (by decide) ?_
  refine lv_imul hx hb dX2_workOut_3 ?_
  refine lv_iload hx hb dX2_workOut_4 (lv_at hl 5 rfl) ?_
  refine lv_iadd hx hb dX2_workOut_6 ?_
  refine lv_topi (fun x6_1 ex6_1 => ?_)
  replace h := h x6_1 ex6_1
  refine lv_istore (lv' := [(6, .int x6_1), (0, .ref (ad u)), (1, .ref (ad T)), (2, .ref (ad a)), (3, .int x3), (4, .int x4), (5, .int x5)]) hx hb dX2_workOut_7 hl (by decide) rfl (fun ls hl => ?_)
  refine lv_iload hx hb dX2_workOut_9 (lv_at hl 6 rfl) ?_
  refine lv_if_le (tgt := 26) hx hb dX2_workOut_11 (by decide) (fun q_2 => ?_) (fun q_2 => ?_)
  · replace h := h.1 q_2
    refine lv_aload_n hx hb dX2_workOut_26 rfl (lv_at hl 1 rfl) ?_
    refine o_get X S u 1 (isCou_lt hu 0 (by decide)) ((shC0 hu) _) rfl in_2 (by decide) k_209 rfl dX2_workOut_27 ?_
    refine o_get X S 4 3 (by decide) rfl rfl in_1 (by decide) k_139 rfl dX2_workOut_30 ?_
    refine lv_iconst (v := 0) hx hb dX2_workOut_33 (by decide) ?_
    refine o_iald X S 7 0 (by decide) (fun _ => rfl) rfl h.1 dX2_workOut_34 ?_
    replace h := h.2
    exact mX2_workOut_b35 l hu hT ha X hr x4 x5 x6_1 (σ 7 0) S (lv_sub hl [1, 2, 3, 5, 6, 0] rfl) h
  · replace h := h.2 q_2
    refine lv_aload_n hx hb dX2_workOut_14 rfl (lv_at hl 1 rfl) ?_
    refine o_get X S u 2 (isCou_lt hu 0 (by decide)) ((shC0 hu) _) rfl in_2 (by decide) k_210 rfl dX2_workOut_15 ?_
    refine lv_iload hx hb dX2_workOut_18 (lv_at hl 0 rfl) ?_
    refine lv_iconst (v := 1) hx hb dX2_workOut_20 (by decide) ?_
    refine lv_isub hx hb dX2_workOut_21 ?_
    refine o_iald X S (u + 1) 0 (isCou_lt hu 1 (by decide)) (shC1 hu) rfl h.1 dX2_workOut_22 ?_
    replace h := h.2
    refine lv_goto (tgt := 35) hx hb dX2_workOut_23 (by decide) ?_
    exact mX2_workOut_b35 l hu hT ha X hr x4 x5 x6_1 (σ (u + 1) (x6_1 - 1).toNatClampNeg) S (lv_sub hl [1, 2, 3, 5, 6, 0] rfl) h
def wX2_run_L58 (u : Nat) (T : Nat) (a : Nat) (x3 : Int32) (x4 : Int32) (x5 : Int32) (x6 : Int32) (k103 : Sg → Prop) (Q : Sg → Prop) : Nat → Int32 → Sg → Prop
  | 0, _, _ => False
  | nn58 + 1, x7, σ =>
  (((σ 4 0) ≤ x7 → k103 σ) ∧ (¬ (σ 4 0) ≤ x7 → (wX2_workOut u T a x4 x6 x7 σ (fun r_6 σ_7 => (vp_in (((x4 + 1) * 10) + x7) 1210 ∧ ∀ σ_8, σ_8 = sto σ_7 (u + 1) (((x4 + 1) * 10) + x7).toNatClampNeg r_6 → (∀ x7_9 : Int32, x7_9 = x7 + 1 → wX2_run_L58 u T a x3 x4 x5 x6 k103 Q nn58 x7_9 σ_8))))))
def wX2_run_L46 (u : Nat) (T : Nat) (a : Nat) (x3 : Int32) (x5 : Int32) (k112 : Int32 → Sg → Prop) (Q : Sg → Prop) : Nat → Int32 → Int32 → Sg → Prop
  | 0, _, _, _ => False
  | nn46 + 1, x4, x6, σ =>
  (((σ T 0) ≤ x6 → k112 x4 σ) ∧ (¬ (σ T 0) ≤ x6 → (∃ nf, wX2_run_L58 u T a x3 x4 x5 x6 (fun σ_10 => (∀ x4_11 : Int32, x4_11 = x4 + 1 → (∀ x6_12 : Int32, x6_12 = x6 + 1 → wX2_run_L46 u T a x3 x5 k112 Q nn46 x4_11 x6_12 σ_10))) Q nf 0 σ)))
def wX2_run_L37 (u : Nat) (T : Nat) (a : Nat) (x3 : Int32) (k118 : Sg → Prop) (Q : Sg → Prop) : Nat → Int32 → Int32 → Sg → Prop
  | 0, _, _, _ => False
  | nn37 + 1, x4, x5, σ =>
  ((x3 ≤ x5 → k118 σ) ∧ (¬ x3 ≤ x5 → (∃ nf, wX2_run_L46 u T a x3 x5 (fun x4_13 σ_14 => (∀ x5_15 : Int32, x5_15 = x5 + 1 → wX2_run_L37 u T a x3 k118 Q nn37 x4_13 x5_15 σ_14)) Q nf x4 0 σ)))
def wX2_run (u : Nat) (T : Nat) (a : Nat) (x3 : Int32) (σ : Sg) (Q : Sg → Prop) : Prop :=
  (∀ σ_1, σ_1 = sto σ u 3 (σ T 0) → (cpok 0 0 (σ_1 4 0) 10 1210 ∧ ∀ σ_2, σ_2 = cpy σ_1 5 (u + 1) 0 0 (σ_1 4 0).toNatClampNeg → (∃ nf, wX2_run_L37 u T a x3 (fun σ_16 => Q σ_16) Q nf 0 0 σ_2)))
set_option maxHeartbeats 4000000 in
set_option maxRecDepth 100000 in
theorem mX2_run_L58 {D : va_G} {cy : Nat → ClassId} {ad z : Nat → Nat} (l : Launch) {u : Nat} (hu : isCou u) {T : Nat} (hT : isSten T) {a : Nat} (ha : isStr a) {p : Program} {e : Env} {s : State} {m : MethodId} {args : Array Value} {below : List Frame} {meth : Method} {c : Code} {A : Nat → Prop} {k103 : Sg → Prop} {Q : Sg → Prop} (X : Fx D (tyB cy) (EvB z) p s m args meth c cX2_run 8 "BackBay$Course" A) (hr : meth.sig.returnType = none) (x3 : Int32) (x4 : Int32) (x5 : Int32) (x6 : Int32) (hk103 : ∀ (σ : Sg) (H : Heap) (locs : List Loc) (ls : Array Slot), St D ad 75 (shB cy ad) A s σ H locs → lv_has ls 8 [(0, .ref (ad u)), (1, .ref (ad T)), (2, .ref (ad a)), (3, .int x3), (4, .int x4), (5, .int x5), (6, .int x6)] → k103 σ → W p l e ({ frames := 4, cells := 0, slots := 0, locals := 104 }) s m args below meth c H locs 0 0 (MQ below (va_Qv Q (PosW D (tyB cy) ad 75 (shB cy ad) A) A) args s 0 0 A) (F0 m 103 ls [])) : ∀ (n : Nat) (x7 : Int32) (σ : Sg) (H : Heap) (locs : List Loc) (ls : Array Slot), St D ad 75 (shB cy ad) A s σ H locs → lv_has ls 8 [(0, .ref (ad u)), (1, .ref (ad T)), (2, .ref (ad a)), (3, .int x3), (4, .int x4), (5, .int x5), (6, .int x6), (7, .int x7)] → wX2_run_L58 u T a x3 x4 x5 x6 k103 Q n x7 σ → W p l e ({ frames := 4, cells := 0, slots := 0, locals := 104 }) s m args below meth c H locs 0 0 (MQ below (va_Qv Q (PosW D (tyB cy) ad 75 (shB cy ad) A) A) args s 0 0 A) (F0 m 58 ls []) := by
  have hx := X.1
  have hb := X.2.1
  intro n
  induction n with
  | zero =>
    intro _ _ _ _ _ _ _ h
    exact absurd h (by unfold wX2_run_L58; exact id)
  | succ n ih =>
    intro x7 σ H locs ls S hl h
    unfold wX2_run_L58 at h
    refine lv_iload hx hb dX2_run_58 (lv_at hl 7 rfl) ?_
    refine lv_aload_n hx hb dX2_run_60 rfl (lv_at hl 0 rfl) ?_
    refine o_get X S u 1 (isCou_lt hu 0 (by decide)) ((shC0 hu) _) rfl in_2 (by decide) k_209 rfl dX2_run_61 ?_
    refine o_get X S 4 0 (by decide) rfl rfl in_1 (by decide) k_128 rfl dX2_run_64 ?_
    refine lv_icmp_ge (tgt := 103) hx hb dX2_run_67 (by decide) (fun q_5 => ?_) (fun q_5 => ?_)
    · replace h := h.1 q_5
      exact hk103 _ _ _ _ S (lv_sub hl [0, 1, 2, 3, 4, 5, 6] rfl) h
    · replace h := h.2 q_5
      refine lv_aload_n hx hb dX2_run_70 rfl (lv_at hl 0 rfl) ?_
      refine o_get X S u 2 (isCou_lt hu 0 (by decide)) ((shC0 hu) _) rfl in_2 (by decide) k_210 rfl dX2_run_71 ?_
      refine lv_iload hx hb dX2_run_74 (lv_at hl 4 rfl) ?_
      refine lv_iconst (v := 1) hx hb dX2_run_76 (by decide) ?_
      refine lv_iadd hx hb dX2_run_77 ?_
      refine lv_bipush (v := 10) hx hb dX2_run_78 (by decide) ?_
      refine lv_imul hx hb dX2_run_80 ?_
      refine lv_iload hx hb dX2_run_81 (lv_at hl 7 rfl) ?_
      refine lv_iadd hx hb dX2_run_83 ?_
      refine lv_aload_n hx hb dX2_run_84 rfl (lv_at hl 0 rfl) ?_
      refine lv_aload_n hx hb dX2_run_85 rfl (lv_at hl 1 rfl) ?_
      refine lv_aload_n hx hb dX2_run_86 rfl (lv_at hl 2 rfl) ?_
      refine lv_iload hx hb dX2_run_87 (lv_at hl 4 rfl) ?_
      refine lv_iload hx hb dX2_run_89 (lv_at hl 6 rfl) ?_
      refine lv_iload hx hb dX2_run_91 (lv_at hl 7 rfl) ?_
      refine o_callVi (k := 5) (EvB_ok z) X S (mX2_workOut l hu hT ha x4 x6 x7 σ _ h) (isCou_lt hu 0 (by decide)) ((shC0 hu) _) rfl k_584 k_581 k_582 k_583 k_8 ⟨rfl, by decide, by decide, by decide +kernel⟩ ⟨rfl, rfl⟩ ⟨Nat.le_of_ble_eq_true rfl, Nat.le_of_ble_eq_true rfl⟩ rfl hl.1 rfl (Nat.le_of_ble_eq_true rfl) dX2_run_93 (fun r_6 σ_7 H locs h S => ?_)
      refine o_iast X S (u + 1) 0 (isCou_lt hu 1 (by decide)) (shC1 hu) rfl h.1 dX2_run_96 (fun σ_8 H locs eσ_8 S => ?_)
      replace h := h.2 σ_8 eσ_8
      obtain ⟨x7_9, ex7_9⟩ : ∃ y : Int32, y = x7 + 1 := ⟨_, rfl⟩
      replace h := h x7_9 ex7_9
      refine lv_iinc (v := x7_9) (lv' := [(7, .int x7_9), (0, .ref (ad u)), (1, .ref (ad T)), (2, .ref (ad a)), (3, .int x3), (4, .int x4), (5, .int x5), (6, .int x6)]) hx hb dX2_run_97 hl (k := 7) rfl (by rw [ex7_9]; rfl) (by decide) rfl (fun ls hl => ?_)
      refine lv_goto (tgt := 58) hx hb dX2_run_100 (by decide) ?_
      exact ih _ _ _ _ _ S (lv_sub hl [1, 2, 3, 4, 5, 6, 7, 0] rfl) h
set_option maxHeartbeats 4000000 in
set_option maxRecDepth 100000 in
theorem mX2_run_L46 {D : va_G} {cy : Nat → ClassId} {ad z : Nat → Nat} (l : Launch) {u : Nat} (hu : isCou u) {T : Nat} (hT : isSten T) {a : Nat} (ha : isStr a) {p : Program} {e : Env} {s : State} {m : MethodId} {args : Array Value} {below : List Frame} {meth : Method} {c : Code} {A : Nat → Prop} {k112 : Int32 → Sg → Prop} {Q : Sg → Prop} (X : Fx D (tyB cy) (EvB z) p s m args meth c cX2_run 8 "BackBay$Course" A) (hr : meth.sig.returnType = none) (x3 : Int32) (x5 : Int32) (hk112 : ∀ (x4 : Int32) (σ : Sg) (H : Heap) (locs : List Loc) (ls : Array Slot), St D ad 75 (shB cy ad) A s σ H locs → lv_has ls 8 [(0, .ref (ad u)), (1, .ref (ad T)), (2, .ref (ad a)), (3, .int x3), (4, .int x4), (5, .int x5)] → k112 x4 σ → W p l e ({ frames := 4, cells := 0, slots := 0, locals := 104 }) s m args below meth c H locs 0 0 (MQ below (va_Qv Q (PosW D (tyB cy) ad 75 (shB cy ad) A) A) args s 0 0 A) (F0 m 112 ls [])) : ∀ (n : Nat) (x4 : Int32) (x6 : Int32) (σ : Sg) (H : Heap) (locs : List Loc) (ls : Array Slot), St D ad 75 (shB cy ad) A s σ H locs → lv_has ls 8 [(0, .ref (ad u)), (1, .ref (ad T)), (2, .ref (ad a)), (3, .int x3), (4, .int x4), (5, .int x5), (6, .int x6)] → wX2_run_L46 u T a x3 x5 k112 Q n x4 x6 σ → W p l e ({ frames := 4, cells := 0, slots := 0, locals := 104 }) s m args below meth c H locs 0 0 (MQ below (va_Qv Q (PosW D (tyB cy) ad 75 (shB cy ad) A) A) args s 0 0 A) (F0 m 46 ls []) := by
  have hx := X.1
  have hb := X.2.1
  intro n
  induction n with
  | zero =>
    intro _ _ _ _ _ _ _ _ h
    exact absurd h (by unfold wX2_run_L46; exact id)
  | succ n ih =>
    intro x4 x6 σ H locs ls S hl h
    unfold wX2_run_L46 at h
    refine lv_iload hx hb dX2_run_46 (lv_at hl 6 rfl) ?_
    refine lv_aload_n hx hb dX2_run_48 rfl (lv_at hl 1 rfl) ?_
    refine o_get X S T 0 (isSten_lt hT 0 (by decide)) ((shS0 hT) _) rfl in_8 (by decide) k_73 rfl dX2_run_49 ?_
    refine lv_icmp_ge (tgt := 112) hx hb dX2_run_52 (by decide) (fun q_4 => ?_) (fun q_4 => ?_)
    · replace h := h.1 q_4
      exact hk112 _ _ _ _ _ S (lv_sub hl [0, 1, 2, 3, 4, 5] rfl) h
    · replace h := h.2 q_4
      refine lv_iconst (v := 0) hx hb dX2_run_55 (by decide) ?_
      refine lv_istore (lv' := [(7, .int 0), (0, .ref (ad u)), (1, .ref (ad T)), (2, .ref (ad a)), (3, .int x3), (4, .int x4), (5, .int x5), (6, .int x6)]) hx hb dX2_run_56 hl (by decide) rfl (fun ls hl => ?_)
      obtain ⟨n_58, h⟩ := h
      refine mX2_run_L58 l hu hT ha X hr x3 x4 x5 x6 ?_ n_58 _ _ _ _ _ S (lv_sub hl [1, 2, 3, 4, 5, 6, 7, 0] rfl) h
      · intro σ_10 H locs ls S hl h
        obtain ⟨x4_11, ex4_11⟩ : ∃ y : Int32, y = x4 + 1 := ⟨_, rfl⟩
        replace h := h x4_11 ex4_11
        refine lv_iinc (v := x4_11) (lv' := [(4, .int x4_11), (0, .ref (ad u)), (1, .ref (ad T)), (2, .ref (ad a)), (3, .int x3), (5, .int x5), (6, .int x6)]) hx hb dX2_run_103 hl (k := 4) rfl (by rw [ex4_11]; rfl) (by decide) rfl (fun ls hl => ?_)
        obtain ⟨x6_12, ex6_12⟩ : ∃ y : Int32, y = x6 + 1 := ⟨_, rfl⟩
        replace h := h x6_12 ex6_12
        refine lv_iinc (v := x6_12) (lv' := [(6, .int x6_12), (4, .int x4_11), (0, .ref (ad u)), (1, .ref (ad T)), (2, .ref (ad a)), (3, .int x3), (5, .int x5)]) hx hb dX2_run_106 hl (k := 6) rfl (by rw [ex6_12]; rfl) (by decide) rfl (fun ls hl => ?_)
        refine lv_goto (tgt := 46) hx hb dX2_run_109 (by decide) ?_
        exact ih _ _ _ _ _ _ S (lv_sub hl [2, 3, 4, 5, 1, 6, 0] rfl) h
set_option maxHeartbeats 4000000 in
set_option maxRecDepth 100000 in
theorem mX2_run_L37 {D : va_G} {cy : Nat → ClassId} {ad z : Nat → Nat} (l : Launch) {u : Nat} (hu : isCou u) {T : Nat} (hT : isSten T) {a : Nat} (ha : isStr a) {p : Program} {e : Env} {s : State} {m : MethodId} {args : Array Value} {below : List Frame} {meth : Method} {c : Code} {A : Nat → Prop} {k118 : Sg → Prop} {Q : Sg → Prop} (X : Fx D (tyB cy) (EvB z) p s m args meth c cX2_run 8 "BackBay$Course" A) (hr : meth.sig.returnType = none) (x3 : Int32) (hk118 : ∀ (σ : Sg) (H : Heap) (locs : List Loc) (ls : Array Slot), St D ad 75 (shB cy ad) A s σ H locs → lv_has ls 8 [] → k118 σ → W p l e ({ frames := 4, cells := 0, slots := 0, locals := 104 }) s m args below meth c H locs 0 0 (MQ below (va_Qv Q (PosW D (tyB cy) ad 75 (shB cy ad) A) A) args s 0 0 A) (F0 m 118 ls [])) : ∀ (n : Nat) (x4 : Int32) (x5 : Int32) (σ : Sg) (H : Heap) (locs : List Loc) (ls : Array Slot), St D ad 75 (shB cy ad) A s σ H locs → lv_has ls 8 [(0, .ref (ad u)), (1, .ref (ad T)), (2, .ref (ad a)), (3, .int x3), (4, .int x4), (5, .int x5)] → wX2_run_L37 u T a x3 k118 Q n x4 x5 σ → W p l e ({ frames := 4, cells := 0, slots := 0, locals := 104 }) s m args below meth c H locs 0 0 (MQ below (va_Qv Q (PosW D (tyB cy) ad 75 (shB cy ad) A) A) args s 0 0 A) (F0 m 37 ls []) := by
  have hx := X.1
  have hb := X.2.1
  intro n
  induction n with
  | zero =>
    intro _ _ _ _ _ _ _ _ h
    exact absurd h (by unfold wX2_run_L37; exact id)
  | succ n ih =>
    intro x4 x5 σ H locs ls S hl h
    unfold wX2_run_L37 at h
    refine lv_iload hx hb dX2_run_37 (lv_at hl 5 rfl) ?_
    refine lv_iload_n hx hb dX2_run_39 rfl (lv_at hl 3 rfl) ?_
    refine lv_icmp_ge (tgt := 118) hx hb dX2_run_40 (by decide) (fun q_3 => ?_) (fun q_3 => ?_)
    · replace h := h.1 q_3
      exact hk118 _ _ _ _ S (lv_sub hl [] rfl) h
    · replace h := h.2 q_3
      refine lv_iconst (v := 0) hx hb dX2_run_43 (by decide) ?_
      refine lv_istore (lv' := [(6, .int 0), (0, .ref (ad u)), (1, .ref (ad T)), (2, .ref (ad a)), (3, .int x3), (4, .int x4), (5, .int x5)]) hx hb dX2_run_44 hl (by decide) rfl (fun ls hl => ?_)
      obtain ⟨n_46, h⟩ := h
      refine mX2_run_L46 l hu hT ha X hr x3 x5 ?_ n_46 _ _ _ _ _ _ S (lv_sub hl [1, 2, 3, 4, 5, 6, 0] rfl) h
      · intro x4_13 σ_14 H locs ls S hl h
        obtain ⟨x5_15, ex5_15⟩ : ∃ y : Int32, y = x5 + 1 := ⟨_, rfl⟩
        replace h := h x5_15 ex5_15
        refine lv_iinc (v := x5_15) (lv' := [(5, .int x5_15), (0, .ref (ad u)), (1, .ref (ad T)), (2, .ref (ad a)), (3, .int x3), (4, .int x4_13)]) hx hb dX2_run_112 hl (k := 5) rfl (by rw [ex5_15]; rfl) (by decide) rfl (fun ls hl => ?_)
        refine lv_goto (tgt := 37) hx hb dX2_run_115 (by decide) ?_
        exact ih _ _ _ _ _ _ S (lv_sub hl [1, 2, 3, 4, 5, 0] rfl) h
set_option maxHeartbeats 4000000 in
set_option maxRecDepth 100000 in
theorem mX2_run {D : va_G} {cy : Nat → ClassId} {ad z : Nat → Nat} (l : Launch) {u : Nat} (hu : isCou u) {T : Nat} (hT : isSten T) {a : Nat} (ha : isStr a) (x3 : Int32) (σ : Sg) (Q : Sg → Prop) (h : wX2_run u T a x3 σ Q) : MVB D cy ad z l yX2_run (.code yX2_run cX2_run 8 none :: gT) ({ frames := 4, cells := 0, slots := 0, locals := 104 }) [.ref (ad u), .ref (ad T), .ref (ad a), .int x3] σ Q := by
  refine metV_of (by decide +kernel) (Nat.le_of_ble_eq_true rfl) ?_
  intro p e s m args below meth c A ls X hr hl S
  have X : Fx D (tyB cy) (EvB z) p s m args meth c cX2_run 8 "BackBay$Course" A := X
  have hl : lv_has ls 8 [(0, .ref (ad u)), (1, .ref (ad T)), (2, .ref (ad a)), (3, .int x3)] := hl
  have hx := X.1
  have hb := X.2.1
  unfold wX2_run at h
  refine lv_aload_n hx hb dX2_run_0 rfl (lv_at hl 0 rfl) ?_
  refine lv_aload_n hx hb dX2_run_1 rfl (lv_at hl 1 rfl) ?_
  refine o_get X S T 0 (isSten_lt hT 0 (by decide)) ((shS0 hT) _) rfl in_8 (by decide) k_73 rfl dX2_run_2 ?_
  refine o_puti X S (fs := fun c => [.ref (ad 14), .ref (ad 4), .ref (ad (u + 1)), .int (c 3)]) u 3 (isCou_lt hu 0 (by decide)) (shC0 hu) (fun _ _ => rfl) rfl in_2 tyX2_ok nmX2 (by decide) k_211 rfl rfl rfl rfl (fun _ => Nat.le_of_ble_eq_true rfl) dX2_run_5 (fun σ_1 H locs eσ_1 S => ?_)
  replace h := h σ_1 eσ_1
  refine lv_aload_n hx hb dX2_run_8 rfl (lv_at hl 0 rfl) ?_
  refine o_get X S u 1 (isCou_lt hu 0 (by decide)) ((shC0 hu) _) rfl in_2 (by decide) k_209 rfl dX2_run_9 ?_
  refine o_get X S 4 1 (by decide) rfl rfl in_1 (by decide) k_132 rfl dX2_run_12 ?_
  refine lv_iconst (v := 0) hx hb dX2_run_15 (by decide) ?_
  refine lv_aload_n hx hb dX2_run_16 rfl (lv_at hl 0 rfl) ?_
  refine o_get X S u 2 (isCou_lt hu 0 (by decide)) ((shC0 hu) _) rfl in_2 (by decide) k_210 rfl dX2_run_17 ?_
  refine lv_iconst (v := 0) hx hb dX2_run_20 (by decide) ?_
  refine lv_aload_n hx hb dX2_run_21 rfl (lv_at hl 0 rfl) ?_
  refine o_get X S u 1 (isCou_lt hu 0 (by decide)) ((shC0 hu) _) rfl in_2 (by decide) k_209 rfl dX2_run_22 ?_
  refine o_get X S 4 0 (by decide) rfl rfl in_1 (by decide) k_128 rfl dX2_run_25 ?_
  refine o_copyi X S hl.1 (X.2.2.2.2.1 _ k_580) (X.2.2.2.2.1 _ k_405) (X.2.2.2.2.1 _ k_404) (X.2.2.2.2.1 _ k_15) 5 (u + 1) 0 0 (by decide) (isCou_lt hu 1 (by decide)) (fun _ => rfl) (shC1 hu) rfl rfl h.1 (Nat.le_of_ble_eq_true rfl) (Nat.le_of_ble_eq_true rfl) dX2_run_28 (fun σ_2 H locs eσ_2 S => ?_)
  replace h := h.2 σ_2 eσ_2
  refine lv_iconst (v := 0) hx hb dX2_run_31 (by decide) ?_
  refine lv_istore (lv' := [(4, .int 0), (0, .ref (ad u)), (1, .ref (ad T)), (2, .ref (ad a)), (3, .int x3)]) hx hb dX2_run_32 hl (by decide) rfl (fun ls hl => ?_)
  refine lv_iconst (v := 0) hx hb dX2_run_34 (by decide) ?_
  refine lv_istore (lv' := [(5, .int 0), (4, .int 0), (0, .ref (ad u)), (1, .ref (ad T)), (2, .ref (ad a)), (3, .int x3)]) hx hb dX2_run_35 hl (by decide) rfl (fun ls hl => ?_)
  obtain ⟨n_37, h⟩ := h
  refine mX2_run_L37 l hu hT ha X hr x3 ?_ n_37 _ _ _ _ _ _ S (lv_sub hl [2, 3, 4, 5, 1, 0] rfl) h
  · intro σ_16 H locs ls S hl h
    exact o_vret X S hr h dX2_run_118
def wX2_knots_L30 (u : Nat) (T : Nat) (a : Nat) (x3 : Int32) (x5 : Int32) (x6 : Int32) (x7 : Int32) (k76 : Int32 → Sg → Prop) (Q : Int32 → Sg → Prop) : Nat → Int32 → Int32 → Sg → Prop
  | 0, _, _, _ => False
  | nn30 + 1, x4, x8, σ =>
  (((σ 4 0) ≤ x8 → k76 x4 σ) ∧ (¬ (σ 4 0) ≤ x8 → (wX2_workOut u T a x5 x7 x8 σ (fun r_4 σ_5 => (wX3_knots T x7 σ_5 (fun r_6 σ_7 => (∀ x4_8, x4_8 = (x4 + r_6) → (∀ x8_9 : Int32, x8_9 = x8 + 1 → wX2_knots_L30 u T a x3 x5 x6 x7 k76 Q nn30 x4_8 x8_9 σ_7))))))))
def wX2_knots_L18 (u : Nat) (T : Nat) (a : Nat) (x3 : Int32) (x6 : Int32) (k85 : Int32 → Int32 → Sg → Prop) (Q : Int32 → Sg → Prop) : Nat → Int32 → Int32 → Int32 → Sg → Prop
  | 0, _, _, _, _ => False
  | nn18 + 1, x4, x5, x7, σ =>
  (((σ T 0) ≤ x7 → k85 x4 x5 σ) ∧ (¬ (σ T 0) ≤ x7 → (∃ nf, wX2_knots_L30 u T a x3 x5 x6 x7 (fun x4_10 σ_11 => (∀ x5_12 : Int32, x5_12 = x5 + 1 → (∀ x7_13 : Int32, x7_13 = x7 + 1 → wX2_knots_L18 u T a x3 x6 k85 Q nn18 x4_10 x5_12 x7_13 σ_11))) Q nf x4 0 σ)))
def wX2_knots_L9 (u : Nat) (T : Nat) (a : Nat) (x3 : Int32) (k91 : Int32 → Sg → Prop) (Q : Int32 → Sg → Prop) : Nat → Int32 → Int32 → Int32 → Sg → Prop
  | 0, _, _, _, _ => False
  | nn9 + 1, x4, x5, x6, σ =>
  ((x3 ≤ x6 → k91 x4 σ) ∧ (¬ x3 ≤ x6 → (∃ nf, wX2_knots_L18 u T a x3 x6 (fun x4_14 x5_15 σ_16 => (∀ x6_17 : Int32, x6_17 = x6 + 1 → wX2_knots_L9 u T a x3 k91 Q nn9 x4_14 x5_15 x6_17 σ_16)) Q nf x4 x5 0 σ)))
def wX2_knots (u : Nat) (T : Nat) (a : Nat) (x3 : Int32) (σ : Sg) (Q : Int32 → Sg → Prop) : Prop :=
  (∃ nf, wX2_knots_L9 u T a x3 (fun x4_18 σ_19 => Q x4_18 σ_19) Q nf 0 0 0 σ)
set_option maxHeartbeats 4000000 in
set_option maxRecDepth 100000 in
theorem mX2_knots_L30 {D : va_G} {cy : Nat → ClassId} {ad z : Nat → Nat} (l : Launch) {u : Nat} (hu : isCou u) {T : Nat} (hT : isSten T) {a : Nat} (ha : isStr a) {p : Program} {e : Env} {s : State} {m : MethodId} {args : Array Value} {below : List Frame} {meth : Method} {c : Code} {A : Nat → Prop} {k76 : Int32 → Sg → Prop} {Q : Int32 → Sg → Prop} (X : Fx D (tyB cy) (EvB z) p s m args meth c cX2_knots 9 "BackBay$Course" A) (hr : meth.sig.returnType = some .int) (x3 : Int32) (x5 : Int32) (x6 : Int32) (x7 : Int32) (hk76 : ∀ (x4 : Int32) (σ : Sg) (H : Heap) (locs : List Loc) (ls : Array Slot), St D ad 75 (shB cy ad) A s σ H locs → lv_has ls 9 [(0, .ref (ad u)), (1, .ref (ad T)), (2, .ref (ad a)), (3, .int x3), (4, .int x4), (5, .int x5), (6, .int x6), (7, .int x7)] → k76 x4 σ → W p l e ({ frames := 4, cells := 0, slots := 0, locals := 104 }) s m args below meth c H locs 0 0 (MQ below (va_Qi Q (PosW D (tyB cy) ad 75 (shB cy ad) A) A) args s 0 0 A) (F0 m 76 ls [])) : ∀ (n : Nat) (x4 : Int32) (x8 : Int32) (σ : Sg) (H : Heap) (locs : List Loc) (ls : Array Slot), St D ad 75 (shB cy ad) A s σ H locs → lv_has ls 9 [(0, .ref (ad u)), (1, .ref (ad T)), (2, .ref (ad a)), (3, .int x3), (4, .int x4), (5, .int x5), (6, .int x6), (7, .int x7), (8, .int x8)] → wX2_knots_L30 u T a x3 x5 x6 x7 k76 Q n x4 x8 σ → W p l e ({ frames := 4, cells := 0, slots := 0, locals := 104 }) s m args below meth c H locs 0 0 (MQ below (va_Qi Q (PosW D (tyB cy) ad 75 (shB cy ad) A) A) args s 0 0 A) (F0 m 30 ls []) := by
  have hx := X.1
  have hb := X.2.1
  intro n
  induction n with
  | zero =>
    intro _ _ _ _ _ _ _ _ h
    exact absurd h (by unfold wX2_knots_L30; exact id)
  | succ n ih =>
    intro x4 x8 σ H locs ls S hl h
    unfold wX2_knots_L30 at h
    refine lv_iload hx hb dX2_knots_30 (lv_at hl 8 rfl) ?_
    refine lv_aload_n hx hb dX2_knots_32 rfl (lv_at hl 0 rfl) ?_
    refine o_get X S u 1 (isCou_lt hu 0 (by decide)) ((shC0 hu) _) rfl in_2 (by decide) k_209 rfl dX2_knots_33 ?_
    refine o_get X S 4 0 (by decide) rfl rfl in_1 (by decide) k_128 rfl dX2_knots_36 ?_
    refine lv_icmp_ge (tgt := 76) hx hb dX2_knots_39 (by decide) (fun q_3 => ?_) (fun q_3 => ?_)
    · replace h := h.1 q_3
      exact hk76 _ _ _ _ _ S (lv_sub hl [0, 1, 2, 3, 4, 5, 6, 7] rfl) h
    · replace h := h.2 q_3
      refine lv_aload_n hx hb dX2_knots_42 rfl (lv_at hl 0 rfl) ?_
      refine lv_aload_n hx hb dX2_knots_43 rfl (lv_at hl 1 rfl) ?_
      refine lv_aload_n hx hb dX2_knots_44 rfl (lv_at hl 2 rfl) ?_
      refine lv_iload hx hb dX2_knots_45 (lv_at hl 5 rfl) ?_
      refine lv_iload hx hb dX2_knots_47 (lv_at hl 7 rfl) ?_
      refine lv_iload hx hb dX2_knots_49 (lv_at hl 8 rfl) ?_
      refine o_callVi (k := 5) (EvB_ok z) X S (mX2_workOut l hu hT ha x5 x7 x8 σ _ h) (isCou_lt hu 0 (by decide)) ((shC0 hu) _) rfl k_584 k_581 k_582 k_583 k_8 ⟨rfl, by decide, by decide, by decide +kernel⟩ ⟨rfl, rfl⟩ ⟨Nat.le_of_ble_eq_true rfl, Nat.le_of_ble_eq_true rfl⟩ rfl hl.1 rfl (Nat.le_of_ble_eq_true rfl) dX2_knots_51 (fun r_4 σ_5 H locs h S => ?_)
      refine lv_pop hx hb dX2_knots_54 rfl ?_
      refine lv_iload hx hb dX2_knots_55 (lv_at hl 4 rfl) ?_
      refine lv_aload_n hx hb dX2_knots_57 rfl (lv_at hl 0 rfl) ?_
      refine o_get X S u 0 (isCou_lt hu 0 (by decide)) ((shC0 hu) _) rfl in_2 (by decide) k_207 rfl dX2_knots_58 ?_
      refine lv_aload_n hx hb dX2_knots_61 rfl (lv_at hl 1 rfl) ?_
      refine lv_iload hx hb dX2_knots_62 (lv_at hl 7 rfl) ?_
      refine o_callVi (k := 2) (EvB_ok z) X S (mX3_knots l hT x7 σ_5 _ h) (by decide) rfl rfl k_656 k_653 k_654 k_655 k_7 ⟨rfl, by decide, by decide, by decide +kernel⟩ ⟨rfl, rfl⟩ ⟨Nat.le_of_ble_eq_true rfl, Nat.le_of_ble_eq_true rfl⟩ rfl hl.1 rfl (Nat.le_of_ble_eq_true rfl) dX2_knots_64 (fun r_6 σ_7 H locs h S => ?_)
      refine lv_iadd hx hb dX2_knots_67 ?_
      refine lv_topi (fun x4_8 ex4_8 => ?_)
      replace h := h x4_8 ex4_8
      refine lv_istore (lv' := [(4, .int x4_8), (0, .ref (ad u)), (1, .ref (ad T)), (2, .ref (ad a)), (3, .int x3), (5, .int x5), (6, .int x6), (7, .int x7), (8, .int x8)]) hx hb dX2_knots_68 hl (by decide) rfl (fun ls hl => ?_)
      obtain ⟨x8_9, ex8_9⟩ : ∃ y : Int32, y = x8 + 1 := ⟨_, rfl⟩
      replace h := h x8_9 ex8_9
      refine lv_iinc (v := x8_9) (lv' := [(8, .int x8_9), (4, .int x4_8), (0, .ref (ad u)), (1, .ref (ad T)), (2, .ref (ad a)), (3, .int x3), (5, .int x5), (6, .int x6), (7, .int x7)]) hx hb dX2_knots_70 hl (k := 8) rfl (by rw [ex8_9]; rfl) (by decide) rfl (fun ls hl => ?_)
      refine lv_goto (tgt := 30) hx hb dX2_knots_73 (by decide) ?_
      exact ih _ _ _ _ _ _ S (lv_sub hl [2, 3, 4, 5, 1, 6, 7, 8, 0] rfl) h
set_option maxHeartbeats 4000000 in
set_option maxRecDepth 100000 in
theorem mX2_knots_L18 {D : va_G} {cy : Nat → ClassId} {ad z : Nat → Nat} (l : Launch) {u : Nat} (hu : isCou u) {T : Nat} (hT : isSten T) {a : Nat} (ha : isStr a) {p : Program} {e : Env} {s : State} {m : MethodId} {args : Array Value} {below : List Frame} {meth : Method} {c : Code} {A : Nat → Prop} {k85 : Int32 → Int32 → Sg → Prop} {Q : Int32 → Sg → Prop} (X : Fx D (tyB cy) (EvB z) p s m args meth c cX2_knots 9 "BackBay$Course" A) (hr : meth.sig.returnType = some .int) (x3 : Int32) (x6 : Int32) (hk85 : ∀ (x4 : Int32) (x5 : Int32) (σ : Sg) (H : Heap) (locs : List Loc) (ls : Array Slot), St D ad 75 (shB cy ad) A s σ H locs → lv_has ls 9 [(0, .ref (ad u)), (1, .ref (ad T)), (2, .ref (ad a)), (3, .int x3), (4, .int x4), (5, .int x5), (6, .int x6)] → k85 x4 x5 σ → W p l e ({ frames := 4, cells := 0, slots := 0, locals := 104 }) s m args below meth c H locs 0 0 (MQ below (va_Qi Q (PosW D (tyB cy) ad 75 (shB cy ad) A) A) args s 0 0 A) (F0 m 85 ls [])) : ∀ (n : Nat) (x4 : Int32) (x5 : Int32) (x7 : Int32) (σ : Sg) (H : Heap) (locs : List Loc) (ls : Array Slot), St D ad 75 (shB cy ad) A s σ H locs → lv_has ls 9 [(0, .ref (ad u)), (1, .ref (ad T)), (2, .ref (ad a)), (3, .int x3), (4, .int x4), (5, .int x5), (6, .int x6), (7, .int x7)] → wX2_knots_L18 u T a x3 x6 k85 Q n x4 x5 x7 σ → W p l e ({ frames := 4, cells := 0, slots := 0, locals := 104 }) s m args below meth c H locs 0 0 (MQ below (va_Qi Q (PosW D (tyB cy) ad 75 (shB cy ad) A) A) args s 0 0 A) (F0 m 18 ls []) := by
  have hx := X.1
  have hb := X.2.1
  intro n
  induction n with
  | zero =>
    intro _ _ _ _ _ _ _ _ _ h
    exact absurd h (by unfold wX2_knots_L18; exact id)
  | succ n ih =>
    intro x4 x5 x7 σ H locs ls S hl h
    unfold wX2_knots_L18 at h
    refine lv_iload hx hb dX2_knots_18 (lv_at hl 7 rfl) ?_
    refine lv_aload_n hx hb dX2_knots_20 rfl (lv_at hl 1 rfl) ?_
    refine o_get X S T 0 (isSten_lt hT 0 (by decide)) ((shS0 hT) _) rfl in_8 (by decide) k_73 rfl dX2_knots_21 ?_
    refine lv_icmp_ge (tgt := 85) hx hb dX2_knots_24 (by decide) (fun q_2 => ?_) (fun q_2 => ?_)
    · replace h := h.1 q_2
      exact hk85 _ _ _ _ _ _ S (lv_sub hl [0, 1, 2, 3, 4, 5, 6] rfl) h
    · replace h := h.2 q_2
      refine lv_iconst (v := 0) hx hb dX2_knots_27 (by decide) ?_
      refine lv_istore (lv' := [(8, .int 0), (0, .ref (ad u)), (1, .ref (ad T)), (2, .ref (ad a)), (3, .int x3), (4, .int x4), (5, .int x5), (6, .int x6), (7, .int x7)]) hx hb dX2_knots_28 hl (by decide) rfl (fun ls hl => ?_)
      obtain ⟨n_30, h⟩ := h
      refine mX2_knots_L30 l hu hT ha X hr x3 x5 x6 x7 ?_ n_30 _ _ _ _ _ _ S (lv_sub hl [1, 2, 3, 4, 5, 6, 7, 8, 0] rfl) h
      · intro x4_10 σ_11 H locs ls S hl h
        obtain ⟨x5_12, ex5_12⟩ : ∃ y : Int32, y = x5 + 1 := ⟨_, rfl⟩
        replace h := h x5_12 ex5_12
        refine lv_iinc (v := x5_12) (lv' := [(5, .int x5_12), (0, .ref (ad u)), (1, .ref (ad T)), (2, .ref (ad a)), (3, .int x3), (4, .int x4_10), (6, .int x6), (7, .int x7)]) hx hb dX2_knots_76 hl (k := 5) rfl (by rw [ex5_12]; rfl) (by decide) rfl (fun ls hl => ?_)
        obtain ⟨x7_13, ex7_13⟩ : ∃ y : Int32, y = x7 + 1 := ⟨_, rfl⟩
        replace h := h x7_13 ex7_13
        refine lv_iinc (v := x7_13) (lv' := [(7, .int x7_13), (5, .int x5_12), (0, .ref (ad u)), (1, .ref (ad T)), (2, .ref (ad a)), (3, .int x3), (4, .int x4_10), (6, .int x6)]) hx hb dX2_knots_79 hl (k := 7) rfl (by rw [ex7_13]; rfl) (by decide) rfl (fun ls hl => ?_)
        refine lv_goto (tgt := 18) hx hb dX2_knots_82 (by decide) ?_
        exact ih _ _ _ _ _ _ _ S (lv_sub hl [2, 3, 4, 5, 6, 1, 7, 0] rfl) h
set_option maxHeartbeats 4000000 in
set_option maxRecDepth 100000 in
theorem mX2_knots_L9 {D : va_G} {cy : Nat → ClassId} {ad z : Nat → Nat} (l : Launch) {u : Nat} (hu : isCou u) {T : Nat} (hT : isSten T) {a : Nat} (ha : isStr a) {p : Program} {e : Env} {s : State} {m : MethodId} {args : Array Value} {below : List Frame} {meth : Method} {c : Code} {A : Nat → Prop} {k91 : Int32 → Sg → Prop} {Q : Int32 → Sg → Prop} (X : Fx D (tyB cy) (EvB z) p s m args meth c cX2_knots 9 "BackBay$Course" A) (hr : meth.sig.returnType = some .int) (x3 : Int32) (hk91 : ∀ (x4 : Int32) (σ : Sg) (H : Heap) (locs : List Loc) (ls : Array Slot), St D ad 75 (shB cy ad) A s σ H locs → lv_has ls 9 [(4, .int x4)] → k91 x4 σ → W p l e ({ frames := 4, cells := 0, slots := 0, locals := 104 }) s m args below meth c H locs 0 0 (MQ below (va_Qi Q (PosW D (tyB cy) ad 75 (shB cy ad) A) A) args s 0 0 A) (F0 m 91 ls [])) : ∀ (n : Nat) (x4 : Int32) (x5 : Int32) (x6 : Int32) (σ : Sg) (H : Heap) (locs : List Loc) (ls : Array Slot), St D ad 75 (shB cy ad) A s σ H locs → lv_has ls 9 [(0, .ref (ad u)), (1, .ref (ad T)), (2, .ref (ad a)), (3, .int x3), (4, .int x4), (5, .int x5), (6, .int x6)] → wX2_knots_L9 u T a x3 k91 Q n x4 x5 x6 σ → W p l e ({ frames := 4, cells := 0, slots := 0, locals := 104 }) s m args below meth c H locs 0 0 (MQ below (va_Qi Q (PosW D (tyB cy) ad 75 (shB cy ad) A) A) args s 0 0 A) (F0 m 9 ls []) := by
  have hx := X.1
  have hb := X.2.1
  intro n
  induction n with
  | zero =>
    intro _ _ _ _ _ _ _ _ _ h
    exact absurd h (by unfold wX2_knots_L9; exact id)
  | succ n ih =>
    intro x4 x5 x6 σ H locs ls S hl h
    unfold wX2_knots_L9 at h
    refine lv_iload hx hb dX2_knots_9 (lv_at hl 6 rfl) ?_
    refine lv_iload_n hx hb dX2_knots_11 rfl (lv_at hl 3 rfl) ?_
    refine lv_icmp_ge (tgt := 91) hx hb dX2_knots_12 (by decide) (fun q_1 => ?_) (fun q_1 => ?_)
    · replace h := h.1 q_1
      exact hk91 _ _ _ _ _ S (lv_sub hl [4] rfl) h
    · replace h := h.2 q_1
      refine lv_iconst (v := 0) hx hb dX2_knots_15 (by decide) ?_
      refine lv_istore (lv' := [(7, .int 0), (0, .ref (ad u)), (1, .ref (ad T)), (2, .ref (ad a)), (3, .int x3), (4, .int x4), (5, .int x5), (6, .int x6)]) hx hb dX2_knots_16 hl (by decide) rfl (fun ls hl => ?_)
      obtain ⟨n_18, h⟩ := h
      refine mX2_knots_L18 l hu hT ha X hr x3 x6 ?_ n_18 _ _ _ _ _ _ _ S (lv_sub hl [1, 2, 3, 4, 5, 6, 7, 0] rfl) h
      · intro x4_14 x5_15 σ_16 H locs ls S hl h
        obtain ⟨x6_17, ex6_17⟩ : ∃ y : Int32, y = x6 + 1 := ⟨_, rfl⟩
        replace h := h x6_17 ex6_17
        refine lv_iinc (v := x6_17) (lv' := [(6, .int x6_17), (0, .ref (ad u)), (1, .ref (ad T)), (2, .ref (ad a)), (3, .int x3), (4, .int x4_14), (5, .int x5_15)]) hx hb dX2_knots_85 hl (k := 6) rfl (by rw [ex6_17]; rfl) (by decide) rfl (fun ls hl => ?_)
        refine lv_goto (tgt := 9) hx hb dX2_knots_88 (by decide) ?_
        exact ih _ _ _ _ _ _ _ S (lv_sub hl [1, 2, 3, 4, 5, 6, 0] rfl) h
set_option maxHeartbeats 4000000 in
set_option maxRecDepth 100000 in
theorem mX2_knots {D : va_G} {cy : Nat → ClassId} {ad z : Nat → Nat} (l : Launch) {u : Nat} (hu : isCou u) {T : Nat} (hT : isSten T) {a : Nat} (ha : isStr a) (x3 : Int32) (σ : Sg) (Q : Int32 → Sg → Prop) (h : wX2_knots u T a x3 σ Q) : MIB D cy ad z l yX2_knots (.code yX2_knots cX2_knots 9 (some .int) :: gT) ({ frames := 4, cells := 0, slots := 0, locals := 104 }) [.ref (ad u), .ref (ad T), .ref (ad a), .int x3] σ Q := by
  refine metI_of (by decide +kernel) (Nat.le_of_ble_eq_true rfl) ?_
  intro p e s m args below meth c A ls X hr hl S
  have X : Fx D (tyB cy) (EvB z) p s m args meth c cX2_knots 9 "BackBay$Course" A := X
  have hl : lv_has ls 9 [(0, .ref (ad u)), (1, .ref (ad T)), (2, .ref (ad a)), (3, .int x3)] := hl
  have hx := X.1
  have hb := X.2.1
  unfold wX2_knots at h
  refine lv_iconst (v := 0) hx hb dX2_knots_0 (by decide) ?_
  refine lv_istore (lv' := [(4, .int 0), (0, .ref (ad u)), (1, .ref (ad T)), (2, .ref (ad a)), (3, .int x3)]) hx hb dX2_knots_1 hl (by decide) rfl (fun ls hl => ?_)
  refine lv_iconst (v := 0) hx hb dX2_knots_3 (by decide) ?_
  refine lv_istore (lv' := [(5, .int 0), (4, .int 0), (0, .ref (ad u)), (1, .ref (ad T)), (2, .ref (ad a)), (3, .int x3)]) hx hb dX2_knots_4 hl (by decide) rfl (fun ls hl => ?_)
  refine lv_iconst (v := 0) hx hb dX2_knots_6 (by decide) ?_
  refine lv_istore (lv' := [(6, .int 0), (5, .int 0), (4, .int 0), (0, .ref (ad u)), (1, .ref (ad T)), (2, .ref (ad a)), (3, .int x3)]) hx hb dX2_knots_7 hl (by decide) rfl (fun ls hl => ?_)
  obtain ⟨n_9, h⟩ := h
  refine mX2_knots_L9 l hu hT ha X hr x3 ?_ n_9 _ _ _ _ _ _ _ S (lv_sub hl [3, 4, 5, 6, 2, 1, 0] rfl) h
  · intro x4_18 σ_19 H locs ls S hl h
    refine lv_iload hx hb dX2_knots_91 (lv_at hl 0 rfl) ?_
    exact o_iret X S hr h dX2_knots_93
def wX2_farthestFrom_b76 (u : Nat) (u2 : Nat) (x2 : Int32) (x3 : Int64) (x5 : Int64) (x7 : Int32) (x8 : Int32) (σ : Sg) (k82 : Int64 → Int64 → Sg → Prop) (kb19 : Int64 → Int64 → Int32 → Sg → Prop) (Q : Int64 → Sg → Prop) : Prop :=
  (∀ x8_9 : Int32, x8_9 = x8 + 1 → kb19 x3 x5 x8_9 σ)
def wX2_farthestFrom_L19 (u : Nat) (u2 : Nat) (x2 : Int32) (x7 : Int32) (k82 : Int64 → Int64 → Sg → Prop) (Q : Int64 → Sg → Prop) : Nat → Int64 → Int64 → Int32 → Sg → Prop
  | 0, _, _, _, _ => False
  | nn19 + 1, x3, x5, x8, σ =>
  (((σ 4 0) ≤ x8 → k82 x3 x5 σ) ∧ (¬ (σ 4 0) ≤ x8 → (wX2_behind u x7 x8 σ (fun r_3 σ_4 => (wX2_behind u2 x7 x8 σ_4 (fun r_5 σ_6 => (∀ x9_7, x9_7 = (if 0 < ((r_3.toInt64) - (r_5.toInt64)) then ((r_3.toInt64) - (r_5.toInt64)) else -((r_3.toInt64) - (r_5.toInt64))) → (((lg_cmp x9_7 x3) ≤ 0 → wX2_farthestFrom_b76 u u2 x2 x3 x5 x7 x8 σ_6 k82 (wX2_farthestFrom_L19 u u2 x2 x7 k82 Q nn19) Q) ∧ (¬ (lg_cmp x9_7 x3) ≤ 0 → (∀ x5_10, x5_10 = (((16 * x7) + x8).toInt64) → wX2_farthestFrom_b76 u u2 x2 x9_7 x5_10 x7 x8 σ_6 k82 (wX2_farthestFrom_L19 u u2 x2 x7 k82 Q nn19) Q))))))))))
def wX2_farthestFrom_L10 (u : Nat) (u2 : Nat) (x2 : Int32) (k88 : Int64 → Sg → Prop) (Q : Int64 → Sg → Prop) : Nat → Int64 → Int64 → Int32 → Sg → Prop
  | 0, _, _, _, _ => False
  | nn10 + 1, x3, x5, x7, σ =>
  ((x2 < x7 → k88 x5 σ) ∧ (¬ x2 < x7 → (∃ nf, wX2_farthestFrom_L19 u u2 x2 x7 (fun x3_11 x5_12 σ_13 => (∀ x7_14 : Int32, x7_14 = x7 + 1 → wX2_farthestFrom_L10 u u2 x2 k88 Q nn10 x3_11 x5_12 x7_14 σ_13)) Q nf x3 x5 0 σ)))
def wX2_farthestFrom (u : Nat) (u2 : Nat) (x2 : Int32) (σ : Sg) (Q : Int64 → Sg → Prop) : Prop :=
  (∃ nf, wX2_farthestFrom_L10 u u2 x2 (fun x5_15 σ_16 => Q x5_15 σ_16) Q nf (0 : Int64) (-1000000 : Int64) 0 σ)
set_option maxHeartbeats 4000000 in
set_option maxRecDepth 100000 in
theorem mX2_farthestFrom_b76 {D : va_G} {cy : Nat → ClassId} {ad z : Nat → Nat} (l : Launch) {u : Nat} (hu : isCou u) {u2 : Nat} (hu2 : isCou u2) {p : Program} {e : Env} {s : State} {m : MethodId} {args : Array Value} {below : List Frame} {meth : Method} {c : Code} {A : Nat → Prop} {k82 : Int64 → Int64 → Sg → Prop} {kb19 : Int64 → Int64 → Int32 → Sg → Prop} {Q : Int64 → Sg → Prop} (X : Fx D (tyB cy) (EvB z) p s m args meth c cX2_farthestFrom 11 "BackBay$Course" A) (hr : meth.sig.returnType = some .long) (x2 : Int32) (x3 : Int64) (x5 : Int64) (x7 : Int32) (x8 : Int32) (hk82 : ∀ (x3 : Int64) (x5 : Int64) (σ : Sg) (H : Heap) (locs : List Loc) (ls : Array Slot), St D ad 75 (shB cy ad) A s σ H locs → lv_has ls 11 [(0, .ref (ad u)), (1, .ref (ad u2)), (2, .int x2), (3, .long x3), (5, .long x5), (7, .int x7)] → k82 x3 x5 σ → W p l e ({ frames := 1, cells := 0, slots := 0, locals := 24 }) s m args below meth c H locs 0 0 (MQ below (va_Ql Q (PosW D (tyB cy) ad 75 (shB cy ad) A) A) args s 0 0 A) (F0 m 82 ls [])) (hkb19 : ∀ (x3 : Int64) (x5 : Int64) (x8 : Int32) (σ : Sg) (H : Heap) (locs : List Loc) (ls : Array Slot), St D ad 75 (shB cy ad) A s σ H locs → lv_has ls 11 [(0, .ref (ad u)), (1, .ref (ad u2)), (2, .int x2), (3, .long x3), (5, .long x5), (7, .int x7), (8, .int x8)] → kb19 x3 x5 x8 σ → W p l e ({ frames := 1, cells := 0, slots := 0, locals := 24 }) s m args below meth c H locs 0 0 (MQ below (va_Ql Q (PosW D (tyB cy) ad 75 (shB cy ad) A) A) args s 0 0 A) (F0 m 19 ls [])) {σ : Sg} {H : Heap} {locs : List Loc} {ls : Array Slot} (S : St D ad 75 (shB cy ad) A s σ H locs) (hl : lv_has ls 11 [(0, .ref (ad u)), (1, .ref (ad u2)), (2, .int x2), (3, .long x3), (5, .long x5), (7, .int x7), (8, .int x8)]) (h : wX2_farthestFrom_b76 u u2 x2 x3 x5 x7 x8 σ k82 kb19 Q) : W p l e ({ frames := 1, cells := 0, slots := 0, locals := 24 }) s m args below meth c H locs 0 0 (MQ below (va_Ql Q (PosW D (tyB cy) ad 75 (shB cy ad) A) A) args s 0 0 A) (F0 m 76 ls []) := by
  have hx := X.1
  have hb := X.2.1
  unfold wX2_farthestFrom_b76 at h
  obtain ⟨x8_9, ex8_9⟩ : ∃ y : Int32, y = x8 + 1 := ⟨_, rfl⟩
  replace h := h x8_9 ex8_9
  refine lv_iinc (v := x8_9) (lv' := [(8, .int x8_9), (0, .ref (ad u)), (1, .ref (ad u2)), (2, .int x2), (3, .long x3), (5, .long x5), (7, .int x7)]) hx hb dX2_farthestFrom_76 hl (k := 6) rfl (by rw [ex8_9]; rfl) (by decide) rfl (fun ls hl => ?_)
  refine lv_goto (tgt := 19) hx hb dX2_farthestFrom_79 (by decide) ?_
  exact hkb19 _ _ _ _ _ _ _ S (lv_sub hl [1, 2, 3, 4, 5, 6, 0] rfl) h
set_option maxHeartbeats 4000000 in
set_option maxRecDepth 100000 in
theorem mX2_farthestFrom_L19 {D : va_G} {cy : Nat → ClassId} {ad z : Nat → Nat} (l : Launch) {u : Nat} (hu : isCou u) {u2 : Nat} (hu2 : isCou u2) {p : Program} {e : Env} {s : State} {m : MethodId} {args : Array Value} {below : List Frame} {meth : Method} {c : Code} {A : Nat → Prop} {k82 : Int64 → Int64 → Sg → Prop} {Q : Int64 → Sg → Prop} (X : Fx D (tyB cy) (EvB z) p s m args meth c cX2_farthestFrom 11 "BackBay$Course" A) (hr : meth.sig.returnType = some .long) (x2 : Int32) (x7 : Int32) (hk82 : ∀ (x3 : Int64) (x5 : Int64) (σ : Sg) (H : Heap) (locs : List Loc) (ls : Array Slot), St D ad 75 (shB cy ad) A s σ H locs → lv_has ls 11 [(0, .ref (ad u)), (1, .ref (ad u2)), (2, .int x2), (3, .long x3), (5, .long x5), (7, .int x7)] → k82 x3 x5 σ → W p l e ({ frames := 1, cells := 0, slots := 0, locals := 24 }) s m args below meth c H locs 0 0 (MQ below (va_Ql Q (PosW D (tyB cy) ad 75 (shB cy ad) A) A) args s 0 0 A) (F0 m 82 ls [])) : ∀ (n : Nat) (x3 : Int64) (x5 : Int64) (x8 : Int32) (σ : Sg) (H : Heap) (locs : List Loc) (ls : Array Slot), St D ad 75 (shB cy ad) A s σ H locs → lv_has ls 11 [(0, .ref (ad u)), (1, .ref (ad u2)), (2, .int x2), (3, .long x3), (5, .long x5), (7, .int x7), (8, .int x8)] → wX2_farthestFrom_L19 u u2 x2 x7 k82 Q n x3 x5 x8 σ → W p l e ({ frames := 1, cells := 0, slots := 0, locals := 24 }) s m args below meth c H locs 0 0 (MQ below (va_Ql Q (PosW D (tyB cy) ad 75 (shB cy ad) A) A) args s 0 0 A) (F0 m 19 ls []) := by
  have hx := X.1
  have hb := X.2.1
  intro n
  induction n with
  | zero =>
    intro _ _ _ _ _ _ _ _ _ h
    exact absurd h (by unfold wX2_farthestFrom_L19; exact id)
  | succ n ih =>
    intro x3 x5 x8 σ H locs ls S hl h
    unfold wX2_farthestFrom_L19 at h
    refine lv_iload hx hb dX2_farthestFrom_19 (lv_at hl 6 rfl) ?_
    refine lv_aload_n hx hb dX2_farthestFrom_21 rfl (lv_at hl 0 rfl) ?_
    refine o_get X S u 1 (isCou_lt hu 0 (by decide)) ((shC0 hu) _) rfl in_2 (by decide) k_209 rfl dX2_farthestFrom_22 ?_
    refine o_get X S 4 0 (by decide) rfl rfl in_1 (by decide) k_128 rfl dX2_farthestFrom_25 ?_
    refine lv_icmp_ge (tgt := 82) hx hb dX2_farthestFrom_28 (by decide) (fun q_2 => ?_) (fun q_2 => ?_)
    · replace h := h.1 q_2
      exact hk82 _ _ _ _ _ _ S (lv_sub hl [0, 1, 2, 3, 4, 5] rfl) h
    · replace h := h.2 q_2
      refine lv_aload_n hx hb dX2_farthestFrom_31 rfl (lv_at hl 0 rfl) ?_
      refine lv_iload hx hb dX2_farthestFrom_32 (lv_at hl 5 rfl) ?_
      refine lv_iload hx hb dX2_farthestFrom_34 (lv_at hl 6 rfl) ?_
      refine o_callVi (k := 2) (EvB_ok z) X S (mX2_behind l hu x7 x8 σ _ h) (isCou_lt hu 0 (by decide)) ((shC0 hu) _) rfl k_600 k_761 k_598 k_599 k_8 ⟨rfl, by decide, by decide, by decide +kernel⟩ ⟨rfl, rfl⟩ ⟨Nat.le_of_ble_eq_true rfl, Nat.le_of_ble_eq_true rfl⟩ rfl hl.1 rfl (Nat.le_of_ble_eq_true rfl) dX2_farthestFrom_36 (fun r_3 σ_4 H locs h S => ?_)
      refine lv_i2l hx hb dX2_farthestFrom_39 rfl ?_
      refine lv_aload_n hx hb dX2_farthestFrom_40 rfl (lv_at hl 1 rfl) ?_
      refine lv_iload hx hb dX2_farthestFrom_41 (lv_at hl 5 rfl) ?_
      refine lv_iload hx hb dX2_farthestFrom_43 (lv_at hl 6 rfl) ?_
      refine o_callVi (k := 2) (EvB_ok z) X S (mX2_behind l hu2 x7 x8 σ_4 _ h) (isCou_lt hu2 0 (by decide)) ((shC0 hu2) _) rfl k_600 k_761 k_598 k_599 k_8 ⟨rfl, by decide, by decide, by decide +kernel⟩ ⟨rfl, rfl⟩ ⟨Nat.le_of_ble_eq_true rfl, Nat.le_of_ble_eq_true rfl⟩ rfl hl.1 rfl (Nat.le_of_ble_eq_true rfl) dX2_farthestFrom_45 (fun r_5 σ_6 H locs h S => ?_)
      refine lv_i2l hx hb dX2_farthestFrom_48 rfl ?_
      refine lv_lsub hx hb dX2_farthestFrom_49 ?_
      refine va_mabs_long hx hb (X.2.2.1.trans hl.1.symm) X.2.2.2.1 (X.2.2.2.2.1 _ k_762) (X.2.2.2.2.1 _ k_722) (X.2.2.2.2.1 _ k_20) (X.2.2.2.2.1 _ k_723) (Nat.le_of_ble_eq_true rfl) (Nat.le_of_ble_eq_true rfl) (Nat.zero_le _) (Nat.zero_le _) dX2_farthestFrom_50 ?_
      refine lv_topl (fun x9_7 ex9_7 => ?_)
      replace h := h x9_7 ex9_7
      refine lv_lstore (lv' := [(9, .long x9_7), (0, .ref (ad u)), (1, .ref (ad u2)), (2, .int x2), (3, .long x3), (5, .long x5), (7, .int x7), (8, .int x8)]) hx hb dX2_farthestFrom_53 hl (by decide) rfl (fun ls hl => ?_)
      refine lv_lload hx hb dX2_farthestFrom_55 (lv_at hl 0 rfl) ?_
      refine lv_lload_n hx hb dX2_farthestFrom_57 rfl (lv_at hl 4 rfl) ?_
      refine W.lcmp hx hb dX2_farthestFrom_58 ?_
      refine lv_if_le (tgt := 76) hx hb dX2_farthestFrom_59 (by decide) (fun q_8 => ?_) (fun q_8 => ?_)
      · replace h := h.1 q_8
        exact mX2_farthestFrom_b76 l hu hu2 X hr x2 x3 x5 x7 x8 hk82 ih S (lv_sub hl [1, 2, 3, 4, 5, 6, 7] rfl) h
      · replace h := h.2 q_8
        refine lv_lload hx hb dX2_farthestFrom_62 (lv_at hl 0 rfl) ?_
        refine lv_lstore_n (lv' := [(3, .long x9_7), (9, .long x9_7), (0, .ref (ad u)), (1, .ref (ad u2)), (2, .int x2), (5, .long x5), (7, .int x7), (8, .int x8)]) hx hb dX2_farthestFrom_64 rfl hl (by decide) rfl (fun ls hl => ?_)
        refine lv_bipush (v := 16) hx hb dX2_farthestFrom_65 (by decide) ?_
        refine lv_iload hx hb dX2_farthestFrom_67 (lv_at hl 6 rfl) ?_
        refine lv_imul hx hb dX2_farthestFrom_69 ?_
        refine lv_iload hx hb dX2_farthestFrom_70 (lv_at hl 7 rfl) ?_
        refine lv_iadd hx hb dX2_farthestFrom_72 ?_
        refine lv_i2l hx hb dX2_farthestFrom_73 rfl ?_
        refine lv_topl (fun x5_10 ex5_10 => ?_)
        replace h := h x5_10 ex5_10
        refine lv_lstore (lv' := [(5, .long x5_10), (3, .long x9_7), (9, .long x9_7), (0, .ref (ad u)), (1, .ref (ad u2)), (2, .int x2), (7, .int x7), (8, .int x8)]) hx hb dX2_farthestFrom_74 hl (by decide) rfl (fun ls hl => ?_)
        exact mX2_farthestFrom_b76 l hu hu2 X hr x2 x9_7 x5_10 x7 x8 hk82 ih S (lv_sub hl [3, 4, 5, 1, 0, 6, 7] rfl) h
set_option maxHeartbeats 4000000 in
set_option maxRecDepth 100000 in
theorem mX2_farthestFrom_L10 {D : va_G} {cy : Nat → ClassId} {ad z : Nat → Nat} (l : Launch) {u : Nat} (hu : isCou u) {u2 : Nat} (hu2 : isCou u2) {p : Program} {e : Env} {s : State} {m : MethodId} {args : Array Value} {below : List Frame} {meth : Method} {c : Code} {A : Nat → Prop} {k88 : Int64 → Sg → Prop} {Q : Int64 → Sg → Prop} (X : Fx D (tyB cy) (EvB z) p s m args meth c cX2_farthestFrom 11 "BackBay$Course" A) (hr : meth.sig.returnType = some .long) (x2 : Int32) (hk88 : ∀ (x5 : Int64) (σ : Sg) (H : Heap) (locs : List Loc) (ls : Array Slot), St D ad 75 (shB cy ad) A s σ H locs → lv_has ls 11 [(5, .long x5)] → k88 x5 σ → W p l e ({ frames := 1, cells := 0, slots := 0, locals := 24 }) s m args below meth c H locs 0 0 (MQ below (va_Ql Q (PosW D (tyB cy) ad 75 (shB cy ad) A) A) args s 0 0 A) (F0 m 88 ls [])) : ∀ (n : Nat) (x3 : Int64) (x5 : Int64) (x7 : Int32) (σ : Sg) (H : Heap) (locs : List Loc) (ls : Array Slot), St D ad 75 (shB cy ad) A s σ H locs → lv_has ls 11 [(0, .ref (ad u)), (1, .ref (ad u2)), (2, .int x2), (3, .long x3), (5, .long x5), (7, .int x7)] → wX2_farthestFrom_L10 u u2 x2 k88 Q n x3 x5 x7 σ → W p l e ({ frames := 1, cells := 0, slots := 0, locals := 24 }) s m args below meth c H locs 0 0 (MQ below (va_Ql Q (PosW D (tyB cy) ad 75 (shB cy ad) A) A) args s 0 0 A) (F0 m 10 ls []) := by
  have hx := X.1
  have hb := X.2.1
  intro n
  induction n with
  | zero =>
    intro _ _ _ _ _ _ _ _ _ h
    exact absurd h (by unfold wX2_farthestFrom_L10; exact id)
  | succ n ih =>
    intro x3 x5 x7 σ H locs ls S hl h
    unfold wX2_farthestFrom_L10 at h
    refine lv_iload hx hb dX2_farthestFrom_10 (lv_at hl 5 rfl) ?_
    refine lv_iload_n hx hb dX2_farthestFrom_12 rfl (lv_at hl 2 rfl) ?_
    refine lv_icmp_gt (tgt := 88) hx hb dX2_farthestFrom_13 (by decide) (fun q_1 => ?_) (fun q_1 => ?_)
    · replace h := h.1 q_1
      exact hk88 _ _ _ _ _ S (lv_sub hl [4] rfl) h
    · replace h := h.2 q_1
      refine lv_iconst (v := 0) hx hb dX2_farthestFrom_16 (by decide) ?_
      refine lv_istore (lv' := [(8, .int 0), (0, .ref (ad u)), (1, .ref (ad u2)), (2, .int x2), (3, .long x3), (5, .long x5), (7, .int x7)]) hx hb dX2_farthestFrom_17 hl (by decide) rfl (fun ls hl => ?_)
      obtain ⟨n_19, h⟩ := h
      refine mX2_farthestFrom_L19 l hu hu2 X hr x2 x7 ?_ n_19 _ _ _ _ _ _ _ S (lv_sub hl [1, 2, 3, 4, 5, 6, 0] rfl) h
      · intro x3_11 x5_12 σ_13 H locs ls S hl h
        obtain ⟨x7_14, ex7_14⟩ : ∃ y : Int32, y = x7 + 1 := ⟨_, rfl⟩
        replace h := h x7_14 ex7_14
        refine lv_iinc (v := x7_14) (lv' := [(7, .int x7_14), (0, .ref (ad u)), (1, .ref (ad u2)), (2, .int x2), (3, .long x3_11), (5, .long x5_12)]) hx hb dX2_farthestFrom_82 hl (k := 5) rfl (by rw [ex7_14]; rfl) (by decide) rfl (fun ls hl => ?_)
        refine lv_goto (tgt := 10) hx hb dX2_farthestFrom_85 (by decide) ?_
        exact ih _ _ _ _ _ _ _ S (lv_sub hl [1, 2, 3, 4, 5, 0] rfl) h
set_option maxHeartbeats 4000000 in
set_option maxRecDepth 100000 in
theorem mX2_farthestFrom {D : va_G} {cy : Nat → ClassId} {ad z : Nat → Nat} (l : Launch) {u : Nat} (hu : isCou u) {u2 : Nat} (hu2 : isCou u2) (x2 : Int32) (σ : Sg) (Q : Int64 → Sg → Prop) (h : wX2_farthestFrom u u2 x2 σ Q) : MLB D cy ad z l yX2_farthestFrom (.code yX2_farthestFrom cX2_farthestFrom 11 (some .long) :: gT) ({ frames := 1, cells := 0, slots := 0, locals := 24 }) [.ref (ad u), .ref (ad u2), .int x2] σ Q := by
  refine metL_of (by decide +kernel) (Nat.le_of_ble_eq_true rfl) ?_
  intro p e s m args below meth c A ls X hr hl S
  have X : Fx D (tyB cy) (EvB z) p s m args meth c cX2_farthestFrom 11 "BackBay$Course" A := X
  have hl : lv_has ls 11 [(0, .ref (ad u)), (1, .ref (ad u2)), (2, .int x2)] := hl
  have hx := X.1
  have hb := X.2.1
  unfold wX2_farthestFrom at h
  refine lv_lconst (v := 0) hx hb dX2_farthestFrom_0 (by decide) ?_
  refine lv_lstore_n (lv' := [(3, .long (0 : Int64)), (0, .ref (ad u)), (1, .ref (ad u2)), (2, .int x2)]) hx hb dX2_farthestFrom_1 rfl hl (by decide) rfl (fun ls hl => ?_)
  refine lv_ldc2 (v := (-1000000)) hx hb X.2.2.2.1 (X.2.2.2.2.1 _ k_760) dX2_farthestFrom_2 ?_
  refine lv_lstore (lv' := [(5, .long (-1000000 : Int64)), (3, .long (0 : Int64)), (0, .ref (ad u)), (1, .ref (ad u2)), (2, .int x2)]) hx hb dX2_farthestFrom_5 hl (by decide) rfl (fun ls hl => ?_)
  refine lv_iconst (v := 0) hx hb dX2_farthestFrom_7 (by decide) ?_
  refine lv_istore (lv' := [(7, .int 0), (5, .long (-1000000 : Int64)), (3, .long (0 : Int64)), (0, .ref (ad u)), (1, .ref (ad u2)), (2, .int x2)]) hx hb dX2_farthestFrom_8 hl (by decide) rfl (fun ls hl => ?_)
  obtain ⟨n_10, h⟩ := h
  refine mX2_farthestFrom_L10 l hu hu2 X hr x2 ?_ n_10 _ _ _ _ _ _ _ S (lv_sub hl [3, 4, 5, 2, 1, 0] rfl) h
  · intro x5_15 σ_16 H locs ls S hl h
    refine lv_lload hx hb dX2_farthestFrom_88 (lv_at hl 0 rfl) ?_
    exact o_lret X S hr h dX2_farthestFrom_90
def wX4_add (x1 : Int32) (x2 : Int32) (x3 : Int32) (x4 : Int32) (σ : Sg) (Q : Sg → Prop) : Prop :=
  (vp_in (σ 8 0) 12 ∧ ∀ σ_1, σ_1 = sto σ 10 (σ 8 0).toNatClampNeg x1 → (vp_in (σ_1 8 0) 12 ∧ ∀ σ_2, σ_2 = sto σ_1 11 (σ_1 8 0).toNatClampNeg x2 → (vp_in (σ_2 8 0) 12 ∧ ∀ σ_3, σ_3 = sto σ_2 12 (σ_2 8 0).toNatClampNeg x3 → (vp_in (σ_3 8 0) 12 ∧ ∀ σ_4, σ_4 = sto σ_3 13 (σ_3 8 0).toNatClampNeg x4 → (∀ σ_5, σ_5 = sto σ_4 8 0 ((σ_4 8 0) + 1) → Q σ_5)))))
set_option maxHeartbeats 4000000 in
set_option maxRecDepth 100000 in
theorem mX4_add {D : va_G} {cy : Nat → ClassId} {ad z : Nat → Nat} (l : Launch) (x1 : Int32) (x2 : Int32) (x3 : Int32) (x4 : Int32) (σ : Sg) (Q : Sg → Prop) (h : wX4_add x1 x2 x3 x4 σ Q) : MVB D cy ad z l yX4_add (.code yX4_add cX4_add 5 none :: gT) ({ frames := 0, cells := 0, slots := 0, locals := 0 }) [.ref (ad 8), .int x1, .int x2, .int x3, .int x4] σ Q := by
  refine metV_of (by decide +kernel) (Nat.le_of_ble_eq_true rfl) ?_
  intro p e s m args below meth c A ls X hr hl S
  have X : Fx D (tyB cy) (EvB z) p s m args meth c cX4_add 5 "BackBay$Gauges" A := X
  have hl : lv_has ls 5 [(0, .ref (ad 8)), (1, .int x1), (2, .int x2), (3, .int x3), (4, .int x4)] := hl
  have hx := X.1
  have hb := X.2.1
  unfold wX4_add at h
  refine lv_aload_n hx hb dX4_add_0 rfl (lv_at hl 0 rfl) ?_
  refine o_get X S 8 2 (by decide) rfl rfl in_4 (by decide) k_160 rfl dX4_add_1 ?_
  refine lv_aload_n hx hb dX4_add_4 rfl (lv_at hl 0 rfl) ?_
  refine o_get X S 8 0 (by decide) rfl rfl in_4 (by decide) k_156 rfl dX4_add_5 ?_
  refine lv_iload_n hx hb dX4_add_8 rfl (lv_at hl 1 rfl) ?_
  refine o_iast X S 10 0 (by decide) (fun _ => rfl) rfl h.1 dX4_add_9 (fun σ_1 H locs eσ_1 S => ?_)
  replace h := h.2 σ_1 eσ_1
  refine lv_aload_n hx hb dX4_add_10 rfl (lv_at hl 0 rfl) ?_
  refine o_get X S 8 3 (by decide) rfl rfl in_4 (by decide) k_161 rfl dX4_add_11 ?_
  refine lv_aload_n hx hb dX4_add_14 rfl (lv_at hl 0 rfl) ?_
  refine o_get X S 8 0 (by decide) rfl rfl in_4 (by decide) k_156 rfl dX4_add_15 ?_
  refine lv_iload_n hx hb dX4_add_18 rfl (lv_at hl 2 rfl) ?_
  refine o_iast X S 11 0 (by decide) (fun _ => rfl) rfl h.1 dX4_add_19 (fun σ_2 H locs eσ_2 S => ?_)
  replace h := h.2 σ_2 eσ_2
  refine lv_aload_n hx hb dX4_add_20 rfl (lv_at hl 0 rfl) ?_
  refine o_get X S 8 4 (by decide) rfl rfl in_4 (by decide) k_162 rfl dX4_add_21 ?_
  refine lv_aload_n hx hb dX4_add_24 rfl (lv_at hl 0 rfl) ?_
  refine o_get X S 8 0 (by decide) rfl rfl in_4 (by decide) k_156 rfl dX4_add_25 ?_
  refine lv_iload_n hx hb dX4_add_28 rfl (lv_at hl 3 rfl) ?_
  refine o_iast X S 12 0 (by decide) (fun _ => rfl) rfl h.1 dX4_add_29 (fun σ_3 H locs eσ_3 S => ?_)
  replace h := h.2 σ_3 eσ_3
  refine lv_aload_n hx hb dX4_add_30 rfl (lv_at hl 0 rfl) ?_
  refine o_get X S 8 5 (by decide) rfl rfl in_4 (by decide) k_163 rfl dX4_add_31 ?_
  refine lv_aload_n hx hb dX4_add_34 rfl (lv_at hl 0 rfl) ?_
  refine o_get X S 8 0 (by decide) rfl rfl in_4 (by decide) k_156 rfl dX4_add_35 ?_
  refine lv_iload hx hb dX4_add_38 (lv_at hl 4 rfl) ?_
  refine o_iast X S 13 0 (by decide) (fun _ => rfl) rfl h.1 dX4_add_40 (fun σ_4 H locs eσ_4 S => ?_)
  replace h := h.2 σ_4 eσ_4
  refine lv_aload_n hx hb dX4_add_41 rfl (lv_at hl 0 rfl) ?_
  refine lv_dup hx hb dX4_add_42 rfl ?_
  refine o_get X S 8 0 (by decide) rfl rfl in_4 (by decide) k_156 rfl dX4_add_43 ?_
  refine lv_iconst (v := 1) hx hb dX4_add_46 (by decide) ?_
  refine lv_iadd hx hb dX4_add_47 ?_
  refine o_puti X S (fs := fun c => [.int (c 0), .ref (ad 9), .ref (ad 10), .ref (ad 11), .ref (ad 12), .ref (ad 13)]) 8 0 (by decide) (fun _ => rfl) (fun _ _ => rfl) rfl in_4 tyX4_ok nmX4 (by decide) k_156 rfl rfl rfl rfl (fun _ => Nat.le_of_ble_eq_true rfl) dX4_add_48 (fun σ_5 H locs eσ_5 S => ?_)
  replace h := h σ_5 eσ_5
  exact o_vret X S hr h dX4_add_51
def wX4_howManyOut_b24 (x1 : Int32) (x2 : Int32) (σ : Sg) (k30 : Int32 → Sg → Prop) (kb4 : Int32 → Int32 → Sg → Prop) (Q : Int32 → Sg → Prop) : Prop :=
  (∀ x2_3 : Int32, x2_3 = x2 + 1 → kb4 x1 x2_3 σ)
def wX4_howManyOut_L4 (k30 : Int32 → Sg → Prop) (Q : Int32 → Sg → Prop) : Nat → Int32 → Int32 → Sg → Prop
  | 0, _, _, _ => False
  | nn4 + 1, x1, x2, σ =>
  (((σ 8 0) ≤ x2 → k30 x1 σ) ∧ (¬ (σ 8 0) ≤ x2 → (vp_in x2 12 ∧ (((σ 9 x2.toNatClampNeg) = 0 → wX4_howManyOut_b24 x1 x2 σ k30 (wX4_howManyOut_L4 k30 Q nn4) Q) ∧ (¬ (σ 9 x2.toNatClampNeg) = 0 → (∀ x1_4 : Int32, x1_4 = x1 + 1 → wX4_howManyOut_b24 x1_4 x2 σ k30 (wX4_howManyOut_L4 k30 Q nn4) Q))))))
def wX4_howManyOut (σ : Sg) (Q : Int32 → Sg → Prop) : Prop :=
  (∃ nf, wX4_howManyOut_L4 (fun x1_5 σ_6 => Q x1_5 σ_6) Q nf 0 0 σ)
set_option maxHeartbeats 4000000 in
set_option maxRecDepth 100000 in
theorem mX4_howManyOut_b24 {D : va_G} {cy : Nat → ClassId} {ad z : Nat → Nat} (l : Launch) {p : Program} {e : Env} {s : State} {m : MethodId} {args : Array Value} {below : List Frame} {meth : Method} {c : Code} {A : Nat → Prop} {k30 : Int32 → Sg → Prop} {kb4 : Int32 → Int32 → Sg → Prop} {Q : Int32 → Sg → Prop} (X : Fx D (tyB cy) (EvB z) p s m args meth c cX4_howManyOut 3 "BackBay$Gauges" A) (hr : meth.sig.returnType = some .int) (x1 : Int32) (x2 : Int32) (hk30 : ∀ (x1 : Int32) (σ : Sg) (H : Heap) (locs : List Loc) (ls : Array Slot), St D ad 75 (shB cy ad) A s σ H locs → lv_has ls 3 [(1, .int x1)] → k30 x1 σ → W p l e ({ frames := 0, cells := 0, slots := 0, locals := 0 }) s m args below meth c H locs 0 0 (MQ below (va_Qi Q (PosW D (tyB cy) ad 75 (shB cy ad) A) A) args s 0 0 A) (F0 m 30 ls [])) (hkb4 : ∀ (x1 : Int32) (x2 : Int32) (σ : Sg) (H : Heap) (locs : List Loc) (ls : Array Slot), St D ad 75 (shB cy ad) A s σ H locs → lv_has ls 3 [(0, .ref (ad 8)), (1, .int x1), (2, .int x2)] → kb4 x1 x2 σ → W p l e ({ frames := 0, cells := 0, slots := 0, locals := 0 }) s m args below meth c H locs 0 0 (MQ below (va_Qi Q (PosW D (tyB cy) ad 75 (shB cy ad) A) A) args s 0 0 A) (F0 m 4 ls [])) {σ : Sg} {H : Heap} {locs : List Loc} {ls : Array Slot} (S : St D ad 75 (shB cy ad) A s σ H locs) (hl : lv_has ls 3 [(0, .ref (ad 8)), (1, .int x1), (2, .int x2)]) (h : wX4_howManyOut_b24 x1 x2 σ k30 kb4 Q) : W p l e ({ frames := 0, cells := 0, slots := 0, locals := 0 }) s m args below meth c H locs 0 0 (MQ below (va_Qi Q (PosW D (tyB cy) ad 75 (shB cy ad) A) A) args s 0 0 A) (F0 m 24 ls []) := by
  have hx := X.1
  have hb := X.2.1
  unfold wX4_howManyOut_b24 at h
  obtain ⟨x2_3, ex2_3⟩ : ∃ y : Int32, y = x2 + 1 := ⟨_, rfl⟩
  replace h := h x2_3 ex2_3
  refine lv_iinc (v := x2_3) (lv' := [(2, .int x2_3), (0, .ref (ad 8)), (1, .int x1)]) hx hb dX4_howManyOut_24 hl (k := 2) rfl (by rw [ex2_3]; rfl) (by decide) rfl (fun ls hl => ?_)
  refine lv_goto (tgt := 4) hx hb dX4_howManyOut_27 (by decide) ?_
  exact hkb4 _ _ _ _ _ _ S (lv_sub hl [1, 2, 0] rfl) h
set_option maxHeartbeats 4000000 in
set_option maxRecDepth 100000 in
theorem mX4_howManyOut_L4 {D : va_G} {cy : Nat → ClassId} {ad z : Nat → Nat} (l : Launch) {p : Program} {e : Env} {s : State} {m : MethodId} {args : Array Value} {below : List Frame} {meth : Method} {c : Code} {A : Nat → Prop} {k30 : Int32 → Sg → Prop} {Q : Int32 → Sg → Prop} (X : Fx D (tyB cy) (EvB z) p s m args meth c cX4_howManyOut 3 "BackBay$Gauges" A) (hr : meth.sig.returnType = some .int) (hk30 : ∀ (x1 : Int32) (σ : Sg) (H : Heap) (locs : List Loc) (ls : Array Slot), St D ad 75 (shB cy ad) A s σ H locs → lv_has ls 3 [(1, .int x1)] → k30 x1 σ → W p l e ({ frames := 0, cells := 0, slots := 0, locals := 0 }) s m args below meth c H locs 0 0 (MQ below (va_Qi Q (PosW D (tyB cy) ad 75 (shB cy ad) A) A) args s 0 0 A) (F0 m 30 ls [])) : ∀ (n : Nat) (x1 : Int32) (x2 : Int32) (σ : Sg) (H : Heap) (locs : List Loc) (ls : Array Slot), St D ad 75 (shB cy ad) A s σ H locs → lv_has ls 3 [(0, .ref (ad 8)), (1, .int x1), (2, .int x2)] → wX4_howManyOut_L4 k30 Q n x1 x2 σ → W p l e ({ frames := 0, cells := 0, slots := 0, locals := 0 }) s m args below meth c H locs 0 0 (MQ below (va_Qi Q (PosW D (tyB cy) ad 75 (shB cy ad) A) A) args s 0 0 A) (F0 m 4 ls []) := by
  have hx := X.1
  have hb := X.2.1
  intro n
  induction n with
  | zero =>
    intro _ _ _ _ _ _ _ _ h
    exact absurd h (by unfold wX4_howManyOut_L4; exact id)
  | succ n ih =>
    intro x1 x2 σ H locs ls S hl h
    unfold wX4_howManyOut_L4 at h
    refine lv_iload_n hx hb dX4_howManyOut_4 rfl (lv_at hl 2 rfl) ?_
    refine lv_aload_n hx hb dX4_howManyOut_5 rfl (lv_at hl 0 rfl) ?_
    refine o_get X S 8 0 (by decide) rfl rfl in_4 (by decide) k_156 rfl dX4_howManyOut_6 ?_
    refine lv_icmp_ge (tgt := 30) hx hb dX4_howManyOut_9 (by decide) (fun q_1 => ?_) (fun q_1 => ?_)
    · replace h := h.1 q_1
      exact hk30 _ _ _ _ _ S (lv_sub hl [1] rfl) h
    · replace h := h.2 q_1
      refine lv_aload_n hx hb dX4_howManyOut_12 rfl (lv_at hl 0 rfl) ?_
      refine o_get X S 8 1 (by decide) rfl rfl in_4 (by decide) k_158 rfl dX4_howManyOut_13 ?_
      refine lv_iload_n hx hb dX4_howManyOut_16 rfl (lv_at hl 2 rfl) ?_
      refine o_zald X S 9 1 (by decide) (fun _ => rfl) rfl h.1 dX4_howManyOut_17 ?_
      replace h := h.2
      refine lv_if_eq (tgt := 24) hx hb dX4_howManyOut_18 (by decide) (fun q_2 => ?_) (fun q_2 => ?_)
      · replace h := h.1 q_2
        exact mX4_howManyOut_b24 l X hr x1 x2 hk30 ih S (lv_sub hl [0, 1, 2] rfl) h
      · replace h := h.2 q_2
        obtain ⟨x1_4, ex1_4⟩ : ∃ y : Int32, y = x1 + 1 := ⟨_, rfl⟩
        replace h := h x1_4 ex1_4
        refine lv_iinc (v := x1_4) (lv' := [(1, .int x1_4), (0, .ref (ad 8)), (2, .int x2)]) hx hb dX4_howManyOut_21 hl (k := 1) rfl (by rw [ex1_4]; rfl) (by decide) rfl (fun ls hl => ?_)
        exact mX4_howManyOut_b24 l X hr x1_4 x2 hk30 ih S (lv_sub hl [1, 0, 2] rfl) h
set_option maxHeartbeats 4000000 in
set_option maxRecDepth 100000 in
theorem mX4_howManyOut {D : va_G} {cy : Nat → ClassId} {ad z : Nat → Nat} (l : Launch) (σ : Sg) (Q : Int32 → Sg → Prop) (h : wX4_howManyOut σ Q) : MIB D cy ad z l yX4_howManyOut (.code yX4_howManyOut cX4_howManyOut 3 (some .int) :: gT) ({ frames := 0, cells := 0, slots := 0, locals := 0 }) [.ref (ad 8)] σ Q := by
  refine metI_of (by decide +kernel) (Nat.le_of_ble_eq_true rfl) ?_
  intro p e s m args below meth c A ls X hr hl S
  have X : Fx D (tyB cy) (EvB z) p s m args meth c cX4_howManyOut 3 "BackBay$Gauges" A := X
  have hl : lv_has ls 3 [(0, .ref (ad 8))] := hl
  have hx := X.1
  have hb := X.2.1
  unfold wX4_howManyOut at h
  refine lv_iconst (v := 0) hx hb dX4_howManyOut_0 (by decide) ?_
  refine lv_istore_n (lv' := [(1, .int 0), (0, .ref (ad 8))]) hx hb dX4_howManyOut_1 rfl hl (by decide) rfl (fun ls hl => ?_)
  refine lv_iconst (v := 0) hx hb dX4_howManyOut_2 (by decide) ?_
  refine lv_istore_n (lv' := [(2, .int 0), (1, .int 0), (0, .ref (ad 8))]) hx hb dX4_howManyOut_3 rfl hl (by decide) rfl (fun ls hl => ?_)
  obtain ⟨n_4, h⟩ := h
  refine mX4_howManyOut_L4 l X hr ?_ n_4 _ _ _ _ _ _ S (lv_sub hl [2, 1, 0] rfl) h
  · intro x1_5 σ_6 H locs ls S hl h
    refine lv_iload_n hx hb dX4_howManyOut_30 rfl (lv_at hl 0 rfl) ?_
    exact o_iret X S hr h dX4_howManyOut_31
def wX4_counts_b24 (y0 : Int32) (σ : Sg) (Q : Int32 → Sg → Prop) : Prop :=
  (bok y0 ∧ Q y0 σ)
def wX4_counts_b23 (σ : Sg) (Q : Int32 → Sg → Prop) : Prop :=
  wX4_counts_b24 0 σ Q
def wX4_counts (x1 : Int32) (x2 : Int32) (σ : Sg) (Q : Int32 → Sg → Prop) : Prop :=
  (vp_in x1 12 ∧ (((σ 9 x1.toNatClampNeg) = 0 → (vp_in x1 12 ∧ ((x2 ≤ (σ 10 x1.toNatClampNeg) → wX4_counts_b23 σ Q) ∧ (¬ x2 ≤ (σ 10 x1.toNatClampNeg) → wX4_counts_b24 1 σ Q)))) ∧ (¬ (σ 9 x1.toNatClampNeg) = 0 → wX4_counts_b23 σ Q)))
set_option maxHeartbeats 4000000 in
set_option maxRecDepth 100000 in
theorem mX4_counts_b24 {D : va_G} {cy : Nat → ClassId} {ad z : Nat → Nat} (l : Launch) {p : Program} {e : Env} {s : State} {m : MethodId} {args : Array Value} {below : List Frame} {meth : Method} {c : Code} {A : Nat → Prop} {Q : Int32 → Sg → Prop} (X : Fx D (tyB cy) (EvB z) p s m args meth c cX4_counts 3 "BackBay$Gauges" A) (hr : meth.sig.returnType = some .boolean) (y0 : Int32) {σ : Sg} {H : Heap} {locs : List Loc} {ls : Array Slot} (S : St D ad 75 (shB cy ad) A s σ H locs) (hl : lv_has ls 3 []) (h : wX4_counts_b24 y0 σ Q) : W p l e ({ frames := 0, cells := 0, slots := 0, locals := 0 }) s m args below meth c H locs 0 0 (MQ below (va_Qi Q (PosW D (tyB cy) ad 75 (shB cy ad) A) A) args s 0 0 A) (F0 m 24 ls [.int y0]) := by
  have hx := X.1
  have hb := X.2.1
  unfold wX4_counts_b24 at h
  exact o_zret X S hr h.1 h.2 dX4_counts_24
set_option maxHeartbeats 4000000 in
set_option maxRecDepth 100000 in
theorem mX4_counts_b23 {D : va_G} {cy : Nat → ClassId} {ad z : Nat → Nat} (l : Launch) {p : Program} {e : Env} {s : State} {m : MethodId} {args : Array Value} {below : List Frame} {meth : Method} {c : Code} {A : Nat → Prop} {Q : Int32 → Sg → Prop} (X : Fx D (tyB cy) (EvB z) p s m args meth c cX4_counts 3 "BackBay$Gauges" A) (hr : meth.sig.returnType = some .boolean) {σ : Sg} {H : Heap} {locs : List Loc} {ls : Array Slot} (S : St D ad 75 (shB cy ad) A s σ H locs) (hl : lv_has ls 3 []) (h : wX4_counts_b23 σ Q) : W p l e ({ frames := 0, cells := 0, slots := 0, locals := 0 }) s m args below meth c H locs 0 0 (MQ below (va_Qi Q (PosW D (tyB cy) ad 75 (shB cy ad) A) A) args s 0 0 A) (F0 m 23 ls []) := by
  have hx := X.1
  have hb := X.2.1
  unfold wX4_counts_b23 at h
  refine lv_iconst (v := 0) hx hb dX4_counts_23 (by decide) ?_
  exact mX4_counts_b24 l X hr 0 S (lv_sub hl [] rfl) h
set_option maxHeartbeats 4000000 in
set_option maxRecDepth 100000 in
theorem mX4_counts {D : va_G} {cy : Nat → ClassId} {ad z : Nat → Nat} (l : Launch) (x1 : Int32) (x2 : Int32) (σ : Sg) (Q : Int32 → Sg → Prop) (h : wX4_counts x1 x2 σ Q) : MIB D cy ad z l yX4_counts (.code yX4_counts cX4_counts 3 (some .boolean) :: gT) ({ frames := 0, cells := 0, slots := 0, locals := 0 }) [.ref (ad 8), .int x1, .int x2] σ Q := by
  refine metI_of (by decide +kernel) (Nat.le_of_ble_eq_true rfl) ?_
  intro p e s m args below meth c A ls X hr hl S
  have X : Fx D (tyB cy) (EvB z) p s m args meth c cX4_counts 3 "BackBay$Gauges" A := X
  have hl : lv_has ls 3 [(0, .ref (ad 8)), (1, .int x1), (2, .int x2)] := hl
  have hx := X.1
  have hb := X.2.1
  unfold wX4_counts at h
  refine lv_aload_n hx hb dX4_counts_0 rfl (lv_at hl 0 rfl) ?_
  refine o_get X S 8 1 (by decide) rfl rfl in_4 (by decide) k_158 rfl dX4_counts_1 ?_
  refine lv_iload_n hx hb dX4_counts_4 rfl (lv_at hl 1 rfl) ?_
  refine o_zald X S 9 1 (by decide) (fun _ => rfl) rfl h.1 dX4_counts_5 ?_
  replace h := h.2
  refine lv_if_ne (tgt := 23) hx hb dX4_counts_6 (by decide) (fun q_1 => ?_) (fun q_1 => ?_)
  · replace h := h.2 q_1
    exact mX4_counts_b23 l X hr S (lv_sub hl [] rfl) h
  · replace h := h.1 q_1
    refine lv_aload_n hx hb dX4_counts_9 rfl (lv_at hl 0 rfl) ?_
    refine o_get X S 8 2 (by decide) rfl rfl in_4 (by decide) k_160 rfl dX4_counts_10 ?_
    refine lv_iload_n hx hb dX4_counts_13 rfl (lv_at hl 1 rfl) ?_
    refine o_iald X S 10 0 (by decide) (fun _ => rfl) rfl h.1 dX4_counts_14 ?_
    replace h := h.2
    refine lv_iload_n hx hb dX4_counts_15 rfl (lv_at hl 2 rfl) ?_
    refine lv_icmp_ge (tgt := 23) hx hb dX4_counts_16 (by decide) (fun q_2 => ?_) (fun q_2 => ?_)
    · replace h := h.1 q_2
      exact mX4_counts_b23 l X hr S (lv_sub hl [] rfl) h
    · replace h := h.2 q_2
      refine lv_iconst (v := 1) hx hb dX4_counts_19 (by decide) ?_
      refine lv_goto (tgt := 24) hx hb dX4_counts_20 (by decide) ?_
      exact mX4_counts_b24 l X hr 1 S (lv_sub hl [] rfl) h
def wX4_last_b32 (x1 : Int32) (x2 : Int32) (x3 : Int32) (σ : Sg) (k38 : Int32 → Sg → Prop) (kb4 : Int32 → Int32 → Sg → Prop) (Q : Int32 → Sg → Prop) : Prop :=
  (∀ x3_5 : Int32, x3_5 = x3 + 1 → kb4 x2 x3_5 σ)
def wX4_last_L4 (x1 : Int32) (k38 : Int32 → Sg → Prop) (Q : Int32 → Sg → Prop) : Nat → Int32 → Int32 → Sg → Prop
  | 0, _, _, _ => False
  | nn4 + 1, x2, x3, σ =>
  (((σ 8 0) ≤ x3 → k38 x2 σ) ∧ (¬ (σ 8 0) ≤ x3 → (wX4_counts x3 x1 σ (fun r_2 σ_3 => ((r_2 = 0 → wX4_last_b32 x1 x2 x3 σ_3 k38 (wX4_last_L4 x1 k38 Q nn4) Q) ∧ (¬ r_2 = 0 → (vp_in x3 12 ∧ (∀ x2_6, x2_6 = (if x2 < (σ_3 11 x3.toNatClampNeg) then (σ_3 11 x3.toNatClampNeg) else x2) → wX4_last_b32 x1 x2_6 x3 σ_3 k38 (wX4_last_L4 x1 k38 Q nn4) Q))))))))
def wX4_last (x1 : Int32) (σ : Sg) (Q : Int32 → Sg → Prop) : Prop :=
  (∃ nf, wX4_last_L4 x1 (fun x2_7 σ_8 => Q x2_7 σ_8) Q nf 0 0 σ)
set_option maxHeartbeats 4000000 in
set_option maxRecDepth 100000 in
theorem mX4_last_b32 {D : va_G} {cy : Nat → ClassId} {ad z : Nat → Nat} (l : Launch) {p : Program} {e : Env} {s : State} {m : MethodId} {args : Array Value} {below : List Frame} {meth : Method} {c : Code} {A : Nat → Prop} {k38 : Int32 → Sg → Prop} {kb4 : Int32 → Int32 → Sg → Prop} {Q : Int32 → Sg → Prop} (X : Fx D (tyB cy) (EvB z) p s m args meth c cX4_last 4 "BackBay$Gauges" A) (hr : meth.sig.returnType = some .int) (x1 : Int32) (x2 : Int32) (x3 : Int32) (hk38 : ∀ (x2 : Int32) (σ : Sg) (H : Heap) (locs : List Loc) (ls : Array Slot), St D ad 75 (shB cy ad) A s σ H locs → lv_has ls 4 [(2, .int x2)] → k38 x2 σ → W p l e ({ frames := 1, cells := 0, slots := 0, locals := 24 }) s m args below meth c H locs 0 0 (MQ below (va_Qi Q (PosW D (tyB cy) ad 75 (shB cy ad) A) A) args s 0 0 A) (F0 m 38 ls [])) (hkb4 : ∀ (x2 : Int32) (x3 : Int32) (σ : Sg) (H : Heap) (locs : List Loc) (ls : Array Slot), St D ad 75 (shB cy ad) A s σ H locs → lv_has ls 4 [(0, .ref (ad 8)), (1, .int x1), (2, .int x2), (3, .int x3)] → kb4 x2 x3 σ → W p l e ({ frames := 1, cells := 0, slots := 0, locals := 24 }) s m args below meth c H locs 0 0 (MQ below (va_Qi Q (PosW D (tyB cy) ad 75 (shB cy ad) A) A) args s 0 0 A) (F0 m 4 ls [])) {σ : Sg} {H : Heap} {locs : List Loc} {ls : Array Slot} (S : St D ad 75 (shB cy ad) A s σ H locs) (hl : lv_has ls 4 [(0, .ref (ad 8)), (1, .int x1), (2, .int x2), (3, .int x3)]) (h : wX4_last_b32 x1 x2 x3 σ k38 kb4 Q) : W p l e ({ frames := 1, cells := 0, slots := 0, locals := 24 }) s m args below meth c H locs 0 0 (MQ below (va_Qi Q (PosW D (tyB cy) ad 75 (shB cy ad) A) A) args s 0 0 A) (F0 m 32 ls []) := by
  have hx := X.1
  have hb := X.2.1
  unfold wX4_last_b32 at h
  obtain ⟨x3_5, ex3_5⟩ : ∃ y : Int32, y = x3 + 1 := ⟨_, rfl⟩
  replace h := h x3_5 ex3_5
  refine lv_iinc (v := x3_5) (lv' := [(3, .int x3_5), (0, .ref (ad 8)), (1, .int x1), (2, .int x2)]) hx hb dX4_last_32 hl (k := 3) rfl (by rw [ex3_5]; rfl) (by decide) rfl (fun ls hl => ?_)
  refine lv_goto (tgt := 4) hx hb dX4_last_35 (by decide) ?_
  exact hkb4 _ _ _ _ _ _ S (lv_sub hl [1, 2, 3, 0] rfl) h
set_option maxHeartbeats 4000000 in
set_option maxRecDepth 100000 in
theorem mX4_last_L4 {D : va_G} {cy : Nat → ClassId} {ad z : Nat → Nat} (l : Launch) {p : Program} {e : Env} {s : State} {m : MethodId} {args : Array Value} {below : List Frame} {meth : Method} {c : Code} {A : Nat → Prop} {k38 : Int32 → Sg → Prop} {Q : Int32 → Sg → Prop} (X : Fx D (tyB cy) (EvB z) p s m args meth c cX4_last 4 "BackBay$Gauges" A) (hr : meth.sig.returnType = some .int) (x1 : Int32) (hk38 : ∀ (x2 : Int32) (σ : Sg) (H : Heap) (locs : List Loc) (ls : Array Slot), St D ad 75 (shB cy ad) A s σ H locs → lv_has ls 4 [(2, .int x2)] → k38 x2 σ → W p l e ({ frames := 1, cells := 0, slots := 0, locals := 24 }) s m args below meth c H locs 0 0 (MQ below (va_Qi Q (PosW D (tyB cy) ad 75 (shB cy ad) A) A) args s 0 0 A) (F0 m 38 ls [])) : ∀ (n : Nat) (x2 : Int32) (x3 : Int32) (σ : Sg) (H : Heap) (locs : List Loc) (ls : Array Slot), St D ad 75 (shB cy ad) A s σ H locs → lv_has ls 4 [(0, .ref (ad 8)), (1, .int x1), (2, .int x2), (3, .int x3)] → wX4_last_L4 x1 k38 Q n x2 x3 σ → W p l e ({ frames := 1, cells := 0, slots := 0, locals := 24 }) s m args below meth c H locs 0 0 (MQ below (va_Qi Q (PosW D (tyB cy) ad 75 (shB cy ad) A) A) args s 0 0 A) (F0 m 4 ls []) := by
  have hx := X.1
  have hb := X.2.1
  intro n
  induction n with
  | zero =>
    intro _ _ _ _ _ _ _ _ h
    exact absurd h (by unfold wX4_last_L4; exact id)
  | succ n ih =>
    intro x2 x3 σ H locs ls S hl h
    unfold wX4_last_L4 at h
    refine lv_iload_n hx hb dX4_last_4 rfl (lv_at hl 3 rfl) ?_
    refine lv_aload_n hx hb dX4_last_5 rfl (lv_at hl 0 rfl) ?_
    refine o_get X S 8 0 (by decide) rfl rfl in_4 (by decide) k_156 rfl dX4_last_6 ?_
    refine lv_icmp_ge (tgt := 38) hx hb dX4_last_9 (by decide) (fun q_1 => ?_) (fun q_1 => ?_)
    · replace h := h.1 q_1
      exact hk38 _ _ _ _ _ S (lv_sub hl [2] rfl) h
    · replace h := h.2 q_1
      refine lv_aload_n hx hb dX4_last_12 rfl (lv_at hl 0 rfl) ?_
      refine lv_iload_n hx hb dX4_last_13 rfl (lv_at hl 3 rfl) ?_
      refine lv_iload_n hx hb dX4_last_14 rfl (lv_at hl 1 rfl) ?_
      refine o_callVi (k := 2) (EvB_ok z) X S (mX4_counts l x3 x1 σ _ h) (by decide) rfl rfl k_632 k_629 k_631 ks_15 k_6 ⟨rfl, by decide, by decide, by decide +kernel⟩ ⟨rfl, rfl⟩ ⟨Nat.le_of_ble_eq_true rfl, Nat.le_of_ble_eq_true rfl⟩ rfl hl.1 rfl (Nat.le_of_ble_eq_true rfl) dX4_last_15 (fun r_2 σ_3 H locs h S => ?_)
      refine lv_if_eq (tgt := 32) hx hb dX4_last_18 (by decide) (fun q_4 => ?_) (fun q_4 => ?_)
      · replace h := h.1 q_4
        exact mX4_last_b32 l X hr x1 x2 x3 hk38 ih S (lv_sub hl [0, 1, 2, 3] rfl) h
      · replace h := h.2 q_4
        refine lv_iload_n hx hb dX4_last_21 rfl (lv_at hl 2 rfl) ?_
        refine lv_aload_n hx hb dX4_last_22 rfl (lv_at hl 0 rfl) ?_
        refine o_get X S 8 3 (by decide) rfl rfl in_4 (by decide) k_161 rfl dX4_last_23 ?_
        refine lv_iload_n hx hb dX4_last_26 rfl (lv_at hl 3 rfl) ?_
        refine o_iald X S 11 0 (by decide) (fun _ => rfl) rfl h.1 dX4_last_27 ?_
        replace h := h.2
        refine va_mmax hx hb (X.2.2.1.trans hl.1.symm) X.2.2.2.1 (X.2.2.2.2.1 _ k_633) (X.2.2.2.2.1 _ k_634) (X.2.2.2.2.1 _ k_20) (X.2.2.2.2.1 _ k_635) (Nat.le_of_ble_eq_true rfl) (Nat.le_of_ble_eq_true rfl) (Nat.zero_le _) (Nat.zero_le _) dX4_last_28 ?_
        refine lv_topi (fun x2_6 ex2_6 => ?_)
        replace h := h x2_6 ex2_6
        refine lv_istore_n (lv' := [(2, .int x2_6), (0, .ref (ad 8)), (1, .int x1), (3, .int x3)]) hx hb dX4_last_31 rfl hl (by decide) rfl (fun ls hl => ?_)
        exact mX4_last_b32 l X hr x1 x2_6 x3 hk38 ih S (lv_sub hl [1, 2, 0, 3] rfl) h
set_option maxHeartbeats 4000000 in
set_option maxRecDepth 100000 in
theorem mX4_last {D : va_G} {cy : Nat → ClassId} {ad z : Nat → Nat} (l : Launch) (x1 : Int32) (σ : Sg) (Q : Int32 → Sg → Prop) (h : wX4_last x1 σ Q) : MIB D cy ad z l yX4_last (.code yX4_last cX4_last 4 (some .int) :: gT) ({ frames := 1, cells := 0, slots := 0, locals := 24 }) [.ref (ad 8), .int x1] σ Q := by
  refine metI_of (by decide +kernel) (Nat.le_of_ble_eq_true rfl) ?_
  intro p e s m args below meth c A ls X hr hl S
  have X : Fx D (tyB cy) (EvB z) p s m args meth c cX4_last 4 "BackBay$Gauges" A := X
  have hl : lv_has ls 4 [(0, .ref (ad 8)), (1, .int x1)] := hl
  have hx := X.1
  have hb := X.2.1
  unfold wX4_last at h
  refine lv_iconst (v := 0) hx hb dX4_last_0 (by decide) ?_
  refine lv_istore_n (lv' := [(2, .int 0), (0, .ref (ad 8)), (1, .int x1)]) hx hb dX4_last_1 rfl hl (by decide) rfl (fun ls hl => ?_)
  refine lv_iconst (v := 0) hx hb dX4_last_2 (by decide) ?_
  refine lv_istore_n (lv' := [(3, .int 0), (2, .int 0), (0, .ref (ad 8)), (1, .int x1)]) hx hb dX4_last_3 rfl hl (by decide) rfl (fun ls hl => ?_)
  obtain ⟨n_4, h⟩ := h
  refine mX4_last_L4 l X hr x1 ?_ n_4 _ _ _ _ _ _ S (lv_sub hl [2, 3, 1, 0] rfl) h
  · intro x2_7 σ_8 H locs ls S hl h
    refine lv_iload_n hx hb dX4_last_38 rfl (lv_at hl 0 rfl) ?_
    exact o_iret X S hr h dX4_last_39
def wX4_offBy (u : Nat) (x1 : Int32) (σ : Sg) (Q : Int32 → Sg → Prop) : Prop :=
  (vp_in x1 12 ∧ (vp_in x1 12 ∧ (wX2_behind u (σ 11 x1.toNatClampNeg) (σ 10 x1.toNatClampNeg) σ (fun r_1 σ_2 => (vp_in x1 12 ∧ Q (r_1 - (σ_2 13 x1.toNatClampNeg)) σ_2)))))
set_option maxHeartbeats 4000000 in
set_option maxRecDepth 100000 in
theorem mX4_offBy {D : va_G} {cy : Nat → ClassId} {ad z : Nat → Nat} (l : Launch) {u : Nat} (hu : isCou u) (x1 : Int32) (σ : Sg) (Q : Int32 → Sg → Prop) (h : wX4_offBy u x1 σ Q) : MIB D cy ad z l yX4_offBy (.code yX4_offBy cX4_offBy 3 (some .int) :: gT) ({ frames := 1, cells := 0, slots := 0, locals := 22 }) [.ref (ad 8), .int x1, .ref (ad u)] σ Q := by
  refine metI_of (by decide +kernel) (Nat.le_of_ble_eq_true rfl) ?_
  intro p e s m args below meth c A ls X hr hl S
  have X : Fx D (tyB cy) (EvB z) p s m args meth c cX4_offBy 3 "BackBay$Gauges" A := X
  have hl : lv_has ls 3 [(0, .ref (ad 8)), (1, .int x1), (2, .ref (ad u))] := hl
  have hx := X.1
  have hb := X.2.1
  unfold wX4_offBy at h
  refine lv_aload_n hx hb dX4_offBy_0 rfl (lv_at hl 2 rfl) ?_
  refine lv_aload_n hx hb dX4_offBy_1 rfl (lv_at hl 0 rfl) ?_
  refine o_get X S 8 3 (by decide) rfl rfl in_4 (by decide) k_161 rfl dX4_offBy_2 ?_
  refine lv_iload_n hx hb dX4_offBy_5 rfl (lv_at hl 1 rfl) ?_
  refine o_iald X S 11 0 (by decide) (fun _ => rfl) rfl h.1 dX4_offBy_6 ?_
  replace h := h.2
  refine lv_aload_n hx hb dX4_offBy_7 rfl (lv_at hl 0 rfl) ?_
  refine o_get X S 8 2 (by decide) rfl rfl in_4 (by decide) k_160 rfl dX4_offBy_8 ?_
  refine lv_iload_n hx hb dX4_offBy_11 rfl (lv_at hl 1 rfl) ?_
  refine o_iald X S 10 0 (by decide) (fun _ => rfl) rfl h.1 dX4_offBy_12 ?_
  replace h := h.2
  refine o_callVi (k := 2) (EvB_ok z) X S (mX2_behind l hu (σ 11 x1.toNatClampNeg) (σ 10 x1.toNatClampNeg) σ _ h) (isCou_lt hu 0 (by decide)) ((shC0 hu) _) rfl k_600 k_644 k_598 k_599 k_8 ⟨rfl, by decide, by decide, by decide +kernel⟩ ⟨rfl, rfl⟩ ⟨Nat.le_of_ble_eq_true rfl, Nat.le_of_ble_eq_true rfl⟩ rfl hl.1 rfl (Nat.le_of_ble_eq_true rfl) dX4_offBy_13 (fun r_1 σ_2 H locs h S => ?_)
  refine lv_aload_n hx hb dX4_offBy_16 rfl (lv_at hl 0 rfl) ?_
  refine o_get X S 8 5 (by decide) rfl rfl in_4 (by decide) k_163 rfl dX4_offBy_17 ?_
  refine lv_iload_n hx hb dX4_offBy_20 rfl (lv_at hl 1 rfl) ?_
  refine o_iald X S 13 0 (by decide) (fun _ => rfl) rfl h.1 dX4_offBy_21 ?_
  replace h := h.2
  refine lv_isub hx hb dX4_offBy_22 ?_
  exact o_iret X S hr h dX4_offBy_23
def wX4_total_b49 (u : Nat) (x2 : Int32) (x3 : Int32) (x4 : Int32) (σ : Sg) (k55 : Int32 → Sg → Prop) (kb5 : Int32 → Int32 → Sg → Prop) (Q : Int32 → Sg → Prop) : Prop :=
  (∀ x4_5 : Int32, x4_5 = x4 + 1 → kb5 x3 x4_5 σ)
def wX4_total_L5 (u : Nat) (x2 : Int32) (k55 : Int32 → Sg → Prop) (Q : Int32 → Sg → Prop) : Nat → Int32 → Int32 → Sg → Prop
  | 0, _, _, _ => False
  | nn5 + 1, x3, x4, σ =>
  (((σ 8 0) ≤ x4 → k55 x3 σ) ∧ (¬ (σ 8 0) ≤ x4 → (wX4_counts x4 x2 σ (fun r_2 σ_3 => ((r_2 = 0 → wX4_total_b49 u x2 x3 x4 σ_3 k55 (wX4_total_L5 u x2 k55 Q nn5) Q) ∧ (¬ r_2 = 0 → (wX4_offBy u x4 σ_3 (fun r_6 σ_7 => (vp_in x4 12 ∧ (∀ x3_8, x3_8 = (x3 + (((σ_7 12 x4.toNatClampNeg) * r_6) * r_6)) → wX4_total_b49 u x2 x3_8 x4 σ_7 k55 (wX4_total_L5 u x2 k55 Q nn5) Q))))))))))
def wX4_total (u : Nat) (x2 : Int32) (σ : Sg) (Q : Int32 → Sg → Prop) : Prop :=
  (∃ nf, wX4_total_L5 u x2 (fun x3_9 σ_10 => Q x3_9 σ_10) Q nf 0 0 σ)
set_option maxHeartbeats 4000000 in
set_option maxRecDepth 100000 in
theorem mX4_total_b49 {D : va_G} {cy : Nat → ClassId} {ad z : Nat → Nat} (l : Launch) {u : Nat} (hu : isCou u) {p : Program} {e : Env} {s : State} {m : MethodId} {args : Array Value} {below : List Frame} {meth : Method} {c : Code} {A : Nat → Prop} {k55 : Int32 → Sg → Prop} {kb5 : Int32 → Int32 → Sg → Prop} {Q : Int32 → Sg → Prop} (X : Fx D (tyB cy) (EvB z) p s m args meth c cX4_total 6 "BackBay$Gauges" A) (hr : meth.sig.returnType = some .int) (x2 : Int32) (x3 : Int32) (x4 : Int32) (hk55 : ∀ (x3 : Int32) (σ : Sg) (H : Heap) (locs : List Loc) (ls : Array Slot), St D ad 75 (shB cy ad) A s σ H locs → lv_has ls 6 [(3, .int x3)] → k55 x3 σ → W p l e ({ frames := 2, cells := 0, slots := 0, locals := 44 }) s m args below meth c H locs 0 0 (MQ below (va_Qi Q (PosW D (tyB cy) ad 75 (shB cy ad) A) A) args s 0 0 A) (F0 m 55 ls [])) (hkb5 : ∀ (x3 : Int32) (x4 : Int32) (σ : Sg) (H : Heap) (locs : List Loc) (ls : Array Slot), St D ad 75 (shB cy ad) A s σ H locs → lv_has ls 6 [(0, .ref (ad 8)), (1, .ref (ad u)), (2, .int x2), (3, .int x3), (4, .int x4)] → kb5 x3 x4 σ → W p l e ({ frames := 2, cells := 0, slots := 0, locals := 44 }) s m args below meth c H locs 0 0 (MQ below (va_Qi Q (PosW D (tyB cy) ad 75 (shB cy ad) A) A) args s 0 0 A) (F0 m 5 ls [])) {σ : Sg} {H : Heap} {locs : List Loc} {ls : Array Slot} (S : St D ad 75 (shB cy ad) A s σ H locs) (hl : lv_has ls 6 [(0, .ref (ad 8)), (1, .ref (ad u)), (2, .int x2), (3, .int x3), (4, .int x4)]) (h : wX4_total_b49 u x2 x3 x4 σ k55 kb5 Q) : W p l e ({ frames := 2, cells := 0, slots := 0, locals := 44 }) s m args below meth c H locs 0 0 (MQ below (va_Qi Q (PosW D (tyB cy) ad 75 (shB cy ad) A) A) args s 0 0 A) (F0 m 49 ls []) := by
  have hx := X.1
  have hb := X.2.1
  unfold wX4_total_b49 at h
  obtain ⟨x4_5, ex4_5⟩ : ∃ y : Int32, y = x4 + 1 := ⟨_, rfl⟩
  replace h := h x4_5 ex4_5
  refine lv_iinc (v := x4_5) (lv' := [(4, .int x4_5), (0, .ref (ad 8)), (1, .ref (ad u)), (2, .int x2), (3, .int x3)]) hx hb dX4_total_49 hl (k := 4) rfl (by rw [ex4_5]; rfl) (by decide) rfl (fun ls hl => ?_)
  refine lv_goto (tgt := 5) hx hb dX4_total_52 (by decide) ?_
  exact hkb5 _ _ _ _ _ _ S (lv_sub hl [1, 2, 3, 4, 0] rfl) h
set_option maxHeartbeats 4000000 in
set_option maxRecDepth 100000 in
theorem mX4_total_L5 {D : va_G} {cy : Nat → ClassId} {ad z : Nat → Nat} (l : Launch) {u : Nat} (hu : isCou u) {p : Program} {e : Env} {s : State} {m : MethodId} {args : Array Value} {below : List Frame} {meth : Method} {c : Code} {A : Nat → Prop} {k55 : Int32 → Sg → Prop} {Q : Int32 → Sg → Prop} (X : Fx D (tyB cy) (EvB z) p s m args meth c cX4_total 6 "BackBay$Gauges" A) (hr : meth.sig.returnType = some .int) (x2 : Int32) (hk55 : ∀ (x3 : Int32) (σ : Sg) (H : Heap) (locs : List Loc) (ls : Array Slot), St D ad 75 (shB cy ad) A s σ H locs → lv_has ls 6 [(3, .int x3)] → k55 x3 σ → W p l e ({ frames := 2, cells := 0, slots := 0, locals := 44 }) s m args below meth c H locs 0 0 (MQ below (va_Qi Q (PosW D (tyB cy) ad 75 (shB cy ad) A) A) args s 0 0 A) (F0 m 55 ls [])) : ∀ (n : Nat) (x3 : Int32) (x4 : Int32) (σ : Sg) (H : Heap) (locs : List Loc) (ls : Array Slot), St D ad 75 (shB cy ad) A s σ H locs → lv_has ls 6 [(0, .ref (ad 8)), (1, .ref (ad u)), (2, .int x2), (3, .int x3), (4, .int x4)] → wX4_total_L5 u x2 k55 Q n x3 x4 σ → W p l e ({ frames := 2, cells := 0, slots := 0, locals := 44 }) s m args below meth c H locs 0 0 (MQ below (va_Qi Q (PosW D (tyB cy) ad 75 (shB cy ad) A) A) args s 0 0 A) (F0 m 5 ls []) := by
  have hx := X.1
  have hb := X.2.1
  intro n
  induction n with
  | zero =>
    intro _ _ _ _ _ _ _ _ h
    exact absurd h (by unfold wX4_total_L5; exact id)
  | succ n ih =>
    intro x3 x4 σ H locs ls S hl h
    unfold wX4_total_L5 at h
    refine lv_iload hx hb dX4_total_5 (lv_at hl 4 rfl) ?_
    refine lv_aload_n hx hb dX4_total_7 rfl (lv_at hl 0 rfl) ?_
    refine o_get X S 8 0 (by decide) rfl rfl in_4 (by decide) k_156 rfl dX4_total_8 ?_
    refine lv_icmp_ge (tgt := 55) hx hb dX4_total_11 (by decide) (fun q_1 => ?_) (fun q_1 => ?_)
    · replace h := h.1 q_1
      exact hk55 _ _ _ _ _ S (lv_sub hl [3] rfl) h
    · replace h := h.2 q_1
      refine lv_aload_n hx hb dX4_total_14 rfl (lv_at hl 0 rfl) ?_
      refine lv_iload hx hb dX4_total_15 (lv_at hl 4 rfl) ?_
      refine lv_iload_n hx hb dX4_total_17 rfl (lv_at hl 2 rfl) ?_
      refine o_callVi (k := 2) (EvB_ok z) X S (mX4_counts l x4 x2 σ _ h) (by decide) rfl rfl k_632 k_629 k_631 ks_15 k_6 ⟨rfl, by decide, by decide, by decide +kernel⟩ ⟨rfl, rfl⟩ ⟨Nat.le_of_ble_eq_true rfl, Nat.le_of_ble_eq_true rfl⟩ rfl hl.1 rfl (Nat.le_of_ble_eq_true rfl) dX4_total_18 (fun r_2 σ_3 H locs h S => ?_)
      refine lv_if_eq (tgt := 49) hx hb dX4_total_21 (by decide) (fun q_4 => ?_) (fun q_4 => ?_)
      · replace h := h.1 q_4
        exact mX4_total_b49 l hu X hr x2 x3 x4 hk55 ih S (lv_sub hl [0, 1, 2, 3, 4] rfl) h
      · replace h := h.2 q_4
        refine lv_aload_n hx hb dX4_total_24 rfl (lv_at hl 0 rfl) ?_
        refine lv_iload hx hb dX4_total_25 (lv_at hl 4 rfl) ?_
        refine lv_aload_n hx hb dX4_total_27 rfl (lv_at hl 1 rfl) ?_
        refine o_callVi (k := 2) (EvB_ok z) X S (mX4_offBy l hu x4 σ_3 _ h) (by decide) rfl rfl k_643 k_640 k_642 ks_16 k_6 ⟨rfl, by decide, by decide, by decide +kernel⟩ ⟨rfl, rfl⟩ ⟨Nat.le_of_ble_eq_true rfl, Nat.le_of_ble_eq_true rfl⟩ rfl hl.1 rfl (Nat.le_of_ble_eq_true rfl) dX4_total_28 (fun r_6 σ_7 H locs h S => ?_)
        refine lv_istore (lv' := [(5, .int r_6), (0, .ref (ad 8)), (1, .ref (ad u)), (2, .int x2), (3, .int x3), (4, .int x4)]) hx hb dX4_total_31 hl (by decide) rfl (fun ls hl => ?_)
        refine lv_iload_n hx hb dX4_total_33 rfl (lv_at hl 4 rfl) ?_
        refine lv_aload_n hx hb dX4_total_34 rfl (lv_at hl 1 rfl) ?_
        refine o_get X S 8 4 (by decide) rfl rfl in_4 (by decide) k_162 rfl dX4_total_35 ?_
        refine lv_iload hx hb dX4_total_38 (lv_at hl 5 rfl) ?_
        refine o_iald X S 12 0 (by decide) (fun _ => rfl) rfl h.1 dX4_total_40 ?_
        replace h := h.2
        refine lv_iload hx hb dX4_total_41 (lv_at hl 0 rfl) ?_
        refine lv_imul hx hb dX4_total_43 ?_
        refine lv_iload hx hb dX4_total_44 (lv_at hl 0 rfl) ?_
        refine lv_imul hx hb dX4_total_46 ?_
        refine lv_iadd hx hb dX4_total_47 ?_
        refine lv_topi (fun x3_8 ex3_8 => ?_)
        replace h := h x3_8 ex3_8
        refine lv_istore_n (lv' := [(3, .int x3_8), (5, .int r_6), (0, .ref (ad 8)), (1, .ref (ad u)), (2, .int x2), (4, .int x4)]) hx hb dX4_total_48 rfl hl (by decide) rfl (fun ls hl => ?_)
        exact mX4_total_b49 l hu X hr x2 x3_8 x4 hk55 ih S (lv_sub hl [2, 3, 4, 0, 5] rfl) h
set_option maxHeartbeats 4000000 in
set_option maxRecDepth 100000 in
theorem mX4_total {D : va_G} {cy : Nat → ClassId} {ad z : Nat → Nat} (l : Launch) {u : Nat} (hu : isCou u) (x2 : Int32) (σ : Sg) (Q : Int32 → Sg → Prop) (h : wX4_total u x2 σ Q) : MIB D cy ad z l yX4_total (.code yX4_total cX4_total 6 (some .int) :: gT) ({ frames := 2, cells := 0, slots := 0, locals := 44 }) [.ref (ad 8), .ref (ad u), .int x2] σ Q := by
  refine metI_of (by decide +kernel) (Nat.le_of_ble_eq_true rfl) ?_
  intro p e s m args below meth c A ls X hr hl S
  have X : Fx D (tyB cy) (EvB z) p s m args meth c cX4_total 6 "BackBay$Gauges" A := X
  have hl : lv_has ls 6 [(0, .ref (ad 8)), (1, .ref (ad u)), (2, .int x2)] := hl
  have hx := X.1
  have hb := X.2.1
  unfold wX4_total at h
  refine lv_iconst (v := 0) hx hb dX4_total_0 (by decide) ?_
  refine lv_istore_n (lv' := [(3, .int 0), (0, .ref (ad 8)), (1, .ref (ad u)), (2, .int x2)]) hx hb dX4_total_1 rfl hl (by decide) rfl (fun ls hl => ?_)
  refine lv_iconst (v := 0) hx hb dX4_total_2 (by decide) ?_
  refine lv_istore (lv' := [(4, .int 0), (3, .int 0), (0, .ref (ad 8)), (1, .ref (ad u)), (2, .int x2)]) hx hb dX4_total_3 hl (by decide) rfl (fun ls hl => ?_)
  obtain ⟨n_5, h⟩ := h
  refine mX4_total_L5 l hu X hr x2 ?_ n_5 _ _ _ _ _ _ S (lv_sub hl [2, 3, 4, 1, 0] rfl) h
  · intro x3_9 σ_10 H locs ls S hl h
    refine lv_iload_n hx hb dX4_total_55 rfl (lv_at hl 0 rfl) ?_
    exact o_iret X S hr h dX4_total_56
def wX4_addSlopes_b63 (u : Nat) (x1 : Int32) (x3 : Int32) (x5 : Int32) (σ : Sg) (k69 : Sg → Prop) (kb3 : Int32 → Sg → Prop) (Q : Sg → Prop) : Prop :=
  (∀ x5_3 : Int32, x5_3 = x5 + 1 → kb3 x5_3 σ)
def wX4_addSlopes_L3 (u : Nat) (x1 : Int32) (x3 : Int32) (k69 : Sg → Prop) (Q : Sg → Prop) : Nat → Int32 → Sg → Prop
  | 0, _, _ => False
  | nn3 + 1, x5, σ =>
  (((σ 8 0) ≤ x5 → k69 σ) ∧ (¬ (σ 8 0) ≤ x5 → (vp_in x5 12 ∧ (((σ 11 x5.toNatClampNeg) = x1 → (wX4_counts x5 x3 σ (fun r_4 σ_5 => ((r_4 = 0 → wX4_addSlopes_b63 u x1 x3 x5 σ_5 k69 (wX4_addSlopes_L3 u x1 x3 k69 Q nn3) Q) ∧ (¬ r_4 = 0 → (vp_in x5 12 ∧ (vp_in (σ_5 10 x5.toNatClampNeg) 10 ∧ (vp_in x5 12 ∧ (wX4_offBy u x5 σ_5 (fun r_7 σ_8 => (vp_in (σ_5 10 x5.toNatClampNeg) 10 ∧ ∀ σ_9, σ_9 = sto σ_8 42 (σ_5 10 x5.toNatClampNeg).toNatClampNeg ((σ_5 42 (σ_5 10 x5.toNatClampNeg).toNatClampNeg) + ((2 * (σ_5 12 x5.toNatClampNeg)) * r_7)) → wX4_addSlopes_b63 u x1 x3 x5 σ_9 k69 (wX4_addSlopes_L3 u x1 x3 k69 Q nn3) Q))))))))))) ∧ (¬ (σ 11 x5.toNatClampNeg) = x1 → wX4_addSlopes_b63 u x1 x3 x5 σ k69 (wX4_addSlopes_L3 u x1 x3 k69 Q nn3) Q)))))
def wX4_addSlopes (u : Nat) (x1 : Int32) (x3 : Int32) (σ : Sg) (Q : Sg → Prop) : Prop :=
  (∃ nf, wX4_addSlopes_L3 u x1 x3 (fun σ_10 => Q σ_10) Q nf 0 σ)
set_option maxHeartbeats 4000000 in
set_option maxRecDepth 100000 in
theorem mX4_addSlopes_b63 {D : va_G} {cy : Nat → ClassId} {ad z : Nat → Nat} (l : Launch) {u : Nat} (hu : isCou u) {p : Program} {e : Env} {s : State} {m : MethodId} {args : Array Value} {below : List Frame} {meth : Method} {c : Code} {A : Nat → Prop} {k69 : Sg → Prop} {kb3 : Int32 → Sg → Prop} {Q : Sg → Prop} (X : Fx D (tyB cy) (EvB z) p s m args meth c cX4_addSlopes 6 "BackBay$Gauges" A) (hr : meth.sig.returnType = none) (x1 : Int32) (x3 : Int32) (x5 : Int32) (hk69 : ∀ (σ : Sg) (H : Heap) (locs : List Loc) (ls : Array Slot), St D ad 75 (shB cy ad) A s σ H locs → lv_has ls 6 [] → k69 σ → W p l e ({ frames := 2, cells := 0, slots := 0, locals := 44 }) s m args below meth c H locs 0 0 (MQ below (va_Qv Q (PosW D (tyB cy) ad 75 (shB cy ad) A) A) args s 0 0 A) (F0 m 69 ls [])) (hkb3 : ∀ (x5 : Int32) (σ : Sg) (H : Heap) (locs : List Loc) (ls : Array Slot), St D ad 75 (shB cy ad) A s σ H locs → lv_has ls 6 [(0, .ref (ad 8)), (1, .int x1), (2, .ref (ad u)), (3, .int x3), (4, .ref (ad 42)), (5, .int x5)] → kb3 x5 σ → W p l e ({ frames := 2, cells := 0, slots := 0, locals := 44 }) s m args below meth c H locs 0 0 (MQ below (va_Qv Q (PosW D (tyB cy) ad 75 (shB cy ad) A) A) args s 0 0 A) (F0 m 3 ls [])) {σ : Sg} {H : Heap} {locs : List Loc} {ls : Array Slot} (S : St D ad 75 (shB cy ad) A s σ H locs) (hl : lv_has ls 6 [(0, .ref (ad 8)), (1, .int x1), (2, .ref (ad u)), (3, .int x3), (4, .ref (ad 42)), (5, .int x5)]) (h : wX4_addSlopes_b63 u x1 x3 x5 σ k69 kb3 Q) : W p l e ({ frames := 2, cells := 0, slots := 0, locals := 44 }) s m args below meth c H locs 0 0 (MQ below (va_Qv Q (PosW D (tyB cy) ad 75 (shB cy ad) A) A) args s 0 0 A) (F0 m 63 ls []) := by
  have hx := X.1
  have hb := X.2.1
  unfold wX4_addSlopes_b63 at h
  obtain ⟨x5_3, ex5_3⟩ : ∃ y : Int32, y = x5 + 1 := ⟨_, rfl⟩
  replace h := h x5_3 ex5_3
  refine lv_iinc (v := x5_3) (lv' := [(5, .int x5_3), (0, .ref (ad 8)), (1, .int x1), (2, .ref (ad u)), (3, .int x3), (4, .ref (ad 42))]) hx hb dX4_addSlopes_63 hl (k := 5) rfl (by rw [ex5_3]; rfl) (by decide) rfl (fun ls hl => ?_)
  refine lv_goto (tgt := 3) hx hb dX4_addSlopes_66 (by decide) ?_
  exact hkb3 _ _ _ _ _ S (lv_sub hl [1, 2, 3, 4, 5, 0] rfl) h
set_option maxHeartbeats 4000000 in
set_option maxRecDepth 100000 in
theorem mX4_addSlopes_L3 {D : va_G} {cy : Nat → ClassId} {ad z : Nat → Nat} (l : Launch) {u : Nat} (hu : isCou u) {p : Program} {e : Env} {s : State} {m : MethodId} {args : Array Value} {below : List Frame} {meth : Method} {c : Code} {A : Nat → Prop} {k69 : Sg → Prop} {Q : Sg → Prop} (X : Fx D (tyB cy) (EvB z) p s m args meth c cX4_addSlopes 6 "BackBay$Gauges" A) (hr : meth.sig.returnType = none) (x1 : Int32) (x3 : Int32) (hk69 : ∀ (σ : Sg) (H : Heap) (locs : List Loc) (ls : Array Slot), St D ad 75 (shB cy ad) A s σ H locs → lv_has ls 6 [] → k69 σ → W p l e ({ frames := 2, cells := 0, slots := 0, locals := 44 }) s m args below meth c H locs 0 0 (MQ below (va_Qv Q (PosW D (tyB cy) ad 75 (shB cy ad) A) A) args s 0 0 A) (F0 m 69 ls [])) : ∀ (n : Nat) (x5 : Int32) (σ : Sg) (H : Heap) (locs : List Loc) (ls : Array Slot), St D ad 75 (shB cy ad) A s σ H locs → lv_has ls 6 [(0, .ref (ad 8)), (1, .int x1), (2, .ref (ad u)), (3, .int x3), (4, .ref (ad 42)), (5, .int x5)] → wX4_addSlopes_L3 u x1 x3 k69 Q n x5 σ → W p l e ({ frames := 2, cells := 0, slots := 0, locals := 44 }) s m args below meth c H locs 0 0 (MQ below (va_Qv Q (PosW D (tyB cy) ad 75 (shB cy ad) A) A) args s 0 0 A) (F0 m 3 ls []) := by
  have hx := X.1
  have hb := X.2.1
  intro n
  induction n with
  | zero =>
    intro _ _ _ _ _ _ _ h
    exact absurd h (by unfold wX4_addSlopes_L3; exact id)
  | succ n ih =>
    intro x5 σ H locs ls S hl h
    unfold wX4_addSlopes_L3 at h
    refine lv_iload hx hb dX4_addSlopes_3 (lv_at hl 5 rfl) ?_
    refine lv_aload_n hx hb dX4_addSlopes_5 rfl (lv_at hl 0 rfl) ?_
    refine o_get X S 8 0 (by decide) rfl rfl in_4 (by decide) k_156 rfl dX4_addSlopes_6 ?_
    refine lv_icmp_ge (tgt := 69) hx hb dX4_addSlopes_9 (by decide) (fun q_1 => ?_) (fun q_1 => ?_)
    · replace h := h.1 q_1
      exact hk69 _ _ _ _ S (lv_sub hl [] rfl) h
    · replace h := h.2 q_1
      refine lv_aload_n hx hb dX4_addSlopes_12 rfl (lv_at hl 0 rfl) ?_
      refine o_get X S 8 3 (by decide) rfl rfl in_4 (by decide) k_161 rfl dX4_addSlopes_13 ?_
      refine lv_iload hx hb dX4_addSlopes_16 (lv_at hl 5 rfl) ?_
      refine o_iald X S 11 0 (by decide) (fun _ => rfl) rfl h.1 dX4_addSlopes_18 ?_
      replace h := h.2
      refine lv_iload_n hx hb dX4_addSlopes_19 rfl (lv_at hl 1 rfl) ?_
      refine lv_icmp_ne (tgt := 63) hx hb dX4_addSlopes_20 (by decide) (fun q_2 => ?_) (fun q_2 => ?_)
      · replace h := h.2 q_2
        exact mX4_addSlopes_b63 l hu X hr x1 x3 x5 hk69 ih S (lv_sub hl [0, 1, 2, 3, 4, 5] rfl) h
      · replace h := h.1 q_2
        refine lv_aload_n hx hb dX4_addSlopes_23 rfl (lv_at hl 0 rfl) ?_
        refine lv_iload hx hb dX4_addSlopes_24 (lv_at hl 5 rfl) ?_
        refine lv_iload_n hx hb dX4_addSlopes_26 rfl (lv_at hl 3 rfl) ?_
        refine o_callVi (k := 2) (EvB_ok z) X S (mX4_counts l x5 x3 σ _ h) (by decide) rfl rfl k_632 k_629 k_631 ks_15 k_6 ⟨rfl, by decide, by decide, by decide +kernel⟩ ⟨rfl, rfl⟩ ⟨Nat.le_of_ble_eq_true rfl, Nat.le_of_ble_eq_true rfl⟩ rfl hl.1 rfl (Nat.le_of_ble_eq_true rfl) dX4_addSlopes_27 (fun r_4 σ_5 H locs h S => ?_)
        refine lv_if_eq (tgt := 63) hx hb dX4_addSlopes_30 (by decide) (fun q_6 => ?_) (fun q_6 => ?_)
        · replace h := h.1 q_6
          exact mX4_addSlopes_b63 l hu X hr x1 x3 x5 hk69 ih S (lv_sub hl [0, 1, 2, 3, 4, 5] rfl) h
        · replace h := h.2 q_6
          refine lv_aload hx hb dX4_addSlopes_33 (lv_at hl 4 rfl) ?_
          refine lv_aload_n hx hb dX4_addSlopes_35 rfl (lv_at hl 0 rfl) ?_
          refine o_get X S 8 2 (by decide) rfl rfl in_4 (by decide) k_160 rfl dX4_addSlopes_36 ?_
          refine lv_iload hx hb dX4_addSlopes_39 (lv_at hl 5 rfl) ?_
          refine o_iald X S 10 0 (by decide) (fun _ => rfl) rfl h.1 dX4_addSlopes_41 ?_
          replace h := h.2
          refine lv_dup2_11 hx hb dX4_addSlopes_42 rfl rfl ?_
          refine o_iald X S 42 0 (by decide) (fun _ => rfl) rfl h.1 dX4_addSlopes_43 ?_
          replace h := h.2
          refine lv_iconst (v := 2) hx hb dX4_addSlopes_44 (by decide) ?_
          refine lv_aload_n hx hb dX4_addSlopes_45 rfl (lv_at hl 0 rfl) ?_
          refine o_get X S 8 4 (by decide) rfl rfl in_4 (by decide) k_162 rfl dX4_addSlopes_46 ?_
          refine lv_iload hx hb dX4_addSlopes_49 (lv_at hl 5 rfl) ?_
          refine o_iald X S 12 0 (by decide) (fun _ => rfl) rfl h.1 dX4_addSlopes_51 ?_
          replace h := h.2
          refine lv_imul hx hb dX4_addSlopes_52 ?_
          refine lv_aload_n hx hb dX4_addSlopes_53 rfl (lv_at hl 0 rfl) ?_
          refine lv_iload hx hb dX4_addSlopes_54 (lv_at hl 5 rfl) ?_
          refine lv_aload_n hx hb dX4_addSlopes_56 rfl (lv_at hl 2 rfl) ?_
          refine o_callVi (k := 2) (EvB_ok z) X S (mX4_offBy l hu x5 σ_5 _ h) (by decide) rfl rfl k_643 k_640 k_642 ks_16 k_6 ⟨rfl, by decide, by decide, by decide +kernel⟩ ⟨rfl, rfl⟩ ⟨Nat.le_of_ble_eq_true rfl, Nat.le_of_ble_eq_true rfl⟩ rfl hl.1 rfl (Nat.le_of_ble_eq_true rfl) dX4_addSlopes_57 (fun r_7 σ_8 H locs h S => ?_)
          refine lv_imul hx hb dX4_addSlopes_60 ?_
          refine lv_iadd hx hb dX4_addSlopes_61 ?_
          refine o_iast X S 42 0 (by decide) (fun _ => rfl) rfl h.1 dX4_addSlopes_62 (fun σ_9 H locs eσ_9 S => ?_)
          replace h := h.2 σ_9 eσ_9
          exact mX4_addSlopes_b63 l hu X hr x1 x3 x5 hk69 ih S (lv_sub hl [0, 1, 2, 3, 4, 5] rfl) h
set_option maxHeartbeats 4000000 in
set_option maxRecDepth 100000 in
theorem mX4_addSlopes {D : va_G} {cy : Nat → ClassId} {ad z : Nat → Nat} (l : Launch) {u : Nat} (hu : isCou u) (x1 : Int32) (x3 : Int32) (σ : Sg) (Q : Sg → Prop) (h : wX4_addSlopes u x1 x3 σ Q) : MVB D cy ad z l yX4_addSlopes (.code yX4_addSlopes cX4_addSlopes 6 none :: gT) ({ frames := 2, cells := 0, slots := 0, locals := 44 }) [.ref (ad 8), .int x1, .ref (ad u), .int x3, .ref (ad 42)] σ Q := by
  refine metV_of (by decide +kernel) (Nat.le_of_ble_eq_true rfl) ?_
  intro p e s m args below meth c A ls X hr hl S
  have X : Fx D (tyB cy) (EvB z) p s m args meth c cX4_addSlopes 6 "BackBay$Gauges" A := X
  have hl : lv_has ls 6 [(0, .ref (ad 8)), (1, .int x1), (2, .ref (ad u)), (3, .int x3), (4, .ref (ad 42))] := hl
  have hx := X.1
  have hb := X.2.1
  unfold wX4_addSlopes at h
  refine lv_iconst (v := 0) hx hb dX4_addSlopes_0 (by decide) ?_
  refine lv_istore (lv' := [(5, .int 0), (0, .ref (ad 8)), (1, .int x1), (2, .ref (ad u)), (3, .int x3), (4, .ref (ad 42))]) hx hb dX4_addSlopes_1 hl (by decide) rfl (fun ls hl => ?_)
  obtain ⟨n_3, h⟩ := h
  refine mX4_addSlopes_L3 l hu X hr x1 x3 ?_ n_3 _ _ _ _ _ S (lv_sub hl [1, 2, 3, 4, 5, 0] rfl) h
  · intro σ_10 H locs ls S hl h
    exact o_vret X S hr h dX4_addSlopes_69
def wX7_handOut_b91 (σ : Sg) (Q : Sg → Prop) : Prop :=
  Q σ
def wX7_handOut_b57 (x2 : Int32) (x3 : Int32) (σ : Sg) (Q : Sg → Prop) : Prop :=
  ((x3 ≤ x2 → (vp_in 1 2 ∧ (vp_in 2 4 ∧ (vp_in 1 2 ∧ ∀ σ_6, σ_6 = sto σ 43 1 ((σ 43 1) + (σ 19 2)) → wX7_handOut_b91 σ_6 Q)))) ∧ (¬ x3 ≤ x2 → (vp_in (x2 + 1) 10 ∧ (vp_in 2 4 ∧ (vp_in (x2 + 1) 10 ∧ ∀ σ_7, σ_7 = sto σ 44 (x2 + 1).toNatClampNeg ((σ 44 (x2 + 1).toNatClampNeg) + (σ 19 2)) → wX7_handOut_b91 σ_7 Q)))))
def wX7_handOut (x2 : Int32) (x3 : Int32) (σ : Sg) (Q : Sg → Prop) : Prop :=
  (vp_in x2 10 ∧ (vp_in 1 4 ∧ (vp_in x2 10 ∧ ∀ σ_1, σ_1 = sto σ 44 x2.toNatClampNeg ((σ 44 x2.toNatClampNeg) + (σ 19 1)) → (vp_in x2 10 ∧ (vp_in 3 4 ∧ (vp_in x2 10 ∧ ∀ σ_2, σ_2 = sto σ_1 41 x2.toNatClampNeg ((σ_1 41 x2.toNatClampNeg) + (σ_1 19 3)) → ((x2 ≤ 0 → (vp_in 0 2 ∧ (vp_in 0 4 ∧ (vp_in 0 2 ∧ ∀ σ_4, σ_4 = sto σ_2 43 0 ((σ_2 43 0) + (σ_2 19 0)) → wX7_handOut_b57 x2 x3 σ_4 Q)))) ∧ (¬ x2 ≤ 0 → (vp_in (x2 - 1) 10 ∧ (vp_in 0 4 ∧ (vp_in (x2 - 1) 10 ∧ ∀ σ_8, σ_8 = sto σ_2 44 (x2 - 1).toNatClampNeg ((σ_2 44 (x2 - 1).toNatClampNeg) + (σ_2 19 0)) → wX7_handOut_b57 x2 x3 σ_8 Q)))))))))))
set_option maxHeartbeats 4000000 in
set_option maxRecDepth 100000 in
theorem mX7_handOut_b91 {D : va_G} {cy : Nat → ClassId} {ad z : Nat → Nat} (l : Launch) {p : Program} {e : Env} {s : State} {m : MethodId} {args : Array Value} {below : List Frame} {meth : Method} {c : Code} {A : Nat → Prop} {Q : Sg → Prop} (X : Fx D (tyB cy) (EvB z) p s m args meth c cX7_handOut 4 "BackBay$Slopes" A) (hr : meth.sig.returnType = none) {σ : Sg} {H : Heap} {locs : List Loc} {ls : Array Slot} (S : St D ad 75 (shB cy ad) A s σ H locs) (hl : lv_has ls 4 []) (h : wX7_handOut_b91 σ Q) : W p l e ({ frames := 0, cells := 0, slots := 0, locals := 0 }) s m args below meth c H locs 0 0 (MQ below (va_Qv Q (PosW D (tyB cy) ad 75 (shB cy ad) A) A) args s 0 0 A) (F0 m 91 ls []) := by
  have hx := X.1
  have hb := X.2.1
  unfold wX7_handOut_b91 at h
  exact o_vret X S hr h dX7_handOut_91
set_option maxHeartbeats 4000000 in
set_option maxRecDepth 100000 in
theorem mX7_handOut_b57 {D : va_G} {cy : Nat → ClassId} {ad z : Nat → Nat} (l : Launch) {p : Program} {e : Env} {s : State} {m : MethodId} {args : Array Value} {below : List Frame} {meth : Method} {c : Code} {A : Nat → Prop} {Q : Sg → Prop} (X : Fx D (tyB cy) (EvB z) p s m args meth c cX7_handOut 4 "BackBay$Slopes" A) (hr : meth.sig.returnType = none) (x2 : Int32) (x3 : Int32) {σ : Sg} {H : Heap} {locs : List Loc} {ls : Array Slot} (S : St D ad 75 (shB cy ad) A s σ H locs) (hl : lv_has ls 4 [(0, .ref (ad 40)), (1, .ref (ad 19)), (2, .int x2), (3, .int x3)]) (h : wX7_handOut_b57 x2 x3 σ Q) : W p l e ({ frames := 0, cells := 0, slots := 0, locals := 0 }) s m args below meth c H locs 0 0 (MQ below (va_Qv Q (PosW D (tyB cy) ad 75 (shB cy ad) A) A) args s 0 0 A) (F0 m 57 ls []) := by
  have hx := X.1
  have hb := X.2.1
  unfold wX7_handOut_b57 at h
  refine lv_iload_n hx hb dX7_handOut_57 rfl (lv_at hl 2 rfl) ?_
  refine lv_iload_n hx hb dX7_handOut_58 rfl (lv_at hl 3 rfl) ?_
  refine lv_icmp_ge (tgt := 79) hx hb dX7_handOut_59 (by decide) (fun q_5 => ?_) (fun q_5 => ?_)
  · replace h := h.1 q_5
    refine lv_aload_n hx hb dX7_handOut_79 rfl (lv_at hl 0 rfl) ?_
    refine o_get X S 40 2 (by decide) rfl rfl in_7 (by decide) k_231 rfl dX7_handOut_80 ?_
    refine lv_iconst (v := 1) hx hb dX7_handOut_83 (by decide) ?_
    refine lv_dup2_11 hx hb dX7_handOut_84 rfl rfl ?_
    refine o_iald X S 43 0 (by decide) (fun _ => rfl) rfl h.1 dX7_handOut_85 ?_
    replace h := h.2
    refine lv_aload_n hx hb dX7_handOut_86 rfl (lv_at hl 1 rfl) ?_
    refine lv_iconst (v := 2) hx hb dX7_handOut_87 (by decide) ?_
    refine o_iald X S 19 0 (by decide) (fun _ => rfl) rfl h.1 dX7_handOut_88 ?_
    replace h := h.2
    refine lv_iadd hx hb dX7_handOut_89 ?_
    refine o_iast X S 43 0 (by decide) (fun _ => rfl) rfl h.1 dX7_handOut_90 (fun σ_6 H locs eσ_6 S => ?_)
    replace h := h.2 σ_6 eσ_6
    exact mX7_handOut_b91 l X hr S (lv_sub hl [] rfl) h
  · replace h := h.2 q_5
    refine lv_aload_n hx hb dX7_handOut_62 rfl (lv_at hl 0 rfl) ?_
    refine o_get X S 40 3 (by decide) rfl rfl in_7 (by decide) k_233 rfl dX7_handOut_63 ?_
    refine lv_iload_n hx hb dX7_handOut_66 rfl (lv_at hl 2 rfl) ?_
    refine lv_iconst (v := 1) hx hb dX7_handOut_67 (by decide) ?_
    refine lv_iadd hx hb dX7_handOut_68 ?_
    refine lv_dup2_11 hx hb dX7_handOut_69 rfl rfl ?_
    refine o_iald X S 44 0 (by decide) (fun _ => rfl) rfl h.1 dX7_handOut_70 ?_
    replace h := h.2
    refine lv_aload_n hx hb dX7_handOut_71 rfl (lv_at hl 1 rfl) ?_
    refine lv_iconst (v := 2) hx hb dX7_handOut_72 (by decide) ?_
    refine o_iald X S 19 0 (by decide) (fun _ => rfl) rfl h.1 dX7_handOut_73 ?_
    replace h := h.2
    refine lv_iadd hx hb dX7_handOut_74 ?_
    refine o_iast X S 44 0 (by decide) (fun _ => rfl) rfl h.1 dX7_handOut_75 (fun σ_7 H locs eσ_7 S => ?_)
    replace h := h.2 σ_7 eσ_7
    refine lv_goto (tgt := 91) hx hb dX7_handOut_76 (by decide) ?_
    exact mX7_handOut_b91 l X hr S (lv_sub hl [] rfl) h
set_option maxHeartbeats 4000000 in
set_option maxRecDepth 100000 in
theorem mX7_handOut {D : va_G} {cy : Nat → ClassId} {ad z : Nat → Nat} (l : Launch) (x2 : Int32) (x3 : Int32) (σ : Sg) (Q : Sg → Prop) (h : wX7_handOut x2 x3 σ Q) : MVB D cy ad z l yX7_handOut (.code yX7_handOut cX7_handOut 4 none :: gT) ({ frames := 0, cells := 0, slots := 0, locals := 0 }) [.ref (ad 40), .ref (ad 19), .int x2, .int x3] σ Q := by
  refine metV_of (by decide +kernel) (Nat.le_of_ble_eq_true rfl) ?_
  intro p e s m args below meth c A ls X hr hl S
  have X : Fx D (tyB cy) (EvB z) p s m args meth c cX7_handOut 4 "BackBay$Slopes" A := X
  have hl : lv_has ls 4 [(0, .ref (ad 40)), (1, .ref (ad 19)), (2, .int x2), (3, .int x3)] := hl
  have hx := X.1
  have hb := X.2.1
  unfold wX7_handOut at h
  refine lv_aload_n hx hb dX7_handOut_0 rfl (lv_at hl 0 rfl) ?_
  refine o_get X S 40 3 (by decide) rfl rfl in_7 (by decide) k_233 rfl dX7_handOut_1 ?_
  refine lv_iload_n hx hb dX7_handOut_4 rfl (lv_at hl 2 rfl) ?_
  refine lv_dup2_11 hx hb dX7_handOut_5 rfl rfl ?_
  refine o_iald X S 44 0 (by decide) (fun _ => rfl) rfl h.1 dX7_handOut_6 ?_
  replace h := h.2
  refine lv_aload_n hx hb dX7_handOut_7 rfl (lv_at hl 1 rfl) ?_
  refine lv_iconst (v := 1) hx hb dX7_handOut_8 (by decide) ?_
  refine o_iald X S 19 0 (by decide) (fun _ => rfl) rfl h.1 dX7_handOut_9 ?_
  replace h := h.2
  refine lv_iadd hx hb dX7_handOut_10 ?_
  refine o_iast X S 44 0 (by decide) (fun _ => rfl) rfl h.1 dX7_handOut_11 (fun σ_1 H locs eσ_1 S => ?_)
  replace h := h.2 σ_1 eσ_1
  refine lv_aload_n hx hb dX7_handOut_12 rfl (lv_at hl 0 rfl) ?_
  refine o_get X S 40 0 (by decide) rfl rfl in_7 (by decide) k_227 rfl dX7_handOut_13 ?_
  refine lv_iload_n hx hb dX7_handOut_16 rfl (lv_at hl 2 rfl) ?_
  refine lv_dup2_11 hx hb dX7_handOut_17 rfl rfl ?_
  refine o_iald X S 41 0 (by decide) (fun _ => rfl) rfl h.1 dX7_handOut_18 ?_
  replace h := h.2
  refine lv_aload_n hx hb dX7_handOut_19 rfl (lv_at hl 1 rfl) ?_
  refine lv_iconst (v := 3) hx hb dX7_handOut_20 (by decide) ?_
  refine o_iald X S 19 0 (by decide) (fun _ => rfl) rfl h.1 dX7_handOut_21 ?_
  replace h := h.2
  refine lv_iadd hx hb dX7_handOut_22 ?_
  refine o_iast X S 41 0 (by decide) (fun _ => rfl) rfl h.1 dX7_handOut_23 (fun σ_2 H locs eσ_2 S => ?_)
  replace h := h.2 σ_2 eσ_2
  refine lv_iload_n hx hb dX7_handOut_24 rfl (lv_at hl 2 rfl) ?_
  refine lv_if_le (tgt := 45) hx hb dX7_handOut_25 (by decide) (fun q_3 => ?_) (fun q_3 => ?_)
  · replace h := h.1 q_3
    refine lv_aload_n hx hb dX7_handOut_45 rfl (lv_at hl 0 rfl) ?_
    refine o_get X S 40 2 (by decide) rfl rfl in_7 (by decide) k_231 rfl dX7_handOut_46 ?_
    refine lv_iconst (v := 0) hx hb dX7_handOut_49 (by decide) ?_
    refine lv_dup2_11 hx hb dX7_handOut_50 rfl rfl ?_
    refine o_iald X S 43 0 (by decide) (fun _ => rfl) rfl h.1 dX7_handOut_51 ?_
    replace h := h.2
    refine lv_aload_n hx hb dX7_handOut_52 rfl (lv_at hl 1 rfl) ?_
    refine lv_iconst (v := 0) hx hb dX7_handOut_53 (by decide) ?_
    refine o_iald X S 19 0 (by decide) (fun _ => rfl) rfl h.1 dX7_handOut_54 ?_
    replace h := h.2
    refine lv_iadd hx hb dX7_handOut_55 ?_
    refine o_iast X S 43 0 (by decide) (fun _ => rfl) rfl h.1 dX7_handOut_56 (fun σ_4 H locs eσ_4 S => ?_)
    replace h := h.2 σ_4 eσ_4
    exact mX7_handOut_b57 l X hr x2 x3 S (lv_sub hl [0, 1, 2, 3] rfl) h
  · replace h := h.2 q_3
    refine lv_aload_n hx hb dX7_handOut_28 rfl (lv_at hl 0 rfl) ?_
    refine o_get X S 40 3 (by decide) rfl rfl in_7 (by decide) k_233 rfl dX7_handOut_29 ?_
    refine lv_iload_n hx hb dX7_handOut_32 rfl (lv_at hl 2 rfl) ?_
    refine lv_iconst (v := 1) hx hb dX7_handOut_33 (by decide) ?_
    refine lv_isub hx hb dX7_handOut_34 ?_
    refine lv_dup2_11 hx hb dX7_handOut_35 rfl rfl ?_
    refine o_iald X S 44 0 (by decide) (fun _ => rfl) rfl h.1 dX7_handOut_36 ?_
    replace h := h.2
    refine lv_aload_n hx hb dX7_handOut_37 rfl (lv_at hl 1 rfl) ?_
    refine lv_iconst (v := 0) hx hb dX7_handOut_38 (by decide) ?_
    refine o_iald X S 19 0 (by decide) (fun _ => rfl) rfl h.1 dX7_handOut_39 ?_
    replace h := h.2
    refine lv_iadd hx hb dX7_handOut_40 ?_
    refine o_iast X S 44 0 (by decide) (fun _ => rfl) rfl h.1 dX7_handOut_41 (fun σ_8 H locs eσ_8 S => ?_)
    replace h := h.2 σ_8 eσ_8
    refine lv_goto (tgt := 57) hx hb dX7_handOut_42 (by decide) ?_
    exact mX7_handOut_b57 l X hr x2 x3 S (lv_sub hl [0, 1, 2, 3] rfl) h
def wX7_goBackOver_b82 (T : Nat) (u : Nat) (x4 : Int32) (x5 : Int32) (x6 : Int32) (σ : Sg) (k88 : Sg → Prop) (kb11 : Int32 → Sg → Prop) (Q : Sg → Prop) : Prop :=
  (∀ x6_5 : Int32, x6_5 = x6 + 1 → kb11 x6_5 σ)
def wX7_goBackOver_L11 (T : Nat) (u : Nat) (x4 : Int32) (x5 : Int32) (k88 : Sg → Prop) (Q : Sg → Prop) : Nat → Int32 → Sg → Prop
  | 0, _, _ => False
  | nn11 + 1, x6, σ =>
  (((σ 4 0) ≤ x6 → k88 σ) ∧ (¬ (σ 4 0) ≤ x6 → (vp_in x6 10 ∧ (((σ 42 x6.toNatClampNeg) = 0 → wX7_goBackOver_b82 T u x4 x5 x6 σ k88 (wX7_goBackOver_L11 T u x4 x5 k88 Q nn11) Q) ∧ (¬ (σ 42 x6.toNatClampNeg) = 0 → (wX2_workOut u T 6 x4 x5 x6 σ (fun r_6 σ_7 => (vp_in x6 10 ∧ (wX3_goBack T x5 (σ_7 42 x6.toNatClampNeg) σ_7 (fun σ_9 => (wX7_handOut x6 ((σ_9 4 0) - 1) σ_9 (fun σ_11 => wX7_goBackOver_b82 T u x4 x5 x6 σ_11 k88 (wX7_goBackOver_L11 T u x4 x5 k88 Q nn11) Q))))))))))))
def wX7_goBackOver (T : Nat) (u : Nat) (x4 : Int32) (x5 : Int32) (σ : Sg) (Q : Sg → Prop) : Prop :=
  (wJ7_fill_53178 44 10 0 σ (fun σ_2 => (∃ nf, wX7_goBackOver_L11 T u x4 x5 (fun σ_12 => (cpok 0 0 10 10 10 ∧ ∀ σ_13, σ_13 = cpy σ_12 44 42 0 0 10 → Q σ_13)) Q nf 0 σ_2)))
set_option maxHeartbeats 4000000 in
set_option maxRecDepth 100000 in
theorem mX7_goBackOver_b82 {D : va_G} {cy : Nat → ClassId} {ad z : Nat → Nat} (l : Launch) {T : Nat} (hT : isSten T) {u : Nat} (hu : isCou u) {p : Program} {e : Env} {s : State} {m : MethodId} {args : Array Value} {below : List Frame} {meth : Method} {c : Code} {A : Nat → Prop} {k88 : Sg → Prop} {kb11 : Int32 → Sg → Prop} {Q : Sg → Prop} (X : Fx D (tyB cy) (EvB z) p s m args meth c cX7_goBackOver 7 "BackBay$Slopes" A) (hr : meth.sig.returnType = none) (x4 : Int32) (x5 : Int32) (x6 : Int32) (hk88 : ∀ (σ : Sg) (H : Heap) (locs : List Loc) (ls : Array Slot), St D ad 75 (shB cy ad) A s σ H locs → lv_has ls 7 [(0, .ref (ad 40))] → k88 σ → W p l e ({ frames := 4, cells := 0, slots := 0, locals := 104 }) s m args below meth c H locs 0 0 (MQ below (va_Qv Q (PosW D (tyB cy) ad 75 (shB cy ad) A) A) args s 0 0 A) (F0 m 88 ls [])) (hkb11 : ∀ (x6 : Int32) (σ : Sg) (H : Heap) (locs : List Loc) (ls : Array Slot), St D ad 75 (shB cy ad) A s σ H locs → lv_has ls 7 [(0, .ref (ad 40)), (1, .ref (ad T)), (2, .ref (ad 4)), (3, .ref (ad u)), (4, .int x4), (5, .int x5), (6, .int x6)] → kb11 x6 σ → W p l e ({ frames := 4, cells := 0, slots := 0, locals := 104 }) s m args below meth c H locs 0 0 (MQ below (va_Qv Q (PosW D (tyB cy) ad 75 (shB cy ad) A) A) args s 0 0 A) (F0 m 11 ls [])) {σ : Sg} {H : Heap} {locs : List Loc} {ls : Array Slot} (S : St D ad 75 (shB cy ad) A s σ H locs) (hl : lv_has ls 7 [(0, .ref (ad 40)), (1, .ref (ad T)), (2, .ref (ad 4)), (3, .ref (ad u)), (4, .int x4), (5, .int x5), (6, .int x6)]) (h : wX7_goBackOver_b82 T u x4 x5 x6 σ k88 kb11 Q) : W p l e ({ frames := 4, cells := 0, slots := 0, locals := 104 }) s m args below meth c H locs 0 0 (MQ below (va_Qv Q (PosW D (tyB cy) ad 75 (shB cy ad) A) A) args s 0 0 A) (F0 m 82 ls []) := by
  have hx := X.1
  have hb := X.2.1
  unfold wX7_goBackOver_b82 at h
  obtain ⟨x6_5, ex6_5⟩ : ∃ y : Int32, y = x6 + 1 := ⟨_, rfl⟩
  replace h := h x6_5 ex6_5
  refine lv_iinc (v := x6_5) (lv' := [(6, .int x6_5), (0, .ref (ad 40)), (1, .ref (ad T)), (2, .ref (ad 4)), (3, .ref (ad u)), (4, .int x4), (5, .int x5)]) hx hb dX7_goBackOver_82 hl (k := 6) rfl (by rw [ex6_5]; rfl) (by decide) rfl (fun ls hl => ?_)
  refine lv_goto (tgt := 11) hx hb dX7_goBackOver_85 (by decide) ?_
  exact hkb11 _ _ _ _ _ S (lv_sub hl [1, 2, 3, 4, 5, 6, 0] rfl) h
set_option maxHeartbeats 4000000 in
set_option maxRecDepth 100000 in
theorem mX7_goBackOver_L11 {D : va_G} {cy : Nat → ClassId} {ad z : Nat → Nat} (l : Launch) {T : Nat} (hT : isSten T) {u : Nat} (hu : isCou u) {p : Program} {e : Env} {s : State} {m : MethodId} {args : Array Value} {below : List Frame} {meth : Method} {c : Code} {A : Nat → Prop} {k88 : Sg → Prop} {Q : Sg → Prop} (X : Fx D (tyB cy) (EvB z) p s m args meth c cX7_goBackOver 7 "BackBay$Slopes" A) (hr : meth.sig.returnType = none) (x4 : Int32) (x5 : Int32) (hk88 : ∀ (σ : Sg) (H : Heap) (locs : List Loc) (ls : Array Slot), St D ad 75 (shB cy ad) A s σ H locs → lv_has ls 7 [(0, .ref (ad 40))] → k88 σ → W p l e ({ frames := 4, cells := 0, slots := 0, locals := 104 }) s m args below meth c H locs 0 0 (MQ below (va_Qv Q (PosW D (tyB cy) ad 75 (shB cy ad) A) A) args s 0 0 A) (F0 m 88 ls [])) : ∀ (n : Nat) (x6 : Int32) (σ : Sg) (H : Heap) (locs : List Loc) (ls : Array Slot), St D ad 75 (shB cy ad) A s σ H locs → lv_has ls 7 [(0, .ref (ad 40)), (1, .ref (ad T)), (2, .ref (ad 4)), (3, .ref (ad u)), (4, .int x4), (5, .int x5), (6, .int x6)] → wX7_goBackOver_L11 T u x4 x5 k88 Q n x6 σ → W p l e ({ frames := 4, cells := 0, slots := 0, locals := 104 }) s m args below meth c H locs 0 0 (MQ below (va_Qv Q (PosW D (tyB cy) ad 75 (shB cy ad) A) A) args s 0 0 A) (F0 m 11 ls []) := by
  have hx := X.1
  have hb := X.2.1
  intro n
  induction n with
  | zero =>
    intro _ _ _ _ _ _ _ h
    exact absurd h (by unfold wX7_goBackOver_L11; exact id)
  | succ n ih =>
    intro x6 σ H locs ls S hl h
    unfold wX7_goBackOver_L11 at h
    refine lv_iload hx hb dX7_goBackOver_11 (lv_at hl 6 rfl) ?_
    refine lv_aload_n hx hb dX7_goBackOver_13 rfl (lv_at hl 2 rfl) ?_
    refine o_get X S 4 0 (by decide) rfl rfl in_1 (by decide) k_129 rfl dX7_goBackOver_14 ?_
    refine lv_icmp_ge (tgt := 88) hx hb dX7_goBackOver_17 (by decide) (fun q_3 => ?_) (fun q_3 => ?_)
    · replace h := h.1 q_3
      exact hk88 _ _ _ _ S (lv_sub hl [0] rfl) h
    · replace h := h.2 q_3
      refine lv_aload_n hx hb dX7_goBackOver_20 rfl (lv_at hl 0 rfl) ?_
      refine o_get X S 40 1 (by decide) rfl rfl in_7 (by decide) k_229 rfl dX7_goBackOver_21 ?_
      refine lv_iload hx hb dX7_goBackOver_24 (lv_at hl 6 rfl) ?_
      refine o_iald X S 42 0 (by decide) (fun _ => rfl) rfl h.1 dX7_goBackOver_26 ?_
      replace h := h.2
      refine lv_if_eq (tgt := 82) hx hb dX7_goBackOver_27 (by decide) (fun q_4 => ?_) (fun q_4 => ?_)
      · replace h := h.1 q_4
        exact mX7_goBackOver_b82 l hT hu X hr x4 x5 x6 hk88 ih S (lv_sub hl [0, 1, 2, 3, 4, 5, 6] rfl) h
      · replace h := h.2 q_4
        refine lv_aload_n hx hb dX7_goBackOver_30 rfl (lv_at hl 3 rfl) ?_
        refine lv_aload_n hx hb dX7_goBackOver_31 rfl (lv_at hl 1 rfl) ?_
        refine lv_aload_n hx hb dX7_goBackOver_32 rfl (lv_at hl 2 rfl) ?_
        refine o_get X S 4 2 (by decide) rfl rfl in_1 (by decide) k_136 rfl dX7_goBackOver_33 ?_
        refine lv_iload hx hb dX7_goBackOver_36 (lv_at hl 4 rfl) ?_
        refine lv_iload hx hb dX7_goBackOver_38 (lv_at hl 5 rfl) ?_
        refine lv_iload hx hb dX7_goBackOver_40 (lv_at hl 6 rfl) ?_
        refine o_callVi (k := 5) (EvB_ok z) X S (mX2_workOut l hu hT isStr_6 x4 x5 x6 σ _ h) (isCou_lt hu 0 (by decide)) ((shC0 hu) _) rfl k_584 k_675 k_582 k_583 k_8 ⟨rfl, by decide, by decide, by decide +kernel⟩ ⟨rfl, rfl⟩ ⟨Nat.le_of_ble_eq_true rfl, Nat.le_of_ble_eq_true rfl⟩ rfl hl.1 rfl (Nat.le_of_ble_eq_true rfl) dX7_goBackOver_42 (fun r_6 σ_7 H locs h S => ?_)
        refine lv_pop hx hb dX7_goBackOver_45 rfl ?_
        refine lv_aload_n hx hb dX7_goBackOver_46 rfl (lv_at hl 3 rfl) ?_
        refine o_get X S u 0 (isCou_lt hu 0 (by decide)) ((shC0 hu) _) rfl in_2 (by decide) k_208 rfl dX7_goBackOver_47 ?_
        refine lv_aload_n hx hb dX7_goBackOver_50 rfl (lv_at hl 1 rfl) ?_
        refine lv_iload hx hb dX7_goBackOver_51 (lv_at hl 5 rfl) ?_
        refine lv_aload_n hx hb dX7_goBackOver_53 rfl (lv_at hl 0 rfl) ?_
        refine o_get X S 40 1 (by decide) rfl rfl in_7 (by decide) k_229 rfl dX7_goBackOver_54 ?_
        refine lv_iload hx hb dX7_goBackOver_57 (lv_at hl 6 rfl) ?_
        refine o_iald X S 42 0 (by decide) (fun _ => rfl) rfl h.1 dX7_goBackOver_59 ?_
        replace h := h.2
        refine o_callVv (k := 3) (EvB_ok z) X S (mX3_goBack l hT x5 (σ_7 42 x6.toNatClampNeg) σ_7 _ h) (by decide) rfl rfl k_679 k_676 k_677 k_678 k_7 ⟨rfl, by decide, by decide, by decide +kernel⟩ ⟨rfl, rfl⟩ ⟨Nat.le_of_ble_eq_true rfl, Nat.le_of_ble_eq_true rfl⟩ rfl hl.1 rfl (Nat.le_of_ble_eq_true rfl) dX7_goBackOver_60 (fun σ_9 H locs h S => ?_)
        refine lv_aload_n hx hb dX7_goBackOver_63 rfl (lv_at hl 0 rfl) ?_
        refine lv_aload_n hx hb dX7_goBackOver_64 rfl (lv_at hl 3 rfl) ?_
        refine o_get X S u 0 (isCou_lt hu 0 (by decide)) ((shC0 hu) _) rfl in_2 (by decide) k_208 rfl dX7_goBackOver_65 ?_
        refine o_get X S 14 4 (by decide) rfl rfl in_3 (by decide) k_189 rfl dX7_goBackOver_68 ?_
        refine lv_iload hx hb dX7_goBackOver_71 (lv_at hl 6 rfl) ?_
        refine lv_aload_n hx hb dX7_goBackOver_73 rfl (lv_at hl 2 rfl) ?_
        refine o_get X S 4 0 (by decide) rfl rfl in_1 (by decide) k_129 rfl dX7_goBackOver_74 ?_
        refine lv_iconst (v := 1) hx hb dX7_goBackOver_77 (by decide) ?_
        refine lv_isub hx hb dX7_goBackOver_78 ?_
        refine o_callVv (k := 3) (EvB_ok z) X S (mX7_handOut l x6 ((σ_9 4 0) - 1) σ_9 _ h) (by decide) rfl rfl k_688 k_685 k_687 ks_20 k_9 ⟨rfl, by decide, by decide, by decide +kernel⟩ ⟨rfl, rfl⟩ ⟨Nat.le_of_ble_eq_true rfl, Nat.le_of_ble_eq_true rfl⟩ rfl hl.1 rfl (Nat.le_of_ble_eq_true rfl) dX7_goBackOver_79 (fun σ_11 H locs h S => ?_)
        exact mX7_goBackOver_b82 l hT hu X hr x4 x5 x6 hk88 ih S (lv_sub hl [0, 1, 2, 3, 4, 5, 6] rfl) h
set_option maxHeartbeats 4000000 in
set_option maxRecDepth 100000 in
theorem mX7_goBackOver {D : va_G} {cy : Nat → ClassId} {ad z : Nat → Nat} (l : Launch) {T : Nat} (hT : isSten T) {u : Nat} (hu : isCou u) (x4 : Int32) (x5 : Int32) (σ : Sg) (Q : Sg → Prop) (h : wX7_goBackOver T u x4 x5 σ Q) : MVB D cy ad z l yX7_goBackOver (.code yX7_goBackOver cX7_goBackOver 7 none :: gT) ({ frames := 4, cells := 0, slots := 0, locals := 104 }) [.ref (ad 40), .ref (ad T), .ref (ad 4), .ref (ad u), .int x4, .int x5] σ Q := by
  refine metV_of (by decide +kernel) (Nat.le_of_ble_eq_true rfl) ?_
  intro p e s m args below meth c A ls X hr hl S
  have X : Fx D (tyB cy) (EvB z) p s m args meth c cX7_goBackOver 7 "BackBay$Slopes" A := X
  have hl : lv_has ls 7 [(0, .ref (ad 40)), (1, .ref (ad T)), (2, .ref (ad 4)), (3, .ref (ad u)), (4, .int x4), (5, .int x5)] := hl
  have hx := X.1
  have hb := X.2.1
  unfold wX7_goBackOver at h
  refine lv_aload_n hx hb dX7_goBackOver_0 rfl (lv_at hl 0 rfl) ?_
  refine o_get X S 40 3 (by decide) rfl rfl in_7 (by decide) k_233 rfl dX7_goBackOver_1 ?_
  refine lv_iconst (v := 0) hx hb dX7_goBackOver_4 (by decide) ?_
  refine o_callSv (k := 2) (EvB_ok z) X S (mJ7_fill_53178 l (by decide) (fun _ => rfl) 0 σ _ h) k_125 k_665 k_124 k_5 ⟨by decide, by decide, by decide +kernel⟩ ⟨rfl, rfl⟩ ⟨Nat.le_of_ble_eq_true rfl, Nat.le_of_ble_eq_true rfl⟩ rfl hl.1 rfl (Nat.le_of_ble_eq_true rfl) dX7_goBackOver_5 (fun σ_2 H locs h S => ?_)
  refine lv_iconst (v := 0) hx hb dX7_goBackOver_8 (by decide) ?_
  refine lv_istore (lv' := [(6, .int 0), (0, .ref (ad 40)), (1, .ref (ad T)), (2, .ref (ad 4)), (3, .ref (ad u)), (4, .int x4), (5, .int x5)]) hx hb dX7_goBackOver_9 hl (by decide) rfl (fun ls hl => ?_)
  obtain ⟨n_11, h⟩ := h
  refine mX7_goBackOver_L11 l hT hu X hr x4 x5 ?_ n_11 _ _ _ _ _ S (lv_sub hl [1, 2, 3, 4, 5, 6, 0] rfl) h
  · intro σ_12 H locs ls S hl h
    refine lv_aload_n hx hb dX7_goBackOver_88 rfl (lv_at hl 0 rfl) ?_
    refine o_get X S 40 3 (by decide) rfl rfl in_7 (by decide) k_233 rfl dX7_goBackOver_89 ?_
    refine lv_iconst (v := 0) hx hb dX7_goBackOver_92 (by decide) ?_
    refine lv_aload_n hx hb dX7_goBackOver_93 rfl (lv_at hl 0 rfl) ?_
    refine o_get X S 40 1 (by decide) rfl rfl in_7 (by decide) k_229 rfl dX7_goBackOver_94 ?_
    refine lv_iconst (v := 0) hx hb dX7_goBackOver_97 (by decide) ?_
    refine lv_bipush (v := 10) hx hb dX7_goBackOver_98 (by decide) ?_
    refine o_copyi X S hl.1 (X.2.2.2.2.1 _ k_689) (X.2.2.2.2.1 _ k_405) (X.2.2.2.2.1 _ k_404) (X.2.2.2.2.1 _ k_15) 44 42 0 0 (by decide) (by decide) (fun _ => rfl) (fun _ => rfl) rfl rfl h.1 (Nat.le_of_ble_eq_true rfl) (Nat.le_of_ble_eq_true rfl) dX7_goBackOver_100 (fun σ_13 H locs eσ_13 S => ?_)
    replace h := h.2 σ_13 eσ_13
    exact o_vret X S hr h dX7_goBackOver_103
def wX7_goBack_L76 (T : Nat) (u : Nat) (x7 : Int32) (k102 : Int32 → Sg → Prop) (Q : Sg → Prop) : Nat → Int32 → Int32 → Sg → Prop
  | 0, _, _, _ => False
  | nn76 + 1, x6, x8, σ =>
  ((x8 < 0 → k102 x6 σ) ∧ (¬ x8 < 0 → (∀ x6_15 : Int32, x6_15 = x6 + (-1) → (wX7_goBackOver T u x6_15 x8 σ (fun σ_17 => (∀ x8_18 : Int32, x8_18 = x8 + (-1) → wX7_goBack_L76 T u x7 k102 Q nn76 x6_15 x8_18 σ_17))))))
def wX7_goBack_L47 (T : Nat) (u : Nat) (k108 : Sg → Prop) (Q : Sg → Prop) : Nat → Int32 → Int32 → Sg → Prop
  | 0, _, _, _ => False
  | nn47 + 1, x6, x7, σ =>
  ((x7 ≤ 0 → k108 σ) ∧ (¬ x7 ≤ 0 → (wX4_addSlopes u x7 (σ 4 0) σ (fun σ_12 => (∀ x8_13, x8_13 = ((σ_12 T 0) - 1) → (∃ nf, wX7_goBack_L76 T u x7 (fun x6_19 σ_20 => (∀ x7_21 : Int32, x7_21 = x7 + (-1) → wX7_goBack_L47 T u k108 Q nn47 x6_19 x7_21 σ_20)) Q nf x6 x8_13 σ_12))))))
def wX7_goBack (T : Nat) (u : Nat) (σ : Sg) (Q : Sg → Prop) : Prop :=
  (wJ7_fill_53178 41 10 0 σ (fun σ_2 => (wJ7_fill_53178 42 10 0 σ_2 (fun σ_4 => (wJ7_fill_53178 43 2 0 σ_4 (fun σ_6 => (wX4_last (σ_6 4 0) σ_6 (fun r_7 σ_8 => (∀ x6_9, x6_9 = (r_7 * (σ_8 T 0)) → (∃ nf, wX7_goBack_L47 T u (fun σ_22 => (wX4_addSlopes u 0 (σ_22 4 0) σ_22 (fun σ_24 => Q σ_24))) Q nf x6_9 r_7 σ_8))))))))))
set_option maxHeartbeats 4000000 in
set_option maxRecDepth 100000 in
theorem mX7_goBack_L76 {D : va_G} {cy : Nat → ClassId} {ad z : Nat → Nat} (l : Launch) {T : Nat} (hT : isSten T) {u : Nat} (hu : isCou u) {p : Program} {e : Env} {s : State} {m : MethodId} {args : Array Value} {below : List Frame} {meth : Method} {c : Code} {A : Nat → Prop} {k102 : Int32 → Sg → Prop} {Q : Sg → Prop} (X : Fx D (tyB cy) (EvB z) p s m args meth c cX7_goBack 9 "BackBay$Slopes" A) (hr : meth.sig.returnType = none) (x7 : Int32) (hk102 : ∀ (x6 : Int32) (σ : Sg) (H : Heap) (locs : List Loc) (ls : Array Slot), St D ad 75 (shB cy ad) A s σ H locs → lv_has ls 9 [(0, .ref (ad 40)), (1, .ref (ad T)), (2, .ref (ad 4)), (3, .ref (ad 8)), (4, .ref (ad u)), (6, .int x6), (7, .int x7)] → k102 x6 σ → W p l e ({ frames := 5, cells := 0, slots := 0, locals := 130 }) s m args below meth c H locs 0 0 (MQ below (va_Qv Q (PosW D (tyB cy) ad 75 (shB cy ad) A) A) args s 0 0 A) (F0 m 102 ls [])) : ∀ (n : Nat) (x6 : Int32) (x8 : Int32) (σ : Sg) (H : Heap) (locs : List Loc) (ls : Array Slot), St D ad 75 (shB cy ad) A s σ H locs → lv_has ls 9 [(0, .ref (ad 40)), (1, .ref (ad T)), (2, .ref (ad 4)), (3, .ref (ad 8)), (4, .ref (ad u)), (6, .int x6), (7, .int x7), (8, .int x8)] → wX7_goBack_L76 T u x7 k102 Q n x6 x8 σ → W p l e ({ frames := 5, cells := 0, slots := 0, locals := 130 }) s m args below meth c H locs 0 0 (MQ below (va_Qv Q (PosW D (tyB cy) ad 75 (shB cy ad) A) A) args s 0 0 A) (F0 m 76 ls []) := by
  have hx := X.1
  have hb := X.2.1
  intro n
  induction n with
  | zero =>
    intro _ _ _ _ _ _ _ _ h
    exact absurd h (by unfold wX7_goBack_L76; exact id)
  | succ n ih =>
    intro x6 x8 σ H locs ls S hl h
    unfold wX7_goBack_L76 at h
    refine lv_iload hx hb dX7_goBack_76 (lv_at hl 7 rfl) ?_
    refine lv_if_lt (tgt := 102) hx hb dX7_goBack_78 (by decide) (fun q_14 => ?_) (fun q_14 => ?_)
    · replace h := h.1 q_14
      exact hk102 _ _ _ _ _ S (lv_sub hl [0, 1, 2, 3, 4, 5, 6] rfl) h
    · replace h := h.2 q_14
      obtain ⟨x6_15, ex6_15⟩ : ∃ y : Int32, y = x6 + (-1) := ⟨_, rfl⟩
      replace h := h x6_15 ex6_15
      refine lv_iinc (v := x6_15) (lv' := [(6, .int x6_15), (0, .ref (ad 40)), (1, .ref (ad T)), (2, .ref (ad 4)), (3, .ref (ad 8)), (4, .ref (ad u)), (7, .int x7), (8, .int x8)]) hx hb dX7_goBack_81 hl (k := 5) rfl (by rw [ex6_15]; rfl) (by decide) rfl (fun ls hl => ?_)
      refine lv_aload_n hx hb dX7_goBack_84 rfl (lv_at hl 1 rfl) ?_
      refine lv_aload_n hx hb dX7_goBack_85 rfl (lv_at hl 2 rfl) ?_
      refine lv_aload_n hx hb dX7_goBack_86 rfl (lv_at hl 3 rfl) ?_
      refine lv_aload hx hb dX7_goBack_87 (lv_at hl 5 rfl) ?_
      refine lv_iload hx hb dX7_goBack_89 (lv_at hl 0 rfl) ?_
      refine lv_iload hx hb dX7_goBack_91 (lv_at hl 7 rfl) ?_
      refine o_callVv (k := 5) (EvB_ok z) X S (mX7_goBackOver l hT hu x6_15 x8 σ _ h) (by decide) rfl rfl k_674 k_671 k_673 ks_18 k_9 ⟨rfl, by decide, by decide, by decide +kernel⟩ ⟨rfl, rfl⟩ ⟨Nat.le_of_ble_eq_true rfl, Nat.le_of_ble_eq_true rfl⟩ rfl hl.1 rfl (Nat.le_of_ble_eq_true rfl) dX7_goBack_93 (fun σ_17 H locs h S => ?_)
      obtain ⟨x8_18, ex8_18⟩ : ∃ y : Int32, y = x8 + (-1) := ⟨_, rfl⟩
      replace h := h x8_18 ex8_18
      refine lv_iinc (v := x8_18) (lv' := [(8, .int x8_18), (6, .int x6_15), (0, .ref (ad 40)), (1, .ref (ad T)), (2, .ref (ad 4)), (3, .ref (ad 8)), (4, .ref (ad u)), (7, .int x7)]) hx hb dX7_goBack_96 hl (k := 7) rfl (by rw [ex8_18]; rfl) (by decide) rfl (fun ls hl => ?_)
      refine lv_goto (tgt := 76) hx hb dX7_goBack_99 (by decide) ?_
      exact ih _ _ _ _ _ _ S (lv_sub hl [2, 3, 4, 5, 6, 1, 7, 0] rfl) h
set_option maxHeartbeats 4000000 in
set_option maxRecDepth 100000 in
theorem mX7_goBack_L47 {D : va_G} {cy : Nat → ClassId} {ad z : Nat → Nat} (l : Launch) {T : Nat} (hT : isSten T) {u : Nat} (hu : isCou u) {p : Program} {e : Env} {s : State} {m : MethodId} {args : Array Value} {below : List Frame} {meth : Method} {c : Code} {A : Nat → Prop} {k108 : Sg → Prop} {Q : Sg → Prop} (X : Fx D (tyB cy) (EvB z) p s m args meth c cX7_goBack 9 "BackBay$Slopes" A) (hr : meth.sig.returnType = none) (hk108 : ∀ (σ : Sg) (H : Heap) (locs : List Loc) (ls : Array Slot), St D ad 75 (shB cy ad) A s σ H locs → lv_has ls 9 [(0, .ref (ad 40)), (2, .ref (ad 4)), (3, .ref (ad 8)), (4, .ref (ad u))] → k108 σ → W p l e ({ frames := 5, cells := 0, slots := 0, locals := 130 }) s m args below meth c H locs 0 0 (MQ below (va_Qv Q (PosW D (tyB cy) ad 75 (shB cy ad) A) A) args s 0 0 A) (F0 m 108 ls [])) : ∀ (n : Nat) (x6 : Int32) (x7 : Int32) (σ : Sg) (H : Heap) (locs : List Loc) (ls : Array Slot), St D ad 75 (shB cy ad) A s σ H locs → lv_has ls 9 [(0, .ref (ad 40)), (1, .ref (ad T)), (2, .ref (ad 4)), (3, .ref (ad 8)), (4, .ref (ad u)), (6, .int x6), (7, .int x7)] → wX7_goBack_L47 T u k108 Q n x6 x7 σ → W p l e ({ frames := 5, cells := 0, slots := 0, locals := 130 }) s m args below meth c H locs 0 0 (MQ below (va_Qv Q (PosW D (tyB cy) ad 75 (shB cy ad) A) A) args s 0 0 A) (F0 m 47 ls []) := by
  have hx := X.1
  have hb := X.2.1
  intro n
  induction n with
  | zero =>
    intro _ _ _ _ _ _ _ _ h
    exact absurd h (by unfold wX7_goBack_L47; exact id)
  | succ n ih =>
    intro x6 x7 σ H locs ls S hl h
    unfold wX7_goBack_L47 at h
    refine lv_iload hx hb dX7_goBack_47 (lv_at hl 6 rfl) ?_
    refine lv_if_le (tgt := 108) hx hb dX7_goBack_49 (by decide) (fun q_10 => ?_) (fun q_10 => ?_)
    · replace h := h.1 q_10
      exact hk108 _ _ _ _ S (lv_sub hl [0, 2, 3, 4] rfl) h
    · replace h := h.2 q_10
      refine lv_aload_n hx hb dX7_goBack_52 rfl (lv_at hl 3 rfl) ?_
      refine lv_iload hx hb dX7_goBack_53 (lv_at hl 6 rfl) ?_
      refine lv_aload hx hb dX7_goBack_55 (lv_at hl 4 rfl) ?_
      refine lv_aload_n hx hb dX7_goBack_57 rfl (lv_at hl 2 rfl) ?_
      refine o_get X S 4 0 (by decide) rfl rfl in_1 (by decide) k_129 rfl dX7_goBack_58 ?_
      refine lv_aload_n hx hb dX7_goBack_61 rfl (lv_at hl 0 rfl) ?_
      refine o_get X S 40 1 (by decide) rfl rfl in_7 (by decide) k_229 rfl dX7_goBack_62 ?_
      refine o_callVv (k := 4) (EvB_ok z) X S (mX4_addSlopes l hu x7 (σ 4 0) σ _ h) (by decide) rfl rfl k_670 k_667 k_668 k_669 k_6 ⟨rfl, by decide, by decide, by decide +kernel⟩ ⟨rfl, rfl⟩ ⟨Nat.le_of_ble_eq_true rfl, Nat.le_of_ble_eq_true rfl⟩ rfl hl.1 rfl (Nat.le_of_ble_eq_true rfl) dX7_goBack_65 (fun σ_12 H locs h S => ?_)
      refine lv_aload_n hx hb dX7_goBack_68 rfl (lv_at hl 1 rfl) ?_
      refine o_get X S T 0 (isSten_lt hT 0 (by decide)) ((shS0 hT) _) rfl in_8 (by decide) k_74 rfl dX7_goBack_69 ?_
      refine lv_iconst (v := 1) hx hb dX7_goBack_72 (by decide) ?_
      refine lv_isub hx hb dX7_goBack_73 ?_
      refine lv_topi (fun x8_13 ex8_13 => ?_)
      replace h := h x8_13 ex8_13
      refine lv_istore (lv' := [(8, .int x8_13), (0, .ref (ad 40)), (1, .ref (ad T)), (2, .ref (ad 4)), (3, .ref (ad 8)), (4, .ref (ad u)), (6, .int x6), (7, .int x7)]) hx hb dX7_goBack_74 hl (by decide) rfl (fun ls hl => ?_)
      obtain ⟨n_76, h⟩ := h
      refine mX7_goBack_L76 l hT hu X hr x7 ?_ n_76 _ _ _ _ _ _ S (lv_sub hl [1, 2, 3, 4, 5, 6, 7, 0] rfl) h
      · intro x6_19 σ_20 H locs ls S hl h
        obtain ⟨x7_21, ex7_21⟩ : ∃ y : Int32, y = x7 + (-1) := ⟨_, rfl⟩
        replace h := h x7_21 ex7_21
        refine lv_iinc (v := x7_21) (lv' := [(7, .int x7_21), (0, .ref (ad 40)), (1, .ref (ad T)), (2, .ref (ad 4)), (3, .ref (ad 8)), (4, .ref (ad u)), (6, .int x6_19)]) hx hb dX7_goBack_102 hl (k := 6) rfl (by rw [ex7_21]; rfl) (by decide) rfl (fun ls hl => ?_)
        refine lv_goto (tgt := 47) hx hb dX7_goBack_105 (by decide) ?_
        exact ih _ _ _ _ _ _ S (lv_sub hl [1, 2, 3, 4, 5, 6, 0] rfl) h
set_option maxHeartbeats 4000000 in
set_option maxRecDepth 100000 in
theorem mX7_goBack {D : va_G} {cy : Nat → ClassId} {ad z : Nat → Nat} (l : Launch) {T : Nat} (hT : isSten T) {u : Nat} (hu : isCou u) (σ : Sg) (Q : Sg → Prop) (h : wX7_goBack T u σ Q) : MVB D cy ad z l yX7_goBack (.code yX7_goBack cX7_goBack 9 none :: gT) ({ frames := 5, cells := 0, slots := 0, locals := 130 }) [.ref (ad 40), .ref (ad T), .ref (ad 4), .ref (ad 8), .ref (ad u)] σ Q := by
  refine metV_of (by decide +kernel) (Nat.le_of_ble_eq_true rfl) ?_
  intro p e s m args below meth c A ls X hr hl S
  have X : Fx D (tyB cy) (EvB z) p s m args meth c cX7_goBack 9 "BackBay$Slopes" A := X
  have hl : lv_has ls 9 [(0, .ref (ad 40)), (1, .ref (ad T)), (2, .ref (ad 4)), (3, .ref (ad 8)), (4, .ref (ad u))] := hl
  have hx := X.1
  have hb := X.2.1
  unfold wX7_goBack at h
  refine lv_aload_n hx hb dX7_goBack_0 rfl (lv_at hl 0 rfl) ?_
  refine o_get X S 40 0 (by decide) rfl rfl in_7 (by decide) k_227 rfl dX7_goBack_1 ?_
  refine lv_iconst (v := 0) hx hb dX7_goBack_4 (by decide) ?_
  refine o_callSv (k := 2) (EvB_ok z) X S (mJ7_fill_53178 l (by decide) (fun _ => rfl) 0 σ _ h) k_125 k_665 k_124 k_5 ⟨by decide, by decide, by decide +kernel⟩ ⟨rfl, rfl⟩ ⟨Nat.le_of_ble_eq_true rfl, Nat.le_of_ble_eq_true rfl⟩ rfl hl.1 rfl (Nat.le_of_ble_eq_true rfl) dX7_goBack_5 (fun σ_2 H locs h S => ?_)
  refine lv_aload_n hx hb dX7_goBack_8 rfl (lv_at hl 0 rfl) ?_
  refine o_get X S 40 1 (by decide) rfl rfl in_7 (by decide) k_229 rfl dX7_goBack_9 ?_
  refine lv_iconst (v := 0) hx hb dX7_goBack_12 (by decide) ?_
  refine o_callSv (k := 2) (EvB_ok z) X S (mJ7_fill_53178 l (by decide) (fun _ => rfl) 0 σ_2 _ h) k_125 k_665 k_124 k_5 ⟨by decide, by decide, by decide +kernel⟩ ⟨rfl, rfl⟩ ⟨Nat.le_of_ble_eq_true rfl, Nat.le_of_ble_eq_true rfl⟩ rfl hl.1 rfl (Nat.le_of_ble_eq_true rfl) dX7_goBack_13 (fun σ_4 H locs h S => ?_)
  refine lv_aload_n hx hb dX7_goBack_16 rfl (lv_at hl 0 rfl) ?_
  refine o_get X S 40 2 (by decide) rfl rfl in_7 (by decide) k_231 rfl dX7_goBack_17 ?_
  refine lv_iconst (v := 0) hx hb dX7_goBack_20 (by decide) ?_
  refine o_callSv (k := 2) (EvB_ok z) X S (mJ7_fill_53178 l (by decide) (fun _ => rfl) 0 σ_4 _ h) k_125 k_665 k_124 k_5 ⟨by decide, by decide, by decide +kernel⟩ ⟨rfl, rfl⟩ ⟨Nat.le_of_ble_eq_true rfl, Nat.le_of_ble_eq_true rfl⟩ rfl hl.1 rfl (Nat.le_of_ble_eq_true rfl) dX7_goBack_21 (fun σ_6 H locs h S => ?_)
  refine lv_aload_n hx hb dX7_goBack_24 rfl (lv_at hl 3 rfl) ?_
  refine lv_aload_n hx hb dX7_goBack_25 rfl (lv_at hl 2 rfl) ?_
  refine o_get X S 4 0 (by decide) rfl rfl in_1 (by decide) k_129 rfl dX7_goBack_26 ?_
  refine o_callVi (k := 1) (EvB_ok z) X S (mX4_last l (σ_6 4 0) σ_6 _ h) (by decide) rfl rfl k_628 k_666 k_626 k_627 k_6 ⟨rfl, by decide, by decide, by decide +kernel⟩ ⟨rfl, rfl⟩ ⟨Nat.le_of_ble_eq_true rfl, Nat.le_of_ble_eq_true rfl⟩ rfl hl.1 rfl (Nat.le_of_ble_eq_true rfl) dX7_goBack_29 (fun r_7 σ_8 H locs h S => ?_)
  refine lv_istore (lv' := [(5, .int r_7), (0, .ref (ad 40)), (1, .ref (ad T)), (2, .ref (ad 4)), (3, .ref (ad 8)), (4, .ref (ad u))]) hx hb dX7_goBack_32 hl (by decide) rfl (fun ls hl => ?_)
  refine lv_iload hx hb dX7_goBack_34 (lv_at hl 0 rfl) ?_
  refine lv_aload_n hx hb dX7_goBack_36 rfl (lv_at hl 2 rfl) ?_
  refine o_get X S T 0 (isSten_lt hT 0 (by decide)) ((shS0 hT) _) rfl in_8 (by decide) k_74 rfl dX7_goBack_37 ?_
  refine lv_imul hx hb dX7_goBack_40 ?_
  refine lv_topi (fun x6_9 ex6_9 => ?_)
  replace h := h x6_9 ex6_9
  refine lv_istore (lv' := [(6, .int x6_9), (5, .int r_7), (0, .ref (ad 40)), (1, .ref (ad T)), (2, .ref (ad 4)), (3, .ref (ad 8)), (4, .ref (ad u))]) hx hb dX7_goBack_41 hl (by decide) rfl (fun ls hl => ?_)
  refine lv_iload hx hb dX7_goBack_43 (lv_at hl 1 rfl) ?_
  refine lv_istore (lv' := [(7, .int r_7), (6, .int x6_9), (5, .int r_7), (0, .ref (ad 40)), (1, .ref (ad T)), (2, .ref (ad 4)), (3, .ref (ad 8)), (4, .ref (ad u))]) hx hb dX7_goBack_45 hl (by decide) rfl (fun ls hl => ?_)
  obtain ⟨n_47, h⟩ := h
  refine mX7_goBack_L47 l hT hu X hr ?_ n_47 _ _ _ _ _ _ S (lv_sub hl [3, 4, 5, 6, 7, 1, 0] rfl) h
  · intro σ_22 H locs ls S hl h
    refine lv_aload_n hx hb dX7_goBack_108 rfl (lv_at hl 2 rfl) ?_
    refine lv_iconst (v := 0) hx hb dX7_goBack_109 (by decide) ?_
    refine lv_aload hx hb dX7_goBack_110 (lv_at hl 3 rfl) ?_
    refine lv_aload_n hx hb dX7_goBack_112 rfl (lv_at hl 1 rfl) ?_
    refine o_get X S 4 0 (by decide) rfl rfl in_1 (by decide) k_129 rfl dX7_goBack_113 ?_
    refine lv_aload_n hx hb dX7_goBack_116 rfl (lv_at hl 0 rfl) ?_
    refine o_get X S 40 1 (by decide) rfl rfl in_7 (by decide) k_229 rfl dX7_goBack_117 ?_
    refine o_callVv (k := 4) (EvB_ok z) X S (mX4_addSlopes l hu 0 (σ_22 4 0) σ_22 _ h) (by decide) rfl rfl k_670 k_667 k_668 k_669 k_6 ⟨rfl, by decide, by decide, by decide +kernel⟩ ⟨rfl, rfl⟩ ⟨Nat.le_of_ble_eq_true rfl, Nat.le_of_ble_eq_true rfl⟩ rfl hl.1 rfl (Nat.le_of_ble_eq_true rfl) dX7_goBack_120 (fun σ_24 H locs h S => ?_)
    exact o_vret X S hr h dX7_goBack_123
def wX7_steepestStrips_b42 (x1 : Int32) (x2 : Int64) (x4 : Int32) (x5 : Int32) (σ : Sg) (k48 : Int32 → Sg → Prop) (kb9 : Int64 → Int32 → Int32 → Sg → Prop) (Q : Int32 → Sg → Prop) : Prop :=
  (∀ x5_4 : Int32, x5_4 = x5 + 1 → kb9 x2 x4 x5_4 σ)
def wX7_steepestStrips_L9 (x1 : Int32) (k48 : Int32 → Sg → Prop) (Q : Int32 → Sg → Prop) : Nat → Int64 → Int32 → Int32 → Sg → Prop
  | 0, _, _, _, _ => False
  | nn9 + 1, x2, x4, x5, σ =>
  ((x1 ≤ x5 → k48 x4 σ) ∧ (¬ x1 ≤ x5 → (vp_in x5 10 ∧ (∀ x6_2, x6_2 = (if 0 < ((σ 41 x5.toNatClampNeg).toInt64) then ((σ 41 x5.toNatClampNeg).toInt64) else -((σ 41 x5.toNatClampNeg).toInt64)) → (((lg_cmp x6_2 x2) ≤ 0 → wX7_steepestStrips_b42 x1 x2 x4 x5 σ k48 (wX7_steepestStrips_L9 x1 k48 Q nn9) Q) ∧ (¬ (lg_cmp x6_2 x2) ≤ 0 → wX7_steepestStrips_b42 x1 x6_2 x5 x5 σ k48 (wX7_steepestStrips_L9 x1 k48 Q nn9) Q))))))
def wX7_steepestStrips (x1 : Int32) (σ : Sg) (Q : Int32 → Sg → Prop) : Prop :=
  (∃ nf, wX7_steepestStrips_L9 x1 (fun x4_5 σ_6 => Q x4_5 σ_6) Q nf (0 : Int64) (-1000000) 0 σ)
set_option maxHeartbeats 4000000 in
set_option maxRecDepth 100000 in
theorem mX7_steepestStrips_b42 {D : va_G} {cy : Nat → ClassId} {ad z : Nat → Nat} (l : Launch) {p : Program} {e : Env} {s : State} {m : MethodId} {args : Array Value} {below : List Frame} {meth : Method} {c : Code} {A : Nat → Prop} {k48 : Int32 → Sg → Prop} {kb9 : Int64 → Int32 → Int32 → Sg → Prop} {Q : Int32 → Sg → Prop} (X : Fx D (tyB cy) (EvB z) p s m args meth c cX7_steepestStrips 8 "BackBay$Slopes" A) (hr : meth.sig.returnType = some .int) (x1 : Int32) (x2 : Int64) (x4 : Int32) (x5 : Int32) (hk48 : ∀ (x4 : Int32) (σ : Sg) (H : Heap) (locs : List Loc) (ls : Array Slot), St D ad 75 (shB cy ad) A s σ H locs → lv_has ls 8 [(4, .int x4)] → k48 x4 σ → W p l e ({ frames := 1, cells := 0, slots := 0, locals := 24 }) s m args below meth c H locs 0 0 (MQ below (va_Qi Q (PosW D (tyB cy) ad 75 (shB cy ad) A) A) args s 0 0 A) (F0 m 48 ls [])) (hkb9 : ∀ (x2 : Int64) (x4 : Int32) (x5 : Int32) (σ : Sg) (H : Heap) (locs : List Loc) (ls : Array Slot), St D ad 75 (shB cy ad) A s σ H locs → lv_has ls 8 [(0, .ref (ad 40)), (1, .int x1), (2, .long x2), (4, .int x4), (5, .int x5)] → kb9 x2 x4 x5 σ → W p l e ({ frames := 1, cells := 0, slots := 0, locals := 24 }) s m args below meth c H locs 0 0 (MQ below (va_Qi Q (PosW D (tyB cy) ad 75 (shB cy ad) A) A) args s 0 0 A) (F0 m 9 ls [])) {σ : Sg} {H : Heap} {locs : List Loc} {ls : Array Slot} (S : St D ad 75 (shB cy ad) A s σ H locs) (hl : lv_has ls 8 [(0, .ref (ad 40)), (1, .int x1), (2, .long x2), (4, .int x4), (5, .int x5)]) (h : wX7_steepestStrips_b42 x1 x2 x4 x5 σ k48 kb9 Q) : W p l e ({ frames := 1, cells := 0, slots := 0, locals := 24 }) s m args below meth c H locs 0 0 (MQ below (va_Qi Q (PosW D (tyB cy) ad 75 (shB cy ad) A) A) args s 0 0 A) (F0 m 42 ls []) := by
  have hx := X.1
  have hb := X.2.1
  unfold wX7_steepestStrips_b42 at h
  obtain ⟨x5_4, ex5_4⟩ : ∃ y : Int32, y = x5 + 1 := ⟨_, rfl⟩
  replace h := h x5_4 ex5_4
  refine lv_iinc (v := x5_4) (lv' := [(5, .int x5_4), (0, .ref (ad 40)), (1, .int x1), (2, .long x2), (4, .int x4)]) hx hb dX7_steepestStrips_42 hl (k := 4) rfl (by rw [ex5_4]; rfl) (by decide) rfl (fun ls hl => ?_)
  refine lv_goto (tgt := 9) hx hb dX7_steepestStrips_45 (by decide) ?_
  exact hkb9 _ _ _ _ _ _ _ S (lv_sub hl [1, 2, 3, 4, 0] rfl) h
set_option maxHeartbeats 4000000 in
set_option maxRecDepth 100000 in
theorem mX7_steepestStrips_L9 {D : va_G} {cy : Nat → ClassId} {ad z : Nat → Nat} (l : Launch) {p : Program} {e : Env} {s : State} {m : MethodId} {args : Array Value} {below : List Frame} {meth : Method} {c : Code} {A : Nat → Prop} {k48 : Int32 → Sg → Prop} {Q : Int32 → Sg → Prop} (X : Fx D (tyB cy) (EvB z) p s m args meth c cX7_steepestStrips 8 "BackBay$Slopes" A) (hr : meth.sig.returnType = some .int) (x1 : Int32) (hk48 : ∀ (x4 : Int32) (σ : Sg) (H : Heap) (locs : List Loc) (ls : Array Slot), St D ad 75 (shB cy ad) A s σ H locs → lv_has ls 8 [(4, .int x4)] → k48 x4 σ → W p l e ({ frames := 1, cells := 0, slots := 0, locals := 24 }) s m args below meth c H locs 0 0 (MQ below (va_Qi Q (PosW D (tyB cy) ad 75 (shB cy ad) A) A) args s 0 0 A) (F0 m 48 ls [])) : ∀ (n : Nat) (x2 : Int64) (x4 : Int32) (x5 : Int32) (σ : Sg) (H : Heap) (locs : List Loc) (ls : Array Slot), St D ad 75 (shB cy ad) A s σ H locs → lv_has ls 8 [(0, .ref (ad 40)), (1, .int x1), (2, .long x2), (4, .int x4), (5, .int x5)] → wX7_steepestStrips_L9 x1 k48 Q n x2 x4 x5 σ → W p l e ({ frames := 1, cells := 0, slots := 0, locals := 24 }) s m args below meth c H locs 0 0 (MQ below (va_Qi Q (PosW D (tyB cy) ad 75 (shB cy ad) A) A) args s 0 0 A) (F0 m 9 ls []) := by
  have hx := X.1
  have hb := X.2.1
  intro n
  induction n with
  | zero =>
    intro _ _ _ _ _ _ _ _ _ h
    exact absurd h (by unfold wX7_steepestStrips_L9; exact id)
  | succ n ih =>
    intro x2 x4 x5 σ H locs ls S hl h
    unfold wX7_steepestStrips_L9 at h
    refine lv_iload hx hb dX7_steepestStrips_9 (lv_at hl 4 rfl) ?_
    refine lv_iload_n hx hb dX7_steepestStrips_11 rfl (lv_at hl 1 rfl) ?_
    refine lv_icmp_ge (tgt := 48) hx hb dX7_steepestStrips_12 (by decide) (fun q_1 => ?_) (fun q_1 => ?_)
    · replace h := h.1 q_1
      exact hk48 _ _ _ _ _ S (lv_sub hl [3] rfl) h
    · replace h := h.2 q_1
      refine lv_aload_n hx hb dX7_steepestStrips_15 rfl (lv_at hl 0 rfl) ?_
      refine o_get X S 40 0 (by decide) rfl rfl in_7 (by decide) k_227 rfl dX7_steepestStrips_16 ?_
      refine lv_iload hx hb dX7_steepestStrips_19 (lv_at hl 4 rfl) ?_
      refine o_iald X S 41 0 (by decide) (fun _ => rfl) rfl h.1 dX7_steepestStrips_21 ?_
      replace h := h.2
      refine lv_i2l hx hb dX7_steepestStrips_22 rfl ?_
      refine va_mabs_long hx hb (X.2.2.1.trans hl.1.symm) X.2.2.2.1 (X.2.2.2.2.1 _ k_721) (X.2.2.2.2.1 _ k_722) (X.2.2.2.2.1 _ k_20) (X.2.2.2.2.1 _ k_723) (Nat.le_of_ble_eq_true rfl) (Nat.le_of_ble_eq_true rfl) (Nat.zero_le _) (Nat.zero_le _) dX7_steepestStrips_23 ?_
      refine lv_topl (fun x6_2 ex6_2 => ?_)
      replace h := h x6_2 ex6_2
      refine lv_lstore (lv' := [(6, .long x6_2), (0, .ref (ad 40)), (1, .int x1), (2, .long x2), (4, .int x4), (5, .int x5)]) hx hb dX7_steepestStrips_26 hl (by decide) rfl (fun ls hl => ?_)
      refine lv_lload hx hb dX7_steepestStrips_28 (lv_at hl 0 rfl) ?_
      refine lv_lload_n hx hb dX7_steepestStrips_30 rfl (lv_at hl 3 rfl) ?_
      refine W.lcmp hx hb dX7_steepestStrips_31 ?_
      refine lv_if_le (tgt := 42) hx hb dX7_steepestStrips_32 (by decide) (fun q_3 => ?_) (fun q_3 => ?_)
      · replace h := h.1 q_3
        exact mX7_steepestStrips_b42 l X hr x1 x2 x4 x5 hk48 ih S (lv_sub hl [1, 2, 3, 4, 5] rfl) h
      · replace h := h.2 q_3
        refine lv_lload hx hb dX7_steepestStrips_35 (lv_at hl 0 rfl) ?_
        refine lv_lstore_n (lv' := [(2, .long x6_2), (6, .long x6_2), (0, .ref (ad 40)), (1, .int x1), (4, .int x4), (5, .int x5)]) hx hb dX7_steepestStrips_37 rfl hl (by decide) rfl (fun ls hl => ?_)
        refine lv_iload hx hb dX7_steepestStrips_38 (lv_at hl 5 rfl) ?_
        refine lv_istore (lv' := [(4, .int x5), (2, .long x6_2), (6, .long x6_2), (0, .ref (ad 40)), (1, .int x1), (5, .int x5)]) hx hb dX7_steepestStrips_40 hl (by decide) rfl (fun ls hl => ?_)
        exact mX7_steepestStrips_b42 l X hr x1 x6_2 x5 x5 hk48 ih S (lv_sub hl [3, 4, 1, 0, 5] rfl) h
set_option maxHeartbeats 4000000 in
set_option maxRecDepth 100000 in
theorem mX7_steepestStrips {D : va_G} {cy : Nat → ClassId} {ad z : Nat → Nat} (l : Launch) (x1 : Int32) (σ : Sg) (Q : Int32 → Sg → Prop) (h : wX7_steepestStrips x1 σ Q) : MIB D cy ad z l yX7_steepestStrips (.code yX7_steepestStrips cX7_steepestStrips 8 (some .int) :: gT) ({ frames := 1, cells := 0, slots := 0, locals := 24 }) [.ref (ad 40), .int x1] σ Q := by
  refine metI_of (by decide +kernel) (Nat.le_of_ble_eq_true rfl) ?_
  intro p e s m args below meth c A ls X hr hl S
  have X : Fx D (tyB cy) (EvB z) p s m args meth c cX7_steepestStrips 8 "BackBay$Slopes" A := X
  have hl : lv_has ls 8 [(0, .ref (ad 40)), (1, .int x1)] := hl
  have hx := X.1
  have hb := X.2.1
  unfold wX7_steepestStrips at h
  refine lv_lconst (v := 0) hx hb dX7_steepestStrips_0 (by decide) ?_
  refine lv_lstore_n (lv' := [(2, .long (0 : Int64)), (0, .ref (ad 40)), (1, .int x1)]) hx hb dX7_steepestStrips_1 rfl hl (by decide) rfl (fun ls hl => ?_)
  refine lv_ldc (v := (-1000000)) hx hb X.2.2.2.1 (X.2.2.2.2.1 _ k_720) dX7_steepestStrips_2 ?_
  refine lv_istore (lv' := [(4, .int (-1000000)), (2, .long (0 : Int64)), (0, .ref (ad 40)), (1, .int x1)]) hx hb dX7_steepestStrips_4 hl (by decide) rfl (fun ls hl => ?_)
  refine lv_iconst (v := 0) hx hb dX7_steepestStrips_6 (by decide) ?_
  refine lv_istore (lv' := [(5, .int 0), (4, .int (-1000000)), (2, .long (0 : Int64)), (0, .ref (ad 40)), (1, .int x1)]) hx hb dX7_steepestStrips_7 hl (by decide) rfl (fun ls hl => ?_)
  obtain ⟨n_9, h⟩ := h
  refine mX7_steepestStrips_L9 l X hr x1 ?_ n_9 _ _ _ _ _ _ _ S (lv_sub hl [3, 4, 2, 1, 0] rfl) h
  · intro x4_5 σ_6 H locs ls S hl h
    refine lv_iload hx hb dX7_steepestStrips_48 (lv_at hl 0 rfl) ?_
    exact o_iret X S hr h dX7_steepestStrips_50
def wX5_at (x0 : Int32) (x1 : Int32) (σ : Sg) (Q : Int32 → Sg → Prop) : Prop :=
  Q ((x1 * 41) + x0) σ
set_option maxHeartbeats 4000000 in
set_option maxRecDepth 100000 in
theorem mX5_at {D : va_G} {cy : Nat → ClassId} {ad z : Nat → Nat} (l : Launch) (x0 : Int32) (x1 : Int32) (σ : Sg) (Q : Int32 → Sg → Prop) (h : wX5_at x0 x1 σ Q) : MIB D cy ad z l yX5_at (.code yX5_at cX5_at 2 (some .int) :: gT) ({ frames := 0, cells := 0, slots := 0, locals := 0 }) [.int x0, .int x1] σ Q := by
  refine metI_of (by decide +kernel) (Nat.le_of_ble_eq_true rfl) ?_
  intro p e s m args below meth c A ls X hr hl S
  have X : Fx D (tyB cy) (EvB z) p s m args meth c cX5_at 2 "BackBay$Redoing" A := X
  have hl : lv_has ls 2 [(0, .int x0), (1, .int x1)] := hl
  have hx := X.1
  have hb := X.2.1
  unfold wX5_at at h
  refine lv_iload_n hx hb dX5_at_0 rfl (lv_at hl 1 rfl) ?_
  refine lv_bipush (v := 41) hx hb dX5_at_1 (by decide) ?_
  refine lv_imul hx hb dX5_at_3 ?_
  refine lv_iload_n hx hb dX5_at_4 rfl (lv_at hl 0 rfl) ?_
  refine lv_iadd hx hb dX5_at_5 ?_
  exact o_iret X S hr h dX5_at_6
def wX5_fillOne_b80 (x1 : Int32) (x2 : Int32) (x3 : Int32) (x4 : Int32) (σ : Sg) (k86 : Sg → Prop) (kb9 : Int32 → Sg → Prop) (Q : Sg → Prop) : Prop :=
  (∀ x4_12 : Int32, x4_12 = x4 + 1 → kb9 x4_12 σ)
def wX5_fillOne_b64 (x1 : Int32) (x2 : Int32) (x3 : Int32) (x4 : Int32) (x5 : Int32) (σ : Sg) (k86 : Sg → Prop) (kb9 : Int32 → Sg → Prop) (Q : Sg → Prop) : Prop :=
  (vp_in x3 287 ∧ ∀ σ_10, σ_10 = sto σ 46 x3.toNatClampNeg x5 → (vp_in x3 287 ∧ ∀ σ_11, σ_11 = sto σ_10 47 x3.toNatClampNeg x4 → wX5_fillOne_b80 x1 x2 x3 x4 σ_11 k86 kb9 Q))
def wX5_fillOne_L9 (x1 : Int32) (x2 : Int32) (x3 : Int32) (k86 : Sg → Prop) (Q : Sg → Prop) : Nat → Int32 → Sg → Prop
  | 0, _, _ => False
  | nn9 + 1, x4, σ =>
  ((x1 ≤ x4 → k86 σ) ∧ (¬ x1 ≤ x4 → (wX5_at (x1 - x4) (x2 - 1) σ (fun r_4 σ_5 => (vp_in r_4 287 ∧ (wX5_at x4 x2 σ_5 (fun r_6 σ_7 => (vp_in r_6 287 ∧ (∀ x5_8, x5_8 = ((x4 + (σ_5 46 r_4.toNatClampNeg)) + (σ_7 46 r_6.toNatClampNeg)) → ((x4 = 1 → wX5_fillOne_b64 x1 x2 x3 x4 x5_8 σ_7 k86 (wX5_fillOne_L9 x1 x2 x3 k86 Q nn9) Q) ∧ (¬ x4 = 1 → (vp_in x3 287 ∧ (((σ_7 46 x3.toNatClampNeg) ≤ x5_8 → wX5_fillOne_b80 x1 x2 x3 x4 σ_7 k86 (wX5_fillOne_L9 x1 x2 x3 k86 Q nn9) Q) ∧ (¬ (σ_7 46 x3.toNatClampNeg) ≤ x5_8 → wX5_fillOne_b64 x1 x2 x3 x4 x5_8 σ_7 k86 (wX5_fillOne_L9 x1 x2 x3 k86 Q nn9) Q))))))))))))))
def wX5_fillOne (x1 : Int32) (x2 : Int32) (σ : Sg) (Q : Sg → Prop) : Prop :=
  (wX5_at x1 x2 σ (fun r_1 σ_2 => (∃ nf, wX5_fillOne_L9 x1 x2 r_1 (fun σ_14 => Q σ_14) Q nf 1 σ_2)))
set_option maxHeartbeats 4000000 in
set_option maxRecDepth 100000 in
theorem mX5_fillOne_b80 {D : va_G} {cy : Nat → ClassId} {ad z : Nat → Nat} (l : Launch) {p : Program} {e : Env} {s : State} {m : MethodId} {args : Array Value} {below : List Frame} {meth : Method} {c : Code} {A : Nat → Prop} {k86 : Sg → Prop} {kb9 : Int32 → Sg → Prop} {Q : Sg → Prop} (X : Fx D (tyB cy) (EvB z) p s m args meth c cX5_fillOne 6 "BackBay$Redoing" A) (hr : meth.sig.returnType = none) (x1 : Int32) (x2 : Int32) (x3 : Int32) (x4 : Int32) (hk86 : ∀ (σ : Sg) (H : Heap) (locs : List Loc) (ls : Array Slot), St D ad 75 (shB cy ad) A s σ H locs → lv_has ls 6 [] → k86 σ → W p l e ({ frames := 1, cells := 0, slots := 0, locals := 21 }) s m args below meth c H locs 0 0 (MQ below (va_Qv Q (PosW D (tyB cy) ad 75 (shB cy ad) A) A) args s 0 0 A) (F0 m 86 ls [])) (hkb9 : ∀ (x4 : Int32) (σ : Sg) (H : Heap) (locs : List Loc) (ls : Array Slot), St D ad 75 (shB cy ad) A s σ H locs → lv_has ls 6 [(0, .ref (ad 45)), (1, .int x1), (2, .int x2), (3, .int x3), (4, .int x4)] → kb9 x4 σ → W p l e ({ frames := 1, cells := 0, slots := 0, locals := 21 }) s m args below meth c H locs 0 0 (MQ below (va_Qv Q (PosW D (tyB cy) ad 75 (shB cy ad) A) A) args s 0 0 A) (F0 m 9 ls [])) {σ : Sg} {H : Heap} {locs : List Loc} {ls : Array Slot} (S : St D ad 75 (shB cy ad) A s σ H locs) (hl : lv_has ls 6 [(0, .ref (ad 45)), (1, .int x1), (2, .int x2), (3, .int x3), (4, .int x4)]) (h : wX5_fillOne_b80 x1 x2 x3 x4 σ k86 kb9 Q) : W p l e ({ frames := 1, cells := 0, slots := 0, locals := 21 }) s m args below meth c H locs 0 0 (MQ below (va_Qv Q (PosW D (tyB cy) ad 75 (shB cy ad) A) A) args s 0 0 A) (F0 m 80 ls []) := by
  have hx := X.1
  have hb := X.2.1
  unfold wX5_fillOne_b80 at h
  obtain ⟨x4_12, ex4_12⟩ : ∃ y : Int32, y = x4 + 1 := ⟨_, rfl⟩
  replace h := h x4_12 ex4_12
  refine lv_iinc (v := x4_12) (lv' := [(4, .int x4_12), (0, .ref (ad 45)), (1, .int x1), (2, .int x2), (3, .int x3)]) hx hb dX5_fillOne_80 hl (k := 4) rfl (by rw [ex4_12]; rfl) (by decide) rfl (fun ls hl => ?_)
  refine lv_goto (tgt := 9) hx hb dX5_fillOne_83 (by decide) ?_
  exact hkb9 _ _ _ _ _ S (lv_sub hl [1, 2, 3, 4, 0] rfl) h
set_option maxHeartbeats 4000000 in
set_option maxRecDepth 100000 in
theorem mX5_fillOne_b64 {D : va_G} {cy : Nat → ClassId} {ad z : Nat → Nat} (l : Launch) {p : Program} {e : Env} {s : State} {m : MethodId} {args : Array Value} {below : List Frame} {meth : Method} {c : Code} {A : Nat → Prop} {k86 : Sg → Prop} {kb9 : Int32 → Sg → Prop} {Q : Sg → Prop} (X : Fx D (tyB cy) (EvB z) p s m args meth c cX5_fillOne 6 "BackBay$Redoing" A) (hr : meth.sig.returnType = none) (x1 : Int32) (x2 : Int32) (x3 : Int32) (x4 : Int32) (x5 : Int32) (hk86 : ∀ (σ : Sg) (H : Heap) (locs : List Loc) (ls : Array Slot), St D ad 75 (shB cy ad) A s σ H locs → lv_has ls 6 [] → k86 σ → W p l e ({ frames := 1, cells := 0, slots := 0, locals := 21 }) s m args below meth c H locs 0 0 (MQ below (va_Qv Q (PosW D (tyB cy) ad 75 (shB cy ad) A) A) args s 0 0 A) (F0 m 86 ls [])) (hkb9 : ∀ (x4 : Int32) (σ : Sg) (H : Heap) (locs : List Loc) (ls : Array Slot), St D ad 75 (shB cy ad) A s σ H locs → lv_has ls 6 [(0, .ref (ad 45)), (1, .int x1), (2, .int x2), (3, .int x3), (4, .int x4)] → kb9 x4 σ → W p l e ({ frames := 1, cells := 0, slots := 0, locals := 21 }) s m args below meth c H locs 0 0 (MQ below (va_Qv Q (PosW D (tyB cy) ad 75 (shB cy ad) A) A) args s 0 0 A) (F0 m 9 ls [])) {σ : Sg} {H : Heap} {locs : List Loc} {ls : Array Slot} (S : St D ad 75 (shB cy ad) A s σ H locs) (hl : lv_has ls 6 [(0, .ref (ad 45)), (1, .int x1), (2, .int x2), (3, .int x3), (4, .int x4), (5, .int x5)]) (h : wX5_fillOne_b64 x1 x2 x3 x4 x5 σ k86 kb9 Q) : W p l e ({ frames := 1, cells := 0, slots := 0, locals := 21 }) s m args below meth c H locs 0 0 (MQ below (va_Qv Q (PosW D (tyB cy) ad 75 (shB cy ad) A) A) args s 0 0 A) (F0 m 64 ls []) := by
  have hx := X.1
  have hb := X.2.1
  unfold wX5_fillOne_b64 at h
  refine lv_aload_n hx hb dX5_fillOne_64 rfl (lv_at hl 0 rfl) ?_
  refine o_get X S 45 0 (by decide) rfl rfl in_5 (by decide) k_249 rfl dX5_fillOne_65 ?_
  refine lv_iload_n hx hb dX5_fillOne_68 rfl (lv_at hl 3 rfl) ?_
  refine lv_iload hx hb dX5_fillOne_69 (lv_at hl 5 rfl) ?_
  refine o_iast X S 46 0 (by decide) (fun _ => rfl) rfl h.1 dX5_fillOne_71 (fun σ_10 H locs eσ_10 S => ?_)
  replace h := h.2 σ_10 eσ_10
  refine lv_aload_n hx hb dX5_fillOne_72 rfl (lv_at hl 0 rfl) ?_
  refine o_get X S 45 1 (by decide) rfl rfl in_5 (by decide) k_251 rfl dX5_fillOne_73 ?_
  refine lv_iload_n hx hb dX5_fillOne_76 rfl (lv_at hl 3 rfl) ?_
  refine lv_iload hx hb dX5_fillOne_77 (lv_at hl 4 rfl) ?_
  refine o_iast X S 47 0 (by decide) (fun _ => rfl) rfl h.1 dX5_fillOne_79 (fun σ_11 H locs eσ_11 S => ?_)
  replace h := h.2 σ_11 eσ_11
  exact mX5_fillOne_b80 l X hr x1 x2 x3 x4 hk86 hkb9 S (lv_sub hl [0, 1, 2, 3, 4] rfl) h
set_option maxHeartbeats 4000000 in
set_option maxRecDepth 100000 in
theorem mX5_fillOne_L9 {D : va_G} {cy : Nat → ClassId} {ad z : Nat → Nat} (l : Launch) {p : Program} {e : Env} {s : State} {m : MethodId} {args : Array Value} {below : List Frame} {meth : Method} {c : Code} {A : Nat → Prop} {k86 : Sg → Prop} {Q : Sg → Prop} (X : Fx D (tyB cy) (EvB z) p s m args meth c cX5_fillOne 6 "BackBay$Redoing" A) (hr : meth.sig.returnType = none) (x1 : Int32) (x2 : Int32) (x3 : Int32) (hk86 : ∀ (σ : Sg) (H : Heap) (locs : List Loc) (ls : Array Slot), St D ad 75 (shB cy ad) A s σ H locs → lv_has ls 6 [] → k86 σ → W p l e ({ frames := 1, cells := 0, slots := 0, locals := 21 }) s m args below meth c H locs 0 0 (MQ below (va_Qv Q (PosW D (tyB cy) ad 75 (shB cy ad) A) A) args s 0 0 A) (F0 m 86 ls [])) : ∀ (n : Nat) (x4 : Int32) (σ : Sg) (H : Heap) (locs : List Loc) (ls : Array Slot), St D ad 75 (shB cy ad) A s σ H locs → lv_has ls 6 [(0, .ref (ad 45)), (1, .int x1), (2, .int x2), (3, .int x3), (4, .int x4)] → wX5_fillOne_L9 x1 x2 x3 k86 Q n x4 σ → W p l e ({ frames := 1, cells := 0, slots := 0, locals := 21 }) s m args below meth c H locs 0 0 (MQ below (va_Qv Q (PosW D (tyB cy) ad 75 (shB cy ad) A) A) args s 0 0 A) (F0 m 9 ls []) := by
  have hx := X.1
  have hb := X.2.1
  intro n
  induction n with
  | zero =>
    intro _ _ _ _ _ _ _ h
    exact absurd h (by unfold wX5_fillOne_L9; exact id)
  | succ n ih =>
    intro x4 σ H locs ls S hl h
    unfold wX5_fillOne_L9 at h
    refine lv_iload hx hb dX5_fillOne_9 (lv_at hl 4 rfl) ?_
    refine lv_iload_n hx hb dX5_fillOne_11 rfl (lv_at hl 1 rfl) ?_
    refine lv_icmp_ge (tgt := 86) hx hb dX5_fillOne_12 (by decide) (fun q_3 => ?_) (fun q_3 => ?_)
    · replace h := h.1 q_3
      exact hk86 _ _ _ _ S (lv_sub hl [] rfl) h
    · replace h := h.2 q_3
      refine lv_iload hx hb dX5_fillOne_15 (lv_at hl 4 rfl) ?_
      refine lv_aload_n hx hb dX5_fillOne_17 rfl (lv_at hl 0 rfl) ?_
      refine o_get X S 45 0 (by decide) rfl rfl in_5 (by decide) k_249 rfl dX5_fillOne_18 ?_
      refine lv_iload_n hx hb dX5_fillOne_21 rfl (lv_at hl 1 rfl) ?_
      refine lv_iload hx hb dX5_fillOne_22 (lv_at hl 4 rfl) ?_
      refine lv_isub hx hb dX5_fillOne_24 ?_
      refine lv_iload_n hx hb dX5_fillOne_25 rfl (lv_at hl 2 rfl) ?_
      refine lv_iconst (v := 1) hx hb dX5_fillOne_26 (by decide) ?_
      refine lv_isub hx hb dX5_fillOne_27 ?_
      refine o_callSi (k := 2) (EvB_ok z) X S (mX5_at l (x1 - x4) (x2 - 1) σ _ h) k_706 k_704 k_705 k_10 ⟨by decide, by decide, by decide +kernel⟩ ⟨rfl, rfl⟩ ⟨Nat.le_of_ble_eq_true rfl, Nat.le_of_ble_eq_true rfl⟩ rfl hl.1 rfl (Nat.le_of_ble_eq_true rfl) dX5_fillOne_28 (fun r_4 σ_5 H locs h S => ?_)
      refine o_iald X S 46 0 (by decide) (fun _ => rfl) rfl h.1 dX5_fillOne_31 ?_
      replace h := h.2
      refine lv_iadd hx hb dX5_fillOne_32 ?_
      refine lv_aload_n hx hb dX5_fillOne_33 rfl (lv_at hl 0 rfl) ?_
      refine o_get X S 45 0 (by decide) rfl rfl in_5 (by decide) k_249 rfl dX5_fillOne_34 ?_
      refine lv_iload hx hb dX5_fillOne_37 (lv_at hl 4 rfl) ?_
      refine lv_iload_n hx hb dX5_fillOne_39 rfl (lv_at hl 2 rfl) ?_
      refine o_callSi (k := 2) (EvB_ok z) X S (mX5_at l x4 x2 σ_5 _ h) k_706 k_704 k_705 k_10 ⟨by decide, by decide, by decide +kernel⟩ ⟨rfl, rfl⟩ ⟨Nat.le_of_ble_eq_true rfl, Nat.le_of_ble_eq_true rfl⟩ rfl hl.1 rfl (Nat.le_of_ble_eq_true rfl) dX5_fillOne_40 (fun r_6 σ_7 H locs h S => ?_)
      refine o_iald X S 46 0 (by decide) (fun _ => rfl) rfl h.1 dX5_fillOne_43 ?_
      replace h := h.2
      refine lv_iadd hx hb dX5_fillOne_44 ?_
      refine lv_topi (fun x5_8 ex5_8 => ?_)
      replace h := h x5_8 ex5_8
      refine lv_istore (lv' := [(5, .int x5_8), (0, .ref (ad 45)), (1, .int x1), (2, .int x2), (3, .int x3), (4, .int x4)]) hx hb dX5_fillOne_45 hl (by decide) rfl (fun ls hl => ?_)
      refine lv_iload hx hb dX5_fillOne_47 (lv_at hl 5 rfl) ?_
      refine lv_iconst (v := 1) hx hb dX5_fillOne_49 (by decide) ?_
      refine lv_icmp_eq (tgt := 64) hx hb dX5_fillOne_50 (by decide) (fun q_9 => ?_) (fun q_9 => ?_)
      · replace h := h.1 q_9
        exact mX5_fillOne_b64 l X hr x1 x2 x3 x4 x5_8 hk86 ih S (lv_sub hl [1, 2, 3, 4, 5, 0] rfl) h
      · replace h := h.2 q_9
        refine lv_iload hx hb dX5_fillOne_53 (lv_at hl 0 rfl) ?_
        refine lv_aload_n hx hb dX5_fillOne_55 rfl (lv_at hl 1 rfl) ?_
        refine o_get X S 45 0 (by decide) rfl rfl in_5 (by decide) k_249 rfl dX5_fillOne_56 ?_
        refine lv_iload_n hx hb dX5_fillOne_59 rfl (lv_at hl 4 rfl) ?_
        refine o_iald X S 46 0 (by decide) (fun _ => rfl) rfl h.1 dX5_fillOne_60 ?_
        replace h := h.2
        refine lv_icmp_ge (tgt := 80) hx hb dX5_fillOne_61 (by decide) (fun q_13 => ?_) (fun q_13 => ?_)
        · replace h := h.1 q_13
          exact mX5_fillOne_b80 l X hr x1 x2 x3 x4 hk86 ih S (lv_sub hl [1, 2, 3, 4, 5] rfl) h
        · replace h := h.2 q_13
          exact mX5_fillOne_b64 l X hr x1 x2 x3 x4 x5_8 hk86 ih S (lv_sub hl [1, 2, 3, 4, 5, 0] rfl) h
set_option maxHeartbeats 4000000 in
set_option maxRecDepth 100000 in
theorem mX5_fillOne {D : va_G} {cy : Nat → ClassId} {ad z : Nat → Nat} (l : Launch) (x1 : Int32) (x2 : Int32) (σ : Sg) (Q : Sg → Prop) (h : wX5_fillOne x1 x2 σ Q) : MVB D cy ad z l yX5_fillOne (.code yX5_fillOne cX5_fillOne 6 none :: gT) ({ frames := 1, cells := 0, slots := 0, locals := 21 }) [.ref (ad 45), .int x1, .int x2] σ Q := by
  refine metV_of (by decide +kernel) (Nat.le_of_ble_eq_true rfl) ?_
  intro p e s m args below meth c A ls X hr hl S
  have X : Fx D (tyB cy) (EvB z) p s m args meth c cX5_fillOne 6 "BackBay$Redoing" A := X
  have hl : lv_has ls 6 [(0, .ref (ad 45)), (1, .int x1), (2, .int x2)] := hl
  have hx := X.1
  have hb := X.2.1
  unfold wX5_fillOne at h
  refine lv_iload_n hx hb dX5_fillOne_0 rfl (lv_at hl 1 rfl) ?_
  refine lv_iload_n hx hb dX5_fillOne_1 rfl (lv_at hl 2 rfl) ?_
  refine o_callSi (k := 2) (EvB_ok z) X S (mX5_at l x1 x2 σ _ h) k_706 k_704 k_705 k_10 ⟨by decide, by decide, by decide +kernel⟩ ⟨rfl, rfl⟩ ⟨Nat.le_of_ble_eq_true rfl, Nat.le_of_ble_eq_true rfl⟩ rfl hl.1 rfl (Nat.le_of_ble_eq_true rfl) dX5_fillOne_2 (fun r_1 σ_2 H locs h S => ?_)
  refine lv_istore_n (lv' := [(3, .int r_1), (0, .ref (ad 45)), (1, .int x1), (2, .int x2)]) hx hb dX5_fillOne_5 rfl hl (by decide) rfl (fun ls hl => ?_)
  refine lv_iconst (v := 1) hx hb dX5_fillOne_6 (by decide) ?_
  refine lv_istore (lv' := [(4, .int 1), (3, .int r_1), (0, .ref (ad 45)), (1, .int x1), (2, .int x2)]) hx hb dX5_fillOne_7 hl (by decide) rfl (fun ls hl => ?_)
  obtain ⟨n_9, h⟩ := h
  refine mX5_fillOne_L9 l X hr x1 x2 r_1 ?_ n_9 _ _ _ _ _ S (lv_sub hl [2, 3, 4, 1, 0] rfl) h
  · intro σ_14 H locs ls S hl h
    exact o_vret X S hr h dX5_fillOne_86
def wX5_fill_L24 (k53 : Sg → Prop) (Q : Sg → Prop) : Nat → Int32 → Sg → Prop
  | 0, _, _ => False
  | nn24 + 1, x1, σ =>
  ((40 < x1 → k53 σ) ∧ (¬ 40 < x1 → (wX5_at x1 0 σ (fun r_6 σ_7 => (¬ (2 : Int32) = 0 ∧ (vp_in r_6 287 ∧ ∀ σ_8, σ_8 = sto σ_7 46 r_6.toNatClampNeg ((x1 * (x1 - 1)) / 2) → (∀ x1_9 : Int32, x1_9 = x1 + 1 → wX5_fill_L24 k53 Q nn24 x1_9 σ_8)))))))
def wX5_fill_L63 (x1 : Int32) (k81 : Sg → Prop) (Q : Sg → Prop) : Nat → Int32 → Sg → Prop
  | 0, _, _ => False
  | nn63 + 1, x2, σ =>
  ((40 < x2 → k81 σ) ∧ (¬ 40 < x2 → (wX5_fillOne x2 x1 σ (fun σ_14 => (∀ x2_15 : Int32, x2_15 = x2 + 1 → wX5_fill_L63 x1 k81 Q nn63 x2_15 σ_14)))))
def wX5_fill_L55 (k87 : Sg → Prop) (Q : Sg → Prop) : Nat → Int32 → Sg → Prop
  | 0, _, _ => False
  | nn55 + 1, x1, σ =>
  ((6 < x1 → k87 σ) ∧ (¬ 6 < x1 → (∃ nf, wX5_fill_L63 x1 (fun σ_16 => (∀ x1_17 : Int32, x1_17 = x1 + 1 → wX5_fill_L55 k87 Q nn55 x1_17 σ_16)) Q nf 2 σ)))
def wX5_fill (σ : Sg) (Q : Sg → Prop) : Prop :=
  (((σ 45 2) = 0 → (∀ σ_2, σ_2 = sto σ 45 2 1 → (wJ7_fill_53178 47 287 (-1000000) σ_2 (fun σ_4 => (∃ nf, wX5_fill_L24 (fun σ_10 => (∃ nf, wX5_fill_L55 (fun σ_18 => Q σ_18) Q nf 1 σ_10)) Q nf 1 σ_4))))) ∧ (¬ (σ 45 2) = 0 → Q σ))
set_option maxHeartbeats 4000000 in
set_option maxRecDepth 100000 in
theorem mX5_fill_L24 {D : va_G} {cy : Nat → ClassId} {ad z : Nat → Nat} (l : Launch) {p : Program} {e : Env} {s : State} {m : MethodId} {args : Array Value} {below : List Frame} {meth : Method} {c : Code} {A : Nat → Prop} {k53 : Sg → Prop} {Q : Sg → Prop} (X : Fx D (tyB cy) (EvB z) p s m args meth c cX5_fill 3 "BackBay$Redoing" A) (hr : meth.sig.returnType = none) (hk53 : ∀ (σ : Sg) (H : Heap) (locs : List Loc) (ls : Array Slot), St D ad 75 (shB cy ad) A s σ H locs → lv_has ls 3 [(0, .ref (ad 45))] → k53 σ → W p l e ({ frames := 2, cells := 0, slots := 0, locals := 46 }) s m args below meth c H locs 0 0 (MQ below (va_Qv Q (PosW D (tyB cy) ad 75 (shB cy ad) A) A) args s 0 0 A) (F0 m 53 ls [])) : ∀ (n : Nat) (x1 : Int32) (σ : Sg) (H : Heap) (locs : List Loc) (ls : Array Slot), St D ad 75 (shB cy ad) A s σ H locs → lv_has ls 3 [(0, .ref (ad 45)), (1, .int x1)] → wX5_fill_L24 k53 Q n x1 σ → W p l e ({ frames := 2, cells := 0, slots := 0, locals := 46 }) s m args below meth c H locs 0 0 (MQ below (va_Qv Q (PosW D (tyB cy) ad 75 (shB cy ad) A) A) args s 0 0 A) (F0 m 24 ls []) := by
  have hx := X.1
  have hb := X.2.1
  intro n
  induction n with
  | zero =>
    intro _ _ _ _ _ _ _ h
    exact absurd h (by unfold wX5_fill_L24; exact id)
  | succ n ih =>
    intro x1 σ H locs ls S hl h
    unfold wX5_fill_L24 at h
    refine lv_iload_n hx hb dX5_fill_24 rfl (lv_at hl 1 rfl) ?_
    refine lv_bipush (v := 40) hx hb dX5_fill_25 (by decide) ?_
    refine lv_icmp_gt (tgt := 53) hx hb dX5_fill_27 (by decide) (fun q_5 => ?_) (fun q_5 => ?_)
    · replace h := h.1 q_5
      exact hk53 _ _ _ _ S (lv_sub hl [0] rfl) h
    · replace h := h.2 q_5
      refine lv_aload_n hx hb dX5_fill_30 rfl (lv_at hl 0 rfl) ?_
      refine o_get X S 45 0 (by decide) rfl rfl in_5 (by decide) k_249 rfl dX5_fill_31 ?_
      refine lv_iload_n hx hb dX5_fill_34 rfl (lv_at hl 1 rfl) ?_
      refine lv_iconst (v := 0) hx hb dX5_fill_35 (by decide) ?_
      refine o_callSi (k := 2) (EvB_ok z) X S (mX5_at l x1 0 σ _ h) k_706 k_704 k_705 k_10 ⟨by decide, by decide, by decide +kernel⟩ ⟨rfl, rfl⟩ ⟨Nat.le_of_ble_eq_true rfl, Nat.le_of_ble_eq_true rfl⟩ rfl hl.1 rfl (Nat.le_of_ble_eq_true rfl) dX5_fill_36 (fun r_6 σ_7 H locs h S => ?_)
      refine lv_iload_n hx hb dX5_fill_39 rfl (lv_at hl 1 rfl) ?_
      refine lv_iload_n hx hb dX5_fill_40 rfl (lv_at hl 1 rfl) ?_
      refine lv_iconst (v := 1) hx hb dX5_fill_41 (by decide) ?_
      refine lv_isub hx hb dX5_fill_42 ?_
      refine lv_imul hx hb dX5_fill_43 ?_
      refine lv_iconst (v := 2) hx hb dX5_fill_44 (by decide) ?_
      refine lv_idiv hx hb dX5_fill_45 h.1 ?_
      replace h := h.2
      refine o_iast X S 46 0 (by decide) (fun _ => rfl) rfl h.1 dX5_fill_46 (fun σ_8 H locs eσ_8 S => ?_)
      replace h := h.2 σ_8 eσ_8
      obtain ⟨x1_9, ex1_9⟩ : ∃ y : Int32, y = x1 + 1 := ⟨_, rfl⟩
      replace h := h x1_9 ex1_9
      refine lv_iinc (v := x1_9) (lv' := [(1, .int x1_9), (0, .ref (ad 45))]) hx hb dX5_fill_47 hl (k := 1) rfl (by rw [ex1_9]; rfl) (by decide) rfl (fun ls hl => ?_)
      refine lv_goto (tgt := 24) hx hb dX5_fill_50 (by decide) ?_
      exact ih _ _ _ _ _ S (lv_sub hl [1, 0] rfl) h
set_option maxHeartbeats 4000000 in
set_option maxRecDepth 100000 in
theorem mX5_fill_L63 {D : va_G} {cy : Nat → ClassId} {ad z : Nat → Nat} (l : Launch) {p : Program} {e : Env} {s : State} {m : MethodId} {args : Array Value} {below : List Frame} {meth : Method} {c : Code} {A : Nat → Prop} {k81 : Sg → Prop} {Q : Sg → Prop} (X : Fx D (tyB cy) (EvB z) p s m args meth c cX5_fill 3 "BackBay$Redoing" A) (hr : meth.sig.returnType = none) (x1 : Int32) (hk81 : ∀ (σ : Sg) (H : Heap) (locs : List Loc) (ls : Array Slot), St D ad 75 (shB cy ad) A s σ H locs → lv_has ls 3 [(0, .ref (ad 45)), (1, .int x1)] → k81 σ → W p l e ({ frames := 2, cells := 0, slots := 0, locals := 46 }) s m args below meth c H locs 0 0 (MQ below (va_Qv Q (PosW D (tyB cy) ad 75 (shB cy ad) A) A) args s 0 0 A) (F0 m 81 ls [])) : ∀ (n : Nat) (x2 : Int32) (σ : Sg) (H : Heap) (locs : List Loc) (ls : Array Slot), St D ad 75 (shB cy ad) A s σ H locs → lv_has ls 3 [(0, .ref (ad 45)), (1, .int x1), (2, .int x2)] → wX5_fill_L63 x1 k81 Q n x2 σ → W p l e ({ frames := 2, cells := 0, slots := 0, locals := 46 }) s m args below meth c H locs 0 0 (MQ below (va_Qv Q (PosW D (tyB cy) ad 75 (shB cy ad) A) A) args s 0 0 A) (F0 m 63 ls []) := by
  have hx := X.1
  have hb := X.2.1
  intro n
  induction n with
  | zero =>
    intro _ _ _ _ _ _ _ h
    exact absurd h (by unfold wX5_fill_L63; exact id)
  | succ n ih =>
    intro x2 σ H locs ls S hl h
    unfold wX5_fill_L63 at h
    refine lv_iload_n hx hb dX5_fill_63 rfl (lv_at hl 2 rfl) ?_
    refine lv_bipush (v := 40) hx hb dX5_fill_64 (by decide) ?_
    refine lv_icmp_gt (tgt := 81) hx hb dX5_fill_66 (by decide) (fun q_12 => ?_) (fun q_12 => ?_)
    · replace h := h.1 q_12
      exact hk81 _ _ _ _ S (lv_sub hl [0, 1] rfl) h
    · replace h := h.2 q_12
      refine lv_aload_n hx hb dX5_fill_69 rfl (lv_at hl 0 rfl) ?_
      refine lv_iload_n hx hb dX5_fill_70 rfl (lv_at hl 2 rfl) ?_
      refine lv_iload_n hx hb dX5_fill_71 rfl (lv_at hl 1 rfl) ?_
      refine o_callVv (k := 2) (EvB_ok z) X S (mX5_fillOne l x2 x1 σ _ h) (by decide) rfl rfl k_710 k_707 k_709 ks_21 k_10 ⟨rfl, by decide, by decide, by decide +kernel⟩ ⟨rfl, rfl⟩ ⟨Nat.le_of_ble_eq_true rfl, Nat.le_of_ble_eq_true rfl⟩ rfl hl.1 rfl (Nat.le_of_ble_eq_true rfl) dX5_fill_72 (fun σ_14 H locs h S => ?_)
      obtain ⟨x2_15, ex2_15⟩ : ∃ y : Int32, y = x2 + 1 := ⟨_, rfl⟩
      replace h := h x2_15 ex2_15
      refine lv_iinc (v := x2_15) (lv' := [(2, .int x2_15), (0, .ref (ad 45)), (1, .int x1)]) hx hb dX5_fill_75 hl (k := 2) rfl (by rw [ex2_15]; rfl) (by decide) rfl (fun ls hl => ?_)
      refine lv_goto (tgt := 63) hx hb dX5_fill_78 (by decide) ?_
      exact ih _ _ _ _ _ S (lv_sub hl [1, 2, 0] rfl) h
set_option maxHeartbeats 4000000 in
set_option maxRecDepth 100000 in
theorem mX5_fill_L55 {D : va_G} {cy : Nat → ClassId} {ad z : Nat → Nat} (l : Launch) {p : Program} {e : Env} {s : State} {m : MethodId} {args : Array Value} {below : List Frame} {meth : Method} {c : Code} {A : Nat → Prop} {k87 : Sg → Prop} {Q : Sg → Prop} (X : Fx D (tyB cy) (EvB z) p s m args meth c cX5_fill 3 "BackBay$Redoing" A) (hr : meth.sig.returnType = none) (hk87 : ∀ (σ : Sg) (H : Heap) (locs : List Loc) (ls : Array Slot), St D ad 75 (shB cy ad) A s σ H locs → lv_has ls 3 [] → k87 σ → W p l e ({ frames := 2, cells := 0, slots := 0, locals := 46 }) s m args below meth c H locs 0 0 (MQ below (va_Qv Q (PosW D (tyB cy) ad 75 (shB cy ad) A) A) args s 0 0 A) (F0 m 87 ls [])) : ∀ (n : Nat) (x1 : Int32) (σ : Sg) (H : Heap) (locs : List Loc) (ls : Array Slot), St D ad 75 (shB cy ad) A s σ H locs → lv_has ls 3 [(0, .ref (ad 45)), (1, .int x1)] → wX5_fill_L55 k87 Q n x1 σ → W p l e ({ frames := 2, cells := 0, slots := 0, locals := 46 }) s m args below meth c H locs 0 0 (MQ below (va_Qv Q (PosW D (tyB cy) ad 75 (shB cy ad) A) A) args s 0 0 A) (F0 m 55 ls []) := by
  have hx := X.1
  have hb := X.2.1
  intro n
  induction n with
  | zero =>
    intro _ _ _ _ _ _ _ h
    exact absurd h (by unfold wX5_fill_L55; exact id)
  | succ n ih =>
    intro x1 σ H locs ls S hl h
    unfold wX5_fill_L55 at h
    refine lv_iload_n hx hb dX5_fill_55 rfl (lv_at hl 1 rfl) ?_
    refine lv_bipush (v := 6) hx hb dX5_fill_56 (by decide) ?_
    refine lv_icmp_gt (tgt := 87) hx hb dX5_fill_58 (by decide) (fun q_11 => ?_) (fun q_11 => ?_)
    · replace h := h.1 q_11
      exact hk87 _ _ _ _ S (lv_sub hl [] rfl) h
    · replace h := h.2 q_11
      refine lv_iconst (v := 2) hx hb dX5_fill_61 (by decide) ?_
      refine lv_istore_n (lv' := [(2, .int 2), (0, .ref (ad 45)), (1, .int x1)]) hx hb dX5_fill_62 rfl hl (by decide) rfl (fun ls hl => ?_)
      obtain ⟨n_63, h⟩ := h
      refine mX5_fill_L63 l X hr x1 ?_ n_63 _ _ _ _ _ S (lv_sub hl [1, 2, 0] rfl) h
      · intro σ_16 H locs ls S hl h
        obtain ⟨x1_17, ex1_17⟩ : ∃ y : Int32, y = x1 + 1 := ⟨_, rfl⟩
        replace h := h x1_17 ex1_17
        refine lv_iinc (v := x1_17) (lv' := [(1, .int x1_17), (0, .ref (ad 45))]) hx hb dX5_fill_81 hl (k := 1) rfl (by rw [ex1_17]; rfl) (by decide) rfl (fun ls hl => ?_)
        refine lv_goto (tgt := 55) hx hb dX5_fill_84 (by decide) ?_
        exact ih _ _ _ _ _ S (lv_sub hl [1, 0] rfl) h
set_option maxHeartbeats 4000000 in
set_option maxRecDepth 100000 in
theorem mX5_fill {D : va_G} {cy : Nat → ClassId} {ad z : Nat → Nat} (l : Launch) (σ : Sg) (Q : Sg → Prop) (h : wX5_fill σ Q) : MVB D cy ad z l yX5_fill (.code yX5_fill cX5_fill 3 none :: gT) ({ frames := 2, cells := 0, slots := 0, locals := 46 }) [.ref (ad 45)] σ Q := by
  refine metV_of (by decide +kernel) (Nat.le_of_ble_eq_true rfl) ?_
  intro p e s m args below meth c A ls X hr hl S
  have X : Fx D (tyB cy) (EvB z) p s m args meth c cX5_fill 3 "BackBay$Redoing" A := X
  have hl : lv_has ls 3 [(0, .ref (ad 45))] := hl
  have hx := X.1
  have hb := X.2.1
  unfold wX5_fill at h
  refine lv_aload_n hx hb dX5_fill_0 rfl (lv_at hl 0 rfl) ?_
  refine o_get X S 45 2 (by decide) rfl rfl in_5 (by decide) k_253 rfl dX5_fill_1 ?_
  refine lv_if_eq (tgt := 8) hx hb dX5_fill_4 (by decide) (fun q_1 => ?_) (fun q_1 => ?_)
  · replace h := h.1 q_1
    refine lv_aload_n hx hb dX5_fill_8 rfl (lv_at hl 0 rfl) ?_
    refine lv_iconst (v := 1) hx hb dX5_fill_9 (by decide) ?_
    refine o_puti X S (fs := fun c => [.ref (ad 46), .ref (ad 47), .int (c 2)]) 45 2 (by decide) (fun _ => rfl) (fun _ _ => rfl) rfl in_5 tyX5_ok nmX5 (by decide) k_253 rfl rfl rfl rfl (fun _ => Nat.le_of_ble_eq_true rfl) dX5_fill_10 (fun σ_2 H locs eσ_2 S => ?_)
    replace h := h σ_2 eσ_2
    refine lv_aload_n hx hb dX5_fill_13 rfl (lv_at hl 0 rfl) ?_
    refine o_get X S 45 1 (by decide) rfl rfl in_5 (by decide) k_251 rfl dX5_fill_14 ?_
    refine lv_ldc (v := (-1000000)) hx hb X.2.2.2.1 (X.2.2.2.2.1 _ k_702) dX5_fill_17 ?_
    refine o_callSv (k := 2) (EvB_ok z) X S (mJ7_fill_53178 l (by decide) (fun _ => rfl) (-1000000) σ_2 _ h) k_125 k_703 k_124 k_5 ⟨by decide, by decide, by decide +kernel⟩ ⟨rfl, rfl⟩ ⟨Nat.le_of_ble_eq_true rfl, Nat.le_of_ble_eq_true rfl⟩ rfl hl.1 rfl (Nat.le_of_ble_eq_true rfl) dX5_fill_19 (fun σ_4 H locs h S => ?_)
    refine lv_iconst (v := 1) hx hb dX5_fill_22 (by decide) ?_
    refine lv_istore_n (lv' := [(1, .int 1), (0, .ref (ad 45))]) hx hb dX5_fill_23 rfl hl (by decide) rfl (fun ls hl => ?_)
    obtain ⟨n_24, h⟩ := h
    refine mX5_fill_L24 l X hr ?_ n_24 _ _ _ _ _ S (lv_sub hl [1, 0] rfl) h
    · intro σ_10 H locs ls S hl h
      refine lv_iconst (v := 1) hx hb dX5_fill_53 (by decide) ?_
      refine lv_istore_n (lv' := [(1, .int 1), (0, .ref (ad 45))]) hx hb dX5_fill_54 rfl hl (by decide) rfl (fun ls hl => ?_)
      obtain ⟨n_55, h⟩ := h
      refine mX5_fill_L55 l X hr ?_ n_55 _ _ _ _ _ S (lv_sub hl [1, 0] rfl) h
      · intro σ_18 H locs ls S hl h
        exact o_vret X S hr h dX5_fill_87
  · replace h := h.2 q_1
    exact o_vret X S hr h dX5_fill_7
def wX0_begin_b29 (σ : Sg) (Q : Sg → Prop) : Prop :=
  Q σ
def wX0_begin (x1 : Int32) (σ : Sg) (Q : Sg → Prop) : Prop :=
  ((16 ≤ (σ 57 1) → wX0_begin_b29 σ Q) ∧ (¬ 16 ≤ (σ 57 1) → (vp_in (σ 57 1) 16 ∧ ∀ σ_2, σ_2 = sto σ 58 (σ 57 1).toNatClampNeg x1 → (∀ σ_3, σ_3 = sto σ_2 57 1 ((σ_2 57 1) + 1) → wX0_begin_b29 σ_3 Q))))
set_option maxHeartbeats 4000000 in
set_option maxRecDepth 100000 in
theorem mX0_begin_b29 {D : va_G} {cy : Nat → ClassId} {ad z : Nat → Nat} (l : Launch) {p : Program} {e : Env} {s : State} {m : MethodId} {args : Array Value} {below : List Frame} {meth : Method} {c : Code} {A : Nat → Prop} {Q : Sg → Prop} (X : Fx D (tyB cy) (EvB z) p s m args meth c cX0_begin 2 "BackBay$Asks" A) (hr : meth.sig.returnType = none) {σ : Sg} {H : Heap} {locs : List Loc} {ls : Array Slot} (S : St D ad 75 (shB cy ad) A s σ H locs) (hl : lv_has ls 2 []) (h : wX0_begin_b29 σ Q) : W p l e ({ frames := 0, cells := 0, slots := 0, locals := 0 }) s m args below meth c H locs 0 0 (MQ below (va_Qv Q (PosW D (tyB cy) ad 75 (shB cy ad) A) A) args s 0 0 A) (F0 m 29 ls []) := by
  have hx := X.1
  have hb := X.2.1
  unfold wX0_begin_b29 at h
  exact o_vret X S hr h dX0_begin_29
set_option maxHeartbeats 4000000 in
set_option maxRecDepth 100000 in
theorem mX0_begin {D : va_G} {cy : Nat → ClassId} {ad z : Nat → Nat} (l : Launch) (x1 : Int32) (σ : Sg) (Q : Sg → Prop) (h : wX0_begin x1 σ Q) : MVB D cy ad z l yX0_begin (.code yX0_begin cX0_begin 2 none :: gT) ({ frames := 0, cells := 0, slots := 0, locals := 0 }) [.ref (ad 57), .int x1] σ Q := by
  refine metV_of (by decide +kernel) (Nat.le_of_ble_eq_true rfl) ?_
  intro p e s m args below meth c A ls X hr hl S
  have X : Fx D (tyB cy) (EvB z) p s m args meth c cX0_begin 2 "BackBay$Asks" A := X
  have hl : lv_has ls 2 [(0, .ref (ad 57)), (1, .int x1)] := hl
  have hx := X.1
  have hb := X.2.1
  unfold wX0_begin at h
  refine lv_aload_n hx hb dX0_begin_0 rfl (lv_at hl 0 rfl) ?_
  refine o_get X S 57 1 (by decide) rfl rfl in_0 (by decide) k_290 rfl dX0_begin_1 ?_
  refine lv_bipush (v := 16) hx hb dX0_begin_4 (by decide) ?_
  refine lv_icmp_ge (tgt := 29) hx hb dX0_begin_6 (by decide) (fun q_1 => ?_) (fun q_1 => ?_)
  · replace h := h.1 q_1
    exact mX0_begin_b29 l X hr S (lv_sub hl [] rfl) h
  · replace h := h.2 q_1
    refine lv_aload_n hx hb dX0_begin_9 rfl (lv_at hl 0 rfl) ?_
    refine o_get X S 57 0 (by decide) rfl rfl in_0 (by decide) k_288 rfl dX0_begin_10 ?_
    refine lv_aload_n hx hb dX0_begin_13 rfl (lv_at hl 0 rfl) ?_
    refine o_get X S 57 1 (by decide) rfl rfl in_0 (by decide) k_290 rfl dX0_begin_14 ?_
    refine lv_iload_n hx hb dX0_begin_17 rfl (lv_at hl 1 rfl) ?_
    refine o_iast X S 58 0 (by decide) (fun _ => rfl) rfl h.1 dX0_begin_18 (fun σ_2 H locs eσ_2 S => ?_)
    replace h := h.2 σ_2 eσ_2
    refine lv_aload_n hx hb dX0_begin_19 rfl (lv_at hl 0 rfl) ?_
    refine lv_dup hx hb dX0_begin_20 rfl ?_
    refine o_get X S 57 1 (by decide) rfl rfl in_0 (by decide) k_290 rfl dX0_begin_21 ?_
    refine lv_iconst (v := 1) hx hb dX0_begin_24 (by decide) ?_
    refine lv_iadd hx hb dX0_begin_25 ?_
    refine o_puti X S (fs := fun c => [.ref (ad 58), .int (c 1)]) 57 1 (by decide) (fun _ => rfl) (fun _ _ => rfl) rfl in_0 tyX0_ok nmX0 (by decide) k_290 rfl rfl rfl rfl (fun _ => Nat.le_of_ble_eq_true rfl) dX0_begin_26 (fun σ_3 H locs eσ_3 S => ?_)
    replace h := h σ_3 eσ_3
    exact mX0_begin_b29 l X hr S (lv_sub hl [] rfl) h
def wX0_sizeLent (T : Nat) (x2 : Int32) (σ : Sg) (Q : Int32 → Sg → Prop) : Prop :=
  (wX0_begin 10 σ (fun σ_2 => (vp_in x2 60 ∧ Q (σ_2 (T + 4) x2.toNatClampNeg) σ_2)))
set_option maxHeartbeats 4000000 in
set_option maxRecDepth 100000 in
theorem mX0_sizeLent {D : va_G} {cy : Nat → ClassId} {ad z : Nat → Nat} (l : Launch) {T : Nat} (hT : isSten T) (x2 : Int32) (σ : Sg) (Q : Int32 → Sg → Prop) (h : wX0_sizeLent T x2 σ Q) : MIB D cy ad z l yX0_sizeLent (.code yX0_sizeLent cX0_sizeLent 3 (some .int) :: gT) ({ frames := 1, cells := 0, slots := 0, locals := 21 }) [.ref (ad 57), .ref (ad T), .int x2] σ Q := by
  refine metI_of (by decide +kernel) (Nat.le_of_ble_eq_true rfl) ?_
  intro p e s m args below meth c A ls X hr hl S
  have X : Fx D (tyB cy) (EvB z) p s m args meth c cX0_sizeLent 3 "BackBay$Asks" A := X
  have hl : lv_has ls 3 [(0, .ref (ad 57)), (1, .ref (ad T)), (2, .int x2)] := hl
  have hx := X.1
  have hb := X.2.1
  unfold wX0_sizeLent at h
  refine lv_aload_n hx hb dX0_sizeLent_0 rfl (lv_at hl 0 rfl) ?_
  refine lv_bipush (v := 10) hx hb dX0_sizeLent_1 (by decide) ?_
  refine o_callVv (k := 1) (EvB_ok z) X S (mX0_begin l 10 σ _ h) (by decide) rfl rfl k_803 k_800 k_802 ks_24 k_12 ⟨rfl, by decide, by decide, by decide +kernel⟩ ⟨rfl, rfl⟩ ⟨Nat.le_of_ble_eq_true rfl, Nat.le_of_ble_eq_true rfl⟩ rfl hl.1 rfl (Nat.le_of_ble_eq_true rfl) dX0_sizeLent_3 (fun σ_2 H locs h S => ?_)
  refine lv_aload_n hx hb dX0_sizeLent_6 rfl (lv_at hl 1 rfl) ?_
  refine o_get X S T 5 (isSten_lt hT 0 (by decide)) ((shS0 hT) _) rfl in_8 (by decide) k_86 rfl dX0_sizeLent_7 ?_
  refine lv_iload_n hx hb dX0_sizeLent_10 rfl (lv_at hl 2 rfl) ?_
  refine o_iald X S (T + 4) 0 (isSten_lt hT 4 (by decide)) (shS4 hT) rfl h.1 dX0_sizeLent_11 ?_
  replace h := h.2
  exact o_iret X S hr h dX0_sizeLent_12
def wX0_markLent (x1 : Int32) (σ : Sg) (Q : Int32 → Sg → Prop) : Prop :=
  (wX0_begin 20 σ (fun σ_2 => Q x1 σ_2))
set_option maxHeartbeats 4000000 in
set_option maxRecDepth 100000 in
theorem mX0_markLent {D : va_G} {cy : Nat → ClassId} {ad z : Nat → Nat} (l : Launch) (x1 : Int32) (σ : Sg) (Q : Int32 → Sg → Prop) (h : wX0_markLent x1 σ Q) : MIB D cy ad z l yX0_markLent (.code yX0_markLent cX0_markLent 2 (some .int) :: gT) ({ frames := 1, cells := 0, slots := 0, locals := 21 }) [.ref (ad 57), .int x1] σ Q := by
  refine metI_of (by decide +kernel) (Nat.le_of_ble_eq_true rfl) ?_
  intro p e s m args below meth c A ls X hr hl S
  have X : Fx D (tyB cy) (EvB z) p s m args meth c cX0_markLent 2 "BackBay$Asks" A := X
  have hl : lv_has ls 2 [(0, .ref (ad 57)), (1, .int x1)] := hl
  have hx := X.1
  have hb := X.2.1
  unfold wX0_markLent at h
  refine lv_aload_n hx hb dX0_markLent_0 rfl (lv_at hl 0 rfl) ?_
  refine lv_bipush (v := 20) hx hb dX0_markLent_1 (by decide) ?_
  refine o_callVv (k := 1) (EvB_ok z) X S (mX0_begin l 20 σ _ h) (by decide) rfl rfl k_803 k_800 k_802 ks_24 k_12 ⟨rfl, by decide, by decide, by decide +kernel⟩ ⟨rfl, rfl⟩ ⟨Nat.le_of_ble_eq_true rfl, Nat.le_of_ble_eq_true rfl⟩ rfl hl.1 rfl (Nat.le_of_ble_eq_true rfl) dX0_markLent_3 (fun σ_2 H locs h S => ?_)
  refine lv_iload_n hx hb dX0_markLent_6 rfl (lv_at hl 1 rfl) ?_
  exact o_iret X S hr h dX0_markLent_7
def wX0_markOfLeaf (x1 : Int32) (σ : Sg) (Q : Int32 → Sg → Prop) : Prop :=
  (wX0_begin 21 σ (fun σ_2 => (wX0_markLent x1 σ_2 (fun r_3 σ_4 => Q (r_3 + 100) σ_4))))
set_option maxHeartbeats 4000000 in
set_option maxRecDepth 100000 in
theorem mX0_markOfLeaf {D : va_G} {cy : Nat → ClassId} {ad z : Nat → Nat} (l : Launch) (x1 : Int32) (σ : Sg) (Q : Int32 → Sg → Prop) (h : wX0_markOfLeaf x1 σ Q) : MIB D cy ad z l yX0_markOfLeaf (.code yX0_markOfLeaf cX0_markOfLeaf 2 (some .int) :: gT) ({ frames := 2, cells := 0, slots := 0, locals := 42 }) [.ref (ad 57), .int x1] σ Q := by
  refine metI_of (by decide +kernel) (Nat.le_of_ble_eq_true rfl) ?_
  intro p e s m args below meth c A ls X hr hl S
  have X : Fx D (tyB cy) (EvB z) p s m args meth c cX0_markOfLeaf 2 "BackBay$Asks" A := X
  have hl : lv_has ls 2 [(0, .ref (ad 57)), (1, .int x1)] := hl
  have hx := X.1
  have hb := X.2.1
  unfold wX0_markOfLeaf at h
  refine lv_aload_n hx hb dX0_markOfLeaf_0 rfl (lv_at hl 0 rfl) ?_
  refine lv_bipush (v := 21) hx hb dX0_markOfLeaf_1 (by decide) ?_
  refine o_callVv (k := 1) (EvB_ok z) X S (mX0_begin l 21 σ _ h) (by decide) rfl rfl k_803 k_800 k_802 ks_24 k_12 ⟨rfl, by decide, by decide, by decide +kernel⟩ ⟨rfl, rfl⟩ ⟨Nat.le_of_ble_eq_true rfl, Nat.le_of_ble_eq_true rfl⟩ rfl hl.1 rfl (Nat.le_of_ble_eq_true rfl) dX0_markOfLeaf_3 (fun σ_2 H locs h S => ?_)
  refine lv_aload_n hx hb dX0_markOfLeaf_6 rfl (lv_at hl 0 rfl) ?_
  refine lv_iload_n hx hb dX0_markOfLeaf_7 rfl (lv_at hl 1 rfl) ?_
  refine o_callVi (k := 1) (EvB_ok z) X S (mX0_markLent l x1 σ_2 _ h) (by decide) rfl rfl k_819 k_816 k_818 ks_27 k_12 ⟨rfl, by decide, by decide, by decide +kernel⟩ ⟨rfl, rfl⟩ ⟨Nat.le_of_ble_eq_true rfl, Nat.le_of_ble_eq_true rfl⟩ rfl hl.1 rfl (Nat.le_of_ble_eq_true rfl) dX0_markOfLeaf_8 (fun r_3 σ_4 H locs h S => ?_)
  refine lv_bipush (v := 100) hx hb dX0_markOfLeaf_11 (by decide) ?_
  refine lv_iadd hx hb dX0_markOfLeaf_13 ?_
  exact o_iret X S hr h dX0_markOfLeaf_14
def wX0_markOfSeen (x1 : Int32) (σ : Sg) (Q : Int32 → Sg → Prop) : Prop :=
  (wX0_begin 22 σ (fun σ_2 => (wX0_markOfLeaf x1 σ_2 (fun r_3 σ_4 => Q (2 * r_3) σ_4))))
set_option maxHeartbeats 4000000 in
set_option maxRecDepth 100000 in
theorem mX0_markOfSeen {D : va_G} {cy : Nat → ClassId} {ad z : Nat → Nat} (l : Launch) (x1 : Int32) (σ : Sg) (Q : Int32 → Sg → Prop) (h : wX0_markOfSeen x1 σ Q) : MIB D cy ad z l yX0_markOfSeen (.code yX0_markOfSeen cX0_markOfSeen 2 (some .int) :: gT) ({ frames := 3, cells := 0, slots := 0, locals := 63 }) [.ref (ad 57), .int x1] σ Q := by
  refine metI_of (by decide +kernel) (Nat.le_of_ble_eq_true rfl) ?_
  intro p e s m args below meth c A ls X hr hl S
  have X : Fx D (tyB cy) (EvB z) p s m args meth c cX0_markOfSeen 2 "BackBay$Asks" A := X
  have hl : lv_has ls 2 [(0, .ref (ad 57)), (1, .int x1)] := hl
  have hx := X.1
  have hb := X.2.1
  unfold wX0_markOfSeen at h
  refine lv_aload_n hx hb dX0_markOfSeen_0 rfl (lv_at hl 0 rfl) ?_
  refine lv_bipush (v := 22) hx hb dX0_markOfSeen_1 (by decide) ?_
  refine o_callVv (k := 1) (EvB_ok z) X S (mX0_begin l 22 σ _ h) (by decide) rfl rfl k_803 k_800 k_802 ks_24 k_12 ⟨rfl, by decide, by decide, by decide +kernel⟩ ⟨rfl, rfl⟩ ⟨Nat.le_of_ble_eq_true rfl, Nat.le_of_ble_eq_true rfl⟩ rfl hl.1 rfl (Nat.le_of_ble_eq_true rfl) dX0_markOfSeen_3 (fun σ_2 H locs h S => ?_)
  refine lv_iconst (v := 2) hx hb dX0_markOfSeen_6 (by decide) ?_
  refine lv_aload_n hx hb dX0_markOfSeen_7 rfl (lv_at hl 0 rfl) ?_
  refine lv_iload_n hx hb dX0_markOfSeen_8 rfl (lv_at hl 1 rfl) ?_
  refine o_callVi (k := 1) (EvB_ok z) X S (mX0_markOfLeaf l x1 σ_2 _ h) (by decide) rfl rfl k_815 k_812 k_814 ks_26 k_12 ⟨rfl, by decide, by decide, by decide +kernel⟩ ⟨rfl, rfl⟩ ⟨Nat.le_of_ble_eq_true rfl, Nat.le_of_ble_eq_true rfl⟩ rfl hl.1 rfl (Nat.le_of_ble_eq_true rfl) dX0_markOfSeen_9 (fun r_3 σ_4 H locs h S => ?_)
  refine lv_imul hx hb dX0_markOfSeen_12 ?_
  exact o_iret X S hr h dX0_markOfSeen_13
def wX0_markOfChosen (T : Nat) (x2 : Int32) (σ : Sg) (Q : Int32 → Sg → Prop) : Prop :=
  (wX0_begin 23 σ (fun σ_2 => (wX0_markLent x2 σ_2 (fun r_3 σ_4 => (vp_in x2 60 ∧ Q (r_3 + (σ_4 (T + 4) x2.toNatClampNeg)) σ_4)))))
set_option maxHeartbeats 4000000 in
set_option maxRecDepth 100000 in
theorem mX0_markOfChosen {D : va_G} {cy : Nat → ClassId} {ad z : Nat → Nat} (l : Launch) {T : Nat} (hT : isSten T) (x2 : Int32) (σ : Sg) (Q : Int32 → Sg → Prop) (h : wX0_markOfChosen T x2 σ Q) : MIB D cy ad z l yX0_markOfChosen (.code yX0_markOfChosen cX0_markOfChosen 3 (some .int) :: gT) ({ frames := 2, cells := 0, slots := 0, locals := 42 }) [.ref (ad 57), .ref (ad T), .int x2] σ Q := by
  refine metI_of (by decide +kernel) (Nat.le_of_ble_eq_true rfl) ?_
  intro p e s m args below meth c A ls X hr hl S
  have X : Fx D (tyB cy) (EvB z) p s m args meth c cX0_markOfChosen 3 "BackBay$Asks" A := X
  have hl : lv_has ls 3 [(0, .ref (ad 57)), (1, .ref (ad T)), (2, .int x2)] := hl
  have hx := X.1
  have hb := X.2.1
  unfold wX0_markOfChosen at h
  refine lv_aload_n hx hb dX0_markOfChosen_0 rfl (lv_at hl 0 rfl) ?_
  refine lv_bipush (v := 23) hx hb dX0_markOfChosen_1 (by decide) ?_
  refine o_callVv (k := 1) (EvB_ok z) X S (mX0_begin l 23 σ _ h) (by decide) rfl rfl k_803 k_800 k_802 ks_24 k_12 ⟨rfl, by decide, by decide, by decide +kernel⟩ ⟨rfl, rfl⟩ ⟨Nat.le_of_ble_eq_true rfl, Nat.le_of_ble_eq_true rfl⟩ rfl hl.1 rfl (Nat.le_of_ble_eq_true rfl) dX0_markOfChosen_3 (fun σ_2 H locs h S => ?_)
  refine lv_aload_n hx hb dX0_markOfChosen_6 rfl (lv_at hl 0 rfl) ?_
  refine lv_iload_n hx hb dX0_markOfChosen_7 rfl (lv_at hl 2 rfl) ?_
  refine o_callVi (k := 1) (EvB_ok z) X S (mX0_markLent l x2 σ_2 _ h) (by decide) rfl rfl k_819 k_816 k_818 ks_27 k_12 ⟨rfl, by decide, by decide, by decide +kernel⟩ ⟨rfl, rfl⟩ ⟨Nat.le_of_ble_eq_true rfl, Nat.le_of_ble_eq_true rfl⟩ rfl hl.1 rfl (Nat.le_of_ble_eq_true rfl) dX0_markOfChosen_8 (fun r_3 σ_4 H locs h S => ?_)
  refine lv_aload_n hx hb dX0_markOfChosen_11 rfl (lv_at hl 1 rfl) ?_
  refine o_get X S T 5 (isSten_lt hT 0 (by decide)) ((shS0 hT) _) rfl in_8 (by decide) k_86 rfl dX0_markOfChosen_12 ?_
  refine lv_iload_n hx hb dX0_markOfChosen_15 rfl (lv_at hl 2 rfl) ?_
  refine o_iald X S (T + 4) 0 (isSten_lt hT 4 (by decide)) (shS4 hT) rfl h.1 dX0_markOfChosen_16 ?_
  replace h := h.2
  refine lv_iadd hx hb dX0_markOfChosen_17 ?_
  exact o_iret X S hr h dX0_markOfChosen_18
def wX0_mark_b55 (T : Nat) (x2 : Int32) (σ : Sg) (Q : Int32 → Sg → Prop) : Prop :=
  (wX0_markLent x2 σ (fun r_10 σ_11 => Q r_10 σ_11))
def wX0_mark (T : Nat) (x2 : Int32) (σ : Sg) (Q : Int32 → Sg → Prop) : Prop :=
  (wX8_kindOf T x2 σ (fun r_1 σ_2 => ((r_1 = 1 → (wX0_markOfLeaf x2 σ_2 (fun r_4 σ_5 => Q r_4 σ_5))) ∧ (¬ r_1 = 1 → ((r_1 = 2 → (wX0_markOfSeen x2 σ_2 (fun r_7 σ_8 => Q r_7 σ_8))) ∧ (¬ r_1 = 2 → ((r_1 = 3 → wX0_mark_b55 T x2 σ_2 Q) ∧ (¬ r_1 = 3 → ((r_1 = 4 → (wX0_markOfChosen T x2 σ_2 (fun r_13 σ_14 => Q r_13 σ_14))) ∧ (¬ r_1 = 4 → wX0_mark_b55 T x2 σ_2 Q))))))))))
set_option maxHeartbeats 4000000 in
set_option maxRecDepth 100000 in
theorem mX0_mark_b55 {D : va_G} {cy : Nat → ClassId} {ad z : Nat → Nat} (l : Launch) {T : Nat} (hT : isSten T) {p : Program} {e : Env} {s : State} {m : MethodId} {args : Array Value} {below : List Frame} {meth : Method} {c : Code} {A : Nat → Prop} {Q : Int32 → Sg → Prop} (X : Fx D (tyB cy) (EvB z) p s m args meth c cX0_mark 3 "BackBay$Asks" A) (hr : meth.sig.returnType = some .int) (x2 : Int32) {σ : Sg} {H : Heap} {locs : List Loc} {ls : Array Slot} (S : St D ad 75 (shB cy ad) A s σ H locs) (hl : lv_has ls 3 [(0, .ref (ad 57)), (2, .int x2)]) (h : wX0_mark_b55 T x2 σ Q) : W p l e ({ frames := 4, cells := 0, slots := 0, locals := 84 }) s m args below meth c H locs 0 0 (MQ below (va_Qi Q (PosW D (tyB cy) ad 75 (shB cy ad) A) A) args s 0 0 A) (F0 m 55 ls []) := by
  have hx := X.1
  have hb := X.2.1
  unfold wX0_mark_b55 at h
  refine lv_aload_n hx hb dX0_mark_55 rfl (lv_at hl 0 rfl) ?_
  refine lv_iload_n hx hb dX0_mark_56 rfl (lv_at hl 1 rfl) ?_
  refine o_callVi (k := 1) (EvB_ok z) X S (mX0_markLent l x2 σ _ h) (by decide) rfl rfl k_819 k_816 k_818 ks_27 k_12 ⟨rfl, by decide, by decide, by decide +kernel⟩ ⟨rfl, rfl⟩ ⟨Nat.le_of_ble_eq_true rfl, Nat.le_of_ble_eq_true rfl⟩ rfl hl.1 rfl (Nat.le_of_ble_eq_true rfl) dX0_mark_57 (fun r_10 σ_11 H locs h S => ?_)
  exact o_iret X S hr h dX0_mark_60
set_option maxHeartbeats 4000000 in
set_option maxRecDepth 100000 in
theorem mX0_mark {D : va_G} {cy : Nat → ClassId} {ad z : Nat → Nat} (l : Launch) {T : Nat} (hT : isSten T) (x2 : Int32) (σ : Sg) (Q : Int32 → Sg → Prop) (h : wX0_mark T x2 σ Q) : MIB D cy ad z l yX0_mark (.code yX0_mark cX0_mark 3 (some .int) :: gT) ({ frames := 4, cells := 0, slots := 0, locals := 84 }) [.ref (ad 57), .ref (ad T), .int x2] σ Q := by
  refine metI_of (by decide +kernel) (Nat.le_of_ble_eq_true rfl) ?_
  intro p e s m args below meth c A ls X hr hl S
  have X : Fx D (tyB cy) (EvB z) p s m args meth c cX0_mark 3 "BackBay$Asks" A := X
  have hl : lv_has ls 3 [(0, .ref (ad 57)), (1, .ref (ad T)), (2, .int x2)] := hl
  have hx := X.1
  have hb := X.2.1
  unfold wX0_mark at h
  refine lv_aload_n hx hb dX0_mark_0 rfl (lv_at hl 1 rfl) ?_
  refine lv_iload_n hx hb dX0_mark_1 rfl (lv_at hl 2 rfl) ?_
  refine o_callVi (k := 1) (EvB_ok z) X S (mX8_kindOf l hT x2 σ _ h) (isSten_lt hT 0 (by decide)) ((shS0 hT) _) rfl k_775 k_795 k_773 k_774 k_3 ⟨rfl, by decide, by decide, by decide +kernel⟩ ⟨rfl, rfl⟩ ⟨Nat.le_of_ble_eq_true rfl, Nat.le_of_ble_eq_true rfl⟩ rfl hl.1 rfl (Nat.le_of_ble_eq_true rfl) dX0_mark_2 (fun r_1 σ_2 H locs h S => ?_)
  by_cases q_3 : r_1 = 1
  · refine lv_tableIn (tgt := 36) hx hb dX0_mark_5 (by rw [q_3] <;> decide) (by rw [q_3] <;> decide) (by rw [q_3] <;> rfl) (by decide) ?_
    replace h := h.1 q_3
    refine lv_aload_n hx hb dX0_mark_36 rfl (lv_at hl 0 rfl) ?_
    refine lv_iload_n hx hb dX0_mark_37 rfl (lv_at hl 2 rfl) ?_
    refine o_callVi (k := 1) (EvB_ok z) X S (mX0_markOfLeaf l x2 σ_2 _ h) (by decide) rfl rfl k_815 k_812 k_814 ks_26 k_12 ⟨rfl, by decide, by decide, by decide +kernel⟩ ⟨rfl, rfl⟩ ⟨Nat.le_of_ble_eq_true rfl, Nat.le_of_ble_eq_true rfl⟩ rfl hl.1 rfl (Nat.le_of_ble_eq_true rfl) dX0_mark_38 (fun r_4 σ_5 H locs h S => ?_)
    exact o_iret X S hr h dX0_mark_41
  replace h := h.2 q_3
  by_cases q_6 : r_1 = 2
  · refine lv_tableIn (tgt := 42) hx hb dX0_mark_5 (by rw [q_6] <;> decide) (by rw [q_6] <;> decide) (by rw [q_6] <;> rfl) (by decide) ?_
    replace h := h.1 q_6
    refine lv_aload_n hx hb dX0_mark_42 rfl (lv_at hl 0 rfl) ?_
    refine lv_iload_n hx hb dX0_mark_43 rfl (lv_at hl 2 rfl) ?_
    refine o_callVi (k := 1) (EvB_ok z) X S (mX0_markOfSeen l x2 σ_2 _ h) (by decide) rfl rfl k_823 k_820 k_822 ks_28 k_12 ⟨rfl, by decide, by decide, by decide +kernel⟩ ⟨rfl, rfl⟩ ⟨Nat.le_of_ble_eq_true rfl, Nat.le_of_ble_eq_true rfl⟩ rfl hl.1 rfl (Nat.le_of_ble_eq_true rfl) dX0_mark_44 (fun r_7 σ_8 H locs h S => ?_)
    exact o_iret X S hr h dX0_mark_47
  replace h := h.2 q_6
  by_cases q_9 : r_1 = 3
  · refine lv_tableIn (tgt := 55) hx hb dX0_mark_5 (by rw [q_9] <;> decide) (by rw [q_9] <;> decide) (by rw [q_9] <;> rfl) (by decide) ?_
    replace h := h.1 q_9
    exact mX0_mark_b55 l hT X hr x2 S (lv_sub hl [0, 2] rfl) h
  replace h := h.2 q_9
  by_cases q_12 : r_1 = 4
  · refine lv_tableIn (tgt := 48) hx hb dX0_mark_5 (by rw [q_12] <;> decide) (by rw [q_12] <;> decide) (by rw [q_12] <;> rfl) (by decide) ?_
    replace h := h.1 q_12
    refine lv_aload_n hx hb dX0_mark_48 rfl (lv_at hl 0 rfl) ?_
    refine lv_aload_n hx hb dX0_mark_49 rfl (lv_at hl 1 rfl) ?_
    refine lv_iload_n hx hb dX0_mark_50 rfl (lv_at hl 2 rfl) ?_
    refine o_callVi (k := 2) (EvB_ok z) X S (mX0_markOfChosen l hT x2 σ_2 _ h) (by decide) rfl rfl k_827 k_824 k_826 ks_29 k_12 ⟨rfl, by decide, by decide, by decide +kernel⟩ ⟨rfl, rfl⟩ ⟨Nat.le_of_ble_eq_true rfl, Nat.le_of_ble_eq_true rfl⟩ rfl hl.1 rfl (Nat.le_of_ble_eq_true rfl) dX0_mark_51 (fun r_13 σ_14 H locs h S => ?_)
    exact o_iret X S hr h dX0_mark_54
  replace h := h.2 q_12
  refine lv_tableOut (tgt := 55) hx hb dX0_mark_5 (by have r0 := lv_neT (a := 1) q_3 rfl; have r1 := lv_neT (a := 2) q_6 rfl; have r2 := lv_neT (a := 3) q_9 rfl; have r3 := lv_neT (a := 4) q_12 rfl; omega) (by decide) ?_
  exact mX0_mark_b55 l hT X hr x2 S (lv_sub hl [0, 2] rfl) h
def wX0_sizeOfSeen (T : Nat) (x2 : Int32) (σ : Sg) (Q : Int32 → Sg → Prop) : Prop :=
  (wX0_begin 11 σ (fun σ_2 => (wX0_sizeLent T x2 σ_2 (fun r_3 σ_4 => (wX0_mark T x2 σ_4 (fun r_5 σ_6 => Q (r_3 + r_5) σ_6))))))
set_option maxHeartbeats 4000000 in
set_option maxRecDepth 100000 in
theorem mX0_sizeOfSeen {D : va_G} {cy : Nat → ClassId} {ad z : Nat → Nat} (l : Launch) {T : Nat} (hT : isSten T) (x2 : Int32) (σ : Sg) (Q : Int32 → Sg → Prop) (h : wX0_sizeOfSeen T x2 σ Q) : MIB D cy ad z l yX0_sizeOfSeen (.code yX0_sizeOfSeen cX0_sizeOfSeen 3 (some .int) :: gT) ({ frames := 5, cells := 0, slots := 0, locals := 106 }) [.ref (ad 57), .ref (ad T), .int x2] σ Q := by
  refine metI_of (by decide +kernel) (Nat.le_of_ble_eq_true rfl) ?_
  intro p e s m args below meth c A ls X hr hl S
  have X : Fx D (tyB cy) (EvB z) p s m args meth c cX0_sizeOfSeen 3 "BackBay$Asks" A := X
  have hl : lv_has ls 3 [(0, .ref (ad 57)), (1, .ref (ad T)), (2, .int x2)] := hl
  have hx := X.1
  have hb := X.2.1
  unfold wX0_sizeOfSeen at h
  refine lv_aload_n hx hb dX0_sizeOfSeen_0 rfl (lv_at hl 0 rfl) ?_
  refine lv_bipush (v := 11) hx hb dX0_sizeOfSeen_1 (by decide) ?_
  refine o_callVv (k := 1) (EvB_ok z) X S (mX0_begin l 11 σ _ h) (by decide) rfl rfl k_803 k_800 k_802 ks_24 k_12 ⟨rfl, by decide, by decide, by decide +kernel⟩ ⟨rfl, rfl⟩ ⟨Nat.le_of_ble_eq_true rfl, Nat.le_of_ble_eq_true rfl⟩ rfl hl.1 rfl (Nat.le_of_ble_eq_true rfl) dX0_sizeOfSeen_3 (fun σ_2 H locs h S => ?_)
  refine lv_aload_n hx hb dX0_sizeOfSeen_6 rfl (lv_at hl 0 rfl) ?_
  refine lv_aload_n hx hb dX0_sizeOfSeen_7 rfl (lv_at hl 1 rfl) ?_
  refine lv_iload_n hx hb dX0_sizeOfSeen_8 rfl (lv_at hl 2 rfl) ?_
  refine o_callVi (k := 2) (EvB_ok z) X S (mX0_sizeLent l hT x2 σ_2 _ h) (by decide) rfl rfl k_807 k_804 k_806 ks_25 k_12 ⟨rfl, by decide, by decide, by decide +kernel⟩ ⟨rfl, rfl⟩ ⟨Nat.le_of_ble_eq_true rfl, Nat.le_of_ble_eq_true rfl⟩ rfl hl.1 rfl (Nat.le_of_ble_eq_true rfl) dX0_sizeOfSeen_9 (fun r_3 σ_4 H locs h S => ?_)
  refine lv_aload_n hx hb dX0_sizeOfSeen_12 rfl (lv_at hl 0 rfl) ?_
  refine lv_aload_n hx hb dX0_sizeOfSeen_13 rfl (lv_at hl 1 rfl) ?_
  refine lv_iload_n hx hb dX0_sizeOfSeen_14 rfl (lv_at hl 2 rfl) ?_
  refine o_callVi (k := 2) (EvB_ok z) X S (mX0_mark l hT x2 σ_4 _ h) (by decide) rfl rfl k_811 k_808 k_809 k_810 k_12 ⟨rfl, by decide, by decide, by decide +kernel⟩ ⟨rfl, rfl⟩ ⟨Nat.le_of_ble_eq_true rfl, Nat.le_of_ble_eq_true rfl⟩ rfl hl.1 rfl (Nat.le_of_ble_eq_true rfl) dX0_sizeOfSeen_15 (fun r_5 σ_6 H locs h S => ?_)
  refine lv_iadd hx hb dX0_sizeOfSeen_18 ?_
  exact o_iret X S hr h dX0_sizeOfSeen_19
def wX0_sizeOfPair (T : Nat) (x2 : Int32) (σ : Sg) (Q : Int32 → Sg → Prop) : Prop :=
  (wX0_begin 12 σ (fun σ_2 => (wX0_sizeLent T x2 σ_2 (fun r_3 σ_4 => Q (2 * r_3) σ_4))))
set_option maxHeartbeats 4000000 in
set_option maxRecDepth 100000 in
theorem mX0_sizeOfPair {D : va_G} {cy : Nat → ClassId} {ad z : Nat → Nat} (l : Launch) {T : Nat} (hT : isSten T) (x2 : Int32) (σ : Sg) (Q : Int32 → Sg → Prop) (h : wX0_sizeOfPair T x2 σ Q) : MIB D cy ad z l yX0_sizeOfPair (.code yX0_sizeOfPair cX0_sizeOfPair 3 (some .int) :: gT) ({ frames := 2, cells := 0, slots := 0, locals := 43 }) [.ref (ad 57), .ref (ad T), .int x2] σ Q := by
  refine metI_of (by decide +kernel) (Nat.le_of_ble_eq_true rfl) ?_
  intro p e s m args below meth c A ls X hr hl S
  have X : Fx D (tyB cy) (EvB z) p s m args meth c cX0_sizeOfPair 3 "BackBay$Asks" A := X
  have hl : lv_has ls 3 [(0, .ref (ad 57)), (1, .ref (ad T)), (2, .int x2)] := hl
  have hx := X.1
  have hb := X.2.1
  unfold wX0_sizeOfPair at h
  refine lv_aload_n hx hb dX0_sizeOfPair_0 rfl (lv_at hl 0 rfl) ?_
  refine lv_bipush (v := 12) hx hb dX0_sizeOfPair_1 (by decide) ?_
  refine o_callVv (k := 1) (EvB_ok z) X S (mX0_begin l 12 σ _ h) (by decide) rfl rfl k_803 k_800 k_802 ks_24 k_12 ⟨rfl, by decide, by decide, by decide +kernel⟩ ⟨rfl, rfl⟩ ⟨Nat.le_of_ble_eq_true rfl, Nat.le_of_ble_eq_true rfl⟩ rfl hl.1 rfl (Nat.le_of_ble_eq_true rfl) dX0_sizeOfPair_3 (fun σ_2 H locs h S => ?_)
  refine lv_iconst (v := 2) hx hb dX0_sizeOfPair_6 (by decide) ?_
  refine lv_aload_n hx hb dX0_sizeOfPair_7 rfl (lv_at hl 0 rfl) ?_
  refine lv_aload_n hx hb dX0_sizeOfPair_8 rfl (lv_at hl 1 rfl) ?_
  refine lv_iload_n hx hb dX0_sizeOfPair_9 rfl (lv_at hl 2 rfl) ?_
  refine o_callVi (k := 2) (EvB_ok z) X S (mX0_sizeLent l hT x2 σ_2 _ h) (by decide) rfl rfl k_807 k_804 k_806 ks_25 k_12 ⟨rfl, by decide, by decide, by decide +kernel⟩ ⟨rfl, rfl⟩ ⟨Nat.le_of_ble_eq_true rfl, Nat.le_of_ble_eq_true rfl⟩ rfl hl.1 rfl (Nat.le_of_ble_eq_true rfl) dX0_sizeOfPair_10 (fun r_3 σ_4 H locs h S => ?_)
  refine lv_imul hx hb dX0_sizeOfPair_13 ?_
  exact o_iret X S hr h dX0_sizeOfPair_14
def wX0_sizeOfChosen (T : Nat) (x2 : Int32) (σ : Sg) (Q : Int32 → Sg → Prop) : Prop :=
  (wX0_begin 13 σ (fun σ_2 => (wX0_sizeOfPair T x2 σ_2 (fun r_3 σ_4 => (wX0_mark T x2 σ_4 (fun r_5 σ_6 => Q (r_3 + r_5) σ_6))))))
set_option maxHeartbeats 4000000 in
set_option maxRecDepth 100000 in
theorem mX0_sizeOfChosen {D : va_G} {cy : Nat → ClassId} {ad z : Nat → Nat} (l : Launch) {T : Nat} (hT : isSten T) (x2 : Int32) (σ : Sg) (Q : Int32 → Sg → Prop) (h : wX0_sizeOfChosen T x2 σ Q) : MIB D cy ad z l yX0_sizeOfChosen (.code yX0_sizeOfChosen cX0_sizeOfChosen 3 (some .int) :: gT) ({ frames := 5, cells := 0, slots := 0, locals := 106 }) [.ref (ad 57), .ref (ad T), .int x2] σ Q := by
  refine metI_of (by decide +kernel) (Nat.le_of_ble_eq_true rfl) ?_
  intro p e s m args below meth c A ls X hr hl S
  have X : Fx D (tyB cy) (EvB z) p s m args meth c cX0_sizeOfChosen 3 "BackBay$Asks" A := X
  have hl : lv_has ls 3 [(0, .ref (ad 57)), (1, .ref (ad T)), (2, .int x2)] := hl
  have hx := X.1
  have hb := X.2.1
  unfold wX0_sizeOfChosen at h
  refine lv_aload_n hx hb dX0_sizeOfChosen_0 rfl (lv_at hl 0 rfl) ?_
  refine lv_bipush (v := 13) hx hb dX0_sizeOfChosen_1 (by decide) ?_
  refine o_callVv (k := 1) (EvB_ok z) X S (mX0_begin l 13 σ _ h) (by decide) rfl rfl k_803 k_800 k_802 ks_24 k_12 ⟨rfl, by decide, by decide, by decide +kernel⟩ ⟨rfl, rfl⟩ ⟨Nat.le_of_ble_eq_true rfl, Nat.le_of_ble_eq_true rfl⟩ rfl hl.1 rfl (Nat.le_of_ble_eq_true rfl) dX0_sizeOfChosen_3 (fun σ_2 H locs h S => ?_)
  refine lv_aload_n hx hb dX0_sizeOfChosen_6 rfl (lv_at hl 0 rfl) ?_
  refine lv_aload_n hx hb dX0_sizeOfChosen_7 rfl (lv_at hl 1 rfl) ?_
  refine lv_iload_n hx hb dX0_sizeOfChosen_8 rfl (lv_at hl 2 rfl) ?_
  refine o_callVi (k := 2) (EvB_ok z) X S (mX0_sizeOfPair l hT x2 σ_2 _ h) (by decide) rfl rfl k_831 k_828 k_830 ks_30 k_12 ⟨rfl, by decide, by decide, by decide +kernel⟩ ⟨rfl, rfl⟩ ⟨Nat.le_of_ble_eq_true rfl, Nat.le_of_ble_eq_true rfl⟩ rfl hl.1 rfl (Nat.le_of_ble_eq_true rfl) dX0_sizeOfChosen_9 (fun r_3 σ_4 H locs h S => ?_)
  refine lv_aload_n hx hb dX0_sizeOfChosen_12 rfl (lv_at hl 0 rfl) ?_
  refine lv_aload_n hx hb dX0_sizeOfChosen_13 rfl (lv_at hl 1 rfl) ?_
  refine lv_iload_n hx hb dX0_sizeOfChosen_14 rfl (lv_at hl 2 rfl) ?_
  refine o_callVi (k := 2) (EvB_ok z) X S (mX0_mark l hT x2 σ_4 _ h) (by decide) rfl rfl k_811 k_808 k_809 k_810 k_12 ⟨rfl, by decide, by decide, by decide +kernel⟩ ⟨rfl, rfl⟩ ⟨Nat.le_of_ble_eq_true rfl, Nat.le_of_ble_eq_true rfl⟩ rfl hl.1 rfl (Nat.le_of_ble_eq_true rfl) dX0_sizeOfChosen_15 (fun r_5 σ_6 H locs h S => ?_)
  refine lv_iadd hx hb dX0_sizeOfChosen_18 ?_
  exact o_iret X S hr h dX0_sizeOfChosen_19
def wX0_sizeOfFork (T : Nat) (x2 : Int32) (σ : Sg) (Q : Int32 → Sg → Prop) : Prop :=
  (wX0_begin 14 σ (fun σ_2 => (wX0_sizeLent T x2 σ_2 (fun r_3 σ_4 => (wX0_mark T x2 σ_4 (fun r_5 σ_6 => Q (r_3 - r_5) σ_6))))))
set_option maxHeartbeats 4000000 in
set_option maxRecDepth 100000 in
theorem mX0_sizeOfFork {D : va_G} {cy : Nat → ClassId} {ad z : Nat → Nat} (l : Launch) {T : Nat} (hT : isSten T) (x2 : Int32) (σ : Sg) (Q : Int32 → Sg → Prop) (h : wX0_sizeOfFork T x2 σ Q) : MIB D cy ad z l yX0_sizeOfFork (.code yX0_sizeOfFork cX0_sizeOfFork 3 (some .int) :: gT) ({ frames := 5, cells := 0, slots := 0, locals := 106 }) [.ref (ad 57), .ref (ad T), .int x2] σ Q := by
  refine metI_of (by decide +kernel) (Nat.le_of_ble_eq_true rfl) ?_
  intro p e s m args below meth c A ls X hr hl S
  have X : Fx D (tyB cy) (EvB z) p s m args meth c cX0_sizeOfFork 3 "BackBay$Asks" A := X
  have hl : lv_has ls 3 [(0, .ref (ad 57)), (1, .ref (ad T)), (2, .int x2)] := hl
  have hx := X.1
  have hb := X.2.1
  unfold wX0_sizeOfFork at h
  refine lv_aload_n hx hb dX0_sizeOfFork_0 rfl (lv_at hl 0 rfl) ?_
  refine lv_bipush (v := 14) hx hb dX0_sizeOfFork_1 (by decide) ?_
  refine o_callVv (k := 1) (EvB_ok z) X S (mX0_begin l 14 σ _ h) (by decide) rfl rfl k_803 k_800 k_802 ks_24 k_12 ⟨rfl, by decide, by decide, by decide +kernel⟩ ⟨rfl, rfl⟩ ⟨Nat.le_of_ble_eq_true rfl, Nat.le_of_ble_eq_true rfl⟩ rfl hl.1 rfl (Nat.le_of_ble_eq_true rfl) dX0_sizeOfFork_3 (fun σ_2 H locs h S => ?_)
  refine lv_aload_n hx hb dX0_sizeOfFork_6 rfl (lv_at hl 0 rfl) ?_
  refine lv_aload_n hx hb dX0_sizeOfFork_7 rfl (lv_at hl 1 rfl) ?_
  refine lv_iload_n hx hb dX0_sizeOfFork_8 rfl (lv_at hl 2 rfl) ?_
  refine o_callVi (k := 2) (EvB_ok z) X S (mX0_sizeLent l hT x2 σ_2 _ h) (by decide) rfl rfl k_807 k_804 k_806 ks_25 k_12 ⟨rfl, by decide, by decide, by decide +kernel⟩ ⟨rfl, rfl⟩ ⟨Nat.le_of_ble_eq_true rfl, Nat.le_of_ble_eq_true rfl⟩ rfl hl.1 rfl (Nat.le_of_ble_eq_true rfl) dX0_sizeOfFork_9 (fun r_3 σ_4 H locs h S => ?_)
  refine lv_aload_n hx hb dX0_sizeOfFork_12 rfl (lv_at hl 0 rfl) ?_
  refine lv_aload_n hx hb dX0_sizeOfFork_13 rfl (lv_at hl 1 rfl) ?_
  refine lv_iload_n hx hb dX0_sizeOfFork_14 rfl (lv_at hl 2 rfl) ?_
  refine o_callVi (k := 2) (EvB_ok z) X S (mX0_mark l hT x2 σ_4 _ h) (by decide) rfl rfl k_811 k_808 k_809 k_810 k_12 ⟨rfl, by decide, by decide, by decide +kernel⟩ ⟨rfl, rfl⟩ ⟨Nat.le_of_ble_eq_true rfl, Nat.le_of_ble_eq_true rfl⟩ rfl hl.1 rfl (Nat.le_of_ble_eq_true rfl) dX0_sizeOfFork_15 (fun r_5 σ_6 H locs h S => ?_)
  refine lv_isub hx hb dX0_sizeOfFork_18 ?_
  exact o_iret X S hr h dX0_sizeOfFork_19
def wX0_size (T : Nat) (x2 : Int32) (σ : Sg) (Q : Int32 → Sg → Prop) : Prop :=
  (wX8_kindOf T x2 σ (fun r_1 σ_2 => ((r_1 = 2 → (wX0_sizeOfSeen T x2 σ_2 (fun r_4 σ_5 => Q r_4 σ_5))) ∧ (¬ r_1 = 2 → ((r_1 = 3 → (wX0_sizeOfPair T x2 σ_2 (fun r_7 σ_8 => Q r_7 σ_8))) ∧ (¬ r_1 = 3 → ((r_1 = 4 → (wX0_sizeOfChosen T x2 σ_2 (fun r_10 σ_11 => Q r_10 σ_11))) ∧ (¬ r_1 = 4 → ((r_1 = 5 → (wX0_sizeOfFork T x2 σ_2 (fun r_13 σ_14 => Q r_13 σ_14))) ∧ (¬ r_1 = 5 → (wX0_sizeLent T x2 σ_2 (fun r_15 σ_16 => Q r_15 σ_16))))))))))))
set_option maxHeartbeats 4000000 in
set_option maxRecDepth 100000 in
theorem mX0_size {D : va_G} {cy : Nat → ClassId} {ad z : Nat → Nat} (l : Launch) {T : Nat} (hT : isSten T) (x2 : Int32) (σ : Sg) (Q : Int32 → Sg → Prop) (h : wX0_size T x2 σ Q) : MIB D cy ad z l yX0_size (.code yX0_size cX0_size 3 (some .int) :: gT) ({ frames := 6, cells := 0, slots := 0, locals := 128 }) [.ref (ad 57), .ref (ad T), .int x2] σ Q := by
  refine metI_of (by decide +kernel) (Nat.le_of_ble_eq_true rfl) ?_
  intro p e s m args below meth c A ls X hr hl S
  have X : Fx D (tyB cy) (EvB z) p s m args meth c cX0_size 3 "BackBay$Asks" A := X
  have hl : lv_has ls 3 [(0, .ref (ad 57)), (1, .ref (ad T)), (2, .int x2)] := hl
  have hx := X.1
  have hb := X.2.1
  unfold wX0_size at h
  refine lv_aload_n hx hb dX0_size_0 rfl (lv_at hl 1 rfl) ?_
  refine lv_iload_n hx hb dX0_size_1 rfl (lv_at hl 2 rfl) ?_
  refine o_callVi (k := 1) (EvB_ok z) X S (mX8_kindOf l hT x2 σ _ h) (isSten_lt hT 0 (by decide)) ((shS0 hT) _) rfl k_775 k_795 k_773 k_774 k_3 ⟨rfl, by decide, by decide, by decide +kernel⟩ ⟨rfl, rfl⟩ ⟨Nat.le_of_ble_eq_true rfl, Nat.le_of_ble_eq_true rfl⟩ rfl hl.1 rfl (Nat.le_of_ble_eq_true rfl) dX0_size_2 (fun r_1 σ_2 H locs h S => ?_)
  by_cases q_3 : r_1 = 2
  · refine lv_tableIn (tgt := 36) hx hb dX0_size_5 (by rw [q_3] <;> decide) (by rw [q_3] <;> decide) (by rw [q_3] <;> rfl) (by decide) ?_
    replace h := h.1 q_3
    refine lv_aload_n hx hb dX0_size_36 rfl (lv_at hl 0 rfl) ?_
    refine lv_aload_n hx hb dX0_size_37 rfl (lv_at hl 1 rfl) ?_
    refine lv_iload_n hx hb dX0_size_38 rfl (lv_at hl 2 rfl) ?_
    refine o_callVi (k := 2) (EvB_ok z) X S (mX0_sizeOfSeen l hT x2 σ_2 _ h) (by decide) rfl rfl k_799 k_796 k_798 ks_23 k_12 ⟨rfl, by decide, by decide, by decide +kernel⟩ ⟨rfl, rfl⟩ ⟨Nat.le_of_ble_eq_true rfl, Nat.le_of_ble_eq_true rfl⟩ rfl hl.1 rfl (Nat.le_of_ble_eq_true rfl) dX0_size_39 (fun r_4 σ_5 H locs h S => ?_)
    exact o_iret X S hr h dX0_size_42
  replace h := h.2 q_3
  by_cases q_6 : r_1 = 3
  · refine lv_tableIn (tgt := 43) hx hb dX0_size_5 (by rw [q_6] <;> decide) (by rw [q_6] <;> decide) (by rw [q_6] <;> rfl) (by decide) ?_
    replace h := h.1 q_6
    refine lv_aload_n hx hb dX0_size_43 rfl (lv_at hl 0 rfl) ?_
    refine lv_aload_n hx hb dX0_size_44 rfl (lv_at hl 1 rfl) ?_
    refine lv_iload_n hx hb dX0_size_45 rfl (lv_at hl 2 rfl) ?_
    refine o_callVi (k := 2) (EvB_ok z) X S (mX0_sizeOfPair l hT x2 σ_2 _ h) (by decide) rfl rfl k_831 k_828 k_830 ks_30 k_12 ⟨rfl, by decide, by decide, by decide +kernel⟩ ⟨rfl, rfl⟩ ⟨Nat.le_of_ble_eq_true rfl, Nat.le_of_ble_eq_true rfl⟩ rfl hl.1 rfl (Nat.le_of_ble_eq_true rfl) dX0_size_46 (fun r_7 σ_8 H locs h S => ?_)
    exact o_iret X S hr h dX0_size_49
  replace h := h.2 q_6
  by_cases q_9 : r_1 = 4
  · refine lv_tableIn (tgt := 50) hx hb dX0_size_5 (by rw [q_9] <;> decide) (by rw [q_9] <;> decide) (by rw [q_9] <;> rfl) (by decide) ?_
    replace h := h.1 q_9
    refine lv_aload_n hx hb dX0_size_50 rfl (lv_at hl 0 rfl) ?_
    refine lv_aload_n hx hb dX0_size_51 rfl (lv_at hl 1 rfl) ?_
    refine lv_iload_n hx hb dX0_size_52 rfl (lv_at hl 2 rfl) ?_
    refine o_callVi (k := 2) (EvB_ok z) X S (mX0_sizeOfChosen l hT x2 σ_2 _ h) (by decide) rfl rfl k_835 k_832 k_834 ks_31 k_12 ⟨rfl, by decide, by decide, by decide +kernel⟩ ⟨rfl, rfl⟩ ⟨Nat.le_of_ble_eq_true rfl, Nat.le_of_ble_eq_true rfl⟩ rfl hl.1 rfl (Nat.le_of_ble_eq_true rfl) dX0_size_53 (fun r_10 σ_11 H locs h S => ?_)
    exact o_iret X S hr h dX0_size_56
  replace h := h.2 q_9
  by_cases q_12 : r_1 = 5
  · refine lv_tableIn (tgt := 57) hx hb dX0_size_5 (by rw [q_12] <;> decide) (by rw [q_12] <;> decide) (by rw [q_12] <;> rfl) (by decide) ?_
    replace h := h.1 q_12
    refine lv_aload_n hx hb dX0_size_57 rfl (lv_at hl 0 rfl) ?_
    refine lv_aload_n hx hb dX0_size_58 rfl (lv_at hl 1 rfl) ?_
    refine lv_iload_n hx hb dX0_size_59 rfl (lv_at hl 2 rfl) ?_
    refine o_callVi (k := 2) (EvB_ok z) X S (mX0_sizeOfFork l hT x2 σ_2 _ h) (by decide) rfl rfl k_839 k_836 k_838 ks_32 k_12 ⟨rfl, by decide, by decide, by decide +kernel⟩ ⟨rfl, rfl⟩ ⟨Nat.le_of_ble_eq_true rfl, Nat.le_of_ble_eq_true rfl⟩ rfl hl.1 rfl (Nat.le_of_ble_eq_true rfl) dX0_size_60 (fun r_13 σ_14 H locs h S => ?_)
    exact o_iret X S hr h dX0_size_63
  replace h := h.2 q_12
  refine lv_tableOut (tgt := 64) hx hb dX0_size_5 (by have r0 := lv_neT (a := 2) q_3 rfl; have r1 := lv_neT (a := 3) q_6 rfl; have r2 := lv_neT (a := 4) q_9 rfl; have r3 := lv_neT (a := 5) q_12 rfl; omega) (by decide) ?_
  refine lv_aload_n hx hb dX0_size_64 rfl (lv_at hl 0 rfl) ?_
  refine lv_aload_n hx hb dX0_size_65 rfl (lv_at hl 1 rfl) ?_
  refine lv_iload_n hx hb dX0_size_66 rfl (lv_at hl 2 rfl) ?_
  refine o_callVi (k := 2) (EvB_ok z) X S (mX0_sizeLent l hT x2 σ_2 _ h) (by decide) rfl rfl k_807 k_804 k_806 ks_25 k_12 ⟨rfl, by decide, by decide, by decide +kernel⟩ ⟨rfl, rfl⟩ ⟨Nat.le_of_ble_eq_true rfl, Nat.le_of_ble_eq_true rfl⟩ rfl hl.1 rfl (Nat.le_of_ble_eq_true rfl) dX0_size_67 (fun r_15 σ_16 H locs h S => ?_)
  exact o_iret X S hr h dX0_size_70
def wX10_add_L5 (x1 : Int64) (k47 : Sg → Prop) (Q : Sg → Prop) : Nat → Int32 → Sg → Prop
  | 0, _, _ => False
  | nn5 + 1, x4, σ =>
  ((x4 < 0 → k47 σ) ∧ (¬ x4 < 0 → (vp_in (σ 2 0) 300 ∧ ∀ σ_3, σ_3 = sto σ 3 (σ 2 0).toNatClampNeg (((x1 >>> ((8 * x4).toInt64 &&& 63)).toInt32) &&& 255) → (∀ σ_4, σ_4 = sto σ_3 2 0 ((σ_3 2 0) + 1) → (∀ x4_5 : Int32, x4_5 = x4 + (-1) → wX10_add_L5 x1 k47 Q nn5 x4_5 σ_4)))))
def wX10_add (x1 : Int64) (x3 : Int32) (σ : Sg) (Q : Sg → Prop) : Prop :=
  (∀ x4_1, x4_1 = (x3 - 1) → (∃ nf, wX10_add_L5 x1 (fun σ_6 => Q σ_6) Q nf x4_1 σ))
set_option maxHeartbeats 4000000 in
set_option maxRecDepth 100000 in
theorem mX10_add_L5 {D : va_G} {cy : Nat → ClassId} {ad z : Nat → Nat} (l : Launch) {p : Program} {e : Env} {s : State} {m : MethodId} {args : Array Value} {below : List Frame} {meth : Method} {c : Code} {A : Nat → Prop} {k47 : Sg → Prop} {Q : Sg → Prop} (X : Fx D (tyB cy) (EvB z) p s m args meth c cX10_add 5 "BackBay$Tape" A) (hr : meth.sig.returnType = none) (x1 : Int64) (hk47 : ∀ (σ : Sg) (H : Heap) (locs : List Loc) (ls : Array Slot), St D ad 75 (shB cy ad) A s σ H locs → lv_has ls 5 [] → k47 σ → W p l e ({ frames := 0, cells := 0, slots := 0, locals := 0 }) s m args below meth c H locs 0 0 (MQ below (va_Qv Q (PosW D (tyB cy) ad 75 (shB cy ad) A) A) args s 0 0 A) (F0 m 47 ls [])) : ∀ (n : Nat) (x4 : Int32) (σ : Sg) (H : Heap) (locs : List Loc) (ls : Array Slot), St D ad 75 (shB cy ad) A s σ H locs → lv_has ls 5 [(0, .ref (ad 2)), (1, .long x1), (4, .int x4)] → wX10_add_L5 x1 k47 Q n x4 σ → W p l e ({ frames := 0, cells := 0, slots := 0, locals := 0 }) s m args below meth c H locs 0 0 (MQ below (va_Qv Q (PosW D (tyB cy) ad 75 (shB cy ad) A) A) args s 0 0 A) (F0 m 5 ls []) := by
  have hx := X.1
  have hb := X.2.1
  intro n
  induction n with
  | zero =>
    intro _ _ _ _ _ _ _ h
    exact absurd h (by unfold wX10_add_L5; exact id)
  | succ n ih =>
    intro x4 σ H locs ls S hl h
    unfold wX10_add_L5 at h
    refine lv_iload hx hb dX10_add_5 (lv_at hl 2 rfl) ?_
    refine lv_if_lt (tgt := 47) hx hb dX10_add_7 (by decide) (fun q_2 => ?_) (fun q_2 => ?_)
    · replace h := h.1 q_2
      exact hk47 _ _ _ _ S (lv_sub hl [] rfl) h
    · replace h := h.2 q_2
      refine lv_aload_n hx hb dX10_add_10 rfl (lv_at hl 0 rfl) ?_
      refine o_get X S 2 1 (by decide) rfl rfl in_10 (by decide) k_39 rfl dX10_add_11 ?_
      refine lv_aload_n hx hb dX10_add_14 rfl (lv_at hl 0 rfl) ?_
      refine o_get X S 2 0 (by decide) rfl rfl in_10 (by decide) k_37 rfl dX10_add_15 ?_
      refine lv_lload_n hx hb dX10_add_18 rfl (lv_at hl 1 rfl) ?_
      refine lv_bipush (v := 8) hx hb dX10_add_19 (by decide) ?_
      refine lv_iload hx hb dX10_add_21 (lv_at hl 2 rfl) ?_
      refine lv_imul hx hb dX10_add_23 ?_
      refine lv_lshr hx hb dX10_add_24 rfl ?_
      refine lv_l2i hx hb dX10_add_25 rfl ?_
      refine lv_sipush (v := 255) hx hb dX10_add_26 (by decide) ?_
      refine lv_iand hx hb dX10_add_29 ?_
      refine o_iast X S 3 0 (by decide) (fun _ => rfl) rfl h.1 dX10_add_30 (fun σ_3 H locs eσ_3 S => ?_)
      replace h := h.2 σ_3 eσ_3
      refine lv_aload_n hx hb dX10_add_31 rfl (lv_at hl 0 rfl) ?_
      refine lv_dup hx hb dX10_add_32 rfl ?_
      refine o_get X S 2 0 (by decide) rfl rfl in_10 (by decide) k_37 rfl dX10_add_33 ?_
      refine lv_iconst (v := 1) hx hb dX10_add_36 (by decide) ?_
      refine lv_iadd hx hb dX10_add_37 ?_
      refine o_puti X S (fs := fun c => [.int (c 0), .ref (ad 3), .int (c 2), .int (c 3), .int (c 4), .int (c 5), .int (c 6), .int (c 7)]) 2 0 (by decide) (fun _ => rfl) (fun _ _ => rfl) rfl in_10 tyX10_ok nmX10 (by decide) k_37 rfl rfl rfl rfl (fun _ => Nat.le_of_ble_eq_true rfl) dX10_add_38 (fun σ_4 H locs eσ_4 S => ?_)
      replace h := h σ_4 eσ_4
      obtain ⟨x4_5, ex4_5⟩ : ∃ y : Int32, y = x4 + (-1) := ⟨_, rfl⟩
      replace h := h x4_5 ex4_5
      refine lv_iinc (v := x4_5) (lv' := [(4, .int x4_5), (0, .ref (ad 2)), (1, .long x1)]) hx hb dX10_add_41 hl (k := 2) rfl (by rw [ex4_5]; rfl) (by decide) rfl (fun ls hl => ?_)
      refine lv_goto (tgt := 5) hx hb dX10_add_44 (by decide) ?_
      exact ih _ _ _ _ _ S (lv_sub hl [1, 2, 0] rfl) h
set_option maxHeartbeats 4000000 in
set_option maxRecDepth 100000 in
theorem mX10_add {D : va_G} {cy : Nat → ClassId} {ad z : Nat → Nat} (l : Launch) (x1 : Int64) (x3 : Int32) (σ : Sg) (Q : Sg → Prop) (h : wX10_add x1 x3 σ Q) : MVB D cy ad z l yX10_add (.code yX10_add cX10_add 5 none :: gT) ({ frames := 0, cells := 0, slots := 0, locals := 0 }) [.ref (ad 2), .long x1, .int x3] σ Q := by
  refine metV_of (by decide +kernel) (Nat.le_of_ble_eq_true rfl) ?_
  intro p e s m args below meth c A ls X hr hl S
  have X : Fx D (tyB cy) (EvB z) p s m args meth c cX10_add 5 "BackBay$Tape" A := X
  have hl : lv_has ls 5 [(0, .ref (ad 2)), (1, .long x1), (3, .int x3)] := hl
  have hx := X.1
  have hb := X.2.1
  unfold wX10_add at h
  refine lv_iload_n hx hb dX10_add_0 rfl (lv_at hl 2 rfl) ?_
  refine lv_iconst (v := 1) hx hb dX10_add_1 (by decide) ?_
  refine lv_isub hx hb dX10_add_2 ?_
  refine lv_topi (fun x4_1 ex4_1 => ?_)
  replace h := h x4_1 ex4_1
  refine lv_istore (lv' := [(4, .int x4_1), (0, .ref (ad 2)), (1, .long x1), (3, .int x3)]) hx hb dX10_add_3 hl (by decide) rfl (fun ls hl => ?_)
  obtain ⟨n_5, h⟩ := h
  refine mX10_add_L5 l X hr x1 ?_ n_5 _ _ _ _ _ S (lv_sub hl [1, 2, 0] rfl) h
  · intro σ_6 H locs ls S hl h
    exact o_vret X S hr h dX10_add_47
def wX10_fail (x1 : Int32) (σ : Sg) (Q : Int32 → Sg → Prop) : Prop :=
  (∀ σ_1, σ_1 = sto σ 2 6 x1 → (∀ σ_2, σ_2 = sto σ_1 2 7 (σ_1 2 3) → Q 0 σ_2))
set_option maxHeartbeats 4000000 in
set_option maxRecDepth 100000 in
theorem mX10_fail {D : va_G} {cy : Nat → ClassId} {ad z : Nat → Nat} (l : Launch) (x1 : Int32) (σ : Sg) (Q : Int32 → Sg → Prop) (h : wX10_fail x1 σ Q) : MIB D cy ad z l yX10_fail (.code yX10_fail cX10_fail 2 (some .boolean) :: gT) ({ frames := 0, cells := 0, slots := 0, locals := 0 }) [.ref (ad 2), .int x1] σ Q := by
  refine metI_of (by decide +kernel) (Nat.le_of_ble_eq_true rfl) ?_
  intro p e s m args below meth c A ls X hr hl S
  have X : Fx D (tyB cy) (EvB z) p s m args meth c cX10_fail 2 "BackBay$Tape" A := X
  have hl : lv_has ls 2 [(0, .ref (ad 2)), (1, .int x1)] := hl
  have hx := X.1
  have hb := X.2.1
  unfold wX10_fail at h
  refine lv_aload_n hx hb dX10_fail_0 rfl (lv_at hl 0 rfl) ?_
  refine lv_iload_n hx hb dX10_fail_1 rfl (lv_at hl 1 rfl) ?_
  refine o_puti X S (fs := fun c => [.int (c 0), .ref (ad 3), .int (c 2), .int (c 3), .int (c 4), .int (c 5), .int (c 6), .int (c 7)]) 2 6 (by decide) (fun _ => rfl) (fun _ _ => rfl) rfl in_10 tyX10_ok nmX10 (by decide) k_44 rfl rfl rfl rfl (fun _ => Nat.le_of_ble_eq_true rfl) dX10_fail_2 (fun σ_1 H locs eσ_1 S => ?_)
  replace h := h σ_1 eσ_1
  refine lv_aload_n hx hb dX10_fail_5 rfl (lv_at hl 0 rfl) ?_
  refine lv_aload_n hx hb dX10_fail_6 rfl (lv_at hl 0 rfl) ?_
  refine o_get X S 2 3 (by decide) rfl rfl in_10 (by decide) k_41 rfl dX10_fail_7 ?_
  refine o_puti X S (fs := fun c => [.int (c 0), .ref (ad 3), .int (c 2), .int (c 3), .int (c 4), .int (c 5), .int (c 6), .int (c 7)]) 2 7 (by decide) (fun _ => rfl) (fun _ _ => rfl) rfl in_10 tyX10_ok nmX10 (by decide) k_46 rfl rfl rfl rfl (fun _ => Nat.le_of_ble_eq_true rfl) dX10_fail_10 (fun σ_2 H locs eσ_2 S => ?_)
  replace h := h σ_2 eσ_2
  refine lv_iconst (v := 0) hx hb dX10_fail_13 (by decide) ?_
  exact o_zret X S hr bok0 h dX10_fail_14
def wX10_letterToken (x0 : Int32) (σ : Sg) (Q : Int32 → Sg → Prop) : Prop :=
  ((x0 = 99 → Q 1 σ) ∧ (¬ x0 = 99 → ((x0 = 107 → Q 3 σ) ∧ (¬ x0 = 107 → ((x0 = 108 → Q 0 σ) ∧ (¬ x0 = 108 → ((x0 = 114 → Q 2 σ) ∧ (¬ x0 = 114 → Q 14 σ))))))))
set_option maxHeartbeats 4000000 in
set_option maxRecDepth 100000 in
theorem mX10_letterToken {D : va_G} {cy : Nat → ClassId} {ad z : Nat → Nat} (l : Launch) (x0 : Int32) (σ : Sg) (Q : Int32 → Sg → Prop) (h : wX10_letterToken x0 σ Q) : MIB D cy ad z l yX10_letterToken (.code yX10_letterToken cX10_letterToken 1 (some .int) :: gT) ({ frames := 0, cells := 0, slots := 0, locals := 0 }) [.int x0] σ Q := by
  refine metI_of (by decide +kernel) (Nat.le_of_ble_eq_true rfl) ?_
  intro p e s m args below meth c A ls X hr hl S
  have X : Fx D (tyB cy) (EvB z) p s m args meth c cX10_letterToken 1 "BackBay$Tape" A := X
  have hl : lv_has ls 1 [(0, .int x0)] := hl
  have hx := X.1
  have hb := X.2.1
  unfold wX10_letterToken at h
  refine lv_iload_n hx hb dX10_letterToken_0 rfl (lv_at hl 0 rfl) ?_
  by_cases q_1 : x0 = 99
  · refine lv_lookup (tgt := 46) (off := 45) hx hb dX10_letterToken_1 (by decide) (by rw [q_1] <;> rfl) (by decide) ?_
    replace h := h.1 q_1
    refine lv_iconst (v := 1) hx hb dX10_letterToken_46 (by decide) ?_
    exact o_iret X S hr h dX10_letterToken_47
  replace h := h.2 q_1
  by_cases q_2 : x0 = 107
  · refine lv_lookup (tgt := 50) (off := 49) hx hb dX10_letterToken_1 (by decide) (by rw [q_2] <;> rfl) (by decide) ?_
    replace h := h.1 q_2
    refine lv_iconst (v := 3) hx hb dX10_letterToken_50 (by decide) ?_
    exact o_iret X S hr h dX10_letterToken_51
  replace h := h.2 q_2
  by_cases q_3 : x0 = 108
  · refine lv_lookup (tgt := 44) (off := 43) hx hb dX10_letterToken_1 (by decide) (by rw [q_3] <;> rfl) (by decide) ?_
    replace h := h.1 q_3
    refine lv_iconst (v := 0) hx hb dX10_letterToken_44 (by decide) ?_
    exact o_iret X S hr h dX10_letterToken_45
  replace h := h.2 q_3
  by_cases q_4 : x0 = 114
  · refine lv_lookup (tgt := 48) (off := 47) hx hb dX10_letterToken_1 (by decide) (by rw [q_4] <;> rfl) (by decide) ?_
    replace h := h.1 q_4
    refine lv_iconst (v := 2) hx hb dX10_letterToken_48 (by decide) ?_
    exact o_iret X S hr h dX10_letterToken_49
  replace h := h.2 q_4
  refine lv_lookup (tgt := 52) (off := 51) hx hb dX10_letterToken_1 (by decide) (by refine (lv_osw q_1 rfl).trans ?_; refine (lv_osw q_2 rfl).trans ?_; refine (lv_osw q_3 rfl).trans ?_; refine (lv_osw q_4 rfl).trans ?_; rfl) (by decide) ?_
  refine lv_bipush (v := 14) hx hb dX10_letterToken_52 (by decide) ?_
  exact o_iret X S hr h dX10_letterToken_54
def wX10_signToken (x0 : Int32) (σ : Sg) (Q : Int32 → Sg → Prop) : Prop :=
  ((x0 = 42 → Q 7 σ) ∧ (¬ x0 = 42 → ((x0 = 43 → Q 5 σ) ∧ (¬ x0 = 43 → ((x0 = 45 → Q 6 σ) ∧ (¬ x0 = 45 → ((x0 = 59 → Q 12 σ) ∧ (¬ x0 = 59 → Q 14 σ))))))))
set_option maxHeartbeats 4000000 in
set_option maxRecDepth 100000 in
theorem mX10_signToken {D : va_G} {cy : Nat → ClassId} {ad z : Nat → Nat} (l : Launch) (x0 : Int32) (σ : Sg) (Q : Int32 → Sg → Prop) (h : wX10_signToken x0 σ Q) : MIB D cy ad z l yX10_signToken (.code yX10_signToken cX10_signToken 1 (some .int) :: gT) ({ frames := 0, cells := 0, slots := 0, locals := 0 }) [.int x0] σ Q := by
  refine metI_of (by decide +kernel) (Nat.le_of_ble_eq_true rfl) ?_
  intro p e s m args below meth c A ls X hr hl S
  have X : Fx D (tyB cy) (EvB z) p s m args meth c cX10_signToken 1 "BackBay$Tape" A := X
  have hl : lv_has ls 1 [(0, .int x0)] := hl
  have hx := X.1
  have hb := X.2.1
  unfold wX10_signToken at h
  refine lv_iload_n hx hb dX10_signToken_0 rfl (lv_at hl 0 rfl) ?_
  by_cases q_1 : x0 = 42
  · refine lv_lookup (tgt := 52) (off := 51) hx hb dX10_signToken_1 (by decide) (by rw [q_1] <;> rfl) (by decide) ?_
    replace h := h.1 q_1
    refine lv_bipush (v := 7) hx hb dX10_signToken_52 (by decide) ?_
    exact o_iret X S hr h dX10_signToken_54
  replace h := h.2 q_1
  by_cases q_2 : x0 = 43
  · refine lv_lookup (tgt := 47) (off := 46) hx hb dX10_signToken_1 (by decide) (by rw [q_2] <;> rfl) (by decide) ?_
    replace h := h.1 q_2
    refine lv_iconst (v := 5) hx hb dX10_signToken_47 (by decide) ?_
    exact o_iret X S hr h dX10_signToken_48
  replace h := h.2 q_2
  by_cases q_3 : x0 = 45
  · refine lv_lookup (tgt := 49) (off := 48) hx hb dX10_signToken_1 (by decide) (by rw [q_3] <;> rfl) (by decide) ?_
    replace h := h.1 q_3
    refine lv_bipush (v := 6) hx hb dX10_signToken_49 (by decide) ?_
    exact o_iret X S hr h dX10_signToken_51
  replace h := h.2 q_3
  by_cases q_4 : x0 = 59
  · refine lv_lookup (tgt := 44) (off := 43) hx hb dX10_signToken_1 (by decide) (by rw [q_4] <;> rfl) (by decide) ?_
    replace h := h.1 q_4
    refine lv_bipush (v := 12) hx hb dX10_signToken_44 (by decide) ?_
    exact o_iret X S hr h dX10_signToken_46
  replace h := h.2 q_4
  refine lv_lookup (tgt := 55) (off := 54) hx hb dX10_signToken_1 (by decide) (by refine (lv_osw q_1 rfl).trans ?_; refine (lv_osw q_2 rfl).trans ?_; refine (lv_osw q_3 rfl).trans ?_; refine (lv_osw q_4 rfl).trans ?_; rfl) (by decide) ?_
  refine lv_bipush (v := 14) hx hb dX10_signToken_55 (by decide) ?_
  exact o_iret X S hr h dX10_signToken_57
def wX10_endOf_L5 (x1 : Int32) (x2 : Int32) (k33 : Int32 → Sg → Prop) (Q : Int32 → Sg → Prop) : Nat → Int32 → Sg → Prop
  | 0, _, _ => False
  | nn5 + 1, x3, σ =>
  (((σ 2 0) ≤ x3 → k33 x3 σ) ∧ (¬ (σ 2 0) ≤ x3 → (vp_in x3 300 ∧ (wX11_isWithin (σ 3 x3.toNatClampNeg) x1 x2 σ (fun r_3 σ_4 => ((r_3 = 0 → k33 x3 σ_4) ∧ (¬ r_3 = 0 → (∀ x3_6 : Int32, x3_6 = x3 + 1 → wX10_endOf_L5 x1 x2 k33 Q nn5 x3_6 σ_4))))))))
def wX10_endOf_b33 (x3 : Int32) (σ : Sg) (Q : Int32 → Sg → Prop) : Prop :=
  Q x3 σ
def wX10_endOf (x1 : Int32) (x2 : Int32) (σ : Sg) (Q : Int32 → Sg → Prop) : Prop :=
  (∀ x3_1, x3_1 = (σ 2 3) → (∃ nf, wX10_endOf_L5 x1 x2 (fun x3_7 σ_8 => wX10_endOf_b33 x3_7 σ_8 Q) Q nf x3_1 σ))
set_option maxHeartbeats 4000000 in
set_option maxRecDepth 100000 in
theorem mX10_endOf_L5 {D : va_G} {cy : Nat → ClassId} {ad z : Nat → Nat} (l : Launch) {p : Program} {e : Env} {s : State} {m : MethodId} {args : Array Value} {below : List Frame} {meth : Method} {c : Code} {A : Nat → Prop} {k33 : Int32 → Sg → Prop} {Q : Int32 → Sg → Prop} (X : Fx D (tyB cy) (EvB z) p s m args meth c cX10_endOf 4 "BackBay$Tape" A) (hr : meth.sig.returnType = some .int) (x1 : Int32) (x2 : Int32) (hk33 : ∀ (x3 : Int32) (σ : Sg) (H : Heap) (locs : List Loc) (ls : Array Slot), St D ad 75 (shB cy ad) A s σ H locs → lv_has ls 4 [(3, .int x3)] → k33 x3 σ → W p l e ({ frames := 1, cells := 0, slots := 0, locals := 22 }) s m args below meth c H locs 0 0 (MQ below (va_Qi Q (PosW D (tyB cy) ad 75 (shB cy ad) A) A) args s 0 0 A) (F0 m 33 ls [])) : ∀ (n : Nat) (x3 : Int32) (σ : Sg) (H : Heap) (locs : List Loc) (ls : Array Slot), St D ad 75 (shB cy ad) A s σ H locs → lv_has ls 4 [(0, .ref (ad 2)), (1, .int x1), (2, .int x2), (3, .int x3)] → wX10_endOf_L5 x1 x2 k33 Q n x3 σ → W p l e ({ frames := 1, cells := 0, slots := 0, locals := 22 }) s m args below meth c H locs 0 0 (MQ below (va_Qi Q (PosW D (tyB cy) ad 75 (shB cy ad) A) A) args s 0 0 A) (F0 m 5 ls []) := by
  have hx := X.1
  have hb := X.2.1
  intro n
  induction n with
  | zero =>
    intro _ _ _ _ _ _ _ h
    exact absurd h (by unfold wX10_endOf_L5; exact id)
  | succ n ih =>
    intro x3 σ H locs ls S hl h
    unfold wX10_endOf_L5 at h
    refine lv_iload_n hx hb dX10_endOf_5 rfl (lv_at hl 3 rfl) ?_
    refine lv_aload_n hx hb dX10_endOf_6 rfl (lv_at hl 0 rfl) ?_
    refine o_get X S 2 0 (by decide) rfl rfl in_10 (by decide) k_37 rfl dX10_endOf_7 ?_
    refine lv_icmp_ge (tgt := 33) hx hb dX10_endOf_10 (by decide) (fun q_2 => ?_) (fun q_2 => ?_)
    · replace h := h.1 q_2
      exact hk33 _ _ _ _ _ S (lv_sub hl [3] rfl) h
    · replace h := h.2 q_2
      refine lv_aload_n hx hb dX10_endOf_13 rfl (lv_at hl 0 rfl) ?_
      refine o_get X S 2 1 (by decide) rfl rfl in_10 (by decide) k_39 rfl dX10_endOf_14 ?_
      refine lv_iload_n hx hb dX10_endOf_17 rfl (lv_at hl 3 rfl) ?_
      refine o_iald X S 3 0 (by decide) (fun _ => rfl) rfl h.1 dX10_endOf_18 ?_
      replace h := h.2
      refine lv_iload_n hx hb dX10_endOf_19 rfl (lv_at hl 1 rfl) ?_
      refine lv_iload_n hx hb dX10_endOf_20 rfl (lv_at hl 2 rfl) ?_
      refine o_callNi (k := 3) (EvB_ok z) X S (mX11_isWithin l (σ 3 x3.toNatClampNeg) x1 x2 σ _ h) k_371 X.2.2.2.2.2.2.2.1.2.2.2.2.2.2.2.2.2.2.2.2.2.2.2.1 k_370 k_1 ⟨by decide, by decide, by decide +kernel⟩ ⟨rfl, rfl⟩ ⟨Nat.le_of_ble_eq_true rfl, Nat.le_of_ble_eq_true rfl⟩ rfl hl.1 rfl (Nat.le_of_ble_eq_true rfl) dX10_endOf_21 (fun r_3 σ_4 H locs h S => ?_)
      refine lv_if_eq (tgt := 33) hx hb dX10_endOf_24 (by decide) (fun q_5 => ?_) (fun q_5 => ?_)
      · replace h := h.1 q_5
        exact hk33 _ _ _ _ _ S (lv_sub hl [3] rfl) h
      · replace h := h.2 q_5
        obtain ⟨x3_6, ex3_6⟩ : ∃ y : Int32, y = x3 + 1 := ⟨_, rfl⟩
        replace h := h x3_6 ex3_6
        refine lv_iinc (v := x3_6) (lv' := [(3, .int x3_6), (0, .ref (ad 2)), (1, .int x1), (2, .int x2)]) hx hb dX10_endOf_27 hl (k := 3) rfl (by rw [ex3_6]; rfl) (by decide) rfl (fun ls hl => ?_)
        refine lv_goto (tgt := 5) hx hb dX10_endOf_30 (by decide) ?_
        exact ih _ _ _ _ _ S (lv_sub hl [1, 2, 3, 0] rfl) h
set_option maxHeartbeats 4000000 in
set_option maxRecDepth 100000 in
theorem mX10_endOf_b33 {D : va_G} {cy : Nat → ClassId} {ad z : Nat → Nat} (l : Launch) {p : Program} {e : Env} {s : State} {m : MethodId} {args : Array Value} {below : List Frame} {meth : Method} {c : Code} {A : Nat → Prop} {Q : Int32 → Sg → Prop} (X : Fx D (tyB cy) (EvB z) p s m args meth c cX10_endOf 4 "BackBay$Tape" A) (hr : meth.sig.returnType = some .int) (x3 : Int32) {σ : Sg} {H : Heap} {locs : List Loc} {ls : Array Slot} (S : St D ad 75 (shB cy ad) A s σ H locs) (hl : lv_has ls 4 [(3, .int x3)]) (h : wX10_endOf_b33 x3 σ Q) : W p l e ({ frames := 1, cells := 0, slots := 0, locals := 22 }) s m args below meth c H locs 0 0 (MQ below (va_Qi Q (PosW D (tyB cy) ad 75 (shB cy ad) A) A) args s 0 0 A) (F0 m 33 ls []) := by
  have hx := X.1
  have hb := X.2.1
  unfold wX10_endOf_b33 at h
  refine lv_iload_n hx hb dX10_endOf_33 rfl (lv_at hl 0 rfl) ?_
  exact o_iret X S hr h dX10_endOf_34
set_option maxHeartbeats 4000000 in
set_option maxRecDepth 100000 in
theorem mX10_endOf {D : va_G} {cy : Nat → ClassId} {ad z : Nat → Nat} (l : Launch) (x1 : Int32) (x2 : Int32) (σ : Sg) (Q : Int32 → Sg → Prop) (h : wX10_endOf x1 x2 σ Q) : MIB D cy ad z l yX10_endOf (.code yX10_endOf cX10_endOf 4 (some .int) :: gT) ({ frames := 1, cells := 0, slots := 0, locals := 22 }) [.ref (ad 2), .int x1, .int x2] σ Q := by
  refine metI_of (by decide +kernel) (Nat.le_of_ble_eq_true rfl) ?_
  intro p e s m args below meth c A ls X hr hl S
  have X : Fx D (tyB cy) (EvB z) p s m args meth c cX10_endOf 4 "BackBay$Tape" A := X
  have hl : lv_has ls 4 [(0, .ref (ad 2)), (1, .int x1), (2, .int x2)] := hl
  have hx := X.1
  have hb := X.2.1
  unfold wX10_endOf at h
  refine lv_aload_n hx hb dX10_endOf_0 rfl (lv_at hl 0 rfl) ?_
  refine o_get X S 2 3 (by decide) rfl rfl in_10 (by decide) k_41 rfl dX10_endOf_1 ?_
  refine lv_topi (fun x3_1 ex3_1 => ?_)
  replace h := h x3_1 ex3_1
  refine lv_istore_n (lv' := [(3, .int x3_1), (0, .ref (ad 2)), (1, .int x1), (2, .int x2)]) hx hb dX10_endOf_4 rfl hl (by decide) rfl (fun ls hl => ?_)
  obtain ⟨n_5, h⟩ := h
  refine mX10_endOf_L5 l X hr x1 x2 ?_ n_5 _ _ _ _ _ S (lv_sub hl [1, 2, 3, 0] rfl) h
  · intro x3_7 σ_8 H locs ls S hl h
    exact mX10_endOf_b33 l X hr x3_7 S (lv_sub hl [0] rfl) h
def wX10_numberToken_L26 (k61 : Sg → Prop) (Q : Int32 → Sg → Prop) : Nat → Int32 → Sg → Prop
  | 0, _, _ => False
  | nn26 + 1, x1, σ =>
  (((σ 2 4) ≤ x1 → k61 σ) ∧ (¬ (σ 2 4) ≤ x1 → (vp_in x1 300 ∧ (∀ σ_5, σ_5 = sto σ 2 5 (((10 * (σ 2 5)) + (σ 3 x1.toNatClampNeg)) - 48) → (∀ x1_6 : Int32, x1_6 = x1 + 1 → wX10_numberToken_L26 k61 Q nn26 x1_6 σ_5)))))
def wX10_numberToken (σ : Sg) (Q : Int32 → Sg → Prop) : Prop :=
  ((((σ 2 4) - (σ 2 3)) ≤ 4 → (∀ σ_2, σ_2 = sto σ 2 5 0 → (∀ x1_3, x1_3 = (σ_2 2 3) → (∃ nf, wX10_numberToken_L26 (fun σ_7 => Q 4 σ_7) Q nf x1_3 σ_2)))) ∧ (¬ ((σ 2 4) - (σ 2 3)) ≤ 4 → Q 14 σ))
set_option maxHeartbeats 4000000 in
set_option maxRecDepth 100000 in
theorem mX10_numberToken_L26 {D : va_G} {cy : Nat → ClassId} {ad z : Nat → Nat} (l : Launch) {p : Program} {e : Env} {s : State} {m : MethodId} {args : Array Value} {below : List Frame} {meth : Method} {c : Code} {A : Nat → Prop} {k61 : Sg → Prop} {Q : Int32 → Sg → Prop} (X : Fx D (tyB cy) (EvB z) p s m args meth c cX10_numberToken 2 "BackBay$Tape" A) (hr : meth.sig.returnType = some .int) (hk61 : ∀ (σ : Sg) (H : Heap) (locs : List Loc) (ls : Array Slot), St D ad 75 (shB cy ad) A s σ H locs → lv_has ls 2 [] → k61 σ → W p l e ({ frames := 0, cells := 0, slots := 0, locals := 0 }) s m args below meth c H locs 0 0 (MQ below (va_Qi Q (PosW D (tyB cy) ad 75 (shB cy ad) A) A) args s 0 0 A) (F0 m 61 ls [])) : ∀ (n : Nat) (x1 : Int32) (σ : Sg) (H : Heap) (locs : List Loc) (ls : Array Slot), St D ad 75 (shB cy ad) A s σ H locs → lv_has ls 2 [(0, .ref (ad 2)), (1, .int x1)] → wX10_numberToken_L26 k61 Q n x1 σ → W p l e ({ frames := 0, cells := 0, slots := 0, locals := 0 }) s m args below meth c H locs 0 0 (MQ below (va_Qi Q (PosW D (tyB cy) ad 75 (shB cy ad) A) A) args s 0 0 A) (F0 m 26 ls []) := by
  have hx := X.1
  have hb := X.2.1
  intro n
  induction n with
  | zero =>
    intro _ _ _ _ _ _ _ h
    exact absurd h (by unfold wX10_numberToken_L26; exact id)
  | succ n ih =>
    intro x1 σ H locs ls S hl h
    unfold wX10_numberToken_L26 at h
    refine lv_iload_n hx hb dX10_numberToken_26 rfl (lv_at hl 1 rfl) ?_
    refine lv_aload_n hx hb dX10_numberToken_27 rfl (lv_at hl 0 rfl) ?_
    refine o_get X S 2 4 (by decide) rfl rfl in_10 (by decide) k_42 rfl dX10_numberToken_28 ?_
    refine lv_icmp_ge (tgt := 61) hx hb dX10_numberToken_31 (by decide) (fun q_4 => ?_) (fun q_4 => ?_)
    · replace h := h.1 q_4
      exact hk61 _ _ _ _ S (lv_sub hl [] rfl) h
    · replace h := h.2 q_4
      refine lv_aload_n hx hb dX10_numberToken_34 rfl (lv_at hl 0 rfl) ?_
      refine lv_bipush (v := 10) hx hb dX10_numberToken_35 (by decide) ?_
      refine lv_aload_n hx hb dX10_numberToken_37 rfl (lv_at hl 0 rfl) ?_
      refine o_get X S 2 5 (by decide) rfl rfl in_10 (by decide) k_43 rfl dX10_numberToken_38 ?_
      refine lv_imul hx hb dX10_numberToken_41 ?_
      refine lv_aload_n hx hb dX10_numberToken_42 rfl (lv_at hl 0 rfl) ?_
      refine o_get X S 2 1 (by decide) rfl rfl in_10 (by decide) k_39 rfl dX10_numberToken_43 ?_
      refine lv_iload_n hx hb dX10_numberToken_46 rfl (lv_at hl 1 rfl) ?_
      refine o_iald X S 3 0 (by decide) (fun _ => rfl) rfl h.1 dX10_numberToken_47 ?_
      replace h := h.2
      refine lv_iadd hx hb dX10_numberToken_48 ?_
      refine lv_bipush (v := 48) hx hb dX10_numberToken_49 (by decide) ?_
      refine lv_isub hx hb dX10_numberToken_51 ?_
      refine o_puti X S (fs := fun c => [.int (c 0), .ref (ad 3), .int (c 2), .int (c 3), .int (c 4), .int (c 5), .int (c 6), .int (c 7)]) 2 5 (by decide) (fun _ => rfl) (fun _ _ => rfl) rfl in_10 tyX10_ok nmX10 (by decide) k_43 rfl rfl rfl rfl (fun _ => Nat.le_of_ble_eq_true rfl) dX10_numberToken_52 (fun σ_5 H locs eσ_5 S => ?_)
      replace h := h σ_5 eσ_5
      obtain ⟨x1_6, ex1_6⟩ : ∃ y : Int32, y = x1 + 1 := ⟨_, rfl⟩
      replace h := h x1_6 ex1_6
      refine lv_iinc (v := x1_6) (lv' := [(1, .int x1_6), (0, .ref (ad 2))]) hx hb dX10_numberToken_55 hl (k := 1) rfl (by rw [ex1_6]; rfl) (by decide) rfl (fun ls hl => ?_)
      refine lv_goto (tgt := 26) hx hb dX10_numberToken_58 (by decide) ?_
      exact ih _ _ _ _ _ S (lv_sub hl [1, 0] rfl) h
set_option maxHeartbeats 4000000 in
set_option maxRecDepth 100000 in
theorem mX10_numberToken {D : va_G} {cy : Nat → ClassId} {ad z : Nat → Nat} (l : Launch) (σ : Sg) (Q : Int32 → Sg → Prop) (h : wX10_numberToken σ Q) : MIB D cy ad z l yX10_numberToken (.code yX10_numberToken cX10_numberToken 2 (some .int) :: gT) ({ frames := 0, cells := 0, slots := 0, locals := 0 }) [.ref (ad 2)] σ Q := by
  refine metI_of (by decide +kernel) (Nat.le_of_ble_eq_true rfl) ?_
  intro p e s m args below meth c A ls X hr hl S
  have X : Fx D (tyB cy) (EvB z) p s m args meth c cX10_numberToken 2 "BackBay$Tape" A := X
  have hl : lv_has ls 2 [(0, .ref (ad 2))] := hl
  have hx := X.1
  have hb := X.2.1
  unfold wX10_numberToken at h
  refine lv_aload_n hx hb dX10_numberToken_0 rfl (lv_at hl 0 rfl) ?_
  refine o_get X S 2 4 (by decide) rfl rfl in_10 (by decide) k_42 rfl dX10_numberToken_1 ?_
  refine lv_aload_n hx hb dX10_numberToken_4 rfl (lv_at hl 0 rfl) ?_
  refine o_get X S 2 3 (by decide) rfl rfl in_10 (by decide) k_41 rfl dX10_numberToken_5 ?_
  refine lv_isub hx hb dX10_numberToken_8 ?_
  refine lv_iconst (v := 4) hx hb dX10_numberToken_9 (by decide) ?_
  refine lv_icmp_le (tgt := 16) hx hb dX10_numberToken_10 (by decide) (fun q_1 => ?_) (fun q_1 => ?_)
  · replace h := h.1 q_1
    refine lv_aload_n hx hb dX10_numberToken_16 rfl (lv_at hl 0 rfl) ?_
    refine lv_iconst (v := 0) hx hb dX10_numberToken_17 (by decide) ?_
    refine o_puti X S (fs := fun c => [.int (c 0), .ref (ad 3), .int (c 2), .int (c 3), .int (c 4), .int (c 5), .int (c 6), .int (c 7)]) 2 5 (by decide) (fun _ => rfl) (fun _ _ => rfl) rfl in_10 tyX10_ok nmX10 (by decide) k_43 rfl rfl rfl rfl (fun _ => Nat.le_of_ble_eq_true rfl) dX10_numberToken_18 (fun σ_2 H locs eσ_2 S => ?_)
    replace h := h σ_2 eσ_2
    refine lv_aload_n hx hb dX10_numberToken_21 rfl (lv_at hl 0 rfl) ?_
    refine o_get X S 2 3 (by decide) rfl rfl in_10 (by decide) k_41 rfl dX10_numberToken_22 ?_
    refine lv_topi (fun x1_3 ex1_3 => ?_)
    replace h := h x1_3 ex1_3
    refine lv_istore_n (lv' := [(1, .int x1_3), (0, .ref (ad 2))]) hx hb dX10_numberToken_25 rfl hl (by decide) rfl (fun ls hl => ?_)
    obtain ⟨n_26, h⟩ := h
    refine mX10_numberToken_L26 l X hr ?_ n_26 _ _ _ _ _ S (lv_sub hl [1, 0] rfl) h
    · intro σ_7 H locs ls S hl h
      refine lv_iconst (v := 4) hx hb dX10_numberToken_61 (by decide) ?_
      exact o_iret X S hr h dX10_numberToken_62
  · replace h := h.2 q_1
    refine lv_bipush (v := 14) hx hb dX10_numberToken_13 (by decide) ?_
    exact o_iret X S hr h dX10_numberToken_15
