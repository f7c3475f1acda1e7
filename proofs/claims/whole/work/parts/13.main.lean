def wX11_rowsThere_b25 (x1 : Int32) (x2 : Int32) (σ : Sg) (k31 : Int32 → Sg → Prop) (kb4 : Int32 → Int32 → Sg → Prop) (Q : Int32 → Sg → Prop) : Prop :=
  (∀ x2_4 : Int32, x2_4 = x2 + 1 → kb4 x1 x2_4 σ)
def wX11_rowsThere_L4 (k31 : Int32 → Sg → Prop) (Q : Int32 → Sg → Prop) : Nat → Int32 → Int32 → Sg → Prop
  | 0, _, _, _ => False
  | nn4 + 1, x1, x2, σ =>
  ((8 ≤ x2 → k31 x1 σ) ∧ (¬ 8 ≤ x2 → (vp_in x2 8 ∧ ∀ r_2, r_2 = 59 + 2 * x2.toNatClampNeg → (((σ r_2 1) = 0 → wX11_rowsThere_b25 x1 x2 σ k31 (wX11_rowsThere_L4 k31 Q nn4) Q) ∧ (¬ (σ r_2 1) = 0 → (∀ x1_5 : Int32, x1_5 = x1 + 1 → wX11_rowsThere_b25 x1_5 x2 σ k31 (wX11_rowsThere_L4 k31 Q nn4) Q))))))
def wX11_rowsThere (σ : Sg) (Q : Int32 → Sg → Prop) : Prop :=
  (∃ nf, wX11_rowsThere_L4 (fun x1_6 σ_7 => Q x1_6 σ_7) Q nf 0 0 σ)
set_option maxHeartbeats 4000000 in
set_option maxRecDepth 100000 in
theorem mX11_rowsThere_b25 {D : va_G} {cy : Nat → ClassId} {ad z : Nat → Nat} (l : Launch) {p : Program} {e : Env} {s : State} {m : MethodId} {args : Array Value} {below : List Frame} {meth : Method} {c : Code} {A : Nat → Prop} {k31 : Int32 → Sg → Prop} {kb4 : Int32 → Int32 → Sg → Prop} {Q : Int32 → Sg → Prop} (X : Fx D (tyB cy) (EvB z) p s m args meth c cX11_rowsThere 3 "BackBay" A) (hr : meth.sig.returnType = some .int) (x1 : Int32) (x2 : Int32) (hk31 : ∀ (x1 : Int32) (σ : Sg) (H : Heap) (locs : List Loc) (ls : Array Slot), St D ad 75 (shB cy ad) A s σ H locs → lv_has ls 3 [(1, .int x1)] → k31 x1 σ → W p l e ({ frames := 0, cells := 0, slots := 0, locals := 0 }) s m args below meth c H locs 0 0 (MQ below (va_Qi Q (PosW D (tyB cy) ad 75 (shB cy ad) A) A) args s 0 0 A) (F0 m 31 ls [])) (hkb4 : ∀ (x1 : Int32) (x2 : Int32) (σ : Sg) (H : Heap) (locs : List Loc) (ls : Array Slot), St D ad 75 (shB cy ad) A s σ H locs → lv_has ls 3 [(0, .ref (ad 0)), (1, .int x1), (2, .int x2)] → kb4 x1 x2 σ → W p l e ({ frames := 0, cells := 0, slots := 0, locals := 0 }) s m args below meth c H locs 0 0 (MQ below (va_Qi Q (PosW D (tyB cy) ad 75 (shB cy ad) A) A) args s 0 0 A) (F0 m 4 ls [])) {σ : Sg} {H : Heap} {locs : List Loc} {ls : Array Slot} (S : St D ad 75 (shB cy ad) A s σ H locs) (hl : lv_has ls 3 [(0, .ref (ad 0)), (1, .int x1), (2, .int x2)]) (h : wX11_rowsThere_b25 x1 x2 σ k31 kb4 Q) : W p l e ({ frames := 0, cells := 0, slots := 0, locals := 0 }) s m args below meth c H locs 0 0 (MQ below (va_Qi Q (PosW D (tyB cy) ad 75 (shB cy ad) A) A) args s 0 0 A) (F0 m 25 ls []) := by
  have hx := X.1
  have hb := X.2.1
  unfold wX11_rowsThere_b25 at h
  obtain ⟨x2_4, ex2_4⟩ : ∃ y : Int32, y = x2 + 1 := ⟨_, rfl⟩
  replace h := h x2_4 ex2_4
  refine lv_iinc (v := x2_4) (lv' := [(2, .int x2_4), (0, .ref (ad 0)), (1, .int x1)]) hx hb dX11_rowsThere_25 hl (k := 2) rfl (by rw [ex2_4]; rfl) (by decide) rfl (fun ls hl => ?_)
  refine lv_goto (tgt := 4) hx hb dX11_rowsThere_28 (by decide) ?_
  exact hkb4 _ _ _ _ _ _ S (lv_sub hl [1, 2, 0] rfl) h
set_option maxHeartbeats 4000000 in
set_option maxRecDepth 100000 in
theorem mX11_rowsThere_L4 {D : va_G} {cy : Nat → ClassId} {ad z : Nat → Nat} (l : Launch) {p : Program} {e : Env} {s : State} {m : MethodId} {args : Array Value} {below : List Frame} {meth : Method} {c : Code} {A : Nat → Prop} {k31 : Int32 → Sg → Prop} {Q : Int32 → Sg → Prop} (X : Fx D (tyB cy) (EvB z) p s m args meth c cX11_rowsThere 3 "BackBay" A) (hr : meth.sig.returnType = some .int) (hk31 : ∀ (x1 : Int32) (σ : Sg) (H : Heap) (locs : List Loc) (ls : Array Slot), St D ad 75 (shB cy ad) A s σ H locs → lv_has ls 3 [(1, .int x1)] → k31 x1 σ → W p l e ({ frames := 0, cells := 0, slots := 0, locals := 0 }) s m args below meth c H locs 0 0 (MQ below (va_Qi Q (PosW D (tyB cy) ad 75 (shB cy ad) A) A) args s 0 0 A) (F0 m 31 ls [])) : ∀ (n : Nat) (x1 : Int32) (x2 : Int32) (σ : Sg) (H : Heap) (locs : List Loc) (ls : Array Slot), St D ad 75 (shB cy ad) A s σ H locs → lv_has ls 3 [(0, .ref (ad 0)), (1, .int x1), (2, .int x2)] → wX11_rowsThere_L4 k31 Q n x1 x2 σ → W p l e ({ frames := 0, cells := 0, slots := 0, locals := 0 }) s m args below meth c H locs 0 0 (MQ below (va_Qi Q (PosW D (tyB cy) ad 75 (shB cy ad) A) A) args s 0 0 A) (F0 m 4 ls []) := by
  have hx := X.1
  have hb := X.2.1
  intro n
  induction n with
  | zero =>
    intro _ _ _ _ _ _ _ _ h
    exact absurd h (by unfold wX11_rowsThere_L4; exact id)
  | succ n ih =>
    intro x1 x2 σ H locs ls S hl h
    unfold wX11_rowsThere_L4 at h
    refine lv_iload_n hx hb dX11_rowsThere_4 rfl (lv_at hl 2 rfl) ?_
    refine lv_bipush (v := 8) hx hb dX11_rowsThere_5 (by decide) ?_
    refine lv_icmp_ge (tgt := 31) hx hb dX11_rowsThere_7 (by decide) (fun q_1 => ?_) (fun q_1 => ?_)
    · replace h := h.1 q_1
      exact hk31 _ _ _ _ _ S (lv_sub hl [1] rfl) h
    · replace h := h.2 q_1
      refine lv_aload_n hx hb dX11_rowsThere_10 rfl (lv_at hl 0 rfl) ?_
      refine o_get X S 0 0 (by decide) rfl rfl in_11 (by decide) k_319 rfl dX11_rowsThere_11 ?_
      refine lv_iload_n hx hb dX11_rowsThere_14 rfl (lv_at hl 2 rfl) ?_
      obtain ⟨r_2, er_2⟩ : ∃ y : Nat, y = 59 + 2 * x2.toNatClampNeg := ⟨_, rfl⟩
      refine o_rald X S (r := r_2) 1 2 (by decide) rfl rfl h.1 (by rw [er_2]) dX11_rowsThere_15 ?_
      have hr_2 : isRow r_2 := er_2 ▸ isRow_of h.1
      replace h := h.2 r_2 er_2
      refine o_get X S r_2 1 (isRow_lt hr_2 0 (by decide)) ((shR0 hr_2) _) rfl in_6 (by decide) k_305 rfl dX11_rowsThere_16 ?_
      refine lv_if_eq (tgt := 25) hx hb dX11_rowsThere_19 (by decide) (fun q_3 => ?_) (fun q_3 => ?_)
      · replace h := h.1 q_3
        exact mX11_rowsThere_b25 l X hr x1 x2 hk31 ih S (lv_sub hl [0, 1, 2] rfl) h
      · replace h := h.2 q_3
        obtain ⟨x1_5, ex1_5⟩ : ∃ y : Int32, y = x1 + 1 := ⟨_, rfl⟩
        replace h := h x1_5 ex1_5
        refine lv_iinc (v := x1_5) (lv' := [(1, .int x1_5), (0, .ref (ad 0)), (2, .int x2)]) hx hb dX11_rowsThere_22 hl (k := 1) rfl (by rw [ex1_5]; rfl) (by decide) rfl (fun ls hl => ?_)
        exact mX11_rowsThere_b25 l X hr x1_5 x2 hk31 ih S (lv_sub hl [1, 0, 2] rfl) h
set_option maxHeartbeats 4000000 in
set_option maxRecDepth 100000 in
theorem mX11_rowsThere {D : va_G} {cy : Nat → ClassId} {ad z : Nat → Nat} (l : Launch) (σ : Sg) (Q : Int32 → Sg → Prop) (h : wX11_rowsThere σ Q) : MIB D cy ad z l yX11_rowsThere (.code yX11_rowsThere cX11_rowsThere 3 (some .int) :: gT) ({ frames := 0, cells := 0, slots := 0, locals := 0 }) [.ref (ad 0)] σ Q := by
  refine metI_of (by decide +kernel) (Nat.le_of_ble_eq_true rfl) ?_
  intro p e s m args below meth c A ls X hr hl S
  have X : Fx D (tyB cy) (EvB z) p s m args meth c cX11_rowsThere 3 "BackBay" A := X
  have hl : lv_has ls 3 [(0, .ref (ad 0))] := hl
  have hx := X.1
  have hb := X.2.1
  unfold wX11_rowsThere at h
  refine lv_iconst (v := 0) hx hb dX11_rowsThere_0 (by decide) ?_
  refine lv_istore_n (lv' := [(1, .int 0), (0, .ref (ad 0))]) hx hb dX11_rowsThere_1 rfl hl (by decide) rfl (fun ls hl => ?_)
  refine lv_iconst (v := 0) hx hb dX11_rowsThere_2 (by decide) ?_
  refine lv_istore_n (lv' := [(2, .int 0), (1, .int 0), (0, .ref (ad 0))]) hx hb dX11_rowsThere_3 rfl hl (by decide) rfl (fun ls hl => ?_)
  obtain ⟨n_4, h⟩ := h
  refine mX11_rowsThere_L4 l X hr ?_ n_4 _ _ _ _ _ _ S (lv_sub hl [2, 1, 0] rfl) h
  · intro x1_6 σ_7 H locs ls S hl h
    refine lv_iload_n hx hb dX11_rowsThere_31 rfl (lv_at hl 0 rfl) ?_
    exact o_iret X S hr h dX11_rowsThere_32
def wX11_wishWith (x1 : Int32) (x2 : Int32) (σ : Sg) (Q : Int32 → Sg → Prop) : Prop :=
  (vp_in x1 10 ∧ (∀ x3_1, x3_1 = (σ 6 x1.toNatClampNeg) → (vp_in x1 10 ∧ ∀ σ_2, σ_2 = sto σ 6 x1.toNatClampNeg (x3_1 + x2) → (∀ T_3 : Nat, T_3 = (σ_2 0 3).toNatClampNeg → (isSten T_3 ∧ (wX4_last (σ_2 4 0) σ_2 (fun r_4 σ_5 => (wX2_run 36 T_3 6 r_4 σ_5 (fun σ_7 => (vp_in x1 10 ∧ ∀ σ_8, σ_8 = sto σ_7 6 x1.toNatClampNeg x3_1 → (wX4_total 36 (σ_8 4 0) σ_8 (fun r_9 σ_10 => Q r_9 σ_10))))))))))))
set_option maxHeartbeats 4000000 in
set_option maxRecDepth 100000 in
theorem mX11_wishWith {D : va_G} {cy : Nat → ClassId} {ad z : Nat → Nat} (l : Launch) (x1 : Int32) (x2 : Int32) (σ : Sg) (Q : Int32 → Sg → Prop) (h : wX11_wishWith x1 x2 σ Q) : MIB D cy ad z l yX11_wishWith (.code yX11_wishWith cX11_wishWith 4 (some .int) :: gT) ({ frames := 5, cells := 0, slots := 0, locals := 131 }) [.ref (ad 0), .int x1, .int x2] σ Q := by
  refine metI_of (by decide +kernel) (Nat.le_of_ble_eq_true rfl) ?_
  intro p e s m args below meth c A ls X hr hl S
  have X : Fx D (tyB cy) (EvB z) p s m args meth c cX11_wishWith 4 "BackBay" A := X
  have hl : lv_has ls 4 [(0, .ref (ad 0)), (1, .int x1), (2, .int x2)] := hl
  have hx := X.1
  have hb := X.2.1
  unfold wX11_wishWith at h
  refine lv_aload_n hx hb dX11_wishWith_0 rfl (lv_at hl 0 rfl) ?_
  refine o_get X S 0 5 (by decide) rfl rfl in_11 (by decide) k_324 rfl dX11_wishWith_1 ?_
  refine o_get X S 4 2 (by decide) rfl rfl in_1 (by decide) k_137 rfl dX11_wishWith_4 ?_
  refine lv_iload_n hx hb dX11_wishWith_7 rfl (lv_at hl 1 rfl) ?_
  refine o_iald X S 6 0 (by decide) (fun _ => rfl) rfl h.1 dX11_wishWith_8 ?_
  replace h := h.2
  refine lv_topi (fun x3_1 ex3_1 => ?_)
  replace h := h x3_1 ex3_1
  refine lv_istore_n (lv' := [(3, .int x3_1), (0, .ref (ad 0)), (1, .int x1), (2, .int x2)]) hx hb dX11_wishWith_9 rfl hl (by decide) rfl (fun ls hl => ?_)
  refine lv_aload_n hx hb dX11_wishWith_10 rfl (lv_at hl 1 rfl) ?_
  refine o_get X S 0 5 (by decide) rfl rfl in_11 (by decide) k_324 rfl dX11_wishWith_11 ?_
  refine o_get X S 4 2 (by decide) rfl rfl in_1 (by decide) k_137 rfl dX11_wishWith_14 ?_
  refine lv_iload_n hx hb dX11_wishWith_17 rfl (lv_at hl 2 rfl) ?_
  refine lv_iload_n hx hb dX11_wishWith_18 rfl (lv_at hl 0 rfl) ?_
  refine lv_iload_n hx hb dX11_wishWith_19 rfl (lv_at hl 3 rfl) ?_
  refine lv_iadd hx hb dX11_wishWith_20 ?_
  refine o_iast X S 6 0 (by decide) (fun _ => rfl) rfl h.1 dX11_wishWith_21 (fun σ_2 H locs eσ_2 S => ?_)
  replace h := h.2 σ_2 eσ_2
  refine lv_aload_n hx hb dX11_wishWith_22 rfl (lv_at hl 1 rfl) ?_
  refine o_get X S 0 8 (by decide) rfl rfl in_11 (by decide) k_327 rfl dX11_wishWith_23 ?_
  refine lv_aload_n hx hb dX11_wishWith_26 rfl (lv_at hl 1 rfl) ?_
  obtain ⟨T_3, eT_3⟩ : ∃ y : Nat, y = (σ_2 0 3).toNatClampNeg := ⟨_, rfl⟩
  refine o_get X S 0 3 (by decide) rfl rfl in_11 (by decide) k_322 (v := .ref (ad T_3)) (by rw [eT_3]; rfl) dX11_wishWith_27 ?_
  have hT_3 : isSten T_3 := (h T_3 eT_3).1
  replace h := (h T_3 eT_3).2
  refine lv_aload_n hx hb dX11_wishWith_30 rfl (lv_at hl 1 rfl) ?_
  refine o_get X S 0 5 (by decide) rfl rfl in_11 (by decide) k_324 rfl dX11_wishWith_31 ?_
  refine o_get X S 4 2 (by decide) rfl rfl in_1 (by decide) k_137 rfl dX11_wishWith_34 ?_
  refine lv_aload_n hx hb dX11_wishWith_37 rfl (lv_at hl 1 rfl) ?_
  refine o_get X S 0 6 (by decide) rfl rfl in_11 (by decide) k_325 rfl dX11_wishWith_38 ?_
  refine lv_aload_n hx hb dX11_wishWith_41 rfl (lv_at hl 1 rfl) ?_
  refine o_get X S 0 5 (by decide) rfl rfl in_11 (by decide) k_324 rfl dX11_wishWith_42 ?_
  refine o_get X S 4 0 (by decide) rfl rfl in_1 (by decide) k_130 rfl dX11_wishWith_45 ?_
  refine o_callVi (k := 1) (EvB_ok z) X S (mX4_last l (σ_2 4 0) σ_2 _ h) (by decide) rfl rfl k_628 k_625 k_626 k_627 k_6 ⟨rfl, by decide, by decide, by decide +kernel⟩ ⟨rfl, rfl⟩ ⟨Nat.le_of_ble_eq_true rfl, Nat.le_of_ble_eq_true rfl⟩ rfl hl.1 rfl (Nat.le_of_ble_eq_true rfl) dX11_wishWith_48 (fun r_4 σ_5 H locs h S => ?_)
  refine o_callVv (k := 3) (EvB_ok z) X S (mX2_run l isCou_36 hT_3 isStr_6 r_4 σ_5 _ h) (isCou_lt isCou_36 0 (by decide)) rfl rfl k_579 k_576 k_577 k_578 k_8 ⟨rfl, by decide, by decide, by decide +kernel⟩ ⟨rfl, rfl⟩ ⟨Nat.le_of_ble_eq_true rfl, Nat.le_of_ble_eq_true rfl⟩ rfl hl.1 rfl (Nat.le_of_ble_eq_true rfl) dX11_wishWith_51 (fun σ_7 H locs h S => ?_)
  refine lv_aload_n hx hb dX11_wishWith_54 rfl (lv_at hl 1 rfl) ?_
  refine o_get X S 0 5 (by decide) rfl rfl in_11 (by decide) k_324 rfl dX11_wishWith_55 ?_
  refine o_get X S 4 2 (by decide) rfl rfl in_1 (by decide) k_137 rfl dX11_wishWith_58 ?_
  refine lv_iload_n hx hb dX11_wishWith_61 rfl (lv_at hl 2 rfl) ?_
  refine lv_iload_n hx hb dX11_wishWith_62 rfl (lv_at hl 0 rfl) ?_
  refine o_iast X S 6 0 (by decide) (fun _ => rfl) rfl h.1 dX11_wishWith_63 (fun σ_8 H locs eσ_8 S => ?_)
  replace h := h.2 σ_8 eσ_8
  refine lv_aload_n hx hb dX11_wishWith_64 rfl (lv_at hl 1 rfl) ?_
  refine o_get X S 0 6 (by decide) rfl rfl in_11 (by decide) k_325 rfl dX11_wishWith_65 ?_
  refine lv_aload_n hx hb dX11_wishWith_68 rfl (lv_at hl 1 rfl) ?_
  refine o_get X S 0 8 (by decide) rfl rfl in_11 (by decide) k_327 rfl dX11_wishWith_69 ?_
  refine lv_aload_n hx hb dX11_wishWith_72 rfl (lv_at hl 1 rfl) ?_
  refine o_get X S 0 5 (by decide) rfl rfl in_11 (by decide) k_324 rfl dX11_wishWith_73 ?_
  refine o_get X S 4 0 (by decide) rfl rfl in_1 (by decide) k_130 rfl dX11_wishWith_76 ?_
  refine o_callVi (k := 2) (EvB_ok z) X S (mX4_total l isCou_36 (σ_8 4 0) σ_8 _ h) (by decide) rfl rfl k_639 k_636 k_637 k_638 k_6 ⟨rfl, by decide, by decide, by decide +kernel⟩ ⟨rfl, rfl⟩ ⟨Nat.le_of_ble_eq_true rfl, Nat.le_of_ble_eq_true rfl⟩ rfl hl.1 rfl (Nat.le_of_ble_eq_true rfl) dX11_wishWith_79 (fun r_9 σ_10 H locs h S => ?_)
  exact o_iret X S hr h dX11_wishWith_82
def wX11_wishNow (σ : Sg) (Q : Int32 → Sg → Prop) : Prop :=
  (wX11_wishWith 0 0 σ (fun r_1 σ_2 => Q r_1 σ_2))
set_option maxHeartbeats 4000000 in
set_option maxRecDepth 100000 in
theorem mX11_wishNow {D : va_G} {cy : Nat → ClassId} {ad z : Nat → Nat} (l : Launch) (σ : Sg) (Q : Int32 → Sg → Prop) (h : wX11_wishNow σ Q) : MIB D cy ad z l yX11_wishNow (.code yX11_wishNow cX11_wishNow 1 (some .int) :: gT) ({ frames := 6, cells := 0, slots := 0, locals := 154 }) [.ref (ad 0)] σ Q := by
  refine metI_of (by decide +kernel) (Nat.le_of_ble_eq_true rfl) ?_
  intro p e s m args below meth c A ls X hr hl S
  have X : Fx D (tyB cy) (EvB z) p s m args meth c cX11_wishNow 1 "BackBay" A := X
  have hl : lv_has ls 1 [(0, .ref (ad 0))] := hl
  have hx := X.1
  have hb := X.2.1
  unfold wX11_wishNow at h
  refine lv_aload_n hx hb dX11_wishNow_0 rfl (lv_at hl 0 rfl) ?_
  refine lv_iconst (v := 0) hx hb dX11_wishNow_1 (by decide) ?_
  refine lv_iconst (v := 0) hx hb dX11_wishNow_2 (by decide) ?_
  refine o_callVi (k := 2) (EvB_ok z) X S (mX11_wishWith l 0 0 σ _ h) (by decide) rfl rfl k_624 k_621 k_623 ks_14 k_1 ⟨rfl, by decide, by decide, by decide +kernel⟩ ⟨rfl, rfl⟩ ⟨Nat.le_of_ble_eq_true rfl, Nat.le_of_ble_eq_true rfl⟩ rfl hl.1 rfl (Nat.le_of_ble_eq_true rfl) dX11_wishNow_3 (fun r_1 σ_2 H locs h S => ?_)
  exact o_iret X S hr h dX11_wishNow_6
def wX11_knotsNow (σ : Sg) (Q : Int32 → Sg → Prop) : Prop :=
  (wX4_last (σ 4 0) σ (fun r_1 σ_2 => (∀ T_3 : Nat, T_3 = (σ_2 0 3).toNatClampNeg → (isSten T_3 ∧ (wX2_run 36 T_3 6 r_1 σ_2 (fun σ_5 => (∀ T_6 : Nat, T_6 = (σ_5 0 3).toNatClampNeg → (isSten T_6 ∧ (wX2_knots 36 T_6 6 r_1 σ_5 (fun r_7 σ_8 => Q r_7 σ_8))))))))))
set_option maxHeartbeats 4000000 in
set_option maxRecDepth 100000 in
theorem mX11_knotsNow {D : va_G} {cy : Nat → ClassId} {ad z : Nat → Nat} (l : Launch) (σ : Sg) (Q : Int32 → Sg → Prop) (h : wX11_knotsNow σ Q) : MIB D cy ad z l yX11_knotsNow (.code yX11_knotsNow cX11_knotsNow 2 (some .int) :: gT) ({ frames := 5, cells := 0, slots := 0, locals := 132 }) [.ref (ad 0)] σ Q := by
  refine metI_of (by decide +kernel) (Nat.le_of_ble_eq_true rfl) ?_
  intro p e s m args below meth c A ls X hr hl S
  have X : Fx D (tyB cy) (EvB z) p s m args meth c cX11_knotsNow 2 "BackBay" A := X
  have hl : lv_has ls 2 [(0, .ref (ad 0))] := hl
  have hx := X.1
  have hb := X.2.1
  unfold wX11_knotsNow at h
  refine lv_aload_n hx hb dX11_knotsNow_0 rfl (lv_at hl 0 rfl) ?_
  refine o_get X S 0 6 (by decide) rfl rfl in_11 (by decide) k_325 rfl dX11_knotsNow_1 ?_
  refine lv_aload_n hx hb dX11_knotsNow_4 rfl (lv_at hl 0 rfl) ?_
  refine o_get X S 0 5 (by decide) rfl rfl in_11 (by decide) k_324 rfl dX11_knotsNow_5 ?_
  refine o_get X S 4 0 (by decide) rfl rfl in_1 (by decide) k_130 rfl dX11_knotsNow_8 ?_
  refine o_callVi (k := 1) (EvB_ok z) X S (mX4_last l (σ 4 0) σ _ h) (by decide) rfl rfl k_628 k_625 k_626 k_627 k_6 ⟨rfl, by decide, by decide, by decide +kernel⟩ ⟨rfl, rfl⟩ ⟨Nat.le_of_ble_eq_true rfl, Nat.le_of_ble_eq_true rfl⟩ rfl hl.1 rfl (Nat.le_of_ble_eq_true rfl) dX11_knotsNow_11 (fun r_1 σ_2 H locs h S => ?_)
  refine lv_istore_n (lv' := [(1, .int r_1), (0, .ref (ad 0))]) hx hb dX11_knotsNow_14 rfl hl (by decide) rfl (fun ls hl => ?_)
  refine lv_aload_n hx hb dX11_knotsNow_15 rfl (lv_at hl 1 rfl) ?_
  refine o_get X S 0 8 (by decide) rfl rfl in_11 (by decide) k_327 rfl dX11_knotsNow_16 ?_
  refine lv_aload_n hx hb dX11_knotsNow_19 rfl (lv_at hl 1 rfl) ?_
  obtain ⟨T_3, eT_3⟩ : ∃ y : Nat, y = (σ_2 0 3).toNatClampNeg := ⟨_, rfl⟩
  refine o_get X S 0 3 (by decide) rfl rfl in_11 (by decide) k_322 (v := .ref (ad T_3)) (by rw [eT_3]; rfl) dX11_knotsNow_20 ?_
  have hT_3 : isSten T_3 := (h T_3 eT_3).1
  replace h := (h T_3 eT_3).2
  refine lv_aload_n hx hb dX11_knotsNow_23 rfl (lv_at hl 1 rfl) ?_
  refine o_get X S 0 5 (by decide) rfl rfl in_11 (by decide) k_324 rfl dX11_knotsNow_24 ?_
  refine o_get X S 4 2 (by decide) rfl rfl in_1 (by decide) k_137 rfl dX11_knotsNow_27 ?_
  refine lv_iload_n hx hb dX11_knotsNow_30 rfl (lv_at hl 0 rfl) ?_
  refine o_callVv (k := 3) (EvB_ok z) X S (mX2_run l isCou_36 hT_3 isStr_6 r_1 σ_2 _ h) (isCou_lt isCou_36 0 (by decide)) rfl rfl k_579 k_576 k_577 k_578 k_8 ⟨rfl, by decide, by decide, by decide +kernel⟩ ⟨rfl, rfl⟩ ⟨Nat.le_of_ble_eq_true rfl, Nat.le_of_ble_eq_true rfl⟩ rfl hl.1 rfl (Nat.le_of_ble_eq_true rfl) dX11_knotsNow_31 (fun σ_5 H locs h S => ?_)
  refine lv_aload_n hx hb dX11_knotsNow_34 rfl (lv_at hl 1 rfl) ?_
  refine o_get X S 0 8 (by decide) rfl rfl in_11 (by decide) k_327 rfl dX11_knotsNow_35 ?_
  refine lv_aload_n hx hb dX11_knotsNow_38 rfl (lv_at hl 1 rfl) ?_
  obtain ⟨T_6, eT_6⟩ : ∃ y : Nat, y = (σ_5 0 3).toNatClampNeg := ⟨_, rfl⟩
  refine o_get X S 0 3 (by decide) rfl rfl in_11 (by decide) k_322 (v := .ref (ad T_6)) (by rw [eT_6]; rfl) dX11_knotsNow_39 ?_
  have hT_6 : isSten T_6 := (h T_6 eT_6).1
  replace h := (h T_6 eT_6).2
  refine lv_aload_n hx hb dX11_knotsNow_42 rfl (lv_at hl 1 rfl) ?_
  refine o_get X S 0 5 (by decide) rfl rfl in_11 (by decide) k_324 rfl dX11_knotsNow_43 ?_
  refine o_get X S 4 2 (by decide) rfl rfl in_1 (by decide) k_137 rfl dX11_knotsNow_46 ?_
  refine lv_iload_n hx hb dX11_knotsNow_49 rfl (lv_at hl 0 rfl) ?_
  refine o_callVi (k := 3) (EvB_ok z) X S (mX2_knots l isCou_36 hT_6 isStr_6 r_1 σ_5 _ h) (isCou_lt isCou_36 0 (by decide)) rfl rfl k_652 k_649 k_650 k_651 k_8 ⟨rfl, by decide, by decide, by decide +kernel⟩ ⟨rfl, rfl⟩ ⟨Nat.le_of_ble_eq_true rfl, Nat.le_of_ble_eq_true rfl⟩ rfl hl.1 rfl (Nat.le_of_ble_eq_true rfl) dX11_knotsNow_50 (fun r_7 σ_8 H locs h S => ?_)
  exact o_iret X S hr h dX11_knotsNow_53
def wX11_helps_b35 (y0 : Int32) (σ : Sg) (Q : Int32 → Sg → Prop) : Prop :=
  (bok y0 ∧ Q y0 σ)
def wX11_helps_b34 (σ : Sg) (Q : Int32 → Sg → Prop) : Prop :=
  wX11_helps_b35 0 σ Q
def wX11_helps (x1 : Int32) (x2 : Int32) (x3 : Int32) (σ : Sg) (Q : Int32 → Sg → Prop) : Prop :=
  (vp_in x1 10 ∧ (wX11_isWithin ((σ 6 x1.toNatClampNeg) + x2) 0 9 σ (fun r_1 σ_2 => ((r_1 = 0 → wX11_helps_b34 σ_2 Q) ∧ (¬ r_1 = 0 → (wX11_wishWith x1 x2 σ_2 (fun r_4 σ_5 => ((x3 ≤ r_4 → wX11_helps_b34 σ_5 Q) ∧ (¬ x3 ≤ r_4 → wX11_helps_b35 1 σ_5 Q)))))))))
set_option maxHeartbeats 4000000 in
set_option maxRecDepth 100000 in
theorem mX11_helps_b35 {D : va_G} {cy : Nat → ClassId} {ad z : Nat → Nat} (l : Launch) {p : Program} {e : Env} {s : State} {m : MethodId} {args : Array Value} {below : List Frame} {meth : Method} {c : Code} {A : Nat → Prop} {Q : Int32 → Sg → Prop} (X : Fx D (tyB cy) (EvB z) p s m args meth c cX11_helps 4 "BackBay" A) (hr : meth.sig.returnType = some .boolean) (y0 : Int32) {σ : Sg} {H : Heap} {locs : List Loc} {ls : Array Slot} (S : St D ad 75 (shB cy ad) A s σ H locs) (hl : lv_has ls 4 []) (h : wX11_helps_b35 y0 σ Q) : W p l e ({ frames := 6, cells := 0, slots := 0, locals := 154 }) s m args below meth c H locs 0 0 (MQ below (va_Qi Q (PosW D (tyB cy) ad 75 (shB cy ad) A) A) args s 0 0 A) (F0 m 35 ls [.int y0]) := by
  have hx := X.1
  have hb := X.2.1
  unfold wX11_helps_b35 at h
  exact o_zret X S hr h.1 h.2 dX11_helps_35
set_option maxHeartbeats 4000000 in
set_option maxRecDepth 100000 in
theorem mX11_helps_b34 {D : va_G} {cy : Nat → ClassId} {ad z : Nat → Nat} (l : Launch) {p : Program} {e : Env} {s : State} {m : MethodId} {args : Array Value} {below : List Frame} {meth : Method} {c : Code} {A : Nat → Prop} {Q : Int32 → Sg → Prop} (X : Fx D (tyB cy) (EvB z) p s m args meth c cX11_helps 4 "BackBay" A) (hr : meth.sig.returnType = some .boolean) {σ : Sg} {H : Heap} {locs : List Loc} {ls : Array Slot} (S : St D ad 75 (shB cy ad) A s σ H locs) (hl : lv_has ls 4 []) (h : wX11_helps_b34 σ Q) : W p l e ({ frames := 6, cells := 0, slots := 0, locals := 154 }) s m args below meth c H locs 0 0 (MQ below (va_Qi Q (PosW D (tyB cy) ad 75 (shB cy ad) A) A) args s 0 0 A) (F0 m 34 ls []) := by
  have hx := X.1
  have hb := X.2.1
  unfold wX11_helps_b34 at h
  refine lv_iconst (v := 0) hx hb dX11_helps_34 (by decide) ?_
  exact mX11_helps_b35 l X hr 0 S (lv_sub hl [] rfl) h
set_option maxHeartbeats 4000000 in
set_option maxRecDepth 100000 in
theorem mX11_helps {D : va_G} {cy : Nat → ClassId} {ad z : Nat → Nat} (l : Launch) (x1 : Int32) (x2 : Int32) (x3 : Int32) (σ : Sg) (Q : Int32 → Sg → Prop) (h : wX11_helps x1 x2 x3 σ Q) : MIB D cy ad z l yX11_helps (.code yX11_helps cX11_helps 4 (some .boolean) :: gT) ({ frames := 6, cells := 0, slots := 0, locals := 154 }) [.ref (ad 0), .int x1, .int x2, .int x3] σ Q := by
  refine metI_of (by decide +kernel) (Nat.le_of_ble_eq_true rfl) ?_
  intro p e s m args below meth c A ls X hr hl S
  have X : Fx D (tyB cy) (EvB z) p s m args meth c cX11_helps 4 "BackBay" A := X
  have hl : lv_has ls 4 [(0, .ref (ad 0)), (1, .int x1), (2, .int x2), (3, .int x3)] := hl
  have hx := X.1
  have hb := X.2.1
  unfold wX11_helps at h
  refine lv_aload_n hx hb dX11_helps_0 rfl (lv_at hl 0 rfl) ?_
  refine o_get X S 0 5 (by decide) rfl rfl in_11 (by decide) k_324 rfl dX11_helps_1 ?_
  refine o_get X S 4 2 (by decide) rfl rfl in_1 (by decide) k_137 rfl dX11_helps_4 ?_
  refine lv_iload_n hx hb dX11_helps_7 rfl (lv_at hl 1 rfl) ?_
  refine o_iald X S 6 0 (by decide) (fun _ => rfl) rfl h.1 dX11_helps_8 ?_
  replace h := h.2
  refine lv_iload_n hx hb dX11_helps_9 rfl (lv_at hl 2 rfl) ?_
  refine lv_iadd hx hb dX11_helps_10 ?_
  refine lv_iconst (v := 0) hx hb dX11_helps_11 (by decide) ?_
  refine lv_bipush (v := 9) hx hb dX11_helps_12 (by decide) ?_
  refine o_callSi (k := 3) (EvB_ok z) X S (mX11_isWithin l ((σ 6 x1.toNatClampNeg) + x2) 0 9 σ _ h) k_371 k_369 k_370 k_1 ⟨by decide, by decide, by decide +kernel⟩ ⟨rfl, rfl⟩ ⟨Nat.le_of_ble_eq_true rfl, Nat.le_of_ble_eq_true rfl⟩ rfl hl.1 rfl (Nat.le_of_ble_eq_true rfl) dX11_helps_14 (fun r_1 σ_2 H locs h S => ?_)
  refine lv_if_eq (tgt := 34) hx hb dX11_helps_17 (by decide) (fun q_3 => ?_) (fun q_3 => ?_)
  · replace h := h.1 q_3
    exact mX11_helps_b34 l X hr S (lv_sub hl [] rfl) h
  · replace h := h.2 q_3
    refine lv_aload_n hx hb dX11_helps_20 rfl (lv_at hl 0 rfl) ?_
    refine lv_iload_n hx hb dX11_helps_21 rfl (lv_at hl 1 rfl) ?_
    refine lv_iload_n hx hb dX11_helps_22 rfl (lv_at hl 2 rfl) ?_
    refine o_callVi (k := 2) (EvB_ok z) X S (mX11_wishWith l x1 x2 σ_2 _ h) (by decide) rfl rfl k_624 k_621 k_623 ks_14 k_1 ⟨rfl, by decide, by decide, by decide +kernel⟩ ⟨rfl, rfl⟩ ⟨Nat.le_of_ble_eq_true rfl, Nat.le_of_ble_eq_true rfl⟩ rfl hl.1 rfl (Nat.le_of_ble_eq_true rfl) dX11_helps_23 (fun r_4 σ_5 H locs h S => ?_)
    refine lv_iload_n hx hb dX11_helps_26 rfl (lv_at hl 3 rfl) ?_
    refine lv_icmp_ge (tgt := 34) hx hb dX11_helps_27 (by decide) (fun q_6 => ?_) (fun q_6 => ?_)
    · replace h := h.1 q_6
      exact mX11_helps_b34 l X hr S (lv_sub hl [] rfl) h
    · replace h := h.2 q_6
      refine lv_iconst (v := 1) hx hb dX11_helps_30 (by decide) ?_
      refine lv_goto (tgt := 35) hx hb dX11_helps_31 (by decide) ?_
      exact mX11_helps_b35 l X hr 1 S (lv_sub hl [] rfl) h
def wX11_row_b22 (σ : Sg) (Q : Int64 → Sg → Prop) : Prop :=
  Q (-9000000000000000001 : Int64) σ
def wX11_row (x1 : Int32) (x2 : Int32) (x3 : Int32) (σ : Sg) (Q : Int64 → Sg → Prop) : Prop :=
  (wX11_isRow x1 σ (fun r_1 σ_2 => ((r_1 = 0 → wX11_row_b22 σ_2 Q) ∧ (¬ r_1 = 0 → (wX11_isWithin x2 0 2 σ_2 (fun r_4 σ_5 => ((r_4 = 0 → wX11_row_b22 σ_5 Q) ∧ (¬ r_4 = 0 → ((x3 ≤ 20 → ((0 ≤ x3 → (vp_in x1 8 ∧ ∀ r_9, r_9 = 59 + 2 * x1.toNatClampNeg → (wX6_begin r_9 x2 x3 σ_5 (fun σ_11 => (wX11_foundNothing (x3.toInt64) σ_11 (fun r_12 σ_13 => Q r_12 σ_13)))))) ∧ (¬ 0 ≤ x3 → (wX11_found 4 σ_5 (fun r_14 σ_15 => Q r_14 σ_15))))) ∧ (¬ x3 ≤ 20 → wX11_row_b22 σ_5 Q))))))))))
set_option maxHeartbeats 4000000 in
set_option maxRecDepth 100000 in
theorem mX11_row_b22 {D : va_G} {cy : Nat → ClassId} {ad z : Nat → Nat} (l : Launch) {p : Program} {e : Env} {s : State} {m : MethodId} {args : Array Value} {below : List Frame} {meth : Method} {c : Code} {A : Nat → Prop} {Q : Int64 → Sg → Prop} (X : Fx D (tyB cy) (EvB z) p s m args meth c cX11_row 4 "BackBay" A) (hr : meth.sig.returnType = some .long) {σ : Sg} {H : Heap} {locs : List Loc} {ls : Array Slot} (S : St D ad 75 (shB cy ad) A s σ H locs) (hl : lv_has ls 4 []) (h : wX11_row_b22 σ Q) : W p l e ({ frames := 2, cells := 0, slots := 0, locals := 45 }) s m args below meth c H locs 0 0 (MQ below (va_Ql Q (PosW D (tyB cy) ad 75 (shB cy ad) A) A) args s 0 0 A) (F0 m 22 ls []) := by
  have hx := X.1
  have hb := X.2.1
  unfold wX11_row_b22 at h
  refine lv_ldc2 (v := (-9000000000000000001)) hx hb X.2.2.2.1 (X.2.2.2.2.1 _ k_372) dX11_row_22 ?_
  exact o_lret X S hr h dX11_row_25
set_option maxHeartbeats 4000000 in
set_option maxRecDepth 100000 in
theorem mX11_row {D : va_G} {cy : Nat → ClassId} {ad z : Nat → Nat} (l : Launch) (x1 : Int32) (x2 : Int32) (x3 : Int32) (σ : Sg) (Q : Int64 → Sg → Prop) (h : wX11_row x1 x2 x3 σ Q) : MLB D cy ad z l yX11_row (.code yX11_row cX11_row 4 (some .long) :: gT) ({ frames := 2, cells := 0, slots := 0, locals := 45 }) [.ref (ad 0), .int x1, .int x2, .int x3] σ Q := by
  refine metL_of (by decide +kernel) (Nat.le_of_ble_eq_true rfl) ?_
  intro p e s m args below meth c A ls X hr hl S
  have X : Fx D (tyB cy) (EvB z) p s m args meth c cX11_row 4 "BackBay" A := X
  have hl : lv_has ls 4 [(0, .ref (ad 0)), (1, .int x1), (2, .int x2), (3, .int x3)] := hl
  have hx := X.1
  have hb := X.2.1
  unfold wX11_row at h
  refine lv_iload_n hx hb dX11_row_0 rfl (lv_at hl 1 rfl) ?_
  refine o_callSi (k := 1) (EvB_ok z) X S (mX11_isRow l x1 σ _ h) k_368 k_366 k_367 k_1 ⟨by decide, by decide, by decide +kernel⟩ ⟨rfl, rfl⟩ ⟨Nat.le_of_ble_eq_true rfl, Nat.le_of_ble_eq_true rfl⟩ rfl hl.1 rfl (Nat.le_of_ble_eq_true rfl) dX11_row_1 (fun r_1 σ_2 H locs h S => ?_)
  refine lv_if_eq (tgt := 22) hx hb dX11_row_4 (by decide) (fun q_3 => ?_) (fun q_3 => ?_)
  · replace h := h.1 q_3
    exact mX11_row_b22 l X hr S (lv_sub hl [] rfl) h
  · replace h := h.2 q_3
    refine lv_iload_n hx hb dX11_row_7 rfl (lv_at hl 2 rfl) ?_
    refine lv_iconst (v := 0) hx hb dX11_row_8 (by decide) ?_
    refine lv_iconst (v := 2) hx hb dX11_row_9 (by decide) ?_
    refine o_callSi (k := 3) (EvB_ok z) X S (mX11_isWithin l x2 0 2 σ_2 _ h) k_371 k_369 k_370 k_1 ⟨by decide, by decide, by decide +kernel⟩ ⟨rfl, rfl⟩ ⟨Nat.le_of_ble_eq_true rfl, Nat.le_of_ble_eq_true rfl⟩ rfl hl.1 rfl (Nat.le_of_ble_eq_true rfl) dX11_row_10 (fun r_4 σ_5 H locs h S => ?_)
    refine lv_if_eq (tgt := 22) hx hb dX11_row_13 (by decide) (fun q_6 => ?_) (fun q_6 => ?_)
    · replace h := h.1 q_6
      exact mX11_row_b22 l X hr S (lv_sub hl [] rfl) h
    · replace h := h.2 q_6
      refine lv_iload_n hx hb dX11_row_16 rfl (lv_at hl 3 rfl) ?_
      refine lv_bipush (v := 20) hx hb dX11_row_17 (by decide) ?_
      refine lv_icmp_le (tgt := 26) hx hb dX11_row_19 (by decide) (fun q_7 => ?_) (fun q_7 => ?_)
      · replace h := h.1 q_7
        refine lv_iload_n hx hb dX11_row_26 rfl (lv_at hl 3 rfl) ?_
        refine lv_if_ge (tgt := 36) hx hb dX11_row_27 (by decide) (fun q_8 => ?_) (fun q_8 => ?_)
        · replace h := h.1 q_8
          refine lv_aload_n hx hb dX11_row_36 rfl (lv_at hl 0 rfl) ?_
          refine o_get X S 0 0 (by decide) rfl rfl in_11 (by decide) k_319 rfl dX11_row_37 ?_
          refine lv_iload_n hx hb dX11_row_40 rfl (lv_at hl 1 rfl) ?_
          obtain ⟨r_9, er_9⟩ : ∃ y : Nat, y = 59 + 2 * x1.toNatClampNeg := ⟨_, rfl⟩
          refine o_rald X S (r := r_9) 1 2 (by decide) rfl rfl h.1 (by rw [er_9]) dX11_row_41 ?_
          have hr_9 : isRow r_9 := er_9 ▸ isRow_of h.1
          replace h := h.2 r_9 er_9
          refine lv_iload_n hx hb dX11_row_42 rfl (lv_at hl 2 rfl) ?_
          refine lv_iload_n hx hb dX11_row_43 rfl (lv_at hl 3 rfl) ?_
          refine o_callVv (k := 2) (EvB_ok z) X S (mX6_begin l hr_9 x2 x3 σ_5 _ h) (isRow_lt hr_9 0 (by decide)) ((shR0 hr_9) _) rfl k_381 k_378 k_379 k_380 k_13 ⟨rfl, by decide, by decide, by decide +kernel⟩ ⟨rfl, rfl⟩ ⟨Nat.le_of_ble_eq_true rfl, Nat.le_of_ble_eq_true rfl⟩ rfl hl.1 rfl (Nat.le_of_ble_eq_true rfl) dX11_row_44 (fun σ_11 H locs h S => ?_)
          refine lv_aload_n hx hb dX11_row_47 rfl (lv_at hl 0 rfl) ?_
          refine lv_iload_n hx hb dX11_row_48 rfl (lv_at hl 3 rfl) ?_
          refine lv_i2l hx hb dX11_row_49 rfl ?_
          refine o_callVl (k := 1) (EvB_ok z) X S (mX11_foundNothing l (x3.toInt64) σ_11 _ h) (by decide) rfl rfl k_386 k_383 k_385 ks_1 k_1 ⟨rfl, by decide, by decide, by decide +kernel⟩ ⟨rfl, rfl⟩ ⟨Nat.le_of_ble_eq_true rfl, Nat.le_of_ble_eq_true rfl⟩ rfl hl.1 rfl (Nat.le_of_ble_eq_true rfl) dX11_row_50 (fun r_12 σ_13 H locs h S => ?_)
          exact o_lret X S hr h dX11_row_53
        · replace h := h.2 q_8
          refine lv_aload_n hx hb dX11_row_30 rfl (lv_at hl 0 rfl) ?_
          refine lv_iconst (v := 4) hx hb dX11_row_31 (by decide) ?_
          refine o_callVl (k := 1) (EvB_ok z) X S (mX11_found l 4 σ_5 _ h) (by decide) rfl rfl k_376 k_373 k_375 ks_0 k_1 ⟨rfl, by decide, by decide, by decide +kernel⟩ ⟨rfl, rfl⟩ ⟨Nat.le_of_ble_eq_true rfl, Nat.le_of_ble_eq_true rfl⟩ rfl hl.1 rfl (Nat.le_of_ble_eq_true rfl) dX11_row_32 (fun r_14 σ_15 H locs h S => ?_)
          exact o_lret X S hr h dX11_row_35
      · replace h := h.2 q_7
        exact mX11_row_b22 l X hr S (lv_sub hl [] rfl) h
def wX11_set (x1 : Int32) (x2 : Int32) (x3 : Int32) (σ : Sg) (Q : Int64 → Sg → Prop) : Prop :=
  (wX11_isRow x1 σ (fun r_1 σ_2 => ((r_1 = 0 → Q (-9000000000000000001 : Int64) σ_2) ∧ (¬ r_1 = 0 → (vp_in x1 8 ∧ ∀ r_4, r_4 = 59 + 2 * x1.toNatClampNeg → (((σ_2 r_4 1) = 0 → (wX11_found 1 σ_2 (fun r_15 σ_16 => Q r_15 σ_16))) ∧ (¬ (σ_2 r_4 1) = 0 → (wX6_has r_4 x2 1 σ_2 (fun r_6 σ_7 => ((r_6 = 0 → (wX11_found 2 σ_7 (fun r_13 σ_14 => Q r_13 σ_14))) ∧ (¬ r_6 = 0 → (wX6_put r_4 x2 x3 σ_7 (fun r_9 σ_10 => (wX11_foundNothing (r_9.toInt64) σ_10 (fun r_11 σ_12 => Q r_11 σ_12)))))))))))))))
set_option maxHeartbeats 4000000 in
set_option maxRecDepth 100000 in
theorem mX11_set {D : va_G} {cy : Nat → ClassId} {ad z : Nat → Nat} (l : Launch) (x1 : Int32) (x2 : Int32) (x3 : Int32) (σ : Sg) (Q : Int64 → Sg → Prop) (h : wX11_set x1 x2 x3 σ Q) : MLB D cy ad z l yX11_set (.code yX11_set cX11_set 5 (some .long) :: gT) ({ frames := 2, cells := 0, slots := 0, locals := 42 }) [.ref (ad 0), .int x1, .int x2, .int x3] σ Q := by
  refine metL_of (by decide +kernel) (Nat.le_of_ble_eq_true rfl) ?_
  intro p e s m args below meth c A ls X hr hl S
  have X : Fx D (tyB cy) (EvB z) p s m args meth c cX11_set 5 "BackBay" A := X
  have hl : lv_has ls 5 [(0, .ref (ad 0)), (1, .int x1), (2, .int x2), (3, .int x3)] := hl
  have hx := X.1
  have hb := X.2.1
  unfold wX11_set at h
  refine lv_iload_n hx hb dX11_set_0 rfl (lv_at hl 1 rfl) ?_
  refine o_callSi (k := 1) (EvB_ok z) X S (mX11_isRow l x1 σ _ h) k_368 k_366 k_367 k_1 ⟨by decide, by decide, by decide +kernel⟩ ⟨rfl, rfl⟩ ⟨Nat.le_of_ble_eq_true rfl, Nat.le_of_ble_eq_true rfl⟩ rfl hl.1 rfl (Nat.le_of_ble_eq_true rfl) dX11_set_1 (fun r_1 σ_2 H locs h S => ?_)
  refine lv_if_ne (tgt := 11) hx hb dX11_set_4 (by decide) (fun q_3 => ?_) (fun q_3 => ?_)
  · replace h := h.2 q_3
    refine lv_aload_n hx hb dX11_set_11 rfl (lv_at hl 0 rfl) ?_
    refine o_get X S 0 0 (by decide) rfl rfl in_11 (by decide) k_319 rfl dX11_set_12 ?_
    refine lv_iload_n hx hb dX11_set_15 rfl (lv_at hl 1 rfl) ?_
    obtain ⟨r_4, er_4⟩ : ∃ y : Nat, y = 59 + 2 * x1.toNatClampNeg := ⟨_, rfl⟩
    refine o_rald X S (r := r_4) 1 2 (by decide) rfl rfl h.1 (by rw [er_4]) dX11_set_16 ?_
    have hr_4 : isRow r_4 := er_4 ▸ isRow_of h.1
    replace h := h.2 r_4 er_4
    refine lv_astore (lv' := [(4, .ref (ad r_4)), (0, .ref (ad 0)), (1, .int x1), (2, .int x2), (3, .int x3)]) hx hb dX11_set_17 hl (by decide) rfl (fun ls hl => ?_)
    refine lv_aload hx hb dX11_set_19 (lv_at hl 0 rfl) ?_
    refine o_get X S r_4 1 (isRow_lt hr_4 0 (by decide)) ((shR0 hr_4) _) rfl in_6 (by decide) k_305 rfl dX11_set_21 ?_
    refine lv_if_ne (tgt := 33) hx hb dX11_set_24 (by decide) (fun q_5 => ?_) (fun q_5 => ?_)
    · replace h := h.2 q_5
      refine lv_aload hx hb dX11_set_33 (lv_at hl 0 rfl) ?_
      refine lv_iload_n hx hb dX11_set_35 rfl (lv_at hl 3 rfl) ?_
      refine lv_iconst (v := 1) hx hb dX11_set_36 (by decide) ?_
      refine o_callVi (k := 2) (EvB_ok z) X S (mX6_has l hr_4 x2 1 σ_2 _ h) (isRow_lt hr_4 0 (by decide)) ((shR0 hr_4) _) rfl k_394 k_391 k_392 k_393 k_13 ⟨rfl, by decide, by decide, by decide +kernel⟩ ⟨rfl, rfl⟩ ⟨Nat.le_of_ble_eq_true rfl, Nat.le_of_ble_eq_true rfl⟩ rfl hl.1 rfl (Nat.le_of_ble_eq_true rfl) dX11_set_37 (fun r_6 σ_7 H locs h S => ?_)
      refine lv_if_ne (tgt := 49) hx hb dX11_set_40 (by decide) (fun q_8 => ?_) (fun q_8 => ?_)
      · replace h := h.2 q_8
        refine lv_aload_n hx hb dX11_set_49 rfl (lv_at hl 1 rfl) ?_
        refine lv_aload hx hb dX11_set_50 (lv_at hl 0 rfl) ?_
        refine lv_iload_n hx hb dX11_set_52 rfl (lv_at hl 3 rfl) ?_
        refine lv_iload_n hx hb dX11_set_53 rfl (lv_at hl 4 rfl) ?_
        refine o_callVi (k := 2) (EvB_ok z) X S (mX6_put l hr_4 x2 x3 σ_7 _ h) (isRow_lt hr_4 0 (by decide)) ((shR0 hr_4) _) rfl k_398 k_395 k_396 k_397 k_13 ⟨rfl, by decide, by decide, by decide +kernel⟩ ⟨rfl, rfl⟩ ⟨Nat.le_of_ble_eq_true rfl, Nat.le_of_ble_eq_true rfl⟩ rfl hl.1 rfl (Nat.le_of_ble_eq_true rfl) dX11_set_54 (fun r_9 σ_10 H locs h S => ?_)
        refine lv_i2l hx hb dX11_set_57 rfl ?_
        refine o_callVl (k := 1) (EvB_ok z) X S (mX11_foundNothing l (r_9.toInt64) σ_10 _ h) (by decide) rfl rfl k_386 k_383 k_385 ks_1 k_1 ⟨rfl, by decide, by decide, by decide +kernel⟩ ⟨rfl, rfl⟩ ⟨Nat.le_of_ble_eq_true rfl, Nat.le_of_ble_eq_true rfl⟩ rfl hl.1 rfl (Nat.le_of_ble_eq_true rfl) dX11_set_58 (fun r_11 σ_12 H locs h S => ?_)
        exact o_lret X S hr h dX11_set_61
      · replace h := h.1 q_8
        refine lv_aload_n hx hb dX11_set_43 rfl (lv_at hl 1 rfl) ?_
        refine lv_iconst (v := 2) hx hb dX11_set_44 (by decide) ?_
        refine o_callVl (k := 1) (EvB_ok z) X S (mX11_found l 2 σ_7 _ h) (by decide) rfl rfl k_376 k_373 k_375 ks_0 k_1 ⟨rfl, by decide, by decide, by decide +kernel⟩ ⟨rfl, rfl⟩ ⟨Nat.le_of_ble_eq_true rfl, Nat.le_of_ble_eq_true rfl⟩ rfl hl.1 rfl (Nat.le_of_ble_eq_true rfl) dX11_set_45 (fun r_13 σ_14 H locs h S => ?_)
        exact o_lret X S hr h dX11_set_48
    · replace h := h.1 q_5
      refine lv_aload_n hx hb dX11_set_27 rfl (lv_at hl 1 rfl) ?_
      refine lv_iconst (v := 1) hx hb dX11_set_28 (by decide) ?_
      refine o_callVl (k := 1) (EvB_ok z) X S (mX11_found l 1 σ_2 _ h) (by decide) rfl rfl k_376 k_373 k_375 ks_0 k_1 ⟨rfl, by decide, by decide, by decide +kernel⟩ ⟨rfl, rfl⟩ ⟨Nat.le_of_ble_eq_true rfl, Nat.le_of_ble_eq_true rfl⟩ rfl hl.1 rfl (Nat.le_of_ble_eq_true rfl) dX11_set_29 (fun r_15 σ_16 H locs h S => ?_)
      exact o_lret X S hr h dX11_set_32
  · replace h := h.1 q_3
    refine lv_ldc2 (v := (-9000000000000000001)) hx hb X.2.2.2.1 (X.2.2.2.2.1 _ k_372) dX11_set_7 ?_
    exact o_lret X S hr h dX11_set_10
def wX11_copy_b14 (σ : Sg) (Q : Int64 → Sg → Prop) : Prop :=
  Q (-9000000000000000001 : Int64) σ
def wX11_copy_b50 (σ : Sg) (Q : Int64 → Sg → Prop) : Prop :=
  (wX11_found 1 σ (fun r_10 σ_11 => Q r_10 σ_11))
def wX11_copy_b98 (σ : Sg) (Q : Int64 → Sg → Prop) : Prop :=
  (wX11_found 2 σ (fun r_17 σ_18 => Q r_17 σ_18))
def wX11_copy (x1 : Int32) (x2 : Int32) (x3 : Int32) (x4 : Int32) (x5 : Int32) (σ : Sg) (Q : Int64 → Sg → Prop) : Prop :=
  (wX11_isRow x1 σ (fun r_1 σ_2 => ((r_1 = 0 → wX11_copy_b14 σ_2 Q) ∧ (¬ r_1 = 0 → (wX11_isRow x3 σ_2 (fun r_4 σ_5 => ((r_4 = 0 → wX11_copy_b14 σ_5 Q) ∧ (¬ r_4 = 0 → (vp_in x1 8 ∧ ∀ r_7, r_7 = 59 + 2 * x1.toNatClampNeg → (vp_in x3 8 ∧ ∀ r_8, r_8 = 59 + 2 * x3.toNatClampNeg → (((σ_5 r_7 1) = 0 → wX11_copy_b50 σ_5 Q) ∧ (¬ (σ_5 r_7 1) = 0 → (((σ_5 r_8 1) = 0 → wX11_copy_b50 σ_5 Q) ∧ (¬ (σ_5 r_8 1) = 0 → (((σ_5 r_7 2) = (σ_5 r_8 2) → (wX6_has r_7 x2 x5 σ_5 (fun r_14 σ_15 => ((r_14 = 0 → wX11_copy_b98 σ_15 Q) ∧ (¬ r_14 = 0 → (wX6_has r_8 x4 x5 σ_15 (fun r_19 σ_20 => ((r_19 = 0 → wX11_copy_b98 σ_20 Q) ∧ (¬ r_19 = 0 → (cpok x2 x4 x5 20 20 ∧ ∀ σ_22, σ_22 = cpy σ_20 (r_7 + 1) (r_8 + 1) x2.toNatClampNeg x4.toNatClampNeg x5.toNatClampNeg → (wX11_foundNothing (x5.toInt64) σ_22 (fun r_23 σ_24 => Q r_23 σ_24)))))))))))) ∧ (¬ (σ_5 r_7 2) = (σ_5 r_8 2) → (wX11_found 5 σ_5 (fun r_25 σ_26 => Q r_25 σ_26))))))))))))))))))
set_option maxHeartbeats 4000000 in
set_option maxRecDepth 100000 in
theorem mX11_copy_b14 {D : va_G} {cy : Nat → ClassId} {ad z : Nat → Nat} (l : Launch) {p : Program} {e : Env} {s : State} {m : MethodId} {args : Array Value} {below : List Frame} {meth : Method} {c : Code} {A : Nat → Prop} {Q : Int64 → Sg → Prop} (X : Fx D (tyB cy) (EvB z) p s m args meth c cX11_copy 8 "BackBay" A) (hr : meth.sig.returnType = some .long) {σ : Sg} {H : Heap} {locs : List Loc} {ls : Array Slot} (S : St D ad 75 (shB cy ad) A s σ H locs) (hl : lv_has ls 8 []) (h : wX11_copy_b14 σ Q) : W p l e ({ frames := 2, cells := 0, slots := 0, locals := 60 }) s m args below meth c H locs 0 0 (MQ below (va_Ql Q (PosW D (tyB cy) ad 75 (shB cy ad) A) A) args s 0 0 A) (F0 m 14 ls []) := by
  have hx := X.1
  have hb := X.2.1
  unfold wX11_copy_b14 at h
  refine lv_ldc2 (v := (-9000000000000000001)) hx hb X.2.2.2.1 (X.2.2.2.2.1 _ k_372) dX11_copy_14 ?_
  exact o_lret X S hr h dX11_copy_17
set_option maxHeartbeats 4000000 in
set_option maxRecDepth 100000 in
theorem mX11_copy_b50 {D : va_G} {cy : Nat → ClassId} {ad z : Nat → Nat} (l : Launch) {p : Program} {e : Env} {s : State} {m : MethodId} {args : Array Value} {below : List Frame} {meth : Method} {c : Code} {A : Nat → Prop} {Q : Int64 → Sg → Prop} (X : Fx D (tyB cy) (EvB z) p s m args meth c cX11_copy 8 "BackBay" A) (hr : meth.sig.returnType = some .long) {σ : Sg} {H : Heap} {locs : List Loc} {ls : Array Slot} (S : St D ad 75 (shB cy ad) A s σ H locs) (hl : lv_has ls 8 [(0, .ref (ad 0))]) (h : wX11_copy_b50 σ Q) : W p l e ({ frames := 2, cells := 0, slots := 0, locals := 60 }) s m args below meth c H locs 0 0 (MQ below (va_Ql Q (PosW D (tyB cy) ad 75 (shB cy ad) A) A) args s 0 0 A) (F0 m 50 ls []) := by
  have hx := X.1
  have hb := X.2.1
  unfold wX11_copy_b50 at h
  refine lv_aload_n hx hb dX11_copy_50 rfl (lv_at hl 0 rfl) ?_
  refine lv_iconst (v := 1) hx hb dX11_copy_51 (by decide) ?_
  refine o_callVl (k := 1) (EvB_ok z) X S (mX11_found l 1 σ _ h) (by decide) rfl rfl k_376 k_373 k_375 ks_0 k_1 ⟨rfl, by decide, by decide, by decide +kernel⟩ ⟨rfl, rfl⟩ ⟨Nat.le_of_ble_eq_true rfl, Nat.le_of_ble_eq_true rfl⟩ rfl hl.1 rfl (Nat.le_of_ble_eq_true rfl) dX11_copy_52 (fun r_10 σ_11 H locs h S => ?_)
  exact o_lret X S hr h dX11_copy_55
set_option maxHeartbeats 4000000 in
set_option maxRecDepth 100000 in
theorem mX11_copy_b98 {D : va_G} {cy : Nat → ClassId} {ad z : Nat → Nat} (l : Launch) {p : Program} {e : Env} {s : State} {m : MethodId} {args : Array Value} {below : List Frame} {meth : Method} {c : Code} {A : Nat → Prop} {Q : Int64 → Sg → Prop} (X : Fx D (tyB cy) (EvB z) p s m args meth c cX11_copy 8 "BackBay" A) (hr : meth.sig.returnType = some .long) {σ : Sg} {H : Heap} {locs : List Loc} {ls : Array Slot} (S : St D ad 75 (shB cy ad) A s σ H locs) (hl : lv_has ls 8 [(0, .ref (ad 0))]) (h : wX11_copy_b98 σ Q) : W p l e ({ frames := 2, cells := 0, slots := 0, locals := 60 }) s m args below meth c H locs 0 0 (MQ below (va_Ql Q (PosW D (tyB cy) ad 75 (shB cy ad) A) A) args s 0 0 A) (F0 m 98 ls []) := by
  have hx := X.1
  have hb := X.2.1
  unfold wX11_copy_b98 at h
  refine lv_aload_n hx hb dX11_copy_98 rfl (lv_at hl 0 rfl) ?_
  refine lv_iconst (v := 2) hx hb dX11_copy_99 (by decide) ?_
  refine o_callVl (k := 1) (EvB_ok z) X S (mX11_found l 2 σ _ h) (by decide) rfl rfl k_376 k_373 k_375 ks_0 k_1 ⟨rfl, by decide, by decide, by decide +kernel⟩ ⟨rfl, rfl⟩ ⟨Nat.le_of_ble_eq_true rfl, Nat.le_of_ble_eq_true rfl⟩ rfl hl.1 rfl (Nat.le_of_ble_eq_true rfl) dX11_copy_100 (fun r_17 σ_18 H locs h S => ?_)
  exact o_lret X S hr h dX11_copy_103
set_option maxHeartbeats 4000000 in
set_option maxRecDepth 100000 in
theorem mX11_copy {D : va_G} {cy : Nat → ClassId} {ad z : Nat → Nat} (l : Launch) (x1 : Int32) (x2 : Int32) (x3 : Int32) (x4 : Int32) (x5 : Int32) (σ : Sg) (Q : Int64 → Sg → Prop) (h : wX11_copy x1 x2 x3 x4 x5 σ Q) : MLB D cy ad z l yX11_copy (.code yX11_copy cX11_copy 8 (some .long) :: gT) ({ frames := 2, cells := 0, slots := 0, locals := 60 }) [.ref (ad 0), .int x1, .int x2, .int x3, .int x4, .int x5] σ Q := by
  refine metL_of (by decide +kernel) (Nat.le_of_ble_eq_true rfl) ?_
  intro p e s m args below meth c A ls X hr hl S
  have X : Fx D (tyB cy) (EvB z) p s m args meth c cX11_copy 8 "BackBay" A := X
  have hl : lv_has ls 8 [(0, .ref (ad 0)), (1, .int x1), (2, .int x2), (3, .int x3), (4, .int x4), (5, .int x5)] := hl
  have hx := X.1
  have hb := X.2.1
  unfold wX11_copy at h
  refine lv_iload_n hx hb dX11_copy_0 rfl (lv_at hl 1 rfl) ?_
  refine o_callSi (k := 1) (EvB_ok z) X S (mX11_isRow l x1 σ _ h) k_368 k_366 k_367 k_1 ⟨by decide, by decide, by decide +kernel⟩ ⟨rfl, rfl⟩ ⟨Nat.le_of_ble_eq_true rfl, Nat.le_of_ble_eq_true rfl⟩ rfl hl.1 rfl (Nat.le_of_ble_eq_true rfl) dX11_copy_1 (fun r_1 σ_2 H locs h S => ?_)
  refine lv_if_eq (tgt := 14) hx hb dX11_copy_4 (by decide) (fun q_3 => ?_) (fun q_3 => ?_)
  · replace h := h.1 q_3
    exact mX11_copy_b14 l X hr S (lv_sub hl [] rfl) h
  · replace h := h.2 q_3
    refine lv_iload_n hx hb dX11_copy_7 rfl (lv_at hl 3 rfl) ?_
    refine o_callSi (k := 1) (EvB_ok z) X S (mX11_isRow l x3 σ_2 _ h) k_368 k_366 k_367 k_1 ⟨by decide, by decide, by decide +kernel⟩ ⟨rfl, rfl⟩ ⟨Nat.le_of_ble_eq_true rfl, Nat.le_of_ble_eq_true rfl⟩ rfl hl.1 rfl (Nat.le_of_ble_eq_true rfl) dX11_copy_8 (fun r_4 σ_5 H locs h S => ?_)
    refine lv_if_ne (tgt := 18) hx hb dX11_copy_11 (by decide) (fun q_6 => ?_) (fun q_6 => ?_)
    · replace h := h.2 q_6
      refine lv_aload_n hx hb dX11_copy_18 rfl (lv_at hl 0 rfl) ?_
      refine o_get X S 0 0 (by decide) rfl rfl in_11 (by decide) k_319 rfl dX11_copy_19 ?_
      refine lv_iload_n hx hb dX11_copy_22 rfl (lv_at hl 1 rfl) ?_
      obtain ⟨r_7, er_7⟩ : ∃ y : Nat, y = 59 + 2 * x1.toNatClampNeg := ⟨_, rfl⟩
      refine o_rald X S (r := r_7) 1 2 (by decide) rfl rfl h.1 (by rw [er_7]) dX11_copy_23 ?_
      have hr_7 : isRow r_7 := er_7 ▸ isRow_of h.1
      replace h := h.2 r_7 er_7
      refine lv_astore (lv' := [(6, .ref (ad r_7)), (0, .ref (ad 0)), (1, .int x1), (2, .int x2), (3, .int x3), (4, .int x4), (5, .int x5)]) hx hb dX11_copy_24 hl (by decide) rfl (fun ls hl => ?_)
      refine lv_aload_n hx hb dX11_copy_26 rfl (lv_at hl 1 rfl) ?_
      refine o_get X S 0 0 (by decide) rfl rfl in_11 (by decide) k_319 rfl dX11_copy_27 ?_
      refine lv_iload_n hx hb dX11_copy_30 rfl (lv_at hl 4 rfl) ?_
      obtain ⟨r_8, er_8⟩ : ∃ y : Nat, y = 59 + 2 * x3.toNatClampNeg := ⟨_, rfl⟩
      refine o_rald X S (r := r_8) 1 2 (by decide) rfl rfl h.1 (by rw [er_8]) dX11_copy_31 ?_
      have hr_8 : isRow r_8 := er_8 ▸ isRow_of h.1
      replace h := h.2 r_8 er_8
      refine lv_astore (lv' := [(7, .ref (ad r_8)), (6, .ref (ad r_7)), (0, .ref (ad 0)), (1, .int x1), (2, .int x2), (3, .int x3), (4, .int x4), (5, .int x5)]) hx hb dX11_copy_32 hl (by decide) rfl (fun ls hl => ?_)
      refine lv_aload hx hb dX11_copy_34 (lv_at hl 1 rfl) ?_
      refine o_get X S r_7 1 (isRow_lt hr_7 0 (by decide)) ((shR0 hr_7) _) rfl in_6 (by decide) k_305 rfl dX11_copy_36 ?_
      refine lv_if_eq (tgt := 50) hx hb dX11_copy_39 (by decide) (fun q_9 => ?_) (fun q_9 => ?_)
      · replace h := h.1 q_9
        exact mX11_copy_b50 l X hr S (lv_sub hl [2] rfl) h
      · replace h := h.2 q_9
        refine lv_aload hx hb dX11_copy_42 (lv_at hl 0 rfl) ?_
        refine o_get X S r_8 1 (isRow_lt hr_8 0 (by decide)) ((shR0 hr_8) _) rfl in_6 (by decide) k_305 rfl dX11_copy_44 ?_
        refine lv_if_ne (tgt := 56) hx hb dX11_copy_47 (by decide) (fun q_12 => ?_) (fun q_12 => ?_)
        · replace h := h.2 q_12
          refine lv_aload hx hb dX11_copy_56 (lv_at hl 1 rfl) ?_
          refine o_get X S r_7 2 (isRow_lt hr_7 0 (by decide)) ((shR0 hr_7) _) rfl in_6 (by decide) k_307 rfl dX11_copy_58 ?_
          refine lv_aload hx hb dX11_copy_61 (lv_at hl 0 rfl) ?_
          refine o_get X S r_8 2 (isRow_lt hr_8 0 (by decide)) ((shR0 hr_8) _) rfl in_6 (by decide) k_307 rfl dX11_copy_63 ?_
          refine lv_icmp_eq (tgt := 75) hx hb dX11_copy_66 (by decide) (fun q_13 => ?_) (fun q_13 => ?_)
          · replace h := h.1 q_13
            refine lv_aload hx hb dX11_copy_75 (lv_at hl 1 rfl) ?_
            refine lv_iload_n hx hb dX11_copy_77 rfl (lv_at hl 4 rfl) ?_
            refine lv_iload hx hb dX11_copy_78 (lv_at hl 7 rfl) ?_
            refine o_callVi (k := 2) (EvB_ok z) X S (mX6_has l hr_7 x2 x5 σ_5 _ h) (isRow_lt hr_7 0 (by decide)) ((shR0 hr_7) _) rfl k_394 k_391 k_392 k_393 k_13 ⟨rfl, by decide, by decide, by decide +kernel⟩ ⟨rfl, rfl⟩ ⟨Nat.le_of_ble_eq_true rfl, Nat.le_of_ble_eq_true rfl⟩ rfl hl.1 rfl (Nat.le_of_ble_eq_true rfl) dX11_copy_80 (fun r_14 σ_15 H locs h S => ?_)
            refine lv_if_eq (tgt := 98) hx hb dX11_copy_83 (by decide) (fun q_16 => ?_) (fun q_16 => ?_)
            · replace h := h.1 q_16
              exact mX11_copy_b98 l X hr S (lv_sub hl [2] rfl) h
            · replace h := h.2 q_16
              refine lv_aload hx hb dX11_copy_86 (lv_at hl 0 rfl) ?_
              refine lv_iload hx hb dX11_copy_88 (lv_at hl 6 rfl) ?_
              refine lv_iload hx hb dX11_copy_90 (lv_at hl 7 rfl) ?_
              refine o_callVi (k := 2) (EvB_ok z) X S (mX6_has l hr_8 x4 x5 σ_15 _ h) (isRow_lt hr_8 0 (by decide)) ((shR0 hr_8) _) rfl k_394 k_391 k_392 k_393 k_13 ⟨rfl, by decide, by decide, by decide +kernel⟩ ⟨rfl, rfl⟩ ⟨Nat.le_of_ble_eq_true rfl, Nat.le_of_ble_eq_true rfl⟩ rfl hl.1 rfl (Nat.le_of_ble_eq_true rfl) dX11_copy_92 (fun r_19 σ_20 H locs h S => ?_)
              refine lv_if_ne (tgt := 104) hx hb dX11_copy_95 (by decide) (fun q_21 => ?_) (fun q_21 => ?_)
              · replace h := h.2 q_21
                refine lv_aload hx hb dX11_copy_104 (lv_at hl 1 rfl) ?_
                refine o_get X S r_7 0 (isRow_lt hr_7 0 (by decide)) ((shR0 hr_7) _) rfl in_6 (by decide) k_303 rfl dX11_copy_106 ?_
                refine lv_iload_n hx hb dX11_copy_109 rfl (lv_at hl 4 rfl) ?_
                refine lv_aload hx hb dX11_copy_110 (lv_at hl 0 rfl) ?_
                refine o_get X S r_8 0 (isRow_lt hr_8 0 (by decide)) ((shR0 hr_8) _) rfl in_6 (by decide) k_303 rfl dX11_copy_112 ?_
                refine lv_iload hx hb dX11_copy_115 (lv_at hl 6 rfl) ?_
                refine lv_iload hx hb dX11_copy_117 (lv_at hl 7 rfl) ?_
                refine o_copyi X S hl.1 (X.2.2.2.2.1 _ k_403) (X.2.2.2.2.1 _ k_405) (X.2.2.2.2.1 _ k_404) (X.2.2.2.2.1 _ k_15) (r_7 + 1) (r_8 + 1) 0 0 (isRow_lt hr_7 1 (by decide)) (isRow_lt hr_8 1 (by decide)) (shR1 hr_7) (shR1 hr_8) rfl rfl h.1 (Nat.le_of_ble_eq_true rfl) (Nat.le_of_ble_eq_true rfl) dX11_copy_119 (fun σ_22 H locs eσ_22 S => ?_)
                replace h := h.2 σ_22 eσ_22
                refine lv_aload_n hx hb dX11_copy_122 rfl (lv_at hl 2 rfl) ?_
                refine lv_iload hx hb dX11_copy_123 (lv_at hl 7 rfl) ?_
                refine lv_i2l hx hb dX11_copy_125 rfl ?_
                refine o_callVl (k := 1) (EvB_ok z) X S (mX11_foundNothing l (x5.toInt64) σ_22 _ h) (by decide) rfl rfl k_386 k_383 k_385 ks_1 k_1 ⟨rfl, by decide, by decide, by decide +kernel⟩ ⟨rfl, rfl⟩ ⟨Nat.le_of_ble_eq_true rfl, Nat.le_of_ble_eq_true rfl⟩ rfl hl.1 rfl (Nat.le_of_ble_eq_true rfl) dX11_copy_126 (fun r_23 σ_24 H locs h S => ?_)
                exact o_lret X S hr h dX11_copy_129
              · replace h := h.1 q_21
                exact mX11_copy_b98 l X hr S (lv_sub hl [2] rfl) h
          · replace h := h.2 q_13
            refine lv_aload_n hx hb dX11_copy_69 rfl (lv_at hl 2 rfl) ?_
            refine lv_iconst (v := 5) hx hb dX11_copy_70 (by decide) ?_
            refine o_callVl (k := 1) (EvB_ok z) X S (mX11_found l 5 σ_5 _ h) (by decide) rfl rfl k_376 k_373 k_375 ks_0 k_1 ⟨rfl, by decide, by decide, by decide +kernel⟩ ⟨rfl, rfl⟩ ⟨Nat.le_of_ble_eq_true rfl, Nat.le_of_ble_eq_true rfl⟩ rfl hl.1 rfl (Nat.le_of_ble_eq_true rfl) dX11_copy_71 (fun r_25 σ_26 H locs h S => ?_)
            exact o_lret X S hr h dX11_copy_74
        · replace h := h.1 q_12
          exact mX11_copy_b50 l X hr S (lv_sub hl [2] rfl) h
    · replace h := h.1 q_6
      exact mX11_copy_b14 l X hr S (lv_sub hl [] rfl) h
def wX11_drop (x1 : Int32) (σ : Sg) (Q : Int64 → Sg → Prop) : Prop :=
  (wX11_isRow x1 σ (fun r_1 σ_2 => ((r_1 = 0 → Q (-9000000000000000001 : Int64) σ_2) ∧ (¬ r_1 = 0 → (vp_in x1 8 ∧ ∀ r_4, r_4 = 59 + 2 * x1.toNatClampNeg → (((σ_2 r_4 1) = 0 → (wX11_found 1 σ_2 (fun r_9 σ_10 => Q r_9 σ_10))) ∧ (¬ (σ_2 r_4 1) = 0 → (∀ σ_6, σ_6 = sto σ_2 r_4 1 0 → (wX11_foundNothing ((σ_6 r_4 3).toInt64) σ_6 (fun r_7 σ_8 => Q r_7 σ_8))))))))))
set_option maxHeartbeats 4000000 in
set_option maxRecDepth 100000 in
theorem mX11_drop {D : va_G} {cy : Nat → ClassId} {ad z : Nat → Nat} (l : Launch) (x1 : Int32) (σ : Sg) (Q : Int64 → Sg → Prop) (h : wX11_drop x1 σ Q) : MLB D cy ad z l yX11_drop (.code yX11_drop cX11_drop 3 (some .long) :: gT) ({ frames := 2, cells := 0, slots := 0, locals := 42 }) [.ref (ad 0), .int x1] σ Q := by
  refine metL_of (by decide +kernel) (Nat.le_of_ble_eq_true rfl) ?_
  intro p e s m args below meth c A ls X hr hl S
  have X : Fx D (tyB cy) (EvB z) p s m args meth c cX11_drop 3 "BackBay" A := X
  have hl : lv_has ls 3 [(0, .ref (ad 0)), (1, .int x1)] := hl
  have hx := X.1
  have hb := X.2.1
  unfold wX11_drop at h
  refine lv_iload_n hx hb dX11_drop_0 rfl (lv_at hl 1 rfl) ?_
  refine o_callSi (k := 1) (EvB_ok z) X S (mX11_isRow l x1 σ _ h) k_368 k_366 k_367 k_1 ⟨by decide, by decide, by decide +kernel⟩ ⟨rfl, rfl⟩ ⟨Nat.le_of_ble_eq_true rfl, Nat.le_of_ble_eq_true rfl⟩ rfl hl.1 rfl (Nat.le_of_ble_eq_true rfl) dX11_drop_1 (fun r_1 σ_2 H locs h S => ?_)
  refine lv_if_ne (tgt := 11) hx hb dX11_drop_4 (by decide) (fun q_3 => ?_) (fun q_3 => ?_)
  · replace h := h.2 q_3
    refine lv_aload_n hx hb dX11_drop_11 rfl (lv_at hl 0 rfl) ?_
    refine o_get X S 0 0 (by decide) rfl rfl in_11 (by decide) k_319 rfl dX11_drop_12 ?_
    refine lv_iload_n hx hb dX11_drop_15 rfl (lv_at hl 1 rfl) ?_
    obtain ⟨r_4, er_4⟩ : ∃ y : Nat, y = 59 + 2 * x1.toNatClampNeg := ⟨_, rfl⟩
    refine o_rald X S (r := r_4) 1 2 (by decide) rfl rfl h.1 (by rw [er_4]) dX11_drop_16 ?_
    have hr_4 : isRow r_4 := er_4 ▸ isRow_of h.1
    replace h := h.2 r_4 er_4
    refine lv_astore_n (lv' := [(2, .ref (ad r_4)), (0, .ref (ad 0)), (1, .int x1)]) hx hb dX11_drop_17 rfl hl (by decide) rfl (fun ls hl => ?_)
    refine lv_aload_n hx hb dX11_drop_18 rfl (lv_at hl 0 rfl) ?_
    refine o_get X S r_4 1 (isRow_lt hr_4 0 (by decide)) ((shR0 hr_4) _) rfl in_6 (by decide) k_305 rfl dX11_drop_19 ?_
    refine lv_if_ne (tgt := 31) hx hb dX11_drop_22 (by decide) (fun q_5 => ?_) (fun q_5 => ?_)
    · replace h := h.2 q_5
      refine lv_aload_n hx hb dX11_drop_31 rfl (lv_at hl 0 rfl) ?_
      refine lv_iconst (v := 0) hx hb dX11_drop_32 (by decide) ?_
      refine o_puti X S (fs := fun c => [.ref (ad (r_4 + 1)), .int (c 1), .int (c 2), .int (c 3)]) r_4 1 (isRow_lt hr_4 0 (by decide)) (shR0 hr_4) (fun _ _ => rfl) rfl in_6 tyX6_ok nmX6 (by decide) k_305 rfl rfl rfl rfl (fun _ => Nat.le_of_ble_eq_true rfl) dX11_drop_33 (fun σ_6 H locs eσ_6 S => ?_)
      replace h := h σ_6 eσ_6
      refine lv_aload_n hx hb dX11_drop_36 rfl (lv_at hl 1 rfl) ?_
      refine lv_aload_n hx hb dX11_drop_37 rfl (lv_at hl 0 rfl) ?_
      refine o_get X S r_4 3 (isRow_lt hr_4 0 (by decide)) ((shR0 hr_4) _) rfl in_6 (by decide) k_309 rfl dX11_drop_38 ?_
      refine lv_i2l hx hb dX11_drop_41 rfl ?_
      refine o_callVl (k := 1) (EvB_ok z) X S (mX11_foundNothing l ((σ_6 r_4 3).toInt64) σ_6 _ h) (by decide) rfl rfl k_386 k_383 k_385 ks_1 k_1 ⟨rfl, by decide, by decide, by decide +kernel⟩ ⟨rfl, rfl⟩ ⟨Nat.le_of_ble_eq_true rfl, Nat.le_of_ble_eq_true rfl⟩ rfl hl.1 rfl (Nat.le_of_ble_eq_true rfl) dX11_drop_42 (fun r_7 σ_8 H locs h S => ?_)
      exact o_lret X S hr h dX11_drop_45
    · replace h := h.1 q_5
      refine lv_aload_n hx hb dX11_drop_25 rfl (lv_at hl 1 rfl) ?_
      refine lv_iconst (v := 1) hx hb dX11_drop_26 (by decide) ?_
      refine o_callVl (k := 1) (EvB_ok z) X S (mX11_found l 1 σ_2 _ h) (by decide) rfl rfl k_376 k_373 k_375 ks_0 k_1 ⟨rfl, by decide, by decide, by decide +kernel⟩ ⟨rfl, rfl⟩ ⟨Nat.le_of_ble_eq_true rfl, Nat.le_of_ble_eq_true rfl⟩ rfl hl.1 rfl (Nat.le_of_ble_eq_true rfl) dX11_drop_27 (fun r_9 σ_10 H locs h S => ?_)
      exact o_lret X S hr h dX11_drop_30
  · replace h := h.1 q_3
    refine lv_ldc2 (v := (-9000000000000000001)) hx hb X.2.2.2.1 (X.2.2.2.2.1 _ k_372) dX11_drop_7 ?_
    exact o_lret X S hr h dX11_drop_10
def wX11_feed (x1 : Int64) (x3 : Int32) (σ : Sg) (Q : Int64 → Sg → Prop) : Prop :=
  (wX11_isWithin x3 1 8 σ (fun r_1 σ_2 => ((r_1 = 0 → Q (-9000000000000000001 : Int64) σ_2) ∧ (¬ r_1 = 0 → ((x3 ≤ (300 - (σ_2 2 0)) → (wX10_add x1 x3 σ_2 (fun σ_6 => Q ((σ_6 2 0).toInt64) σ_6))) ∧ (¬ x3 ≤ (300 - (σ_2 2 0)) → Q (-9000000000000000003 : Int64) σ_2))))))
set_option maxHeartbeats 4000000 in
set_option maxRecDepth 100000 in
theorem mX11_feed {D : va_G} {cy : Nat → ClassId} {ad z : Nat → Nat} (l : Launch) (x1 : Int64) (x3 : Int32) (σ : Sg) (Q : Int64 → Sg → Prop) (h : wX11_feed x1 x3 σ Q) : MLB D cy ad z l yX11_feed (.code yX11_feed cX11_feed 4 (some .long) :: gT) ({ frames := 1, cells := 0, slots := 0, locals := 24 }) [.ref (ad 0), .long x1, .int x3] σ Q := by
  refine metL_of (by decide +kernel) (Nat.le_of_ble_eq_true rfl) ?_
  intro p e s m args below meth c A ls X hr hl S
  have X : Fx D (tyB cy) (EvB z) p s m args meth c cX11_feed 4 "BackBay" A := X
  have hl : lv_has ls 4 [(0, .ref (ad 0)), (1, .long x1), (3, .int x3)] := hl
  have hx := X.1
  have hb := X.2.1
  unfold wX11_feed at h
  refine lv_iload_n hx hb dX11_feed_0 rfl (lv_at hl 2 rfl) ?_
  refine lv_iconst (v := 1) hx hb dX11_feed_1 (by decide) ?_
  refine lv_bipush (v := 8) hx hb dX11_feed_2 (by decide) ?_
  refine o_callSi (k := 3) (EvB_ok z) X S (mX11_isWithin l x3 1 8 σ _ h) k_371 k_369 k_370 k_1 ⟨by decide, by decide, by decide +kernel⟩ ⟨rfl, rfl⟩ ⟨Nat.le_of_ble_eq_true rfl, Nat.le_of_ble_eq_true rfl⟩ rfl hl.1 rfl (Nat.le_of_ble_eq_true rfl) dX11_feed_4 (fun r_1 σ_2 H locs h S => ?_)
  refine lv_if_ne (tgt := 14) hx hb dX11_feed_7 (by decide) (fun q_3 => ?_) (fun q_3 => ?_)
  · replace h := h.2 q_3
    refine lv_iload_n hx hb dX11_feed_14 rfl (lv_at hl 2 rfl) ?_
    refine lv_sipush (v := 300) hx hb dX11_feed_15 (by decide) ?_
    refine lv_aload_n hx hb dX11_feed_18 rfl (lv_at hl 0 rfl) ?_
    refine o_get X S 0 2 (by decide) rfl rfl in_11 (by decide) k_321 rfl dX11_feed_19 ?_
    refine o_get X S 2 0 (by decide) rfl rfl in_10 (by decide) k_38 rfl dX11_feed_22 ?_
    refine lv_isub hx hb dX11_feed_25 ?_
    refine lv_icmp_le (tgt := 33) hx hb dX11_feed_26 (by decide) (fun q_4 => ?_) (fun q_4 => ?_)
    · replace h := h.1 q_4
      refine lv_aload_n hx hb dX11_feed_33 rfl (lv_at hl 0 rfl) ?_
      refine o_get X S 0 2 (by decide) rfl rfl in_11 (by decide) k_321 rfl dX11_feed_34 ?_
      refine lv_lload_n hx hb dX11_feed_37 rfl (lv_at hl 1 rfl) ?_
      refine lv_iload_n hx hb dX11_feed_38 rfl (lv_at hl 2 rfl) ?_
      refine o_callVv (k := 2) (EvB_ok z) X S (mX10_add l x1 x3 σ_2 _ h) (by decide) rfl rfl k_418 k_415 k_416 k_417 k_2 ⟨rfl, by decide, by decide, by decide +kernel⟩ ⟨rfl, rfl⟩ ⟨Nat.le_of_ble_eq_true rfl, Nat.le_of_ble_eq_true rfl⟩ rfl hl.1 rfl (Nat.le_of_ble_eq_true rfl) dX11_feed_39 (fun σ_6 H locs h S => ?_)
      refine lv_aload_n hx hb dX11_feed_42 rfl (lv_at hl 0 rfl) ?_
      refine o_get X S 0 2 (by decide) rfl rfl in_11 (by decide) k_321 rfl dX11_feed_43 ?_
      refine o_get X S 2 0 (by decide) rfl rfl in_10 (by decide) k_38 rfl dX11_feed_46 ?_
      refine lv_i2l hx hb dX11_feed_49 rfl ?_
      exact o_lret X S hr h dX11_feed_50
    · replace h := h.2 q_4
      refine lv_ldc2 (v := (-9000000000000000003)) hx hb X.2.2.2.1 (X.2.2.2.2.1 _ k_414) dX11_feed_29 ?_
      exact o_lret X S hr h dX11_feed_32
  · replace h := h.1 q_3
    refine lv_ldc2 (v := (-9000000000000000001)) hx hb X.2.2.2.1 (X.2.2.2.2.1 _ k_372) dX11_feed_10 ?_
    exact o_lret X S hr h dX11_feed_13
def wX11_stencils (σ : Sg) (Q : Int64 → Sg → Prop) : Prop :=
  (∀ T_1 : Nat, T_1 = (σ 0 4).toNatClampNeg → (isSten T_1 ∧ (wX10_readText T_1 σ (fun r_2 σ_3 => (∀ σ_4, σ_4 = sto σ_3 2 0 0 → ((r_2 = 0 → Q ((-9000000000000000100 : Int64) - ((σ_4 2 7).toInt64)) σ_4) ∧ (¬ r_2 = 0 → (∀ T_6 : Nat, T_6 = (σ_4 0 3).toNatClampNeg → (isSten T_6 ∧ (∀ T_7 : Nat, T_7 = (σ_4 0 4).toNatClampNeg → (isSten T_7 ∧ (∀ σ_8, σ_8 = sto σ_4 0 3 (nI T_7) → (∀ σ_9, σ_9 = sto σ_8 0 4 (nI T_6) → (∀ T_10 : Nat, T_10 = (σ_9 0 3).toNatClampNeg → (isSten T_10 ∧ Q ((σ_9 T_10 1).toInt64) σ_9)))))))))))))))
set_option maxHeartbeats 4000000 in
set_option maxRecDepth 100000 in
theorem mX11_stencils {D : va_G} {cy : Nat → ClassId} {ad z : Nat → Nat} (l : Launch) (σ : Sg) (Q : Int64 → Sg → Prop) (h : wX11_stencils σ Q) : MLB D cy ad z l yX11_stencils (.code yX11_stencils cX11_stencils 3 (some .long) :: gT) ({ frames := 18, cells := 0, slots := 0, locals := 417 }) [.ref (ad 0)] σ Q := by
  refine metL_of (by decide +kernel) (Nat.le_of_ble_eq_true rfl) ?_
  intro p e s m args below meth c A ls X hr hl S
  have X : Fx D (tyB cy) (EvB z) p s m args meth c cX11_stencils 3 "BackBay" A := X
  have hl : lv_has ls 3 [(0, .ref (ad 0))] := hl
  have hx := X.1
  have hb := X.2.1
  unfold wX11_stencils at h
  refine lv_aload_n hx hb dX11_stencils_0 rfl (lv_at hl 0 rfl) ?_
  refine o_get X S 0 2 (by decide) rfl rfl in_11 (by decide) k_321 rfl dX11_stencils_1 ?_
  refine lv_aload_n hx hb dX11_stencils_4 rfl (lv_at hl 0 rfl) ?_
  obtain ⟨T_1, eT_1⟩ : ∃ y : Nat, y = (σ 0 4).toNatClampNeg := ⟨_, rfl⟩
  refine o_get X S 0 4 (by decide) rfl rfl in_11 (by decide) k_323 (v := .ref (ad T_1)) (by rw [eT_1]; rfl) dX11_stencils_5 ?_
  have hT_1 : isSten T_1 := (h T_1 eT_1).1
  replace h := (h T_1 eT_1).2
  refine o_callVi (k := 1) (EvB_ok z) X S (mX10_readText l hT_1 σ _ h) (by decide) rfl rfl k_426 k_423 k_424 k_425 k_2 ⟨rfl, by decide, by decide, by decide +kernel⟩ ⟨rfl, rfl⟩ ⟨Nat.le_of_ble_eq_true rfl, Nat.le_of_ble_eq_true rfl⟩ rfl hl.1 rfl (Nat.le_of_ble_eq_true rfl) dX11_stencils_8 (fun r_2 σ_3 H locs h S => ?_)
  refine lv_istore_n (lv' := [(1, .int r_2), (0, .ref (ad 0))]) hx hb dX11_stencils_11 rfl hl (by decide) rfl (fun ls hl => ?_)
  refine lv_aload_n hx hb dX11_stencils_12 rfl (lv_at hl 1 rfl) ?_
  refine o_get X S 0 2 (by decide) rfl rfl in_11 (by decide) k_321 rfl dX11_stencils_13 ?_
  refine lv_iconst (v := 0) hx hb dX11_stencils_16 (by decide) ?_
  refine o_puti X S (fs := fun c => [.int (c 0), .ref (ad 3), .int (c 2), .int (c 3), .int (c 4), .int (c 5), .int (c 6), .int (c 7)]) 2 0 (by decide) (fun _ => rfl) (fun _ _ => rfl) rfl in_10 tyX10_ok nmX10 (by decide) k_38 rfl rfl rfl rfl (fun _ => Nat.le_of_ble_eq_true rfl) dX11_stencils_17 (fun σ_4 H locs eσ_4 S => ?_)
  replace h := h σ_4 eσ_4
  refine lv_iload_n hx hb dX11_stencils_20 rfl (lv_at hl 0 rfl) ?_
  refine lv_if_ne (tgt := 37) hx hb dX11_stencils_21 (by decide) (fun q_5 => ?_) (fun q_5 => ?_)
  · replace h := h.2 q_5
    refine lv_aload_n hx hb dX11_stencils_37 rfl (lv_at hl 1 rfl) ?_
    obtain ⟨T_6, eT_6⟩ : ∃ y : Nat, y = (σ_4 0 3).toNatClampNeg := ⟨_, rfl⟩
    refine o_get X S 0 3 (by decide) rfl rfl in_11 (by decide) k_322 (v := .ref (ad T_6)) (by rw [eT_6]; rfl) dX11_stencils_38 ?_
    have hT_6 : isSten T_6 := (h T_6 eT_6).1
    replace h := (h T_6 eT_6).2
    refine lv_astore_n (lv' := [(2, .ref (ad T_6)), (1, .int r_2), (0, .ref (ad 0))]) hx hb dX11_stencils_41 rfl hl (by decide) rfl (fun ls hl => ?_)
    refine lv_aload_n hx hb dX11_stencils_42 rfl (lv_at hl 2 rfl) ?_
    refine lv_aload_n hx hb dX11_stencils_43 rfl (lv_at hl 2 rfl) ?_
    obtain ⟨T_7, eT_7⟩ : ∃ y : Nat, y = (σ_4 0 4).toNatClampNeg := ⟨_, rfl⟩
    refine o_get X S 0 4 (by decide) rfl rfl in_11 (by decide) k_323 (v := .ref (ad T_7)) (by rw [eT_7]; rfl) dX11_stencils_44 ?_
    have hT_7 : isSten T_7 := (h T_7 eT_7).1
    replace h := (h T_7 eT_7).2
    refine o_putr X S (fs := fun c => [.ref (ad 1), .int (c 1), .ref (ad 2), .ref (ad (c 3).toNatClampNeg), .ref (ad (c 4).toNatClampNeg), .ref (ad 4), .ref (ad 8), .ref (ad 14), .ref (ad 36), .ref (ad 38), .ref (ad 40), .ref (ad 45), .ref (ad 48), .ref (ad 57)]) (x := nI T_7) (r := T_7) 0 3 (by decide) (fun _ => rfl) (by rcases hT_7 with rfl | rfl <;> rfl) rfl in_11 tyX11_ok nmX11 (by decide) k_322 rfl rfl rfl rfl (fun _ => Nat.le_of_ble_eq_true rfl) dX11_stencils_47 (fun σ_8 H locs eσ_8 S => ?_)
    replace h := h σ_8 eσ_8
    refine lv_aload_n hx hb dX11_stencils_50 rfl (lv_at hl 2 rfl) ?_
    refine lv_aload_n hx hb dX11_stencils_51 rfl (lv_at hl 0 rfl) ?_
    refine o_putr X S (fs := fun c => [.ref (ad 1), .int (c 1), .ref (ad 2), .ref (ad (c 3).toNatClampNeg), .ref (ad (c 4).toNatClampNeg), .ref (ad 4), .ref (ad 8), .ref (ad 14), .ref (ad 36), .ref (ad 38), .ref (ad 40), .ref (ad 45), .ref (ad 48), .ref (ad 57)]) (x := nI T_6) (r := T_6) 0 4 (by decide) (fun _ => rfl) (by rcases hT_6 with rfl | rfl <;> rfl) rfl in_11 tyX11_ok nmX11 (by decide) k_323 rfl rfl rfl rfl (fun _ => Nat.le_of_ble_eq_true rfl) dX11_stencils_52 (fun σ_9 H locs eσ_9 S => ?_)
    replace h := h σ_9 eσ_9
    refine lv_aload_n hx hb dX11_stencils_55 rfl (lv_at hl 2 rfl) ?_
    obtain ⟨T_10, eT_10⟩ : ∃ y : Nat, y = (σ_9 0 3).toNatClampNeg := ⟨_, rfl⟩
    refine o_get X S 0 3 (by decide) rfl rfl in_11 (by decide) k_322 (v := .ref (ad T_10)) (by rw [eT_10]; rfl) dX11_stencils_56 ?_
    have hT_10 : isSten T_10 := (h T_10 eT_10).1
    replace h := (h T_10 eT_10).2
    refine o_get X S T_10 1 (isSten_lt hT_10 0 (by decide)) ((shS0 hT_10) _) rfl in_8 (by decide) k_78 rfl dX11_stencils_59 ?_
    refine lv_i2l hx hb dX11_stencils_62 rfl ?_
    exact o_lret X S hr h dX11_stencils_63
  · replace h := h.1 q_5
    refine lv_ldc2 (v := (-9000000000000000100)) hx hb X.2.2.2.1 (X.2.2.2.2.1 _ k_544) dX11_stencils_24 ?_
    refine lv_aload_n hx hb dX11_stencils_27 rfl (lv_at hl 1 rfl) ?_
    refine o_get X S 0 2 (by decide) rfl rfl in_11 (by decide) k_321 rfl dX11_stencils_28 ?_
    refine o_get X S 2 7 (by decide) rfl rfl in_10 (by decide) k_47 rfl dX11_stencils_31 ?_
    refine lv_i2l hx hb dX11_stencils_34 rfl ?_
    refine lv_lsub hx hb dX11_stencils_35 ?_
    exact o_lret X S hr h dX11_stencils_36
def wX11_fault (σ : Sg) (Q : Int32 → Sg → Prop) : Prop :=
  Q (σ 2 6) σ
set_option maxHeartbeats 4000000 in
set_option maxRecDepth 100000 in
theorem mX11_fault {D : va_G} {cy : Nat → ClassId} {ad z : Nat → Nat} (l : Launch) (σ : Sg) (Q : Int32 → Sg → Prop) (h : wX11_fault σ Q) : MIB D cy ad z l yX11_fault (.code yX11_fault cX11_fault 1 (some .int) :: gT) ({ frames := 0, cells := 0, slots := 0, locals := 0 }) [.ref (ad 0)] σ Q := by
  refine metI_of (by decide +kernel) (Nat.le_of_ble_eq_true rfl) ?_
  intro p e s m args below meth c A ls X hr hl S
  have X : Fx D (tyB cy) (EvB z) p s m args meth c cX11_fault 1 "BackBay" A := X
  have hl : lv_has ls 1 [(0, .ref (ad 0))] := hl
  have hx := X.1
  have hb := X.2.1
  unfold wX11_fault at h
  refine lv_aload_n hx hb dX11_fault_0 rfl (lv_at hl 0 rfl) ?_
  refine o_get X S 0 2 (by decide) rfl rfl in_11 (by decide) k_321 rfl dX11_fault_1 ?_
  refine o_get X S 2 6 (by decide) rfl rfl in_10 (by decide) k_45 rfl dX11_fault_4 ?_
  exact o_iret X S hr h dX11_fault_7
def wX11_bay (x1 : Int32) (σ : Sg) (Q : Int64 → Sg → Prop) : Prop :=
  (wX11_isWithin x1 2 10 σ (fun r_1 σ_2 => ((r_1 = 0 → Q (-9000000000000000001 : Int64) σ_2) ∧ (¬ r_1 = 0 → (∀ x2_4, x2_4 = (σ_2 4 0) → (wX1_begin x1 σ_2 (fun σ_6 => Q (x2_4.toInt64) σ_6)))))))
set_option maxHeartbeats 4000000 in
set_option maxRecDepth 100000 in
theorem mX11_bay {D : va_G} {cy : Nat → ClassId} {ad z : Nat → Nat} (l : Launch) (x1 : Int32) (σ : Sg) (Q : Int64 → Sg → Prop) (h : wX11_bay x1 σ Q) : MLB D cy ad z l yX11_bay (.code yX11_bay cX11_bay 3 (some .long) :: gT) ({ frames := 2, cells := 0, slots := 0, locals := 44 }) [.ref (ad 0), .int x1] σ Q := by
  refine metL_of (by decide +kernel) (Nat.le_of_ble_eq_true rfl) ?_
  intro p e s m args below meth c A ls X hr hl S
  have X : Fx D (tyB cy) (EvB z) p s m args meth c cX11_bay 3 "BackBay" A := X
  have hl : lv_has ls 3 [(0, .ref (ad 0)), (1, .int x1)] := hl
  have hx := X.1
  have hb := X.2.1
  unfold wX11_bay at h
  refine lv_iload_n hx hb dX11_bay_0 rfl (lv_at hl 1 rfl) ?_
  refine lv_iconst (v := 2) hx hb dX11_bay_1 (by decide) ?_
  refine lv_bipush (v := 10) hx hb dX11_bay_2 (by decide) ?_
  refine o_callSi (k := 3) (EvB_ok z) X S (mX11_isWithin l x1 2 10 σ _ h) k_371 k_369 k_370 k_1 ⟨by decide, by decide, by decide +kernel⟩ ⟨rfl, rfl⟩ ⟨Nat.le_of_ble_eq_true rfl, Nat.le_of_ble_eq_true rfl⟩ rfl hl.1 rfl (Nat.le_of_ble_eq_true rfl) dX11_bay_4 (fun r_1 σ_2 H locs h S => ?_)
  refine lv_if_ne (tgt := 14) hx hb dX11_bay_7 (by decide) (fun q_3 => ?_) (fun q_3 => ?_)
  · replace h := h.2 q_3
    refine lv_aload_n hx hb dX11_bay_14 rfl (lv_at hl 0 rfl) ?_
    refine o_get X S 0 5 (by decide) rfl rfl in_11 (by decide) k_324 rfl dX11_bay_15 ?_
    refine o_get X S 4 0 (by decide) rfl rfl in_1 (by decide) k_130 rfl dX11_bay_18 ?_
    refine lv_topi (fun x2_4 ex2_4 => ?_)
    replace h := h x2_4 ex2_4
    refine lv_istore_n (lv' := [(2, .int x2_4), (0, .ref (ad 0)), (1, .int x1)]) hx hb dX11_bay_21 rfl hl (by decide) rfl (fun ls hl => ?_)
    refine lv_aload_n hx hb dX11_bay_22 rfl (lv_at hl 1 rfl) ?_
    refine o_get X S 0 5 (by decide) rfl rfl in_11 (by decide) k_324 rfl dX11_bay_23 ?_
    refine lv_iload_n hx hb dX11_bay_26 rfl (lv_at hl 2 rfl) ?_
    refine o_callVv (k := 1) (EvB_ok z) X S (mX1_begin l x1 σ_2 _ h) (by decide) rfl rfl k_122 k_554 k_120 k_121 k_4 ⟨rfl, by decide, by decide, by decide +kernel⟩ ⟨rfl, rfl⟩ ⟨Nat.le_of_ble_eq_true rfl, Nat.le_of_ble_eq_true rfl⟩ rfl hl.1 rfl (Nat.le_of_ble_eq_true rfl) dX11_bay_27 (fun σ_6 H locs h S => ?_)
    refine lv_iload_n hx hb dX11_bay_30 rfl (lv_at hl 0 rfl) ?_
    refine lv_i2l hx hb dX11_bay_31 rfl ?_
    exact o_lret X S hr h dX11_bay_32
  · replace h := h.1 q_3
    refine lv_ldc2 (v := (-9000000000000000001)) hx hb X.2.2.2.1 (X.2.2.2.2.1 _ k_372) dX11_bay_10 ?_
    exact o_lret X S hr h dX11_bay_13
def wX11_start (x1 : Int32) (x2 : Int32) (σ : Sg) (Q : Int64 → Sg → Prop) : Prop :=
  (wX11_isRow x1 σ (fun r_1 σ_2 => ((r_1 = 0 → Q (-9000000000000000001 : Int64) σ_2) ∧ (¬ r_1 = 0 → (vp_in x1 8 ∧ ∀ r_4, r_4 = 59 + 2 * x1.toNatClampNeg → (((σ_2 r_4 1) = 0 → (wX11_found 1 σ_2 (fun r_14 σ_15 => Q r_14 σ_15))) ∧ (¬ (σ_2 r_4 1) = 0 → (wX6_has r_4 x2 (σ_2 4 0) σ_2 (fun r_6 σ_7 => ((r_6 = 0 → (wX11_found 2 σ_7 (fun r_12 σ_13 => Q r_12 σ_13))) ∧ (¬ r_6 = 0 → (cpok x2 0 (σ_7 4 0) 20 10 ∧ ∀ σ_9, σ_9 = cpy σ_7 (r_4 + 1) 5 x2.toNatClampNeg 0 (σ_7 4 0).toNatClampNeg → (wX11_foundNothing ((σ_9 4 0).toInt64) σ_9 (fun r_10 σ_11 => Q r_10 σ_11))))))))))))))
set_option maxHeartbeats 4000000 in
set_option maxRecDepth 100000 in
theorem mX11_start {D : va_G} {cy : Nat → ClassId} {ad z : Nat → Nat} (l : Launch) (x1 : Int32) (x2 : Int32) (σ : Sg) (Q : Int64 → Sg → Prop) (h : wX11_start x1 x2 σ Q) : MLB D cy ad z l yX11_start (.code yX11_start cX11_start 4 (some .long) :: gT) ({ frames := 2, cells := 0, slots := 0, locals := 60 }) [.ref (ad 0), .int x1, .int x2] σ Q := by
  refine metL_of (by decide +kernel) (Nat.le_of_ble_eq_true rfl) ?_
  intro p e s m args below meth c A ls X hr hl S
  have X : Fx D (tyB cy) (EvB z) p s m args meth c cX11_start 4 "BackBay" A := X
  have hl : lv_has ls 4 [(0, .ref (ad 0)), (1, .int x1), (2, .int x2)] := hl
  have hx := X.1
  have hb := X.2.1
  unfold wX11_start at h
  refine lv_iload_n hx hb dX11_start_0 rfl (lv_at hl 1 rfl) ?_
  refine o_callSi (k := 1) (EvB_ok z) X S (mX11_isRow l x1 σ _ h) k_368 k_366 k_367 k_1 ⟨by decide, by decide, by decide +kernel⟩ ⟨rfl, rfl⟩ ⟨Nat.le_of_ble_eq_true rfl, Nat.le_of_ble_eq_true rfl⟩ rfl hl.1 rfl (Nat.le_of_ble_eq_true rfl) dX11_start_1 (fun r_1 σ_2 H locs h S => ?_)
  refine lv_if_ne (tgt := 11) hx hb dX11_start_4 (by decide) (fun q_3 => ?_) (fun q_3 => ?_)
  · replace h := h.2 q_3
    refine lv_aload_n hx hb dX11_start_11 rfl (lv_at hl 0 rfl) ?_
    refine o_get X S 0 0 (by decide) rfl rfl in_11 (by decide) k_319 rfl dX11_start_12 ?_
    refine lv_iload_n hx hb dX11_start_15 rfl (lv_at hl 1 rfl) ?_
    obtain ⟨r_4, er_4⟩ : ∃ y : Nat, y = 59 + 2 * x1.toNatClampNeg := ⟨_, rfl⟩
    refine o_rald X S (r := r_4) 1 2 (by decide) rfl rfl h.1 (by rw [er_4]) dX11_start_16 ?_
    have hr_4 : isRow r_4 := er_4 ▸ isRow_of h.1
    replace h := h.2 r_4 er_4
    refine lv_astore_n (lv' := [(3, .ref (ad r_4)), (0, .ref (ad 0)), (1, .int x1), (2, .int x2)]) hx hb dX11_start_17 rfl hl (by decide) rfl (fun ls hl => ?_)
    refine lv_aload_n hx hb dX11_start_18 rfl (lv_at hl 0 rfl) ?_
    refine o_get X S r_4 1 (isRow_lt hr_4 0 (by decide)) ((shR0 hr_4) _) rfl in_6 (by decide) k_305 rfl dX11_start_19 ?_
    refine lv_if_ne (tgt := 31) hx hb dX11_start_22 (by decide) (fun q_5 => ?_) (fun q_5 => ?_)
    · replace h := h.2 q_5
      refine lv_aload_n hx hb dX11_start_31 rfl (lv_at hl 0 rfl) ?_
      refine lv_iload_n hx hb dX11_start_32 rfl (lv_at hl 3 rfl) ?_
      refine lv_aload_n hx hb dX11_start_33 rfl (lv_at hl 1 rfl) ?_
      refine o_get X S 0 5 (by decide) rfl rfl in_11 (by decide) k_324 rfl dX11_start_34 ?_
      refine o_get X S 4 0 (by decide) rfl rfl in_1 (by decide) k_130 rfl dX11_start_37 ?_
      refine o_callVi (k := 2) (EvB_ok z) X S (mX6_has l hr_4 x2 (σ_2 4 0) σ_2 _ h) (isRow_lt hr_4 0 (by decide)) ((shR0 hr_4) _) rfl k_394 k_391 k_392 k_393 k_13 ⟨rfl, by decide, by decide, by decide +kernel⟩ ⟨rfl, rfl⟩ ⟨Nat.le_of_ble_eq_true rfl, Nat.le_of_ble_eq_true rfl⟩ rfl hl.1 rfl (Nat.le_of_ble_eq_true rfl) dX11_start_40 (fun r_6 σ_7 H locs h S => ?_)
      refine lv_if_ne (tgt := 52) hx hb dX11_start_43 (by decide) (fun q_8 => ?_) (fun q_8 => ?_)
      · replace h := h.2 q_8
        refine lv_aload_n hx hb dX11_start_52 rfl (lv_at hl 0 rfl) ?_
        refine o_get X S r_4 0 (isRow_lt hr_4 0 (by decide)) ((shR0 hr_4) _) rfl in_6 (by decide) k_303 rfl dX11_start_53 ?_
        refine lv_iload_n hx hb dX11_start_56 rfl (lv_at hl 3 rfl) ?_
        refine lv_aload_n hx hb dX11_start_57 rfl (lv_at hl 1 rfl) ?_
        refine o_get X S 0 5 (by decide) rfl rfl in_11 (by decide) k_324 rfl dX11_start_58 ?_
        refine o_get X S 4 1 (by decide) rfl rfl in_1 (by decide) k_133 rfl dX11_start_61 ?_
        refine lv_iconst (v := 0) hx hb dX11_start_64 (by decide) ?_
        refine lv_aload_n hx hb dX11_start_65 rfl (lv_at hl 1 rfl) ?_
        refine o_get X S 0 5 (by decide) rfl rfl in_11 (by decide) k_324 rfl dX11_start_66 ?_
        refine o_get X S 4 0 (by decide) rfl rfl in_1 (by decide) k_130 rfl dX11_start_69 ?_
        refine o_copyi X S hl.1 (X.2.2.2.2.1 _ k_403) (X.2.2.2.2.1 _ k_405) (X.2.2.2.2.1 _ k_404) (X.2.2.2.2.1 _ k_15) (r_4 + 1) 5 0 0 (isRow_lt hr_4 1 (by decide)) (by decide) (shR1 hr_4) (fun _ => rfl) rfl rfl h.1 (Nat.le_of_ble_eq_true rfl) (Nat.le_of_ble_eq_true rfl) dX11_start_72 (fun σ_9 H locs eσ_9 S => ?_)
        replace h := h.2 σ_9 eσ_9
        refine lv_aload_n hx hb dX11_start_75 rfl (lv_at hl 1 rfl) ?_
        refine lv_aload_n hx hb dX11_start_76 rfl (lv_at hl 1 rfl) ?_
        refine o_get X S 0 5 (by decide) rfl rfl in_11 (by decide) k_324 rfl dX11_start_77 ?_
        refine o_get X S 4 0 (by decide) rfl rfl in_1 (by decide) k_130 rfl dX11_start_80 ?_
        refine lv_i2l hx hb dX11_start_83 rfl ?_
        refine o_callVl (k := 1) (EvB_ok z) X S (mX11_foundNothing l ((σ_9 4 0).toInt64) σ_9 _ h) (by decide) rfl rfl k_386 k_383 k_385 ks_1 k_1 ⟨rfl, by decide, by decide, by decide +kernel⟩ ⟨rfl, rfl⟩ ⟨Nat.le_of_ble_eq_true rfl, Nat.le_of_ble_eq_true rfl⟩ rfl hl.1 rfl (Nat.le_of_ble_eq_true rfl) dX11_start_84 (fun r_10 σ_11 H locs h S => ?_)
        exact o_lret X S hr h dX11_start_87
      · replace h := h.1 q_8
        refine lv_aload_n hx hb dX11_start_46 rfl (lv_at hl 1 rfl) ?_
        refine lv_iconst (v := 2) hx hb dX11_start_47 (by decide) ?_
        refine o_callVl (k := 1) (EvB_ok z) X S (mX11_found l 2 σ_7 _ h) (by decide) rfl rfl k_376 k_373 k_375 ks_0 k_1 ⟨rfl, by decide, by decide, by decide +kernel⟩ ⟨rfl, rfl⟩ ⟨Nat.le_of_ble_eq_true rfl, Nat.le_of_ble_eq_true rfl⟩ rfl hl.1 rfl (Nat.le_of_ble_eq_true rfl) dX11_start_48 (fun r_12 σ_13 H locs h S => ?_)
        exact o_lret X S hr h dX11_start_51
    · replace h := h.1 q_5
      refine lv_aload_n hx hb dX11_start_25 rfl (lv_at hl 1 rfl) ?_
      refine lv_iconst (v := 1) hx hb dX11_start_26 (by decide) ?_
      refine o_callVl (k := 1) (EvB_ok z) X S (mX11_found l 1 σ_2 _ h) (by decide) rfl rfl k_376 k_373 k_375 ks_0 k_1 ⟨rfl, by decide, by decide, by decide +kernel⟩ ⟨rfl, rfl⟩ ⟨Nat.le_of_ble_eq_true rfl, Nat.le_of_ble_eq_true rfl⟩ rfl hl.1 rfl (Nat.le_of_ble_eq_true rfl) dX11_start_27 (fun r_14 σ_15 H locs h S => ?_)
      exact o_lret X S hr h dX11_start_30
  · replace h := h.1 q_3
    refine lv_ldc2 (v := (-9000000000000000001)) hx hb X.2.2.2.1 (X.2.2.2.2.1 _ k_372) dX11_start_7 ?_
    exact o_lret X S hr h dX11_start_10
def wX11_strip_b21 (σ : Sg) (Q : Int64 → Sg → Prop) : Prop :=
  Q (-9000000000000000001 : Int64) σ
def wX11_strip (x1 : Int32) (x2 : Int32) (σ : Sg) (Q : Int64 → Sg → Prop) : Prop :=
  (wX1_has x1 σ (fun r_1 σ_2 => ((r_1 = 0 → wX11_strip_b21 σ_2 Q) ∧ (¬ r_1 = 0 → (wX11_isWithin x2 0 9 σ_2 (fun r_4 σ_5 => ((r_4 = 0 → wX11_strip_b21 σ_5 Q) ∧ (¬ r_4 = 0 → (vp_in x1 10 ∧ (∀ x3_7, x3_7 = (σ_5 6 x1.toNatClampNeg) → (vp_in x1 10 ∧ ∀ σ_8, σ_8 = sto σ_5 6 x1.toNatClampNeg x2 → Q (x3_7.toInt64) σ_8)))))))))))
set_option maxHeartbeats 4000000 in
set_option maxRecDepth 100000 in
theorem mX11_strip_b21 {D : va_G} {cy : Nat → ClassId} {ad z : Nat → Nat} (l : Launch) {p : Program} {e : Env} {s : State} {m : MethodId} {args : Array Value} {below : List Frame} {meth : Method} {c : Code} {A : Nat → Prop} {Q : Int64 → Sg → Prop} (X : Fx D (tyB cy) (EvB z) p s m args meth c cX11_strip 4 "BackBay" A) (hr : meth.sig.returnType = some .long) {σ : Sg} {H : Heap} {locs : List Loc} {ls : Array Slot} (S : St D ad 75 (shB cy ad) A s σ H locs) (hl : lv_has ls 4 []) (h : wX11_strip_b21 σ Q) : W p l e ({ frames := 2, cells := 0, slots := 0, locals := 43 }) s m args below meth c H locs 0 0 (MQ below (va_Ql Q (PosW D (tyB cy) ad 75 (shB cy ad) A) A) args s 0 0 A) (F0 m 21 ls []) := by
  have hx := X.1
  have hb := X.2.1
  unfold wX11_strip_b21 at h
  refine lv_ldc2 (v := (-9000000000000000001)) hx hb X.2.2.2.1 (X.2.2.2.2.1 _ k_372) dX11_strip_21 ?_
  exact o_lret X S hr h dX11_strip_24
set_option maxHeartbeats 4000000 in
set_option maxRecDepth 100000 in
theorem mX11_strip {D : va_G} {cy : Nat → ClassId} {ad z : Nat → Nat} (l : Launch) (x1 : Int32) (x2 : Int32) (σ : Sg) (Q : Int64 → Sg → Prop) (h : wX11_strip x1 x2 σ Q) : MLB D cy ad z l yX11_strip (.code yX11_strip cX11_strip 4 (some .long) :: gT) ({ frames := 2, cells := 0, slots := 0, locals := 43 }) [.ref (ad 0), .int x1, .int x2] σ Q := by
  refine metL_of (by decide +kernel) (Nat.le_of_ble_eq_true rfl) ?_
  intro p e s m args below meth c A ls X hr hl S
  have X : Fx D (tyB cy) (EvB z) p s m args meth c cX11_strip 4 "BackBay" A := X
  have hl : lv_has ls 4 [(0, .ref (ad 0)), (1, .int x1), (2, .int x2)] := hl
  have hx := X.1
  have hb := X.2.1
  unfold wX11_strip at h
  refine lv_aload_n hx hb dX11_strip_0 rfl (lv_at hl 0 rfl) ?_
  refine o_get X S 0 5 (by decide) rfl rfl in_11 (by decide) k_324 rfl dX11_strip_1 ?_
  refine lv_iload_n hx hb dX11_strip_4 rfl (lv_at hl 1 rfl) ?_
  refine o_callVi (k := 1) (EvB_ok z) X S (mX1_has l x1 σ _ h) (by decide) rfl rfl k_566 k_563 k_564 k_565 k_4 ⟨rfl, by decide, by decide, by decide +kernel⟩ ⟨rfl, rfl⟩ ⟨Nat.le_of_ble_eq_true rfl, Nat.le_of_ble_eq_true rfl⟩ rfl hl.1 rfl (Nat.le_of_ble_eq_true rfl) dX11_strip_5 (fun r_1 σ_2 H locs h S => ?_)
  refine lv_if_eq (tgt := 21) hx hb dX11_strip_8 (by decide) (fun q_3 => ?_) (fun q_3 => ?_)
  · replace h := h.1 q_3
    exact mX11_strip_b21 l X hr S (lv_sub hl [] rfl) h
  · replace h := h.2 q_3
    refine lv_iload_n hx hb dX11_strip_11 rfl (lv_at hl 2 rfl) ?_
    refine lv_iconst (v := 0) hx hb dX11_strip_12 (by decide) ?_
    refine lv_bipush (v := 9) hx hb dX11_strip_13 (by decide) ?_
    refine o_callSi (k := 3) (EvB_ok z) X S (mX11_isWithin l x2 0 9 σ_2 _ h) k_371 k_369 k_370 k_1 ⟨by decide, by decide, by decide +kernel⟩ ⟨rfl, rfl⟩ ⟨Nat.le_of_ble_eq_true rfl, Nat.le_of_ble_eq_true rfl⟩ rfl hl.1 rfl (Nat.le_of_ble_eq_true rfl) dX11_strip_15 (fun r_4 σ_5 H locs h S => ?_)
    refine lv_if_ne (tgt := 25) hx hb dX11_strip_18 (by decide) (fun q_6 => ?_) (fun q_6 => ?_)
    · replace h := h.2 q_6
      refine lv_aload_n hx hb dX11_strip_25 rfl (lv_at hl 0 rfl) ?_
      refine o_get X S 0 5 (by decide) rfl rfl in_11 (by decide) k_324 rfl dX11_strip_26 ?_
      refine o_get X S 4 2 (by decide) rfl rfl in_1 (by decide) k_137 rfl dX11_strip_29 ?_
      refine lv_iload_n hx hb dX11_strip_32 rfl (lv_at hl 1 rfl) ?_
      refine o_iald X S 6 0 (by decide) (fun _ => rfl) rfl h.1 dX11_strip_33 ?_
      replace h := h.2
      refine lv_topi (fun x3_7 ex3_7 => ?_)
      replace h := h x3_7 ex3_7
      refine lv_istore_n (lv' := [(3, .int x3_7), (0, .ref (ad 0)), (1, .int x1), (2, .int x2)]) hx hb dX11_strip_34 rfl hl (by decide) rfl (fun ls hl => ?_)
      refine lv_aload_n hx hb dX11_strip_35 rfl (lv_at hl 1 rfl) ?_
      refine o_get X S 0 5 (by decide) rfl rfl in_11 (by decide) k_324 rfl dX11_strip_36 ?_
      refine o_get X S 4 2 (by decide) rfl rfl in_1 (by decide) k_137 rfl dX11_strip_39 ?_
      refine lv_iload_n hx hb dX11_strip_42 rfl (lv_at hl 2 rfl) ?_
      refine lv_iload_n hx hb dX11_strip_43 rfl (lv_at hl 3 rfl) ?_
      refine o_iast X S 6 0 (by decide) (fun _ => rfl) rfl h.1 dX11_strip_44 (fun σ_8 H locs eσ_8 S => ?_)
      replace h := h.2 σ_8 eσ_8
      refine lv_iload_n hx hb dX11_strip_45 rfl (lv_at hl 0 rfl) ?_
      refine lv_i2l hx hb dX11_strip_46 rfl ?_
      exact o_lret X S hr h dX11_strip_47
    · replace h := h.1 q_6
      exact mX11_strip_b21 l X hr S (lv_sub hl [] rfl) h
def wX11_edge (x1 : Int32) (x2 : Int32) (σ : Sg) (Q : Int64 → Sg → Prop) : Prop :=
  (wX11_isWithin x1 0 1 σ (fun r_1 σ_2 => ((r_1 = 0 → Q (-9000000000000000001 : Int64) σ_2) ∧ (¬ r_1 = 0 → (vp_in x1 2 ∧ (∀ x3_4, x3_4 = (σ_2 7 x1.toNatClampNeg) → (vp_in x1 2 ∧ ∀ σ_5, σ_5 = sto σ_2 7 x1.toNatClampNeg x2 → Q (x3_4.toInt64) σ_5)))))))
set_option maxHeartbeats 4000000 in
set_option maxRecDepth 100000 in
theorem mX11_edge {D : va_G} {cy : Nat → ClassId} {ad z : Nat → Nat} (l : Launch) (x1 : Int32) (x2 : Int32) (σ : Sg) (Q : Int64 → Sg → Prop) (h : wX11_edge x1 x2 σ Q) : MLB D cy ad z l yX11_edge (.code yX11_edge cX11_edge 4 (some .long) :: gT) ({ frames := 1, cells := 0, slots := 0, locals := 22 }) [.ref (ad 0), .int x1, .int x2] σ Q := by
  refine metL_of (by decide +kernel) (Nat.le_of_ble_eq_true rfl) ?_
  intro p e s m args below meth c A ls X hr hl S
  have X : Fx D (tyB cy) (EvB z) p s m args meth c cX11_edge 4 "BackBay" A := X
  have hl : lv_has ls 4 [(0, .ref (ad 0)), (1, .int x1), (2, .int x2)] := hl
  have hx := X.1
  have hb := X.2.1
  unfold wX11_edge at h
  refine lv_iload_n hx hb dX11_edge_0 rfl (lv_at hl 1 rfl) ?_
  refine lv_iconst (v := 0) hx hb dX11_edge_1 (by decide) ?_
  refine lv_iconst (v := 1) hx hb dX11_edge_2 (by decide) ?_
  refine o_callSi (k := 3) (EvB_ok z) X S (mX11_isWithin l x1 0 1 σ _ h) k_371 k_369 k_370 k_1 ⟨by decide, by decide, by decide +kernel⟩ ⟨rfl, rfl⟩ ⟨Nat.le_of_ble_eq_true rfl, Nat.le_of_ble_eq_true rfl⟩ rfl hl.1 rfl (Nat.le_of_ble_eq_true rfl) dX11_edge_3 (fun r_1 σ_2 H locs h S => ?_)
  refine lv_if_ne (tgt := 13) hx hb dX11_edge_6 (by decide) (fun q_3 => ?_) (fun q_3 => ?_)
  · replace h := h.2 q_3
    refine lv_aload_n hx hb dX11_edge_13 rfl (lv_at hl 0 rfl) ?_
    refine o_get X S 0 5 (by decide) rfl rfl in_11 (by decide) k_324 rfl dX11_edge_14 ?_
    refine o_get X S 4 3 (by decide) rfl rfl in_1 (by decide) k_140 rfl dX11_edge_17 ?_
    refine lv_iload_n hx hb dX11_edge_20 rfl (lv_at hl 1 rfl) ?_
    refine o_iald X S 7 0 (by decide) (fun _ => rfl) rfl h.1 dX11_edge_21 ?_
    replace h := h.2
    refine lv_topi (fun x3_4 ex3_4 => ?_)
    replace h := h x3_4 ex3_4
    refine lv_istore_n (lv' := [(3, .int x3_4), (0, .ref (ad 0)), (1, .int x1), (2, .int x2)]) hx hb dX11_edge_22 rfl hl (by decide) rfl (fun ls hl => ?_)
    refine lv_aload_n hx hb dX11_edge_23 rfl (lv_at hl 1 rfl) ?_
    refine o_get X S 0 5 (by decide) rfl rfl in_11 (by decide) k_324 rfl dX11_edge_24 ?_
    refine o_get X S 4 3 (by decide) rfl rfl in_1 (by decide) k_140 rfl dX11_edge_27 ?_
    refine lv_iload_n hx hb dX11_edge_30 rfl (lv_at hl 2 rfl) ?_
    refine lv_iload_n hx hb dX11_edge_31 rfl (lv_at hl 3 rfl) ?_
    refine o_iast X S 7 0 (by decide) (fun _ => rfl) rfl h.1 dX11_edge_32 (fun σ_5 H locs eσ_5 S => ?_)
    replace h := h.2 σ_5 eσ_5
    refine lv_iload_n hx hb dX11_edge_33 rfl (lv_at hl 0 rfl) ?_
    refine lv_i2l hx hb dX11_edge_34 rfl ?_
    exact o_lret X S hr h dX11_edge_35
  · replace h := h.1 q_3
    refine lv_ldc2 (v := (-9000000000000000001)) hx hb X.2.2.2.1 (X.2.2.2.2.1 _ k_372) dX11_edge_9 ?_
    exact o_lret X S hr h dX11_edge_12
def wX11_cell_b21 (σ : Sg) (Q : Int64 → Sg → Prop) : Prop :=
  Q (-9000000000000000001 : Int64) σ
def wX11_cell (x1 : Int32) (x2 : Int32) (σ : Sg) (Q : Int64 → Sg → Prop) : Prop :=
  (wX1_has x1 σ (fun r_1 σ_2 => ((r_1 = 0 → wX11_cell_b21 σ_2 Q) ∧ (¬ r_1 = 0 → (wX11_isWithin x2 0 40 σ_2 (fun r_4 σ_5 => ((r_4 = 0 → wX11_cell_b21 σ_5 Q) ∧ (¬ r_4 = 0 → (∀ T_7 : Nat, T_7 = (σ_5 0 3).toNatClampNeg → (isSten T_7 ∧ (wX2_run 36 T_7 6 x2 σ_5 (fun σ_9 => (wX2_behind 36 x2 x1 σ_9 (fun r_10 σ_11 => Q (r_10.toInt64) σ_11))))))))))))))
set_option maxHeartbeats 4000000 in
set_option maxRecDepth 100000 in
theorem mX11_cell_b21 {D : va_G} {cy : Nat → ClassId} {ad z : Nat → Nat} (l : Launch) {p : Program} {e : Env} {s : State} {m : MethodId} {args : Array Value} {below : List Frame} {meth : Method} {c : Code} {A : Nat → Prop} {Q : Int64 → Sg → Prop} (X : Fx D (tyB cy) (EvB z) p s m args meth c cX11_cell 3 "BackBay" A) (hr : meth.sig.returnType = some .long) {σ : Sg} {H : Heap} {locs : List Loc} {ls : Array Slot} (S : St D ad 75 (shB cy ad) A s σ H locs) (hl : lv_has ls 3 []) (h : wX11_cell_b21 σ Q) : W p l e ({ frames := 5, cells := 0, slots := 0, locals := 131 }) s m args below meth c H locs 0 0 (MQ below (va_Ql Q (PosW D (tyB cy) ad 75 (shB cy ad) A) A) args s 0 0 A) (F0 m 21 ls []) := by
  have hx := X.1
  have hb := X.2.1
  unfold wX11_cell_b21 at h
  refine lv_ldc2 (v := (-9000000000000000001)) hx hb X.2.2.2.1 (X.2.2.2.2.1 _ k_372) dX11_cell_21 ?_
  exact o_lret X S hr h dX11_cell_24
set_option maxHeartbeats 4000000 in
set_option maxRecDepth 100000 in
theorem mX11_cell {D : va_G} {cy : Nat → ClassId} {ad z : Nat → Nat} (l : Launch) (x1 : Int32) (x2 : Int32) (σ : Sg) (Q : Int64 → Sg → Prop) (h : wX11_cell x1 x2 σ Q) : MLB D cy ad z l yX11_cell (.code yX11_cell cX11_cell 3 (some .long) :: gT) ({ frames := 5, cells := 0, slots := 0, locals := 131 }) [.ref (ad 0), .int x1, .int x2] σ Q := by
  refine metL_of (by decide +kernel) (Nat.le_of_ble_eq_true rfl) ?_
  intro p e s m args below meth c A ls X hr hl S
  have X : Fx D (tyB cy) (EvB z) p s m args meth c cX11_cell 3 "BackBay" A := X
  have hl : lv_has ls 3 [(0, .ref (ad 0)), (1, .int x1), (2, .int x2)] := hl
  have hx := X.1
  have hb := X.2.1
  unfold wX11_cell at h
  refine lv_aload_n hx hb dX11_cell_0 rfl (lv_at hl 0 rfl) ?_
  refine o_get X S 0 5 (by decide) rfl rfl in_11 (by decide) k_324 rfl dX11_cell_1 ?_
  refine lv_iload_n hx hb dX11_cell_4 rfl (lv_at hl 1 rfl) ?_
  refine o_callVi (k := 1) (EvB_ok z) X S (mX1_has l x1 σ _ h) (by decide) rfl rfl k_566 k_563 k_564 k_565 k_4 ⟨rfl, by decide, by decide, by decide +kernel⟩ ⟨rfl, rfl⟩ ⟨Nat.le_of_ble_eq_true rfl, Nat.le_of_ble_eq_true rfl⟩ rfl hl.1 rfl (Nat.le_of_ble_eq_true rfl) dX11_cell_5 (fun r_1 σ_2 H locs h S => ?_)
  refine lv_if_eq (tgt := 21) hx hb dX11_cell_8 (by decide) (fun q_3 => ?_) (fun q_3 => ?_)
  · replace h := h.1 q_3
    exact mX11_cell_b21 l X hr S (lv_sub hl [] rfl) h
  · replace h := h.2 q_3
    refine lv_iload_n hx hb dX11_cell_11 rfl (lv_at hl 2 rfl) ?_
    refine lv_iconst (v := 0) hx hb dX11_cell_12 (by decide) ?_
    refine lv_bipush (v := 40) hx hb dX11_cell_13 (by decide) ?_
    refine o_callSi (k := 3) (EvB_ok z) X S (mX11_isWithin l x2 0 40 σ_2 _ h) k_371 k_369 k_370 k_1 ⟨by decide, by decide, by decide +kernel⟩ ⟨rfl, rfl⟩ ⟨Nat.le_of_ble_eq_true rfl, Nat.le_of_ble_eq_true rfl⟩ rfl hl.1 rfl (Nat.le_of_ble_eq_true rfl) dX11_cell_15 (fun r_4 σ_5 H locs h S => ?_)
    refine lv_if_ne (tgt := 25) hx hb dX11_cell_18 (by decide) (fun q_6 => ?_) (fun q_6 => ?_)
    · replace h := h.2 q_6
      refine lv_aload_n hx hb dX11_cell_25 rfl (lv_at hl 0 rfl) ?_
      refine o_get X S 0 8 (by decide) rfl rfl in_11 (by decide) k_327 rfl dX11_cell_26 ?_
      refine lv_aload_n hx hb dX11_cell_29 rfl (lv_at hl 0 rfl) ?_
      obtain ⟨T_7, eT_7⟩ : ∃ y : Nat, y = (σ_5 0 3).toNatClampNeg := ⟨_, rfl⟩
      refine o_get X S 0 3 (by decide) rfl rfl in_11 (by decide) k_322 (v := .ref (ad T_7)) (by rw [eT_7]; rfl) dX11_cell_30 ?_
      have hT_7 : isSten T_7 := (h T_7 eT_7).1
      replace h := (h T_7 eT_7).2
      refine lv_aload_n hx hb dX11_cell_33 rfl (lv_at hl 0 rfl) ?_
      refine o_get X S 0 5 (by decide) rfl rfl in_11 (by decide) k_324 rfl dX11_cell_34 ?_
      refine o_get X S 4 2 (by decide) rfl rfl in_1 (by decide) k_137 rfl dX11_cell_37 ?_
      refine lv_iload_n hx hb dX11_cell_40 rfl (lv_at hl 2 rfl) ?_
      refine o_callVv (k := 3) (EvB_ok z) X S (mX2_run l isCou_36 hT_7 isStr_6 x2 σ_5 _ h) (isCou_lt isCou_36 0 (by decide)) rfl rfl k_579 k_576 k_577 k_578 k_8 ⟨rfl, by decide, by decide, by decide +kernel⟩ ⟨rfl, rfl⟩ ⟨Nat.le_of_ble_eq_true rfl, Nat.le_of_ble_eq_true rfl⟩ rfl hl.1 rfl (Nat.le_of_ble_eq_true rfl) dX11_cell_41 (fun σ_9 H locs h S => ?_)
      refine lv_aload_n hx hb dX11_cell_44 rfl (lv_at hl 0 rfl) ?_
      refine o_get X S 0 8 (by decide) rfl rfl in_11 (by decide) k_327 rfl dX11_cell_45 ?_
      refine lv_iload_n hx hb dX11_cell_48 rfl (lv_at hl 2 rfl) ?_
      refine lv_iload_n hx hb dX11_cell_49 rfl (lv_at hl 1 rfl) ?_
      refine o_callVi (k := 2) (EvB_ok z) X S (mX2_behind l isCou_36 x2 x1 σ_9 _ h) (isCou_lt isCou_36 0 (by decide)) rfl rfl k_600 k_597 k_598 k_599 k_8 ⟨rfl, by decide, by decide, by decide +kernel⟩ ⟨rfl, rfl⟩ ⟨Nat.le_of_ble_eq_true rfl, Nat.le_of_ble_eq_true rfl⟩ rfl hl.1 rfl (Nat.le_of_ble_eq_true rfl) dX11_cell_50 (fun r_10 σ_11 H locs h S => ?_)
      refine lv_i2l hx hb dX11_cell_53 rfl ?_
      exact o_lret X S hr h dX11_cell_54
    · replace h := h.1 q_6
      exact mX11_cell_b21 l X hr S (lv_sub hl [] rfl) h
def wX11_gauge_b31 (σ : Sg) (Q : Int64 → Sg → Prop) : Prop :=
  Q (-9000000000000000001 : Int64) σ
def wX11_gauge (x1 : Int32) (x2 : Int32) (x3 : Int32) (x4 : Int32) (σ : Sg) (Q : Int64 → Sg → Prop) : Prop :=
  (wX11_isWithin x1 0 9 σ (fun r_1 σ_2 => ((r_1 = 0 → wX11_gauge_b31 σ_2 Q) ∧ (¬ r_1 = 0 → (wX11_isWithin x2 0 20 σ_2 (fun r_4 σ_5 => ((r_4 = 0 → wX11_gauge_b31 σ_5 Q) ∧ (¬ r_4 = 0 → (wX11_isWithin x3 (-9) 9 σ_5 (fun r_7 σ_8 => ((r_7 = 0 → wX11_gauge_b31 σ_8 Q) ∧ (¬ r_7 = 0 → (((σ_8 8 0) < 12 → (wX4_add x1 x2 x3 x4 σ_8 (fun σ_12 => Q ((σ_12 8 0).toInt64) σ_12))) ∧ (¬ (σ_8 8 0) < 12 → Q (-9000000000000000003 : Int64) σ_8))))))))))))))
set_option maxHeartbeats 4000000 in
set_option maxRecDepth 100000 in
theorem mX11_gauge_b31 {D : va_G} {cy : Nat → ClassId} {ad z : Nat → Nat} (l : Launch) {p : Program} {e : Env} {s : State} {m : MethodId} {args : Array Value} {below : List Frame} {meth : Method} {c : Code} {A : Nat → Prop} {Q : Int64 → Sg → Prop} (X : Fx D (tyB cy) (EvB z) p s m args meth c cX11_gauge 5 "BackBay" A) (hr : meth.sig.returnType = some .long) {σ : Sg} {H : Heap} {locs : List Loc} {ls : Array Slot} (S : St D ad 75 (shB cy ad) A s σ H locs) (hl : lv_has ls 5 []) (h : wX11_gauge_b31 σ Q) : W p l e ({ frames := 1, cells := 0, slots := 0, locals := 24 }) s m args below meth c H locs 0 0 (MQ below (va_Ql Q (PosW D (tyB cy) ad 75 (shB cy ad) A) A) args s 0 0 A) (F0 m 31 ls []) := by
  have hx := X.1
  have hb := X.2.1
  unfold wX11_gauge_b31 at h
  refine lv_ldc2 (v := (-9000000000000000001)) hx hb X.2.2.2.1 (X.2.2.2.2.1 _ k_372) dX11_gauge_31 ?_
  exact o_lret X S hr h dX11_gauge_34
set_option maxHeartbeats 4000000 in
set_option maxRecDepth 100000 in
theorem mX11_gauge {D : va_G} {cy : Nat → ClassId} {ad z : Nat → Nat} (l : Launch) (x1 : Int32) (x2 : Int32) (x3 : Int32) (x4 : Int32) (σ : Sg) (Q : Int64 → Sg → Prop) (h : wX11_gauge x1 x2 x3 x4 σ Q) : MLB D cy ad z l yX11_gauge (.code yX11_gauge cX11_gauge 5 (some .long) :: gT) ({ frames := 1, cells := 0, slots := 0, locals := 24 }) [.ref (ad 0), .int x1, .int x2, .int x3, .int x4] σ Q := by
  refine metL_of (by decide +kernel) (Nat.le_of_ble_eq_true rfl) ?_
  intro p e s m args below meth c A ls X hr hl S
  have X : Fx D (tyB cy) (EvB z) p s m args meth c cX11_gauge 5 "BackBay" A := X
  have hl : lv_has ls 5 [(0, .ref (ad 0)), (1, .int x1), (2, .int x2), (3, .int x3), (4, .int x4)] := hl
  have hx := X.1
  have hb := X.2.1
  unfold wX11_gauge at h
  refine lv_iload_n hx hb dX11_gauge_0 rfl (lv_at hl 1 rfl) ?_
  refine lv_iconst (v := 0) hx hb dX11_gauge_1 (by decide) ?_
  refine lv_bipush (v := 9) hx hb dX11_gauge_2 (by decide) ?_
  refine o_callSi (k := 3) (EvB_ok z) X S (mX11_isWithin l x1 0 9 σ _ h) k_371 k_369 k_370 k_1 ⟨by decide, by decide, by decide +kernel⟩ ⟨rfl, rfl⟩ ⟨Nat.le_of_ble_eq_true rfl, Nat.le_of_ble_eq_true rfl⟩ rfl hl.1 rfl (Nat.le_of_ble_eq_true rfl) dX11_gauge_4 (fun r_1 σ_2 H locs h S => ?_)
  refine lv_if_eq (tgt := 31) hx hb dX11_gauge_7 (by decide) (fun q_3 => ?_) (fun q_3 => ?_)
  · replace h := h.1 q_3
    exact mX11_gauge_b31 l X hr S (lv_sub hl [] rfl) h
  · replace h := h.2 q_3
    refine lv_iload_n hx hb dX11_gauge_10 rfl (lv_at hl 2 rfl) ?_
    refine lv_iconst (v := 0) hx hb dX11_gauge_11 (by decide) ?_
    refine lv_bipush (v := 20) hx hb dX11_gauge_12 (by decide) ?_
    refine o_callSi (k := 3) (EvB_ok z) X S (mX11_isWithin l x2 0 20 σ_2 _ h) k_371 k_369 k_370 k_1 ⟨by decide, by decide, by decide +kernel⟩ ⟨rfl, rfl⟩ ⟨Nat.le_of_ble_eq_true rfl, Nat.le_of_ble_eq_true rfl⟩ rfl hl.1 rfl (Nat.le_of_ble_eq_true rfl) dX11_gauge_14 (fun r_4 σ_5 H locs h S => ?_)
    refine lv_if_eq (tgt := 31) hx hb dX11_gauge_17 (by decide) (fun q_6 => ?_) (fun q_6 => ?_)
    · replace h := h.1 q_6
      exact mX11_gauge_b31 l X hr S (lv_sub hl [] rfl) h
    · replace h := h.2 q_6
      refine lv_iload_n hx hb dX11_gauge_20 rfl (lv_at hl 3 rfl) ?_
      refine lv_bipush (v := (-9)) hx hb dX11_gauge_21 (by decide) ?_
      refine lv_bipush (v := 9) hx hb dX11_gauge_23 (by decide) ?_
      refine o_callSi (k := 3) (EvB_ok z) X S (mX11_isWithin l x3 (-9) 9 σ_5 _ h) k_371 k_369 k_370 k_1 ⟨by decide, by decide, by decide +kernel⟩ ⟨rfl, rfl⟩ ⟨Nat.le_of_ble_eq_true rfl, Nat.le_of_ble_eq_true rfl⟩ rfl hl.1 rfl (Nat.le_of_ble_eq_true rfl) dX11_gauge_25 (fun r_7 σ_8 H locs h S => ?_)
      refine lv_if_ne (tgt := 35) hx hb dX11_gauge_28 (by decide) (fun q_9 => ?_) (fun q_9 => ?_)
      · replace h := h.2 q_9
        refine lv_aload_n hx hb dX11_gauge_35 rfl (lv_at hl 0 rfl) ?_
        refine o_get X S 0 6 (by decide) rfl rfl in_11 (by decide) k_325 rfl dX11_gauge_36 ?_
        refine o_get X S 8 0 (by decide) rfl rfl in_4 (by decide) k_157 rfl dX11_gauge_39 ?_
        refine lv_bipush (v := 12) hx hb dX11_gauge_42 (by decide) ?_
        refine lv_icmp_lt (tgt := 51) hx hb dX11_gauge_44 (by decide) (fun q_10 => ?_) (fun q_10 => ?_)
        · replace h := h.1 q_10
          refine lv_aload_n hx hb dX11_gauge_51 rfl (lv_at hl 0 rfl) ?_
          refine o_get X S 0 6 (by decide) rfl rfl in_11 (by decide) k_325 rfl dX11_gauge_52 ?_
          refine lv_iload_n hx hb dX11_gauge_55 rfl (lv_at hl 1 rfl) ?_
          refine lv_iload_n hx hb dX11_gauge_56 rfl (lv_at hl 2 rfl) ?_
          refine lv_iload_n hx hb dX11_gauge_57 rfl (lv_at hl 3 rfl) ?_
          refine lv_iload hx hb dX11_gauge_58 (lv_at hl 4 rfl) ?_
          refine o_callVv (k := 4) (EvB_ok z) X S (mX4_add l x1 x2 x3 x4 σ_8 _ h) (by decide) rfl rfl k_608 k_605 k_606 k_607 k_6 ⟨rfl, by decide, by decide, by decide +kernel⟩ ⟨rfl, rfl⟩ ⟨Nat.le_of_ble_eq_true rfl, Nat.le_of_ble_eq_true rfl⟩ rfl hl.1 rfl (Nat.le_of_ble_eq_true rfl) dX11_gauge_60 (fun σ_12 H locs h S => ?_)
          refine lv_aload_n hx hb dX11_gauge_63 rfl (lv_at hl 0 rfl) ?_
          refine o_get X S 0 6 (by decide) rfl rfl in_11 (by decide) k_325 rfl dX11_gauge_64 ?_
          refine o_get X S 8 0 (by decide) rfl rfl in_4 (by decide) k_157 rfl dX11_gauge_67 ?_
          refine lv_i2l hx hb dX11_gauge_70 rfl ?_
          exact o_lret X S hr h dX11_gauge_71
        · replace h := h.2 q_10
          refine lv_ldc2 (v := (-9000000000000000003)) hx hb X.2.2.2.1 (X.2.2.2.2.1 _ k_414) dX11_gauge_47 ?_
          exact o_lret X S hr h dX11_gauge_50
      · replace h := h.1 q_9
        exact mX11_gauge_b31 l X hr S (lv_sub hl [] rfl) h
def wX11_out_b26 (σ : Sg) (Q : Int64 → Sg → Prop) : Prop :=
  Q (-9000000000000000001 : Int64) σ
def wX11_out_b48 (y0 : Int32) (y1 : Int32) (σ : Sg) (Q : Int64 → Sg → Prop) : Prop :=
  (vp_in y1 12 ∧ ∀ σ_8, σ_8 = sto σ 9 y1.toNatClampNeg (vp_nar .boolean y0) → Q (1 : Int64) σ_8)
def wX11_out (x1 : Int32) (x2 : Int32) (σ : Sg) (Q : Int64 → Sg → Prop) : Prop :=
  (wX11_isWithin x1 0 ((σ 8 0) - 1) σ (fun r_1 σ_2 => ((r_1 = 0 → wX11_out_b26 σ_2 Q) ∧ (¬ r_1 = 0 → (wX11_isWithin x2 0 1 σ_2 (fun r_4 σ_5 => ((r_4 = 0 → wX11_out_b26 σ_5 Q) ∧ (¬ r_4 = 0 → ((x2 = 1 → wX11_out_b48 1 x1 σ_5 Q) ∧ (¬ x2 = 1 → wX11_out_b48 0 x1 σ_5 Q))))))))))
set_option maxHeartbeats 4000000 in
set_option maxRecDepth 100000 in
theorem mX11_out_b26 {D : va_G} {cy : Nat → ClassId} {ad z : Nat → Nat} (l : Launch) {p : Program} {e : Env} {s : State} {m : MethodId} {args : Array Value} {below : List Frame} {meth : Method} {c : Code} {A : Nat → Prop} {Q : Int64 → Sg → Prop} (X : Fx D (tyB cy) (EvB z) p s m args meth c cX11_out 3 "BackBay" A) (hr : meth.sig.returnType = some .long) {σ : Sg} {H : Heap} {locs : List Loc} {ls : Array Slot} (S : St D ad 75 (shB cy ad) A s σ H locs) (hl : lv_has ls 3 []) (h : wX11_out_b26 σ Q) : W p l e ({ frames := 1, cells := 0, slots := 0, locals := 22 }) s m args below meth c H locs 0 0 (MQ below (va_Ql Q (PosW D (tyB cy) ad 75 (shB cy ad) A) A) args s 0 0 A) (F0 m 26 ls []) := by
  have hx := X.1
  have hb := X.2.1
  unfold wX11_out_b26 at h
  refine lv_ldc2 (v := (-9000000000000000001)) hx hb X.2.2.2.1 (X.2.2.2.2.1 _ k_372) dX11_out_26 ?_
  exact o_lret X S hr h dX11_out_29
set_option maxHeartbeats 4000000 in
set_option maxRecDepth 100000 in
theorem mX11_out_b48 {D : va_G} {cy : Nat → ClassId} {ad z : Nat → Nat} (l : Launch) {p : Program} {e : Env} {s : State} {m : MethodId} {args : Array Value} {below : List Frame} {meth : Method} {c : Code} {A : Nat → Prop} {Q : Int64 → Sg → Prop} (X : Fx D (tyB cy) (EvB z) p s m args meth c cX11_out 3 "BackBay" A) (hr : meth.sig.returnType = some .long) (y0 : Int32) (y1 : Int32) {σ : Sg} {H : Heap} {locs : List Loc} {ls : Array Slot} (S : St D ad 75 (shB cy ad) A s σ H locs) (hl : lv_has ls 3 []) (h : wX11_out_b48 y0 y1 σ Q) : W p l e ({ frames := 1, cells := 0, slots := 0, locals := 22 }) s m args below meth c H locs 0 0 (MQ below (va_Ql Q (PosW D (tyB cy) ad 75 (shB cy ad) A) A) args s 0 0 A) (F0 m 48 ls [.int y0, .int y1, .ref (ad 9)]) := by
  have hx := X.1
  have hb := X.2.1
  unfold wX11_out_b48 at h
  refine o_zast X S 9 1 (by decide) (fun _ => rfl) rfl h.1 dX11_out_48 (fun σ_8 H locs eσ_8 S => ?_)
  replace h := h.2 σ_8 eσ_8
  refine lv_lconst (v := 1) hx hb dX11_out_49 (by decide) ?_
  exact o_lret X S hr h dX11_out_50
set_option maxHeartbeats 4000000 in
set_option maxRecDepth 100000 in
theorem mX11_out {D : va_G} {cy : Nat → ClassId} {ad z : Nat → Nat} (l : Launch) (x1 : Int32) (x2 : Int32) (σ : Sg) (Q : Int64 → Sg → Prop) (h : wX11_out x1 x2 σ Q) : MLB D cy ad z l yX11_out (.code yX11_out cX11_out 3 (some .long) :: gT) ({ frames := 1, cells := 0, slots := 0, locals := 22 }) [.ref (ad 0), .int x1, .int x2] σ Q := by
  refine metL_of (by decide +kernel) (Nat.le_of_ble_eq_true rfl) ?_
  intro p e s m args below meth c A ls X hr hl S
  have X : Fx D (tyB cy) (EvB z) p s m args meth c cX11_out 3 "BackBay" A := X
  have hl : lv_has ls 3 [(0, .ref (ad 0)), (1, .int x1), (2, .int x2)] := hl
  have hx := X.1
  have hb := X.2.1
  unfold wX11_out at h
  refine lv_iload_n hx hb dX11_out_0 rfl (lv_at hl 1 rfl) ?_
  refine lv_iconst (v := 0) hx hb dX11_out_1 (by decide) ?_
  refine lv_aload_n hx hb dX11_out_2 rfl (lv_at hl 0 rfl) ?_
  refine o_get X S 0 6 (by decide) rfl rfl in_11 (by decide) k_325 rfl dX11_out_3 ?_
  refine o_get X S 8 0 (by decide) rfl rfl in_4 (by decide) k_157 rfl dX11_out_6 ?_
  refine lv_iconst (v := 1) hx hb dX11_out_9 (by decide) ?_
  refine lv_isub hx hb dX11_out_10 ?_
  refine o_callSi (k := 3) (EvB_ok z) X S (mX11_isWithin l x1 0 ((σ 8 0) - 1) σ _ h) k_371 k_369 k_370 k_1 ⟨by decide, by decide, by decide +kernel⟩ ⟨rfl, rfl⟩ ⟨Nat.le_of_ble_eq_true rfl, Nat.le_of_ble_eq_true rfl⟩ rfl hl.1 rfl (Nat.le_of_ble_eq_true rfl) dX11_out_11 (fun r_1 σ_2 H locs h S => ?_)
  refine lv_if_eq (tgt := 26) hx hb dX11_out_14 (by decide) (fun q_3 => ?_) (fun q_3 => ?_)
  · replace h := h.1 q_3
    exact mX11_out_b26 l X hr S (lv_sub hl [] rfl) h
  · replace h := h.2 q_3
    refine lv_iload_n hx hb dX11_out_17 rfl (lv_at hl 2 rfl) ?_
    refine lv_iconst (v := 0) hx hb dX11_out_18 (by decide) ?_
    refine lv_iconst (v := 1) hx hb dX11_out_19 (by decide) ?_
    refine o_callSi (k := 3) (EvB_ok z) X S (mX11_isWithin l x2 0 1 σ_2 _ h) k_371 k_369 k_370 k_1 ⟨by decide, by decide, by decide +kernel⟩ ⟨rfl, rfl⟩ ⟨Nat.le_of_ble_eq_true rfl, Nat.le_of_ble_eq_true rfl⟩ rfl hl.1 rfl (Nat.le_of_ble_eq_true rfl) dX11_out_20 (fun r_4 σ_5 H locs h S => ?_)
    refine lv_if_ne (tgt := 30) hx hb dX11_out_23 (by decide) (fun q_6 => ?_) (fun q_6 => ?_)
    · replace h := h.2 q_6
      refine lv_aload_n hx hb dX11_out_30 rfl (lv_at hl 0 rfl) ?_
      refine o_get X S 0 6 (by decide) rfl rfl in_11 (by decide) k_325 rfl dX11_out_31 ?_
      refine o_get X S 8 1 (by decide) rfl rfl in_4 (by decide) k_159 rfl dX11_out_34 ?_
      refine lv_iload_n hx hb dX11_out_37 rfl (lv_at hl 1 rfl) ?_
      refine lv_iload_n hx hb dX11_out_38 rfl (lv_at hl 2 rfl) ?_
      refine lv_iconst (v := 1) hx hb dX11_out_39 (by decide) ?_
      refine lv_icmp_ne (tgt := 47) hx hb dX11_out_40 (by decide) (fun q_7 => ?_) (fun q_7 => ?_)
      · replace h := h.2 q_7
        refine lv_iconst (v := 0) hx hb dX11_out_47 (by decide) ?_
        exact mX11_out_b48 l X hr 0 x1 S (lv_sub hl [] rfl) h
      · replace h := h.1 q_7
        refine lv_iconst (v := 1) hx hb dX11_out_43 (by decide) ?_
        refine lv_goto (tgt := 48) hx hb dX11_out_44 (by decide) ?_
        exact mX11_out_b48 l X hr 1 x1 S (lv_sub hl [] rfl) h
    · replace h := h.1 q_6
      exact mX11_out_b26 l X hr S (lv_sub hl [] rfl) h
def wX11_wish (x1 : Int32) (σ : Sg) (Q : Int64 → Sg → Prop) : Prop :=
  ((x1 = 0 → (wX11_wishNow σ (fun r_2 σ_3 => Q (r_2.toInt64) σ_3))) ∧ (¬ x1 = 0 → ((x1 = 1 → (wX4_last (σ 4 0) σ (fun r_5 σ_6 => Q (r_5.toInt64) σ_6))) ∧ (¬ x1 = 1 → ((x1 = 2 → (wX11_knotsNow σ (fun r_8 σ_9 => Q (r_8.toInt64) σ_9))) ∧ (¬ x1 = 2 → Q (-9000000000000000001 : Int64) σ))))))
set_option maxHeartbeats 4000000 in
set_option maxRecDepth 100000 in
theorem mX11_wish {D : va_G} {cy : Nat → ClassId} {ad z : Nat → Nat} (l : Launch) (x1 : Int32) (σ : Sg) (Q : Int64 → Sg → Prop) (h : wX11_wish x1 σ Q) : MLB D cy ad z l yX11_wish (.code yX11_wish cX11_wish 2 (some .long) :: gT) ({ frames := 7, cells := 0, slots := 0, locals := 174 }) [.ref (ad 0), .int x1] σ Q := by
  refine metL_of (by decide +kernel) (Nat.le_of_ble_eq_true rfl) ?_
  intro p e s m args below meth c A ls X hr hl S
  have X : Fx D (tyB cy) (EvB z) p s m args meth c cX11_wish 2 "BackBay" A := X
  have hl : lv_has ls 2 [(0, .ref (ad 0)), (1, .int x1)] := hl
  have hx := X.1
  have hb := X.2.1
  unfold wX11_wish at h
  refine lv_iload_n hx hb dX11_wish_0 rfl (lv_at hl 1 rfl) ?_
  by_cases q_1 : x1 = 0
  · refine lv_tableIn (tgt := 28) hx hb dX11_wish_1 (by rw [q_1] <;> decide) (by rw [q_1] <;> decide) (by rw [q_1] <;> rfl) (by decide) ?_
    replace h := h.1 q_1
    refine lv_aload_n hx hb dX11_wish_28 rfl (lv_at hl 0 rfl) ?_
    refine o_callVi (k := 0) (EvB_ok z) X S (mX11_wishNow l σ _ h) (by decide) rfl rfl k_620 k_617 k_619 ks_13 k_1 ⟨rfl, by decide, by decide, by decide +kernel⟩ ⟨rfl, rfl⟩ ⟨Nat.le_of_ble_eq_true rfl, Nat.le_of_ble_eq_true rfl⟩ rfl hl.1 rfl (Nat.le_of_ble_eq_true rfl) dX11_wish_29 (fun r_2 σ_3 H locs h S => ?_)
    refine lv_i2l hx hb dX11_wish_32 rfl ?_
    exact o_lret X S hr h dX11_wish_33
  replace h := h.2 q_1
  by_cases q_4 : x1 = 1
  · refine lv_tableIn (tgt := 34) hx hb dX11_wish_1 (by rw [q_4] <;> decide) (by rw [q_4] <;> decide) (by rw [q_4] <;> rfl) (by decide) ?_
    replace h := h.1 q_4
    refine lv_aload_n hx hb dX11_wish_34 rfl (lv_at hl 0 rfl) ?_
    refine o_get X S 0 6 (by decide) rfl rfl in_11 (by decide) k_325 rfl dX11_wish_35 ?_
    refine lv_aload_n hx hb dX11_wish_38 rfl (lv_at hl 0 rfl) ?_
    refine o_get X S 0 5 (by decide) rfl rfl in_11 (by decide) k_324 rfl dX11_wish_39 ?_
    refine o_get X S 4 0 (by decide) rfl rfl in_1 (by decide) k_130 rfl dX11_wish_42 ?_
    refine o_callVi (k := 1) (EvB_ok z) X S (mX4_last l (σ 4 0) σ _ h) (by decide) rfl rfl k_628 k_625 k_626 k_627 k_6 ⟨rfl, by decide, by decide, by decide +kernel⟩ ⟨rfl, rfl⟩ ⟨Nat.le_of_ble_eq_true rfl, Nat.le_of_ble_eq_true rfl⟩ rfl hl.1 rfl (Nat.le_of_ble_eq_true rfl) dX11_wish_45 (fun r_5 σ_6 H locs h S => ?_)
    refine lv_i2l hx hb dX11_wish_48 rfl ?_
    exact o_lret X S hr h dX11_wish_49
  replace h := h.2 q_4
  by_cases q_7 : x1 = 2
  · refine lv_tableIn (tgt := 50) hx hb dX11_wish_1 (by rw [q_7] <;> decide) (by rw [q_7] <;> decide) (by rw [q_7] <;> rfl) (by decide) ?_
    replace h := h.1 q_7
    refine lv_aload_n hx hb dX11_wish_50 rfl (lv_at hl 0 rfl) ?_
    refine o_callVi (k := 0) (EvB_ok z) X S (mX11_knotsNow l σ _ h) (by decide) rfl rfl k_648 k_645 k_647 ks_17 k_1 ⟨rfl, by decide, by decide, by decide +kernel⟩ ⟨rfl, rfl⟩ ⟨Nat.le_of_ble_eq_true rfl, Nat.le_of_ble_eq_true rfl⟩ rfl hl.1 rfl (Nat.le_of_ble_eq_true rfl) dX11_wish_51 (fun r_8 σ_9 H locs h S => ?_)
    refine lv_i2l hx hb dX11_wish_54 rfl ?_
    exact o_lret X S hr h dX11_wish_55
  replace h := h.2 q_7
  refine lv_tableOut (tgt := 56) hx hb dX11_wish_1 (by have r0 := lv_neT (a := 0) q_1 rfl; have r1 := lv_neT (a := 1) q_4 rfl; have r2 := lv_neT (a := 2) q_7 rfl; omega) (by decide) ?_
  refine lv_ldc2 (v := (-9000000000000000001)) hx hb X.2.2.2.1 (X.2.2.2.2.1 _ k_372) dX11_wish_56 ?_
  exact o_lret X S hr h dX11_wish_59
def wX11_slope_b142 (y0 : Int64) (σ : Sg) (Q : Int64 → Sg → Prop) : Prop :=
  Q y0 σ
def wX11_slope_b35 (x1 : Int32) (x2 : Int32) (y0 : Int32) (σ : Sg) (Q : Int64 → Sg → Prop) : Prop :=
  ((y0 = 0 → Q (-9000000000000000001 : Int64) σ) ∧ (¬ y0 = 0 → (∀ T_8 : Nat, T_8 = (σ 0 3).toNatClampNeg → (isSten T_8 ∧ (wX4_last (σ 4 0) σ (fun r_9 σ_10 => (wX2_run 36 T_8 6 r_9 σ_10 (fun σ_12 => (∀ T_13 : Nat, T_13 = (σ_12 0 3).toNatClampNeg → (isSten T_13 ∧ (wX7_goBack T_13 36 σ_12 (fun σ_15 => ((x1 = 0 → (vp_in x2 10 ∧ Q ((σ_15 41 x2.toNatClampNeg).toInt64) σ_15)) ∧ (¬ x1 = 0 → ((x1 = 1 → (vp_in x2 10 ∧ wX11_slope_b142 ((σ_15 42 x2.toNatClampNeg).toInt64) σ_15 Q)) ∧ (¬ x1 = 1 → (vp_in x2 2 ∧ wX11_slope_b142 ((σ_15 43 x2.toNatClampNeg).toInt64) σ_15 Q)))))))))))))))))
def wX11_slope (x1 : Int32) (x2 : Int32) (σ : Sg) (Q : Int64 → Sg → Prop) : Prop :=
  (wX11_isWithin x1 0 2 σ (fun r_1 σ_2 => ((r_1 = 0 → Q (-9000000000000000001 : Int64) σ_2) ∧ (¬ r_1 = 0 → ((x1 = 2 → (wX11_isWithin x2 0 1 σ_2 (fun r_18 σ_19 => wX11_slope_b35 x1 x2 r_18 σ_19 Q))) ∧ (¬ x1 = 2 → (wX1_has x2 σ_2 (fun r_5 σ_6 => wX11_slope_b35 x1 x2 r_5 σ_6 Q))))))))
set_option maxHeartbeats 4000000 in
set_option maxRecDepth 100000 in
theorem mX11_slope_b142 {D : va_G} {cy : Nat → ClassId} {ad z : Nat → Nat} (l : Launch) {p : Program} {e : Env} {s : State} {m : MethodId} {args : Array Value} {below : List Frame} {meth : Method} {c : Code} {A : Nat → Prop} {Q : Int64 → Sg → Prop} (X : Fx D (tyB cy) (EvB z) p s m args meth c cX11_slope 4 "BackBay" A) (hr : meth.sig.returnType = some .long) (y0 : Int64) {σ : Sg} {H : Heap} {locs : List Loc} {ls : Array Slot} (S : St D ad 75 (shB cy ad) A s σ H locs) (hl : lv_has ls 4 []) (h : wX11_slope_b142 y0 σ Q) : W p l e ({ frames := 6, cells := 0, slots := 0, locals := 158 }) s m args below meth c H locs 0 0 (MQ below (va_Ql Q (PosW D (tyB cy) ad 75 (shB cy ad) A) A) args s 0 0 A) (F0 m 142 ls [.long y0]) := by
  have hx := X.1
  have hb := X.2.1
  unfold wX11_slope_b142 at h
  exact o_lret X S hr h dX11_slope_142
set_option maxHeartbeats 4000000 in
set_option maxRecDepth 100000 in
theorem mX11_slope_b35 {D : va_G} {cy : Nat → ClassId} {ad z : Nat → Nat} (l : Launch) {p : Program} {e : Env} {s : State} {m : MethodId} {args : Array Value} {below : List Frame} {meth : Method} {c : Code} {A : Nat → Prop} {Q : Int64 → Sg → Prop} (X : Fx D (tyB cy) (EvB z) p s m args meth c cX11_slope 4 "BackBay" A) (hr : meth.sig.returnType = some .long) (x1 : Int32) (x2 : Int32) (y0 : Int32) {σ : Sg} {H : Heap} {locs : List Loc} {ls : Array Slot} (S : St D ad 75 (shB cy ad) A s σ H locs) (hl : lv_has ls 4 [(0, .ref (ad 0)), (1, .int x1), (2, .int x2)]) (h : wX11_slope_b35 x1 x2 y0 σ Q) : W p l e ({ frames := 6, cells := 0, slots := 0, locals := 158 }) s m args below meth c H locs 0 0 (MQ below (va_Ql Q (PosW D (tyB cy) ad 75 (shB cy ad) A) A) args s 0 0 A) (F0 m 35 ls [.int y0]) := by
  have hx := X.1
  have hb := X.2.1
  unfold wX11_slope_b35 at h
  refine lv_istore_n (lv' := [(3, .int y0), (0, .ref (ad 0)), (1, .int x1), (2, .int x2)]) hx hb dX11_slope_35 rfl hl (by decide) rfl (fun ls hl => ?_)
  refine lv_iload_n hx hb dX11_slope_36 rfl (lv_at hl 0 rfl) ?_
  refine lv_if_ne (tgt := 44) hx hb dX11_slope_37 (by decide) (fun q_7 => ?_) (fun q_7 => ?_)
  · replace h := h.2 q_7
    refine lv_aload_n hx hb dX11_slope_44 rfl (lv_at hl 1 rfl) ?_
    refine o_get X S 0 8 (by decide) rfl rfl in_11 (by decide) k_327 rfl dX11_slope_45 ?_
    refine lv_aload_n hx hb dX11_slope_48 rfl (lv_at hl 1 rfl) ?_
    obtain ⟨T_8, eT_8⟩ : ∃ y : Nat, y = (σ 0 3).toNatClampNeg := ⟨_, rfl⟩
    refine o_get X S 0 3 (by decide) rfl rfl in_11 (by decide) k_322 (v := .ref (ad T_8)) (by rw [eT_8]; rfl) dX11_slope_49 ?_
    have hT_8 : isSten T_8 := (h T_8 eT_8).1
    replace h := (h T_8 eT_8).2
    refine lv_aload_n hx hb dX11_slope_52 rfl (lv_at hl 1 rfl) ?_
    refine o_get X S 0 5 (by decide) rfl rfl in_11 (by decide) k_324 rfl dX11_slope_53 ?_
    refine o_get X S 4 2 (by decide) rfl rfl in_1 (by decide) k_137 rfl dX11_slope_56 ?_
    refine lv_aload_n hx hb dX11_slope_59 rfl (lv_at hl 1 rfl) ?_
    refine o_get X S 0 6 (by decide) rfl rfl in_11 (by decide) k_325 rfl dX11_slope_60 ?_
    refine lv_aload_n hx hb dX11_slope_63 rfl (lv_at hl 1 rfl) ?_
    refine o_get X S 0 5 (by decide) rfl rfl in_11 (by decide) k_324 rfl dX11_slope_64 ?_
    refine o_get X S 4 0 (by decide) rfl rfl in_1 (by decide) k_130 rfl dX11_slope_67 ?_
    refine o_callVi (k := 1) (EvB_ok z) X S (mX4_last l (σ 4 0) σ _ h) (by decide) rfl rfl k_628 k_625 k_626 k_627 k_6 ⟨rfl, by decide, by decide, by decide +kernel⟩ ⟨rfl, rfl⟩ ⟨Nat.le_of_ble_eq_true rfl, Nat.le_of_ble_eq_true rfl⟩ rfl hl.1 rfl (Nat.le_of_ble_eq_true rfl) dX11_slope_70 (fun r_9 σ_10 H locs h S => ?_)
    refine o_callVv (k := 3) (EvB_ok z) X S (mX2_run l isCou_36 hT_8 isStr_6 r_9 σ_10 _ h) (isCou_lt isCou_36 0 (by decide)) rfl rfl k_579 k_576 k_577 k_578 k_8 ⟨rfl, by decide, by decide, by decide +kernel⟩ ⟨rfl, rfl⟩ ⟨Nat.le_of_ble_eq_true rfl, Nat.le_of_ble_eq_true rfl⟩ rfl hl.1 rfl (Nat.le_of_ble_eq_true rfl) dX11_slope_73 (fun σ_12 H locs h S => ?_)
    refine lv_aload_n hx hb dX11_slope_76 rfl (lv_at hl 1 rfl) ?_
    refine o_get X S 0 10 (by decide) rfl rfl in_11 (by decide) k_329 rfl dX11_slope_77 ?_
    refine lv_aload_n hx hb dX11_slope_80 rfl (lv_at hl 1 rfl) ?_
    obtain ⟨T_13, eT_13⟩ : ∃ y : Nat, y = (σ_12 0 3).toNatClampNeg := ⟨_, rfl⟩
    refine o_get X S 0 3 (by decide) rfl rfl in_11 (by decide) k_322 (v := .ref (ad T_13)) (by rw [eT_13]; rfl) dX11_slope_81 ?_
    have hT_13 : isSten T_13 := (h T_13 eT_13).1
    replace h := (h T_13 eT_13).2
    refine lv_aload_n hx hb dX11_slope_84 rfl (lv_at hl 1 rfl) ?_
    refine o_get X S 0 5 (by decide) rfl rfl in_11 (by decide) k_324 rfl dX11_slope_85 ?_
    refine lv_aload_n hx hb dX11_slope_88 rfl (lv_at hl 1 rfl) ?_
    refine o_get X S 0 6 (by decide) rfl rfl in_11 (by decide) k_325 rfl dX11_slope_89 ?_
    refine lv_aload_n hx hb dX11_slope_92 rfl (lv_at hl 1 rfl) ?_
    refine o_get X S 0 8 (by decide) rfl rfl in_11 (by decide) k_327 rfl dX11_slope_93 ?_
    refine o_callVv (k := 4) (EvB_ok z) X S (mX7_goBack l hT_13 isCou_36 σ_12 _ h) (by decide) rfl rfl k_664 k_661 k_662 k_663 k_9 ⟨rfl, by decide, by decide, by decide +kernel⟩ ⟨rfl, rfl⟩ ⟨Nat.le_of_ble_eq_true rfl, Nat.le_of_ble_eq_true rfl⟩ rfl hl.1 rfl (Nat.le_of_ble_eq_true rfl) dX11_slope_96 (fun σ_15 H locs h S => ?_)
    refine lv_iload_n hx hb dX11_slope_99 rfl (lv_at hl 2 rfl) ?_
    refine lv_if_ne (tgt := 114) hx hb dX11_slope_100 (by decide) (fun q_16 => ?_) (fun q_16 => ?_)
    · replace h := h.2 q_16
      refine lv_iload_n hx hb dX11_slope_114 rfl (lv_at hl 2 rfl) ?_
      refine lv_iconst (v := 1) hx hb dX11_slope_115 (by decide) ?_
      refine lv_icmp_ne (tgt := 132) hx hb dX11_slope_116 (by decide) (fun q_17 => ?_) (fun q_17 => ?_)
      · replace h := h.2 q_17
        refine lv_aload_n hx hb dX11_slope_132 rfl (lv_at hl 1 rfl) ?_
        refine o_get X S 0 10 (by decide) rfl rfl in_11 (by decide) k_329 rfl dX11_slope_133 ?_
        refine o_get X S 40 2 (by decide) rfl rfl in_7 (by decide) k_232 rfl dX11_slope_136 ?_
        refine lv_iload_n hx hb dX11_slope_139 rfl (lv_at hl 3 rfl) ?_
        refine o_iald X S 43 0 (by decide) (fun _ => rfl) rfl h.1 dX11_slope_140 ?_
        replace h := h.2
        refine lv_i2l hx hb dX11_slope_141 rfl ?_
        exact mX11_slope_b142 l X hr ((σ_15 43 x2.toNatClampNeg).toInt64) S (lv_sub hl [] rfl) h
      · replace h := h.1 q_17
        refine lv_aload_n hx hb dX11_slope_119 rfl (lv_at hl 1 rfl) ?_
        refine o_get X S 0 10 (by decide) rfl rfl in_11 (by decide) k_329 rfl dX11_slope_120 ?_
        refine o_get X S 40 1 (by decide) rfl rfl in_7 (by decide) k_230 rfl dX11_slope_123 ?_
        refine lv_iload_n hx hb dX11_slope_126 rfl (lv_at hl 3 rfl) ?_
        refine o_iald X S 42 0 (by decide) (fun _ => rfl) rfl h.1 dX11_slope_127 ?_
        replace h := h.2
        refine lv_i2l hx hb dX11_slope_128 rfl ?_
        refine lv_goto (tgt := 142) hx hb dX11_slope_129 (by decide) ?_
        exact mX11_slope_b142 l X hr ((σ_15 42 x2.toNatClampNeg).toInt64) S (lv_sub hl [] rfl) h
    · replace h := h.1 q_16
      refine lv_aload_n hx hb dX11_slope_103 rfl (lv_at hl 1 rfl) ?_
      refine o_get X S 0 10 (by decide) rfl rfl in_11 (by decide) k_329 rfl dX11_slope_104 ?_
      refine o_get X S 40 0 (by decide) rfl rfl in_7 (by decide) k_228 rfl dX11_slope_107 ?_
      refine lv_iload_n hx hb dX11_slope_110 rfl (lv_at hl 3 rfl) ?_
      refine o_iald X S 41 0 (by decide) (fun _ => rfl) rfl h.1 dX11_slope_111 ?_
      replace h := h.2
      refine lv_i2l hx hb dX11_slope_112 rfl ?_
      exact o_lret X S hr h dX11_slope_113
  · replace h := h.1 q_7
    refine lv_ldc2 (v := (-9000000000000000001)) hx hb X.2.2.2.1 (X.2.2.2.2.1 _ k_372) dX11_slope_40 ?_
    exact o_lret X S hr h dX11_slope_43
set_option maxHeartbeats 4000000 in
set_option maxRecDepth 100000 in
theorem mX11_slope {D : va_G} {cy : Nat → ClassId} {ad z : Nat → Nat} (l : Launch) (x1 : Int32) (x2 : Int32) (σ : Sg) (Q : Int64 → Sg → Prop) (h : wX11_slope x1 x2 σ Q) : MLB D cy ad z l yX11_slope (.code yX11_slope cX11_slope 4 (some .long) :: gT) ({ frames := 6, cells := 0, slots := 0, locals := 158 }) [.ref (ad 0), .int x1, .int x2] σ Q := by
  refine metL_of (by decide +kernel) (Nat.le_of_ble_eq_true rfl) ?_
  intro p e s m args below meth c A ls X hr hl S
  have X : Fx D (tyB cy) (EvB z) p s m args meth c cX11_slope 4 "BackBay" A := X
  have hl : lv_has ls 4 [(0, .ref (ad 0)), (1, .int x1), (2, .int x2)] := hl
  have hx := X.1
  have hb := X.2.1
  unfold wX11_slope at h
  refine lv_iload_n hx hb dX11_slope_0 rfl (lv_at hl 1 rfl) ?_
  refine lv_iconst (v := 0) hx hb dX11_slope_1 (by decide) ?_
  refine lv_iconst (v := 2) hx hb dX11_slope_2 (by decide) ?_
  refine o_callSi (k := 3) (EvB_ok z) X S (mX11_isWithin l x1 0 2 σ _ h) k_371 k_369 k_370 k_1 ⟨by decide, by decide, by decide +kernel⟩ ⟨rfl, rfl⟩ ⟨Nat.le_of_ble_eq_true rfl, Nat.le_of_ble_eq_true rfl⟩ rfl hl.1 rfl (Nat.le_of_ble_eq_true rfl) dX11_slope_3 (fun r_1 σ_2 H locs h S => ?_)
  refine lv_if_ne (tgt := 13) hx hb dX11_slope_6 (by decide) (fun q_3 => ?_) (fun q_3 => ?_)
  · replace h := h.2 q_3
    refine lv_iload_n hx hb dX11_slope_13 rfl (lv_at hl 1 rfl) ?_
    refine lv_iconst (v := 2) hx hb dX11_slope_14 (by decide) ?_
    refine lv_icmp_ne (tgt := 27) hx hb dX11_slope_15 (by decide) (fun q_4 => ?_) (fun q_4 => ?_)
    · replace h := h.2 q_4
      refine lv_aload_n hx hb dX11_slope_27 rfl (lv_at hl 0 rfl) ?_
      refine o_get X S 0 5 (by decide) rfl rfl in_11 (by decide) k_324 rfl dX11_slope_28 ?_
      refine lv_iload_n hx hb dX11_slope_31 rfl (lv_at hl 2 rfl) ?_
      refine o_callVi (k := 1) (EvB_ok z) X S (mX1_has l x2 σ_2 _ h) (by decide) rfl rfl k_566 k_563 k_564 k_565 k_4 ⟨rfl, by decide, by decide, by decide +kernel⟩ ⟨rfl, rfl⟩ ⟨Nat.le_of_ble_eq_true rfl, Nat.le_of_ble_eq_true rfl⟩ rfl hl.1 rfl (Nat.le_of_ble_eq_true rfl) dX11_slope_32 (fun r_5 σ_6 H locs h S => ?_)
      exact mX11_slope_b35 l X hr x1 x2 r_5 S (lv_sub hl [0, 1, 2] rfl) h
    · replace h := h.1 q_4
      refine lv_iload_n hx hb dX11_slope_18 rfl (lv_at hl 2 rfl) ?_
      refine lv_iconst (v := 0) hx hb dX11_slope_19 (by decide) ?_
      refine lv_iconst (v := 1) hx hb dX11_slope_20 (by decide) ?_
      refine o_callSi (k := 3) (EvB_ok z) X S (mX11_isWithin l x2 0 1 σ_2 _ h) k_371 k_369 k_370 k_1 ⟨by decide, by decide, by decide +kernel⟩ ⟨rfl, rfl⟩ ⟨Nat.le_of_ble_eq_true rfl, Nat.le_of_ble_eq_true rfl⟩ rfl hl.1 rfl (Nat.le_of_ble_eq_true rfl) dX11_slope_21 (fun r_18 σ_19 H locs h S => ?_)
      refine lv_goto (tgt := 35) hx hb dX11_slope_24 (by decide) ?_
      exact mX11_slope_b35 l X hr x1 x2 r_18 S (lv_sub hl [0, 1, 2] rfl) h
  · replace h := h.1 q_3
    refine lv_ldc2 (v := (-9000000000000000001)) hx hb X.2.2.2.1 (X.2.2.2.2.1 _ k_372) dX11_slope_9 ?_
    exact o_lret X S hr h dX11_slope_12
def wX11_push (x1 : Int32) (x2 : Int32) (σ : Sg) (Q : Int64 → Sg → Prop) : Prop :=
  (wX1_has x1 σ (fun r_1 σ_2 => ((r_1 = 0 → Q (-9000000000000000001 : Int64) σ_2) ∧ (¬ r_1 = 0 → (wX11_wishWith x1 x2 σ_2 (fun r_4 σ_5 => (wX11_wishNow σ_5 (fun r_6 σ_7 => Q ((r_4 - r_6).toInt64) σ_7))))))))
set_option maxHeartbeats 4000000 in
set_option maxRecDepth 100000 in
theorem mX11_push {D : va_G} {cy : Nat → ClassId} {ad z : Nat → Nat} (l : Launch) (x1 : Int32) (x2 : Int32) (σ : Sg) (Q : Int64 → Sg → Prop) (h : wX11_push x1 x2 σ Q) : MLB D cy ad z l yX11_push (.code yX11_push cX11_push 3 (some .long) :: gT) ({ frames := 7, cells := 0, slots := 0, locals := 174 }) [.ref (ad 0), .int x1, .int x2] σ Q := by
  refine metL_of (by decide +kernel) (Nat.le_of_ble_eq_true rfl) ?_
  intro p e s m args below meth c A ls X hr hl S
  have X : Fx D (tyB cy) (EvB z) p s m args meth c cX11_push 3 "BackBay" A := X
  have hl : lv_has ls 3 [(0, .ref (ad 0)), (1, .int x1), (2, .int x2)] := hl
  have hx := X.1
  have hb := X.2.1
  unfold wX11_push at h
  refine lv_aload_n hx hb dX11_push_0 rfl (lv_at hl 0 rfl) ?_
  refine o_get X S 0 5 (by decide) rfl rfl in_11 (by decide) k_324 rfl dX11_push_1 ?_
  refine lv_iload_n hx hb dX11_push_4 rfl (lv_at hl 1 rfl) ?_
  refine o_callVi (k := 1) (EvB_ok z) X S (mX1_has l x1 σ _ h) (by decide) rfl rfl k_566 k_563 k_564 k_565 k_4 ⟨rfl, by decide, by decide, by decide +kernel⟩ ⟨rfl, rfl⟩ ⟨Nat.le_of_ble_eq_true rfl, Nat.le_of_ble_eq_true rfl⟩ rfl hl.1 rfl (Nat.le_of_ble_eq_true rfl) dX11_push_5 (fun r_1 σ_2 H locs h S => ?_)
  refine lv_if_ne (tgt := 15) hx hb dX11_push_8 (by decide) (fun q_3 => ?_) (fun q_3 => ?_)
  · replace h := h.2 q_3
    refine lv_aload_n hx hb dX11_push_15 rfl (lv_at hl 0 rfl) ?_
    refine lv_iload_n hx hb dX11_push_16 rfl (lv_at hl 1 rfl) ?_
    refine lv_iload_n hx hb dX11_push_17 rfl (lv_at hl 2 rfl) ?_
    refine o_callVi (k := 2) (EvB_ok z) X S (mX11_wishWith l x1 x2 σ_2 _ h) (by decide) rfl rfl k_624 k_621 k_623 ks_14 k_1 ⟨rfl, by decide, by decide, by decide +kernel⟩ ⟨rfl, rfl⟩ ⟨Nat.le_of_ble_eq_true rfl, Nat.le_of_ble_eq_true rfl⟩ rfl hl.1 rfl (Nat.le_of_ble_eq_true rfl) dX11_push_18 (fun r_4 σ_5 H locs h S => ?_)
    refine lv_aload_n hx hb dX11_push_21 rfl (lv_at hl 0 rfl) ?_
    refine o_callVi (k := 0) (EvB_ok z) X S (mX11_wishNow l σ_5 _ h) (by decide) rfl rfl k_620 k_617 k_619 ks_13 k_1 ⟨rfl, by decide, by decide, by decide +kernel⟩ ⟨rfl, rfl⟩ ⟨Nat.le_of_ble_eq_true rfl, Nat.le_of_ble_eq_true rfl⟩ rfl hl.1 rfl (Nat.le_of_ble_eq_true rfl) dX11_push_22 (fun r_6 σ_7 H locs h S => ?_)
    refine lv_isub hx hb dX11_push_25 ?_
    refine lv_i2l hx hb dX11_push_26 rfl ?_
    exact o_lret X S hr h dX11_push_27
  · replace h := h.1 q_3
    refine lv_ldc2 (v := (-9000000000000000001)) hx hb X.2.2.2.1 (X.2.2.2.2.1 _ k_372) dX11_push_11 ?_
    exact o_lret X S hr h dX11_push_14
def wX11_again_b29 (σ : Sg) (Q : Int64 → Sg → Prop) : Prop :=
  Q (-9000000000000000001 : Int64) σ
def wX11_again_b76 (y0 : Int64) (σ : Sg) (Q : Int64 → Sg → Prop) : Prop :=
  Q y0 σ
def wX11_again (x1 : Int32) (x2 : Int32) (x3 : Int32) (σ : Sg) (Q : Int64 → Sg → Prop) : Prop :=
  (wX11_isWithin x1 1 40 σ (fun r_1 σ_2 => ((r_1 = 0 → wX11_again_b29 σ_2 Q) ∧ (¬ r_1 = 0 → (wX11_isWithin x2 0 6 σ_2 (fun r_4 σ_5 => ((r_4 = 0 → wX11_again_b29 σ_5 Q) ∧ (¬ r_4 = 0 → (wX11_isWithin x3 0 1 σ_5 (fun r_7 σ_8 => ((r_7 = 0 → wX11_again_b29 σ_8 Q) ∧ (¬ r_7 = 0 → (wX5_fill σ_8 (fun σ_11 => (wX5_at x1 x2 σ_11 (fun r_12 σ_13 => ((x3 = 0 → (vp_in r_12 287 ∧ wX11_again_b76 ((σ_13 46 r_12.toNatClampNeg).toInt64) σ_13 Q)) ∧ (¬ x3 = 0 → (vp_in r_12 287 ∧ wX11_again_b76 ((σ_13 47 r_12.toNatClampNeg).toInt64) σ_13 Q)))))))))))))))))))
set_option maxHeartbeats 4000000 in
set_option maxRecDepth 100000 in
theorem mX11_again_b29 {D : va_G} {cy : Nat → ClassId} {ad z : Nat → Nat} (l : Launch) {p : Program} {e : Env} {s : State} {m : MethodId} {args : Array Value} {below : List Frame} {meth : Method} {c : Code} {A : Nat → Prop} {Q : Int64 → Sg → Prop} (X : Fx D (tyB cy) (EvB z) p s m args meth c cX11_again 5 "BackBay" A) (hr : meth.sig.returnType = some .long) {σ : Sg} {H : Heap} {locs : List Loc} {ls : Array Slot} (S : St D ad 75 (shB cy ad) A s σ H locs) (hl : lv_has ls 5 []) (h : wX11_again_b29 σ Q) : W p l e ({ frames := 3, cells := 0, slots := 0, locals := 68 }) s m args below meth c H locs 0 0 (MQ below (va_Ql Q (PosW D (tyB cy) ad 75 (shB cy ad) A) A) args s 0 0 A) (F0 m 29 ls []) := by
  have hx := X.1
  have hb := X.2.1
  unfold wX11_again_b29 at h
  refine lv_ldc2 (v := (-9000000000000000001)) hx hb X.2.2.2.1 (X.2.2.2.2.1 _ k_372) dX11_again_29 ?_
  exact o_lret X S hr h dX11_again_32
set_option maxHeartbeats 4000000 in
set_option maxRecDepth 100000 in
theorem mX11_again_b76 {D : va_G} {cy : Nat → ClassId} {ad z : Nat → Nat} (l : Launch) {p : Program} {e : Env} {s : State} {m : MethodId} {args : Array Value} {below : List Frame} {meth : Method} {c : Code} {A : Nat → Prop} {Q : Int64 → Sg → Prop} (X : Fx D (tyB cy) (EvB z) p s m args meth c cX11_again 5 "BackBay" A) (hr : meth.sig.returnType = some .long) (y0 : Int64) {σ : Sg} {H : Heap} {locs : List Loc} {ls : Array Slot} (S : St D ad 75 (shB cy ad) A s σ H locs) (hl : lv_has ls 5 []) (h : wX11_again_b76 y0 σ Q) : W p l e ({ frames := 3, cells := 0, slots := 0, locals := 68 }) s m args below meth c H locs 0 0 (MQ below (va_Ql Q (PosW D (tyB cy) ad 75 (shB cy ad) A) A) args s 0 0 A) (F0 m 76 ls [.long y0]) := by
  have hx := X.1
  have hb := X.2.1
  unfold wX11_again_b76 at h
  exact o_lret X S hr h dX11_again_76
set_option maxHeartbeats 4000000 in
set_option maxRecDepth 100000 in
theorem mX11_again {D : va_G} {cy : Nat → ClassId} {ad z : Nat → Nat} (l : Launch) (x1 : Int32) (x2 : Int32) (x3 : Int32) (σ : Sg) (Q : Int64 → Sg → Prop) (h : wX11_again x1 x2 x3 σ Q) : MLB D cy ad z l yX11_again (.code yX11_again cX11_again 5 (some .long) :: gT) ({ frames := 3, cells := 0, slots := 0, locals := 68 }) [.ref (ad 0), .int x1, .int x2, .int x3] σ Q := by
  refine metL_of (by decide +kernel) (Nat.le_of_ble_eq_true rfl) ?_
  intro p e s m args below meth c A ls X hr hl S
  have X : Fx D (tyB cy) (EvB z) p s m args meth c cX11_again 5 "BackBay" A := X
  have hl : lv_has ls 5 [(0, .ref (ad 0)), (1, .int x1), (2, .int x2), (3, .int x3)] := hl
  have hx := X.1
  have hb := X.2.1
  unfold wX11_again at h
  refine lv_iload_n hx hb dX11_again_0 rfl (lv_at hl 1 rfl) ?_
  refine lv_iconst (v := 1) hx hb dX11_again_1 (by decide) ?_
  refine lv_bipush (v := 40) hx hb dX11_again_2 (by decide) ?_
  refine o_callSi (k := 3) (EvB_ok z) X S (mX11_isWithin l x1 1 40 σ _ h) k_371 k_369 k_370 k_1 ⟨by decide, by decide, by decide +kernel⟩ ⟨rfl, rfl⟩ ⟨Nat.le_of_ble_eq_true rfl, Nat.le_of_ble_eq_true rfl⟩ rfl hl.1 rfl (Nat.le_of_ble_eq_true rfl) dX11_again_4 (fun r_1 σ_2 H locs h S => ?_)
  refine lv_if_eq (tgt := 29) hx hb dX11_again_7 (by decide) (fun q_3 => ?_) (fun q_3 => ?_)
  · replace h := h.1 q_3
    exact mX11_again_b29 l X hr S (lv_sub hl [] rfl) h
  · replace h := h.2 q_3
    refine lv_iload_n hx hb dX11_again_10 rfl (lv_at hl 2 rfl) ?_
    refine lv_iconst (v := 0) hx hb dX11_again_11 (by decide) ?_
    refine lv_bipush (v := 6) hx hb dX11_again_12 (by decide) ?_
    refine o_callSi (k := 3) (EvB_ok z) X S (mX11_isWithin l x2 0 6 σ_2 _ h) k_371 k_369 k_370 k_1 ⟨by decide, by decide, by decide +kernel⟩ ⟨rfl, rfl⟩ ⟨Nat.le_of_ble_eq_true rfl, Nat.le_of_ble_eq_true rfl⟩ rfl hl.1 rfl (Nat.le_of_ble_eq_true rfl) dX11_again_14 (fun r_4 σ_5 H locs h S => ?_)
    refine lv_if_eq (tgt := 29) hx hb dX11_again_17 (by decide) (fun q_6 => ?_) (fun q_6 => ?_)
    · replace h := h.1 q_6
      exact mX11_again_b29 l X hr S (lv_sub hl [] rfl) h
    · replace h := h.2 q_6
      refine lv_iload_n hx hb dX11_again_20 rfl (lv_at hl 3 rfl) ?_
      refine lv_iconst (v := 0) hx hb dX11_again_21 (by decide) ?_
      refine lv_iconst (v := 1) hx hb dX11_again_22 (by decide) ?_
      refine o_callSi (k := 3) (EvB_ok z) X S (mX11_isWithin l x3 0 1 σ_5 _ h) k_371 k_369 k_370 k_1 ⟨by decide, by decide, by decide +kernel⟩ ⟨rfl, rfl⟩ ⟨Nat.le_of_ble_eq_true rfl, Nat.le_of_ble_eq_true rfl⟩ rfl hl.1 rfl (Nat.le_of_ble_eq_true rfl) dX11_again_23 (fun r_7 σ_8 H locs h S => ?_)
      refine lv_if_ne (tgt := 33) hx hb dX11_again_26 (by decide) (fun q_9 => ?_) (fun q_9 => ?_)
      · replace h := h.2 q_9
        refine lv_aload_n hx hb dX11_again_33 rfl (lv_at hl 0 rfl) ?_
        refine o_get X S 0 11 (by decide) rfl rfl in_11 (by decide) k_330 rfl dX11_again_34 ?_
        refine o_callVv (k := 0) (EvB_ok z) X S (mX5_fill l σ_8 _ h) (by decide) rfl rfl k_701 k_698 k_699 k_700 k_10 ⟨rfl, by decide, by decide, by decide +kernel⟩ ⟨rfl, rfl⟩ ⟨Nat.le_of_ble_eq_true rfl, Nat.le_of_ble_eq_true rfl⟩ rfl hl.1 rfl (Nat.le_of_ble_eq_true rfl) dX11_again_37 (fun σ_11 H locs h S => ?_)
        refine lv_iload_n hx hb dX11_again_40 rfl (lv_at hl 1 rfl) ?_
        refine lv_iload_n hx hb dX11_again_41 rfl (lv_at hl 2 rfl) ?_
        refine o_callSi (k := 2) (EvB_ok z) X S (mX5_at l x1 x2 σ_11 _ h) k_706 k_711 k_705 k_10 ⟨by decide, by decide, by decide +kernel⟩ ⟨rfl, rfl⟩ ⟨Nat.le_of_ble_eq_true rfl, Nat.le_of_ble_eq_true rfl⟩ rfl hl.1 rfl (Nat.le_of_ble_eq_true rfl) dX11_again_42 (fun r_12 σ_13 H locs h S => ?_)
        refine lv_istore (lv' := [(4, .int r_12), (0, .ref (ad 0)), (1, .int x1), (2, .int x2), (3, .int x3)]) hx hb dX11_again_45 hl (by decide) rfl (fun ls hl => ?_)
        refine lv_iload_n hx hb dX11_again_47 rfl (lv_at hl 4 rfl) ?_
        refine lv_if_ne (tgt := 65) hx hb dX11_again_48 (by decide) (fun q_14 => ?_) (fun q_14 => ?_)
        · replace h := h.2 q_14
          refine lv_aload_n hx hb dX11_again_65 rfl (lv_at hl 1 rfl) ?_
          refine o_get X S 0 11 (by decide) rfl rfl in_11 (by decide) k_330 rfl dX11_again_66 ?_
          refine o_get X S 45 1 (by decide) rfl rfl in_5 (by decide) k_252 rfl dX11_again_69 ?_
          refine lv_iload hx hb dX11_again_72 (lv_at hl 0 rfl) ?_
          refine o_iald X S 47 0 (by decide) (fun _ => rfl) rfl h.1 dX11_again_74 ?_
          replace h := h.2
          refine lv_i2l hx hb dX11_again_75 rfl ?_
          exact mX11_again_b76 l X hr ((σ_13 47 r_12.toNatClampNeg).toInt64) S (lv_sub hl [] rfl) h
        · replace h := h.1 q_14
          refine lv_aload_n hx hb dX11_again_51 rfl (lv_at hl 1 rfl) ?_
          refine o_get X S 0 11 (by decide) rfl rfl in_11 (by decide) k_330 rfl dX11_again_52 ?_
          refine o_get X S 45 0 (by decide) rfl rfl in_5 (by decide) k_250 rfl dX11_again_55 ?_
          refine lv_iload hx hb dX11_again_58 (lv_at hl 0 rfl) ?_
          refine o_iald X S 46 0 (by decide) (fun _ => rfl) rfl h.1 dX11_again_60 ?_
          replace h := h.2
          refine lv_i2l hx hb dX11_again_61 rfl ?_
          refine lv_goto (tgt := 76) hx hb dX11_again_62 (by decide) ?_
          exact mX11_again_b76 l X hr ((σ_13 46 r_12.toNatClampNeg).toInt64) S (lv_sub hl [] rfl) h
      · replace h := h.1 q_9
        exact mX11_again_b29 l X hr S (lv_sub hl [] rfl) h
def wX11_move_b82 (x1 : Int32) (x2 : Int32) (x3 : Int32) (y0 : Int32) (σ : Sg) (k127 : Sg → Prop) (k62 : Sg → Prop) (k95 : Int32 → Int32 → Sg → Prop) (kb30 : Int32 → Sg → Prop) (Q : Int32 → Sg → Prop) : Prop :=
  (wX11_helps x3 y0 x1 σ (fun r_11 σ_12 => ((r_11 = 0 → (vp_in x3 10 ∧ ∀ σ_14, σ_14 = sto σ_12 41 x3.toNatClampNeg 0 → (∀ x2_15 : Int32, x2_15 = x2 + 1 → kb30 x2_15 σ_14))) ∧ (¬ r_11 = 0 → k95 x3 y0 σ_12))))
def wX11_move_L30 (x1 : Int32) (k127 : Sg → Prop) (k62 : Sg → Prop) (k95 : Int32 → Int32 → Sg → Prop) (Q : Int32 → Sg → Prop) : Nat → Int32 → Sg → Prop
  | 0, _, _ => False
  | nn30 + 1, x2, σ =>
  (((σ 4 0) ≤ x2 → k127 σ) ∧ (¬ (σ 4 0) ≤ x2 → (wX7_steepestStrips (σ 4 0) σ (fun r_7 σ_8 => ((r_7 = (-1000000) → k62 σ_8) ∧ (¬ r_7 = (-1000000) → (vp_in r_7 10 ∧ (((σ_8 41 r_7.toNatClampNeg) ≤ 0 → wX11_move_b82 x1 x2 r_7 1 σ_8 k127 k62 k95 (wX11_move_L30 x1 k127 k62 k95 Q nn30) Q) ∧ (¬ (σ_8 41 r_7.toNatClampNeg) ≤ 0 → wX11_move_b82 x1 x2 r_7 (-1) σ_8 k127 k62 k95 (wX11_move_L30 x1 k127 k62 k95 Q nn30) Q)))))))))
def wX11_move (σ : Sg) (Q : Int32 → Sg → Prop) : Prop :=
  (wX11_wishNow σ (fun r_1 σ_2 => (∀ T_3 : Nat, T_3 = (σ_2 0 3).toNatClampNeg → (isSten T_3 ∧ (wX7_goBack T_3 36 σ_2 (fun σ_5 => (∃ nf, wX11_move_L30 r_1 (fun σ_16 => Q (-1000000) σ_16) (fun σ_17 => Q (-1000000) σ_17) (fun x3_18 x4_19 σ_20 => (vp_in x3_18 10 ∧ (vp_in x3_18 10 ∧ ∀ σ_21, σ_21 = sto σ_20 6 x3_18.toNatClampNeg ((σ_20 6 x3_18.toNatClampNeg) + x4_19) → Q x3_18 σ_21))) Q nf 0 σ_5)))))))
set_option maxHeartbeats 4000000 in
set_option maxRecDepth 100000 in
theorem mX11_move_b82 {D : va_G} {cy : Nat → ClassId} {ad z : Nat → Nat} (l : Launch) {p : Program} {e : Env} {s : State} {m : MethodId} {args : Array Value} {below : List Frame} {meth : Method} {c : Code} {A : Nat → Prop} {k127 : Sg → Prop} {k62 : Sg → Prop} {k95 : Int32 → Int32 → Sg → Prop} {kb30 : Int32 → Sg → Prop} {Q : Int32 → Sg → Prop} (X : Fx D (tyB cy) (EvB z) p s m args meth c cX11_move 5 "BackBay" A) (hr : meth.sig.returnType = some .int) (x1 : Int32) (x2 : Int32) (x3 : Int32) (y0 : Int32) (hk127 : ∀ (σ : Sg) (H : Heap) (locs : List Loc) (ls : Array Slot), St D ad 75 (shB cy ad) A s σ H locs → lv_has ls 5 [] → k127 σ → W p l e ({ frames := 7, cells := 0, slots := 0, locals := 177 }) s m args below meth c H locs 0 0 (MQ below (va_Qi Q (PosW D (tyB cy) ad 75 (shB cy ad) A) A) args s 0 0 A) (F0 m 127 ls [])) (hk62 : ∀ (σ : Sg) (H : Heap) (locs : List Loc) (ls : Array Slot), St D ad 75 (shB cy ad) A s σ H locs → lv_has ls 5 [] → k62 σ → W p l e ({ frames := 7, cells := 0, slots := 0, locals := 177 }) s m args below meth c H locs 0 0 (MQ below (va_Qi Q (PosW D (tyB cy) ad 75 (shB cy ad) A) A) args s 0 0 A) (F0 m 62 ls [])) (hk95 : ∀ (x3 : Int32) (x4 : Int32) (σ : Sg) (H : Heap) (locs : List Loc) (ls : Array Slot), St D ad 75 (shB cy ad) A s σ H locs → lv_has ls 5 [(0, .ref (ad 0)), (3, .int x3), (4, .int x4)] → k95 x3 x4 σ → W p l e ({ frames := 7, cells := 0, slots := 0, locals := 177 }) s m args below meth c H locs 0 0 (MQ below (va_Qi Q (PosW D (tyB cy) ad 75 (shB cy ad) A) A) args s 0 0 A) (F0 m 95 ls [])) (hkb30 : ∀ (x2 : Int32) (σ : Sg) (H : Heap) (locs : List Loc) (ls : Array Slot), St D ad 75 (shB cy ad) A s σ H locs → lv_has ls 5 [(0, .ref (ad 0)), (1, .int x1), (2, .int x2)] → kb30 x2 σ → W p l e ({ frames := 7, cells := 0, slots := 0, locals := 177 }) s m args below meth c H locs 0 0 (MQ below (va_Qi Q (PosW D (tyB cy) ad 75 (shB cy ad) A) A) args s 0 0 A) (F0 m 30 ls [])) {σ : Sg} {H : Heap} {locs : List Loc} {ls : Array Slot} (S : St D ad 75 (shB cy ad) A s σ H locs) (hl : lv_has ls 5 [(0, .ref (ad 0)), (1, .int x1), (2, .int x2), (3, .int x3)]) (h : wX11_move_b82 x1 x2 x3 y0 σ k127 k62 k95 kb30 Q) : W p l e ({ frames := 7, cells := 0, slots := 0, locals := 177 }) s m args below meth c H locs 0 0 (MQ below (va_Qi Q (PosW D (tyB cy) ad 75 (shB cy ad) A) A) args s 0 0 A) (F0 m 82 ls [.int y0]) := by
  have hx := X.1
  have hb := X.2.1
  unfold wX11_move_b82 at h
  refine lv_istore (lv' := [(4, .int y0), (0, .ref (ad 0)), (1, .int x1), (2, .int x2), (3, .int x3)]) hx hb dX11_move_82 hl (by decide) rfl (fun ls hl => ?_)
  refine lv_aload_n hx hb dX11_move_84 rfl (lv_at hl 1 rfl) ?_
  refine lv_iload_n hx hb dX11_move_85 rfl (lv_at hl 4 rfl) ?_
  refine lv_iload hx hb dX11_move_86 (lv_at hl 0 rfl) ?_
  refine lv_iload_n hx hb dX11_move_88 rfl (lv_at hl 2 rfl) ?_
  refine o_callVi (k := 3) (EvB_ok z) X S (mX11_helps l x3 y0 x1 σ _ h) (by decide) rfl rfl k_728 k_725 k_727 ks_22 k_1 ⟨rfl, by decide, by decide, by decide +kernel⟩ ⟨rfl, rfl⟩ ⟨Nat.le_of_ble_eq_true rfl, Nat.le_of_ble_eq_true rfl⟩ rfl hl.1 rfl (Nat.le_of_ble_eq_true rfl) dX11_move_89 (fun r_11 σ_12 H locs h S => ?_)
  refine lv_if_eq (tgt := 111) hx hb dX11_move_92 (by decide) (fun q_13 => ?_) (fun q_13 => ?_)
  · replace h := h.1 q_13
    refine lv_aload_n hx hb dX11_move_111 rfl (lv_at hl 1 rfl) ?_
    refine o_get X S 0 10 (by decide) rfl rfl in_11 (by decide) k_329 rfl dX11_move_112 ?_
    refine o_get X S 40 0 (by decide) rfl rfl in_7 (by decide) k_228 rfl dX11_move_115 ?_
    refine lv_iload_n hx hb dX11_move_118 rfl (lv_at hl 4 rfl) ?_
    refine lv_iconst (v := 0) hx hb dX11_move_119 (by decide) ?_
    refine o_iast X S 41 0 (by decide) (fun _ => rfl) rfl h.1 dX11_move_120 (fun σ_14 H locs eσ_14 S => ?_)
    replace h := h.2 σ_14 eσ_14
    obtain ⟨x2_15, ex2_15⟩ : ∃ y : Int32, y = x2 + 1 := ⟨_, rfl⟩
    replace h := h x2_15 ex2_15
    refine lv_iinc (v := x2_15) (lv' := [(2, .int x2_15), (4, .int y0), (0, .ref (ad 0)), (1, .int x1), (3, .int x3)]) hx hb dX11_move_121 hl (k := 3) rfl (by rw [ex2_15]; rfl) (by decide) rfl (fun ls hl => ?_)
    refine lv_goto (tgt := 30) hx hb dX11_move_124 (by decide) ?_
    exact hkb30 _ _ _ _ _ S (lv_sub hl [2, 3, 0] rfl) h
  · replace h := h.2 q_13
    exact hk95 _ _ _ _ _ _ S (lv_sub hl [1, 4, 0] rfl) h
set_option maxHeartbeats 4000000 in
set_option maxRecDepth 100000 in
theorem mX11_move_L30 {D : va_G} {cy : Nat → ClassId} {ad z : Nat → Nat} (l : Launch) {p : Program} {e : Env} {s : State} {m : MethodId} {args : Array Value} {below : List Frame} {meth : Method} {c : Code} {A : Nat → Prop} {k127 : Sg → Prop} {k62 : Sg → Prop} {k95 : Int32 → Int32 → Sg → Prop} {Q : Int32 → Sg → Prop} (X : Fx D (tyB cy) (EvB z) p s m args meth c cX11_move 5 "BackBay" A) (hr : meth.sig.returnType = some .int) (x1 : Int32) (hk127 : ∀ (σ : Sg) (H : Heap) (locs : List Loc) (ls : Array Slot), St D ad 75 (shB cy ad) A s σ H locs → lv_has ls 5 [] → k127 σ → W p l e ({ frames := 7, cells := 0, slots := 0, locals := 177 }) s m args below meth c H locs 0 0 (MQ below (va_Qi Q (PosW D (tyB cy) ad 75 (shB cy ad) A) A) args s 0 0 A) (F0 m 127 ls [])) (hk62 : ∀ (σ : Sg) (H : Heap) (locs : List Loc) (ls : Array Slot), St D ad 75 (shB cy ad) A s σ H locs → lv_has ls 5 [] → k62 σ → W p l e ({ frames := 7, cells := 0, slots := 0, locals := 177 }) s m args below meth c H locs 0 0 (MQ below (va_Qi Q (PosW D (tyB cy) ad 75 (shB cy ad) A) A) args s 0 0 A) (F0 m 62 ls [])) (hk95 : ∀ (x3 : Int32) (x4 : Int32) (σ : Sg) (H : Heap) (locs : List Loc) (ls : Array Slot), St D ad 75 (shB cy ad) A s σ H locs → lv_has ls 5 [(0, .ref (ad 0)), (3, .int x3), (4, .int x4)] → k95 x3 x4 σ → W p l e ({ frames := 7, cells := 0, slots := 0, locals := 177 }) s m args below meth c H locs 0 0 (MQ below (va_Qi Q (PosW D (tyB cy) ad 75 (shB cy ad) A) A) args s 0 0 A) (F0 m 95 ls [])) : ∀ (n : Nat) (x2 : Int32) (σ : Sg) (H : Heap) (locs : List Loc) (ls : Array Slot), St D ad 75 (shB cy ad) A s σ H locs → lv_has ls 5 [(0, .ref (ad 0)), (1, .int x1), (2, .int x2)] → wX11_move_L30 x1 k127 k62 k95 Q n x2 σ → W p l e ({ frames := 7, cells := 0, slots := 0, locals := 177 }) s m args below meth c H locs 0 0 (MQ below (va_Qi Q (PosW D (tyB cy) ad 75 (shB cy ad) A) A) args s 0 0 A) (F0 m 30 ls []) := by
  have hx := X.1
  have hb := X.2.1
  intro n
  induction n with
  | zero =>
    intro _ _ _ _ _ _ _ h
    exact absurd h (by unfold wX11_move_L30; exact id)
  | succ n ih =>
    intro x2 σ H locs ls S hl h
    unfold wX11_move_L30 at h
    refine lv_iload_n hx hb dX11_move_30 rfl (lv_at hl 2 rfl) ?_
    refine lv_aload_n hx hb dX11_move_31 rfl (lv_at hl 0 rfl) ?_
    refine o_get X S 0 5 (by decide) rfl rfl in_11 (by decide) k_324 rfl dX11_move_32 ?_
    refine o_get X S 4 0 (by decide) rfl rfl in_1 (by decide) k_130 rfl dX11_move_35 ?_
    refine lv_icmp_ge (tgt := 127) hx hb dX11_move_38 (by decide) (fun q_6 => ?_) (fun q_6 => ?_)
    · replace h := h.1 q_6
      exact hk127 _ _ _ _ S (lv_sub hl [] rfl) h
    · replace h := h.2 q_6
      refine lv_aload_n hx hb dX11_move_41 rfl (lv_at hl 0 rfl) ?_
      refine o_get X S 0 10 (by decide) rfl rfl in_11 (by decide) k_329 rfl dX11_move_42 ?_
      refine lv_aload_n hx hb dX11_move_45 rfl (lv_at hl 0 rfl) ?_
      refine o_get X S 0 5 (by decide) rfl rfl in_11 (by decide) k_324 rfl dX11_move_46 ?_
      refine o_get X S 4 0 (by decide) rfl rfl in_1 (by decide) k_130 rfl dX11_move_49 ?_
      refine o_callVi (k := 1) (EvB_ok z) X S (mX7_steepestStrips l (σ 4 0) σ _ h) (by decide) rfl rfl k_719 k_716 k_717 k_718 k_9 ⟨rfl, by decide, by decide, by decide +kernel⟩ ⟨rfl, rfl⟩ ⟨Nat.le_of_ble_eq_true rfl, Nat.le_of_ble_eq_true rfl⟩ rfl hl.1 rfl (Nat.le_of_ble_eq_true rfl) dX11_move_52 (fun r_7 σ_8 H locs h S => ?_)
      refine lv_istore_n (lv' := [(3, .int r_7), (0, .ref (ad 0)), (1, .int x1), (2, .int x2)]) hx hb dX11_move_55 rfl hl (by decide) rfl (fun ls hl => ?_)
      refine lv_iload_n hx hb dX11_move_56 rfl (lv_at hl 0 rfl) ?_
      refine lv_ldc (v := (-1000000)) hx hb X.2.2.2.1 (X.2.2.2.2.1 _ k_724) dX11_move_57 ?_
      refine lv_icmp_ne (tgt := 65) hx hb dX11_move_59 (by decide) (fun q_9 => ?_) (fun q_9 => ?_)
      · replace h := h.2 q_9
        refine lv_aload_n hx hb dX11_move_65 rfl (lv_at hl 1 rfl) ?_
        refine o_get X S 0 10 (by decide) rfl rfl in_11 (by decide) k_329 rfl dX11_move_66 ?_
        refine o_get X S 40 0 (by decide) rfl rfl in_7 (by decide) k_228 rfl dX11_move_69 ?_
        refine lv_iload_n hx hb dX11_move_72 rfl (lv_at hl 0 rfl) ?_
        refine o_iald X S 41 0 (by decide) (fun _ => rfl) rfl h.1 dX11_move_73 ?_
        replace h := h.2
        refine lv_if_le (tgt := 81) hx hb dX11_move_74 (by decide) (fun q_10 => ?_) (fun q_10 => ?_)
        · replace h := h.1 q_10
          refine lv_iconst (v := 1) hx hb dX11_move_81 (by decide) ?_
          exact mX11_move_b82 l X hr x1 x2 r_7 1 hk127 hk62 hk95 ih S (lv_sub hl [1, 2, 3, 0] rfl) h
        · replace h := h.2 q_10
          refine lv_iconst (v := (-1)) hx hb dX11_move_77 (by decide) ?_
          refine lv_goto (tgt := 82) hx hb dX11_move_78 (by decide) ?_
          exact mX11_move_b82 l X hr x1 x2 r_7 (-1) hk127 hk62 hk95 ih S (lv_sub hl [1, 2, 3, 0] rfl) h
      · replace h := h.1 q_9
        exact hk62 _ _ _ _ S (lv_sub hl [] rfl) h
set_option maxHeartbeats 4000000 in
set_option maxRecDepth 100000 in
theorem mX11_move {D : va_G} {cy : Nat → ClassId} {ad z : Nat → Nat} (l : Launch) (σ : Sg) (Q : Int32 → Sg → Prop) (h : wX11_move σ Q) : MIB D cy ad z l yX11_move (.code yX11_move cX11_move 5 (some .int) :: gT) ({ frames := 7, cells := 0, slots := 0, locals := 177 }) [.ref (ad 0)] σ Q := by
  refine metI_of (by decide +kernel) (Nat.le_of_ble_eq_true rfl) ?_
  intro p e s m args below meth c A ls X hr hl S
  have X : Fx D (tyB cy) (EvB z) p s m args meth c cX11_move 5 "BackBay" A := X
  have hl : lv_has ls 5 [(0, .ref (ad 0))] := hl
  have hx := X.1
  have hb := X.2.1
  unfold wX11_move at h
  refine lv_aload_n hx hb dX11_move_0 rfl (lv_at hl 0 rfl) ?_
  refine o_callVi (k := 0) (EvB_ok z) X S (mX11_wishNow l σ _ h) (by decide) rfl rfl k_620 k_617 k_619 ks_13 k_1 ⟨rfl, by decide, by decide, by decide +kernel⟩ ⟨rfl, rfl⟩ ⟨Nat.le_of_ble_eq_true rfl, Nat.le_of_ble_eq_true rfl⟩ rfl hl.1 rfl (Nat.le_of_ble_eq_true rfl) dX11_move_1 (fun r_1 σ_2 H locs h S => ?_)
  refine lv_istore_n (lv' := [(1, .int r_1), (0, .ref (ad 0))]) hx hb dX11_move_4 rfl hl (by decide) rfl (fun ls hl => ?_)
  refine lv_aload_n hx hb dX11_move_5 rfl (lv_at hl 1 rfl) ?_
  refine o_get X S 0 10 (by decide) rfl rfl in_11 (by decide) k_329 rfl dX11_move_6 ?_
  refine lv_aload_n hx hb dX11_move_9 rfl (lv_at hl 1 rfl) ?_
  obtain ⟨T_3, eT_3⟩ : ∃ y : Nat, y = (σ_2 0 3).toNatClampNeg := ⟨_, rfl⟩
  refine o_get X S 0 3 (by decide) rfl rfl in_11 (by decide) k_322 (v := .ref (ad T_3)) (by rw [eT_3]; rfl) dX11_move_10 ?_
  have hT_3 : isSten T_3 := (h T_3 eT_3).1
  replace h := (h T_3 eT_3).2
  refine lv_aload_n hx hb dX11_move_13 rfl (lv_at hl 1 rfl) ?_
  refine o_get X S 0 5 (by decide) rfl rfl in_11 (by decide) k_324 rfl dX11_move_14 ?_
  refine lv_aload_n hx hb dX11_move_17 rfl (lv_at hl 1 rfl) ?_
  refine o_get X S 0 6 (by decide) rfl rfl in_11 (by decide) k_325 rfl dX11_move_18 ?_
  refine lv_aload_n hx hb dX11_move_21 rfl (lv_at hl 1 rfl) ?_
  refine o_get X S 0 8 (by decide) rfl rfl in_11 (by decide) k_327 rfl dX11_move_22 ?_
  refine o_callVv (k := 4) (EvB_ok z) X S (mX7_goBack l hT_3 isCou_36 σ_2 _ h) (by decide) rfl rfl k_664 k_661 k_662 k_663 k_9 ⟨rfl, by decide, by decide, by decide +kernel⟩ ⟨rfl, rfl⟩ ⟨Nat.le_of_ble_eq_true rfl, Nat.le_of_ble_eq_true rfl⟩ rfl hl.1 rfl (Nat.le_of_ble_eq_true rfl) dX11_move_25 (fun σ_5 H locs h S => ?_)
  refine lv_iconst (v := 0) hx hb dX11_move_28 (by decide) ?_
  refine lv_istore_n (lv' := [(2, .int 0), (1, .int r_1), (0, .ref (ad 0))]) hx hb dX11_move_29 rfl hl (by decide) rfl (fun ls hl => ?_)
  obtain ⟨n_30, h⟩ := h
  refine mX11_move_L30 l X hr r_1 ?_ ?_ ?_ n_30 _ _ _ _ _ S (lv_sub hl [2, 1, 0] rfl) h
  · intro σ_16 H locs ls S hl h
    refine lv_ldc (v := (-1000000)) hx hb X.2.2.2.1 (X.2.2.2.2.1 _ k_724) dX11_move_127 ?_
    exact o_iret X S hr h dX11_move_129
  · intro σ_17 H locs ls S hl h
    refine lv_ldc (v := (-1000000)) hx hb X.2.2.2.1 (X.2.2.2.2.1 _ k_724) dX11_move_62 ?_
    exact o_iret X S hr h dX11_move_64
  · intro x3_18 x4_19 σ_20 H locs ls S hl h
    refine lv_aload_n hx hb dX11_move_95 rfl (lv_at hl 0 rfl) ?_
    refine o_get X S 0 5 (by decide) rfl rfl in_11 (by decide) k_324 rfl dX11_move_96 ?_
    refine o_get X S 4 2 (by decide) rfl rfl in_1 (by decide) k_137 rfl dX11_move_99 ?_
    refine lv_iload_n hx hb dX11_move_102 rfl (lv_at hl 1 rfl) ?_
    refine lv_dup2_11 hx hb dX11_move_103 rfl rfl ?_
    refine o_iald X S 6 0 (by decide) (fun _ => rfl) rfl h.1 dX11_move_104 ?_
    replace h := h.2
    refine lv_iload hx hb dX11_move_105 (lv_at hl 2 rfl) ?_
    refine lv_iadd hx hb dX11_move_107 ?_
    refine o_iast X S 6 0 (by decide) (fun _ => rfl) rfl h.1 dX11_move_108 (fun σ_21 H locs eσ_21 S => ?_)
    replace h := h.2 σ_21 eσ_21
    refine lv_iload_n hx hb dX11_move_109 rfl (lv_at hl 1 rfl) ?_
    exact o_iret X S hr h dX11_move_110
def wX11_rest_L7 (x1 : Int32) (k46 : Sg → Prop) (k38 : Sg → Prop) (Q : Int32 → Sg → Prop) : Nat → Int32 → Sg → Prop
  | 0, _, _ => False
  | nn7 + 1, x2, σ =>
  (((σ 4 0) ≤ x2 → k46 σ) ∧ (¬ (σ 4 0) ≤ x2 → (wX11_helps x2 1 x1 σ (fun r_4 σ_5 => ((r_4 = 0 → (wX11_helps x2 (-1) x1 σ_5 (fun r_7 σ_8 => ((r_7 = 0 → (∀ x2_10 : Int32, x2_10 = x2 + 1 → wX11_rest_L7 x1 k46 k38 Q nn7 x2_10 σ_8)) ∧ (¬ r_7 = 0 → k38 σ_8))))) ∧ (¬ r_4 = 0 → k38 σ_5))))))
def wX11_rest_b38 (σ : Sg) (Q : Int32 → Sg → Prop) : Prop :=
  Q 0 σ
def wX11_rest (σ : Sg) (Q : Int32 → Sg → Prop) : Prop :=
  (wX11_wishNow σ (fun r_1 σ_2 => (∃ nf, wX11_rest_L7 r_1 (fun σ_11 => Q 1 σ_11) (fun σ_12 => wX11_rest_b38 σ_12 Q) Q nf 0 σ_2)))
set_option maxHeartbeats 4000000 in
set_option maxRecDepth 100000 in
theorem mX11_rest_L7 {D : va_G} {cy : Nat → ClassId} {ad z : Nat → Nat} (l : Launch) {p : Program} {e : Env} {s : State} {m : MethodId} {args : Array Value} {below : List Frame} {meth : Method} {c : Code} {A : Nat → Prop} {k46 : Sg → Prop} {k38 : Sg → Prop} {Q : Int32 → Sg → Prop} (X : Fx D (tyB cy) (EvB z) p s m args meth c cX11_rest 3 "BackBay" A) (hr : meth.sig.returnType = some .int) (x1 : Int32) (hk46 : ∀ (σ : Sg) (H : Heap) (locs : List Loc) (ls : Array Slot), St D ad 75 (shB cy ad) A s σ H locs → lv_has ls 3 [] → k46 σ → W p l e ({ frames := 7, cells := 0, slots := 0, locals := 177 }) s m args below meth c H locs 0 0 (MQ below (va_Qi Q (PosW D (tyB cy) ad 75 (shB cy ad) A) A) args s 0 0 A) (F0 m 46 ls [])) (hk38 : ∀ (σ : Sg) (H : Heap) (locs : List Loc) (ls : Array Slot), St D ad 75 (shB cy ad) A s σ H locs → lv_has ls 3 [] → k38 σ → W p l e ({ frames := 7, cells := 0, slots := 0, locals := 177 }) s m args below meth c H locs 0 0 (MQ below (va_Qi Q (PosW D (tyB cy) ad 75 (shB cy ad) A) A) args s 0 0 A) (F0 m 38 ls [])) : ∀ (n : Nat) (x2 : Int32) (σ : Sg) (H : Heap) (locs : List Loc) (ls : Array Slot), St D ad 75 (shB cy ad) A s σ H locs → lv_has ls 3 [(0, .ref (ad 0)), (1, .int x1), (2, .int x2)] → wX11_rest_L7 x1 k46 k38 Q n x2 σ → W p l e ({ frames := 7, cells := 0, slots := 0, locals := 177 }) s m args below meth c H locs 0 0 (MQ below (va_Qi Q (PosW D (tyB cy) ad 75 (shB cy ad) A) A) args s 0 0 A) (F0 m 7 ls []) := by
  have hx := X.1
  have hb := X.2.1
  intro n
  induction n with
  | zero =>
    intro _ _ _ _ _ _ _ h
    exact absurd h (by unfold wX11_rest_L7; exact id)
  | succ n ih =>
    intro x2 σ H locs ls S hl h
    unfold wX11_rest_L7 at h
    refine lv_iload_n hx hb dX11_rest_7 rfl (lv_at hl 2 rfl) ?_
    refine lv_aload_n hx hb dX11_rest_8 rfl (lv_at hl 0 rfl) ?_
    refine o_get X S 0 5 (by decide) rfl rfl in_11 (by decide) k_324 rfl dX11_rest_9 ?_
    refine o_get X S 4 0 (by decide) rfl rfl in_1 (by decide) k_130 rfl dX11_rest_12 ?_
    refine lv_icmp_ge (tgt := 46) hx hb dX11_rest_15 (by decide) (fun q_3 => ?_) (fun q_3 => ?_)
    · replace h := h.1 q_3
      exact hk46 _ _ _ _ S (lv_sub hl [] rfl) h
    · replace h := h.2 q_3
      refine lv_aload_n hx hb dX11_rest_18 rfl (lv_at hl 0 rfl) ?_
      refine lv_iload_n hx hb dX11_rest_19 rfl (lv_at hl 2 rfl) ?_
      refine lv_iconst (v := 1) hx hb dX11_rest_20 (by decide) ?_
      refine lv_iload_n hx hb dX11_rest_21 rfl (lv_at hl 1 rfl) ?_
      refine o_callVi (k := 3) (EvB_ok z) X S (mX11_helps l x2 1 x1 σ _ h) (by decide) rfl rfl k_728 k_725 k_727 ks_22 k_1 ⟨rfl, by decide, by decide, by decide +kernel⟩ ⟨rfl, rfl⟩ ⟨Nat.le_of_ble_eq_true rfl, Nat.le_of_ble_eq_true rfl⟩ rfl hl.1 rfl (Nat.le_of_ble_eq_true rfl) dX11_rest_22 (fun r_4 σ_5 H locs h S => ?_)
      refine lv_if_ne (tgt := 38) hx hb dX11_rest_25 (by decide) (fun q_6 => ?_) (fun q_6 => ?_)
      · replace h := h.2 q_6
        exact hk38 _ _ _ _ S (lv_sub hl [] rfl) h
      · replace h := h.1 q_6
        refine lv_aload_n hx hb dX11_rest_28 rfl (lv_at hl 0 rfl) ?_
        refine lv_iload_n hx hb dX11_rest_29 rfl (lv_at hl 2 rfl) ?_
        refine lv_iconst (v := (-1)) hx hb dX11_rest_30 (by decide) ?_
        refine lv_iload_n hx hb dX11_rest_31 rfl (lv_at hl 1 rfl) ?_
        refine o_callVi (k := 3) (EvB_ok z) X S (mX11_helps l x2 (-1) x1 σ_5 _ h) (by decide) rfl rfl k_728 k_725 k_727 ks_22 k_1 ⟨rfl, by decide, by decide, by decide +kernel⟩ ⟨rfl, rfl⟩ ⟨Nat.le_of_ble_eq_true rfl, Nat.le_of_ble_eq_true rfl⟩ rfl hl.1 rfl (Nat.le_of_ble_eq_true rfl) dX11_rest_32 (fun r_7 σ_8 H locs h S => ?_)
        refine lv_if_eq (tgt := 40) hx hb dX11_rest_35 (by decide) (fun q_9 => ?_) (fun q_9 => ?_)
        · replace h := h.1 q_9
          obtain ⟨x2_10, ex2_10⟩ : ∃ y : Int32, y = x2 + 1 := ⟨_, rfl⟩
          replace h := h x2_10 ex2_10
          refine lv_iinc (v := x2_10) (lv' := [(2, .int x2_10), (0, .ref (ad 0)), (1, .int x1)]) hx hb dX11_rest_40 hl (k := 2) rfl (by rw [ex2_10]; rfl) (by decide) rfl (fun ls hl => ?_)
          refine lv_goto (tgt := 7) hx hb dX11_rest_43 (by decide) ?_
          exact ih _ _ _ _ _ S (lv_sub hl [1, 2, 0] rfl) h
        · replace h := h.2 q_9
          exact hk38 _ _ _ _ S (lv_sub hl [] rfl) h
set_option maxHeartbeats 4000000 in
set_option maxRecDepth 100000 in
theorem mX11_rest_b38 {D : va_G} {cy : Nat → ClassId} {ad z : Nat → Nat} (l : Launch) {p : Program} {e : Env} {s : State} {m : MethodId} {args : Array Value} {below : List Frame} {meth : Method} {c : Code} {A : Nat → Prop} {Q : Int32 → Sg → Prop} (X : Fx D (tyB cy) (EvB z) p s m args meth c cX11_rest 3 "BackBay" A) (hr : meth.sig.returnType = some .int) {σ : Sg} {H : Heap} {locs : List Loc} {ls : Array Slot} (S : St D ad 75 (shB cy ad) A s σ H locs) (hl : lv_has ls 3 []) (h : wX11_rest_b38 σ Q) : W p l e ({ frames := 7, cells := 0, slots := 0, locals := 177 }) s m args below meth c H locs 0 0 (MQ below (va_Qi Q (PosW D (tyB cy) ad 75 (shB cy ad) A) A) args s 0 0 A) (F0 m 38 ls []) := by
  have hx := X.1
  have hb := X.2.1
  unfold wX11_rest_b38 at h
  refine lv_iconst (v := 0) hx hb dX11_rest_38 (by decide) ?_
  exact o_iret X S hr h dX11_rest_39
set_option maxHeartbeats 4000000 in
set_option maxRecDepth 100000 in
theorem mX11_rest {D : va_G} {cy : Nat → ClassId} {ad z : Nat → Nat} (l : Launch) (σ : Sg) (Q : Int32 → Sg → Prop) (h : wX11_rest σ Q) : MIB D cy ad z l yX11_rest (.code yX11_rest cX11_rest 3 (some .int) :: gT) ({ frames := 7, cells := 0, slots := 0, locals := 177 }) [.ref (ad 0)] σ Q := by
  refine metI_of (by decide +kernel) (Nat.le_of_ble_eq_true rfl) ?_
  intro p e s m args below meth c A ls X hr hl S
  have X : Fx D (tyB cy) (EvB z) p s m args meth c cX11_rest 3 "BackBay" A := X
  have hl : lv_has ls 3 [(0, .ref (ad 0))] := hl
  have hx := X.1
  have hb := X.2.1
  unfold wX11_rest at h
  refine lv_aload_n hx hb dX11_rest_0 rfl (lv_at hl 0 rfl) ?_
  refine o_callVi (k := 0) (EvB_ok z) X S (mX11_wishNow l σ _ h) (by decide) rfl rfl k_620 k_617 k_619 ks_13 k_1 ⟨rfl, by decide, by decide, by decide +kernel⟩ ⟨rfl, rfl⟩ ⟨Nat.le_of_ble_eq_true rfl, Nat.le_of_ble_eq_true rfl⟩ rfl hl.1 rfl (Nat.le_of_ble_eq_true rfl) dX11_rest_1 (fun r_1 σ_2 H locs h S => ?_)
  refine lv_istore_n (lv' := [(1, .int r_1), (0, .ref (ad 0))]) hx hb dX11_rest_4 rfl hl (by decide) rfl (fun ls hl => ?_)
  refine lv_iconst (v := 0) hx hb dX11_rest_5 (by decide) ?_
  refine lv_istore_n (lv' := [(2, .int 0), (1, .int r_1), (0, .ref (ad 0))]) hx hb dX11_rest_6 rfl hl (by decide) rfl (fun ls hl => ?_)
  obtain ⟨n_7, h⟩ := h
  refine mX11_rest_L7 l X hr r_1 ?_ ?_ n_7 _ _ _ _ _ S (lv_sub hl [2, 1, 0] rfl) h
  · intro σ_11 H locs ls S hl h
    refine lv_iconst (v := 1) hx hb dX11_rest_46 (by decide) ?_
    exact o_iret X S hr h dX11_rest_47
  · intro σ_12 H locs ls S hl h
    exact mX11_rest_b38 l X hr S (lv_sub hl [] rfl) h
def wX11_keep (σ : Sg) (Q : Int64 → Sg → Prop) : Prop :=
  (((σ 48 0) < 6 → (wX9_add σ (fun σ_3 => Q (((σ_3 48 0) - 1).toInt64) σ_3))) ∧ (¬ (σ 48 0) < 6 → Q (-9000000000000000003 : Int64) σ))
set_option maxHeartbeats 4000000 in
set_option maxRecDepth 100000 in
theorem mX11_keep {D : va_G} {cy : Nat → ClassId} {ad z : Nat → Nat} (l : Launch) (σ : Sg) (Q : Int64 → Sg → Prop) (h : wX11_keep σ Q) : MLB D cy ad z l yX11_keep (.code yX11_keep cX11_keep 1 (some .long) :: gT) ({ frames := 2, cells := 0, slots := 0, locals := 81 }) [.ref (ad 0)] σ Q := by
  refine metL_of (by decide +kernel) (Nat.le_of_ble_eq_true rfl) ?_
  intro p e s m args below meth c A ls X hr hl S
  have X : Fx D (tyB cy) (EvB z) p s m args meth c cX11_keep 1 "BackBay" A := X
  have hl : lv_has ls 1 [(0, .ref (ad 0))] := hl
  have hx := X.1
  have hb := X.2.1
  unfold wX11_keep at h
  refine lv_aload_n hx hb dX11_keep_0 rfl (lv_at hl 0 rfl) ?_
  refine o_get X S 0 12 (by decide) rfl rfl in_11 (by decide) k_331 rfl dX11_keep_1 ?_
  refine o_get X S 48 0 (by decide) rfl rfl in_9 (by decide) k_270 rfl dX11_keep_4 ?_
  refine lv_bipush (v := 6) hx hb dX11_keep_7 (by decide) ?_
  refine lv_icmp_lt (tgt := 16) hx hb dX11_keep_9 (by decide) (fun q_1 => ?_) (fun q_1 => ?_)
  · replace h := h.1 q_1
    refine lv_aload_n hx hb dX11_keep_16 rfl (lv_at hl 0 rfl) ?_
    refine o_get X S 0 12 (by decide) rfl rfl in_11 (by decide) k_331 rfl dX11_keep_17 ?_
    refine lv_aload_n hx hb dX11_keep_20 rfl (lv_at hl 0 rfl) ?_
    refine o_get X S 0 5 (by decide) rfl rfl in_11 (by decide) k_324 rfl dX11_keep_21 ?_
    refine o_callVv (k := 1) (EvB_ok z) X S (mX9_add l σ _ h) (by decide) rfl rfl k_740 k_737 k_738 k_739 k_11 ⟨rfl, by decide, by decide, by decide +kernel⟩ ⟨rfl, rfl⟩ ⟨Nat.le_of_ble_eq_true rfl, Nat.le_of_ble_eq_true rfl⟩ rfl hl.1 rfl (Nat.le_of_ble_eq_true rfl) dX11_keep_24 (fun σ_3 H locs h S => ?_)
    refine lv_aload_n hx hb dX11_keep_27 rfl (lv_at hl 0 rfl) ?_
    refine o_get X S 0 12 (by decide) rfl rfl in_11 (by decide) k_331 rfl dX11_keep_28 ?_
    refine o_get X S 48 0 (by decide) rfl rfl in_9 (by decide) k_270 rfl dX11_keep_31 ?_
    refine lv_iconst (v := 1) hx hb dX11_keep_34 (by decide) ?_
    refine lv_isub hx hb dX11_keep_35 ?_
    refine lv_i2l hx hb dX11_keep_36 rfl ?_
    exact o_lret X S hr h dX11_keep_37
  · replace h := h.2 q_1
    refine lv_ldc2 (v := (-9000000000000000003)) hx hb X.2.2.2.1 (X.2.2.2.2.1 _ k_414) dX11_keep_12 ?_
    exact o_lret X S hr h dX11_keep_15
def wX11_lay (x1 : Int32) (σ : Sg) (Q : Int64 → Sg → Prop) : Prop :=
  (wX9_has x1 σ (fun r_1 σ_2 => ((r_1 = 0 → Q (-9000000000000000001 : Int64) σ_2) ∧ (¬ r_1 = 0 → (vp_in x1 6 ∧ (((σ_2 49 x1.toNatClampNeg) = (σ_2 4 0) → (vp_in x1 6 ∧ ∀ r_5, r_5 = 51 + x1.toNatClampNeg → (cpok 0 0 (σ_2 4 0) 10 10 ∧ ∀ σ_6, σ_6 = cpy σ_2 r_5 6 0 0 (σ_2 4 0).toNatClampNeg → Q (1 : Int64) σ_6))) ∧ (¬ (σ_2 49 x1.toNatClampNeg) = (σ_2 4 0) → Q (-9000000000000000002 : Int64) σ_2)))))))
set_option maxHeartbeats 4000000 in
set_option maxRecDepth 100000 in
theorem mX11_lay {D : va_G} {cy : Nat → ClassId} {ad z : Nat → Nat} (l : Launch) (x1 : Int32) (σ : Sg) (Q : Int64 → Sg → Prop) (h : wX11_lay x1 σ Q) : MLB D cy ad z l yX11_lay (.code yX11_lay cX11_lay 2 (some .long) :: gT) ({ frames := 2, cells := 0, slots := 0, locals := 60 }) [.ref (ad 0), .int x1] σ Q := by
  refine metL_of (by decide +kernel) (Nat.le_of_ble_eq_true rfl) ?_
  intro p e s m args below meth c A ls X hr hl S
  have X : Fx D (tyB cy) (EvB z) p s m args meth c cX11_lay 2 "BackBay" A := X
  have hl : lv_has ls 2 [(0, .ref (ad 0)), (1, .int x1)] := hl
  have hx := X.1
  have hb := X.2.1
  unfold wX11_lay at h
  refine lv_aload_n hx hb dX11_lay_0 rfl (lv_at hl 0 rfl) ?_
  refine o_get X S 0 12 (by decide) rfl rfl in_11 (by decide) k_331 rfl dX11_lay_1 ?_
  refine lv_iload_n hx hb dX11_lay_4 rfl (lv_at hl 1 rfl) ?_
  refine o_callVi (k := 1) (EvB_ok z) X S (mX9_has l x1 σ _ h) (by decide) rfl rfl k_749 k_746 k_747 k_748 k_11 ⟨rfl, by decide, by decide, by decide +kernel⟩ ⟨rfl, rfl⟩ ⟨Nat.le_of_ble_eq_true rfl, Nat.le_of_ble_eq_true rfl⟩ rfl hl.1 rfl (Nat.le_of_ble_eq_true rfl) dX11_lay_5 (fun r_1 σ_2 H locs h S => ?_)
  refine lv_if_ne (tgt := 15) hx hb dX11_lay_8 (by decide) (fun q_3 => ?_) (fun q_3 => ?_)
  · replace h := h.2 q_3
    refine lv_aload_n hx hb dX11_lay_15 rfl (lv_at hl 0 rfl) ?_
    refine o_get X S 0 12 (by decide) rfl rfl in_11 (by decide) k_331 rfl dX11_lay_16 ?_
    refine o_get X S 48 1 (by decide) rfl rfl in_9 (by decide) k_272 rfl dX11_lay_19 ?_
    refine lv_iload_n hx hb dX11_lay_22 rfl (lv_at hl 1 rfl) ?_
    refine o_iald X S 49 0 (by decide) (fun _ => rfl) rfl h.1 dX11_lay_23 ?_
    replace h := h.2
    refine lv_aload_n hx hb dX11_lay_24 rfl (lv_at hl 0 rfl) ?_
    refine o_get X S 0 5 (by decide) rfl rfl in_11 (by decide) k_324 rfl dX11_lay_25 ?_
    refine o_get X S 4 0 (by decide) rfl rfl in_1 (by decide) k_130 rfl dX11_lay_28 ?_
    refine lv_icmp_eq (tgt := 38) hx hb dX11_lay_31 (by decide) (fun q_4 => ?_) (fun q_4 => ?_)
    · replace h := h.1 q_4
      refine lv_aload_n hx hb dX11_lay_38 rfl (lv_at hl 0 rfl) ?_
      refine o_get X S 0 12 (by decide) rfl rfl in_11 (by decide) k_331 rfl dX11_lay_39 ?_
      refine o_get X S 48 2 (by decide) rfl rfl in_9 (by decide) k_274 rfl dX11_lay_42 ?_
      refine lv_iload_n hx hb dX11_lay_45 rfl (lv_at hl 1 rfl) ?_
      obtain ⟨r_5, er_5⟩ : ∃ y : Nat, y = 51 + x1.toNatClampNeg := ⟨_, rfl⟩
      refine o_rald2 X S (r := r_5) 50 3 (by decide) rfl rfl h.1 (by rw [er_5]) dX11_lay_46 ?_
      have hr_5 : isStr r_5 := er_5 ▸ isStr_of h.1
      replace h := h.2 r_5 er_5
      refine lv_iconst (v := 0) hx hb dX11_lay_47 (by decide) ?_
      refine lv_aload_n hx hb dX11_lay_48 rfl (lv_at hl 0 rfl) ?_
      refine o_get X S 0 5 (by decide) rfl rfl in_11 (by decide) k_324 rfl dX11_lay_49 ?_
      refine o_get X S 4 2 (by decide) rfl rfl in_1 (by decide) k_137 rfl dX11_lay_52 ?_
      refine lv_iconst (v := 0) hx hb dX11_lay_55 (by decide) ?_
      refine lv_aload_n hx hb dX11_lay_56 rfl (lv_at hl 0 rfl) ?_
      refine o_get X S 0 5 (by decide) rfl rfl in_11 (by decide) k_324 rfl dX11_lay_57 ?_
      refine o_get X S 4 0 (by decide) rfl rfl in_1 (by decide) k_130 rfl dX11_lay_60 ?_
      refine o_copyi X S hl.1 (X.2.2.2.2.1 _ k_403) (X.2.2.2.2.1 _ k_405) (X.2.2.2.2.1 _ k_404) (X.2.2.2.2.1 _ k_15) r_5 6 0 0 (isStr_lt hr_5) (by decide) (shT hr_5) (fun _ => rfl) rfl rfl h.1 (Nat.le_of_ble_eq_true rfl) (Nat.le_of_ble_eq_true rfl) dX11_lay_63 (fun σ_6 H locs eσ_6 S => ?_)
      replace h := h.2 σ_6 eσ_6
      refine lv_lconst (v := 1) hx hb dX11_lay_66 (by decide) ?_
      exact o_lret X S hr h dX11_lay_67
    · replace h := h.2 q_4
      refine lv_ldc2 (v := (-9000000000000000002)) hx hb X.2.2.2.1 (X.2.2.2.2.1 _ k_751) dX11_lay_34 ?_
      exact o_lret X S hr h dX11_lay_37
  · replace h := h.1 q_3
    refine lv_ldc2 (v := (-9000000000000000001)) hx hb X.2.2.2.1 (X.2.2.2.2.1 _ k_372) dX11_lay_11 ?_
    exact o_lret X S hr h dX11_lay_14
def wX11_apart_b22 (σ : Sg) (Q : Int64 → Sg → Prop) : Prop :=
  Q (-9000000000000000001 : Int64) σ
def wX11_apart_b64 (σ : Sg) (Q : Int64 → Sg → Prop) : Prop :=
  Q (-9000000000000000002 : Int64) σ
def wX11_apart (x1 : Int32) (x2 : Int32) (σ : Sg) (Q : Int64 → Sg → Prop) : Prop :=
  (wX9_has x1 σ (fun r_1 σ_2 => ((r_1 = 0 → wX11_apart_b22 σ_2 Q) ∧ (¬ r_1 = 0 → (wX9_has x2 σ_2 (fun r_4 σ_5 => ((r_4 = 0 → wX11_apart_b22 σ_5 Q) ∧ (¬ r_4 = 0 → (vp_in x1 6 ∧ (((σ_5 49 x1.toNatClampNeg) = (σ_5 4 0) → (vp_in x2 6 ∧ (((σ_5 49 x2.toNatClampNeg) = (σ_5 4 0) → (wX4_last (σ_5 4 0) σ_5 (fun r_9 σ_10 => (∀ T_11 : Nat, T_11 = (σ_10 0 3).toNatClampNeg → (isSten T_11 ∧ (vp_in x1 6 ∧ ∀ r_12, r_12 = 51 + x1.toNatClampNeg → (wX2_run 36 T_11 r_12 r_9 σ_10 (fun σ_14 => (∀ T_15 : Nat, T_15 = (σ_14 0 3).toNatClampNeg → (isSten T_15 ∧ (vp_in x2 6 ∧ ∀ r_16, r_16 = 51 + x2.toNatClampNeg → (wX2_run 38 T_15 r_16 r_9 σ_14 (fun σ_18 => (wX2_farthestFrom 36 38 r_9 σ_18 (fun r_19 σ_20 => Q r_19 σ_20))))))))))))))) ∧ (¬ (σ_5 49 x2.toNatClampNeg) = (σ_5 4 0) → wX11_apart_b64 σ_5 Q)))) ∧ (¬ (σ_5 49 x1.toNatClampNeg) = (σ_5 4 0) → wX11_apart_b64 σ_5 Q)))))))))))
set_option maxHeartbeats 4000000 in
set_option maxRecDepth 100000 in
theorem mX11_apart_b22 {D : va_G} {cy : Nat → ClassId} {ad z : Nat → Nat} (l : Launch) {p : Program} {e : Env} {s : State} {m : MethodId} {args : Array Value} {below : List Frame} {meth : Method} {c : Code} {A : Nat → Prop} {Q : Int64 → Sg → Prop} (X : Fx D (tyB cy) (EvB z) p s m args meth c cX11_apart 4 "BackBay" A) (hr : meth.sig.returnType = some .long) {σ : Sg} {H : Heap} {locs : List Loc} {ls : Array Slot} (S : St D ad 75 (shB cy ad) A s σ H locs) (hl : lv_has ls 4 []) (h : wX11_apart_b22 σ Q) : W p l e ({ frames := 5, cells := 0, slots := 0, locals := 131 }) s m args below meth c H locs 0 0 (MQ below (va_Ql Q (PosW D (tyB cy) ad 75 (shB cy ad) A) A) args s 0 0 A) (F0 m 22 ls []) := by
  have hx := X.1
  have hb := X.2.1
  unfold wX11_apart_b22 at h
  refine lv_ldc2 (v := (-9000000000000000001)) hx hb X.2.2.2.1 (X.2.2.2.2.1 _ k_372) dX11_apart_22 ?_
  exact o_lret X S hr h dX11_apart_25
set_option maxHeartbeats 4000000 in
set_option maxRecDepth 100000 in
theorem mX11_apart_b64 {D : va_G} {cy : Nat → ClassId} {ad z : Nat → Nat} (l : Launch) {p : Program} {e : Env} {s : State} {m : MethodId} {args : Array Value} {below : List Frame} {meth : Method} {c : Code} {A : Nat → Prop} {Q : Int64 → Sg → Prop} (X : Fx D (tyB cy) (EvB z) p s m args meth c cX11_apart 4 "BackBay" A) (hr : meth.sig.returnType = some .long) {σ : Sg} {H : Heap} {locs : List Loc} {ls : Array Slot} (S : St D ad 75 (shB cy ad) A s σ H locs) (hl : lv_has ls 4 []) (h : wX11_apart_b64 σ Q) : W p l e ({ frames := 5, cells := 0, slots := 0, locals := 131 }) s m args below meth c H locs 0 0 (MQ below (va_Ql Q (PosW D (tyB cy) ad 75 (shB cy ad) A) A) args s 0 0 A) (F0 m 64 ls []) := by
  have hx := X.1
  have hb := X.2.1
  unfold wX11_apart_b64 at h
  refine lv_ldc2 (v := (-9000000000000000002)) hx hb X.2.2.2.1 (X.2.2.2.2.1 _ k_751) dX11_apart_64 ?_
  exact o_lret X S hr h dX11_apart_67
set_option maxHeartbeats 4000000 in
set_option maxRecDepth 100000 in
theorem mX11_apart {D : va_G} {cy : Nat → ClassId} {ad z : Nat → Nat} (l : Launch) (x1 : Int32) (x2 : Int32) (σ : Sg) (Q : Int64 → Sg → Prop) (h : wX11_apart x1 x2 σ Q) : MLB D cy ad z l yX11_apart (.code yX11_apart cX11_apart 4 (some .long) :: gT) ({ frames := 5, cells := 0, slots := 0, locals := 131 }) [.ref (ad 0), .int x1, .int x2] σ Q := by
  refine metL_of (by decide +kernel) (Nat.le_of_ble_eq_true rfl) ?_
  intro p e s m args below meth c A ls X hr hl S
  have X : Fx D (tyB cy) (EvB z) p s m args meth c cX11_apart 4 "BackBay" A := X
  have hl : lv_has ls 4 [(0, .ref (ad 0)), (1, .int x1), (2, .int x2)] := hl
  have hx := X.1
  have hb := X.2.1
  unfold wX11_apart at h
  refine lv_aload_n hx hb dX11_apart_0 rfl (lv_at hl 0 rfl) ?_
  refine o_get X S 0 12 (by decide) rfl rfl in_11 (by decide) k_331 rfl dX11_apart_1 ?_
  refine lv_iload_n hx hb dX11_apart_4 rfl (lv_at hl 1 rfl) ?_
  refine o_callVi (k := 1) (EvB_ok z) X S (mX9_has l x1 σ _ h) (by decide) rfl rfl k_749 k_746 k_747 k_748 k_11 ⟨rfl, by decide, by decide, by decide +kernel⟩ ⟨rfl, rfl⟩ ⟨Nat.le_of_ble_eq_true rfl, Nat.le_of_ble_eq_true rfl⟩ rfl hl.1 rfl (Nat.le_of_ble_eq_true rfl) dX11_apart_5 (fun r_1 σ_2 H locs h S => ?_)
  refine lv_if_eq (tgt := 22) hx hb dX11_apart_8 (by decide) (fun q_3 => ?_) (fun q_3 => ?_)
  · replace h := h.1 q_3
    exact mX11_apart_b22 l X hr S (lv_sub hl [] rfl) h
  · replace h := h.2 q_3
    refine lv_aload_n hx hb dX11_apart_11 rfl (lv_at hl 0 rfl) ?_
    refine o_get X S 0 12 (by decide) rfl rfl in_11 (by decide) k_331 rfl dX11_apart_12 ?_
    refine lv_iload_n hx hb dX11_apart_15 rfl (lv_at hl 2 rfl) ?_
    refine o_callVi (k := 1) (EvB_ok z) X S (mX9_has l x2 σ_2 _ h) (by decide) rfl rfl k_749 k_746 k_747 k_748 k_11 ⟨rfl, by decide, by decide, by decide +kernel⟩ ⟨rfl, rfl⟩ ⟨Nat.le_of_ble_eq_true rfl, Nat.le_of_ble_eq_true rfl⟩ rfl hl.1 rfl (Nat.le_of_ble_eq_true rfl) dX11_apart_16 (fun r_4 σ_5 H locs h S => ?_)
    refine lv_if_ne (tgt := 26) hx hb dX11_apart_19 (by decide) (fun q_6 => ?_) (fun q_6 => ?_)
    · replace h := h.2 q_6
      refine lv_aload_n hx hb dX11_apart_26 rfl (lv_at hl 0 rfl) ?_
      refine o_get X S 0 12 (by decide) rfl rfl in_11 (by decide) k_331 rfl dX11_apart_27 ?_
      refine o_get X S 48 1 (by decide) rfl rfl in_9 (by decide) k_272 rfl dX11_apart_30 ?_
      refine lv_iload_n hx hb dX11_apart_33 rfl (lv_at hl 1 rfl) ?_
      refine o_iald X S 49 0 (by decide) (fun _ => rfl) rfl h.1 dX11_apart_34 ?_
      replace h := h.2
      refine lv_aload_n hx hb dX11_apart_35 rfl (lv_at hl 0 rfl) ?_
      refine o_get X S 0 5 (by decide) rfl rfl in_11 (by decide) k_324 rfl dX11_apart_36 ?_
      refine o_get X S 4 0 (by decide) rfl rfl in_1 (by decide) k_130 rfl dX11_apart_39 ?_
      refine lv_icmp_ne (tgt := 64) hx hb dX11_apart_42 (by decide) (fun q_7 => ?_) (fun q_7 => ?_)
      · replace h := h.2 q_7
        exact mX11_apart_b64 l X hr S (lv_sub hl [] rfl) h
      · replace h := h.1 q_7
        refine lv_aload_n hx hb dX11_apart_45 rfl (lv_at hl 0 rfl) ?_
        refine o_get X S 0 12 (by decide) rfl rfl in_11 (by decide) k_331 rfl dX11_apart_46 ?_
        refine o_get X S 48 1 (by decide) rfl rfl in_9 (by decide) k_272 rfl dX11_apart_49 ?_
        refine lv_iload_n hx hb dX11_apart_52 rfl (lv_at hl 2 rfl) ?_
        refine o_iald X S 49 0 (by decide) (fun _ => rfl) rfl h.1 dX11_apart_53 ?_
        replace h := h.2
        refine lv_aload_n hx hb dX11_apart_54 rfl (lv_at hl 0 rfl) ?_
        refine o_get X S 0 5 (by decide) rfl rfl in_11 (by decide) k_324 rfl dX11_apart_55 ?_
        refine o_get X S 4 0 (by decide) rfl rfl in_1 (by decide) k_130 rfl dX11_apart_58 ?_
        refine lv_icmp_eq (tgt := 68) hx hb dX11_apart_61 (by decide) (fun q_8 => ?_) (fun q_8 => ?_)
        · replace h := h.1 q_8
          refine lv_aload_n hx hb dX11_apart_68 rfl (lv_at hl 0 rfl) ?_
          refine o_get X S 0 6 (by decide) rfl rfl in_11 (by decide) k_325 rfl dX11_apart_69 ?_
          refine lv_aload_n hx hb dX11_apart_72 rfl (lv_at hl 0 rfl) ?_
          refine o_get X S 0 5 (by decide) rfl rfl in_11 (by decide) k_324 rfl dX11_apart_73 ?_
          refine o_get X S 4 0 (by decide) rfl rfl in_1 (by decide) k_130 rfl dX11_apart_76 ?_
          refine o_callVi (k := 1) (EvB_ok z) X S (mX4_last l (σ_5 4 0) σ_5 _ h) (by decide) rfl rfl k_628 k_625 k_626 k_627 k_6 ⟨rfl, by decide, by decide, by decide +kernel⟩ ⟨rfl, rfl⟩ ⟨Nat.le_of_ble_eq_true rfl, Nat.le_of_ble_eq_true rfl⟩ rfl hl.1 rfl (Nat.le_of_ble_eq_true rfl) dX11_apart_79 (fun r_9 σ_10 H locs h S => ?_)
          refine lv_istore_n (lv' := [(3, .int r_9), (0, .ref (ad 0)), (1, .int x1), (2, .int x2)]) hx hb dX11_apart_82 rfl hl (by decide) rfl (fun ls hl => ?_)
          refine lv_aload_n hx hb dX11_apart_83 rfl (lv_at hl 1 rfl) ?_
          refine o_get X S 0 8 (by decide) rfl rfl in_11 (by decide) k_327 rfl dX11_apart_84 ?_
          refine lv_aload_n hx hb dX11_apart_87 rfl (lv_at hl 1 rfl) ?_
          obtain ⟨T_11, eT_11⟩ : ∃ y : Nat, y = (σ_10 0 3).toNatClampNeg := ⟨_, rfl⟩
          refine o_get X S 0 3 (by decide) rfl rfl in_11 (by decide) k_322 (v := .ref (ad T_11)) (by rw [eT_11]; rfl) dX11_apart_88 ?_
          have hT_11 : isSten T_11 := (h T_11 eT_11).1
          replace h := (h T_11 eT_11).2
          refine lv_aload_n hx hb dX11_apart_91 rfl (lv_at hl 1 rfl) ?_
          refine o_get X S 0 12 (by decide) rfl rfl in_11 (by decide) k_331 rfl dX11_apart_92 ?_
          refine o_get X S 48 2 (by decide) rfl rfl in_9 (by decide) k_274 rfl dX11_apart_95 ?_
          refine lv_iload_n hx hb dX11_apart_98 rfl (lv_at hl 2 rfl) ?_
          obtain ⟨r_12, er_12⟩ : ∃ y : Nat, y = 51 + x1.toNatClampNeg := ⟨_, rfl⟩
          refine o_rald2 X S (r := r_12) 50 3 (by decide) rfl rfl h.1 (by rw [er_12]) dX11_apart_99 ?_
          have hr_12 : isStr r_12 := er_12 ▸ isStr_of h.1
          replace h := h.2 r_12 er_12
          refine lv_iload_n hx hb dX11_apart_100 rfl (lv_at hl 0 rfl) ?_
          refine o_callVv (k := 3) (EvB_ok z) X S (mX2_run l isCou_36 hT_11 hr_12 r_9 σ_10 _ h) (isCou_lt isCou_36 0 (by decide)) rfl rfl k_579 k_576 k_577 k_578 k_8 ⟨rfl, by decide, by decide, by decide +kernel⟩ ⟨rfl, rfl⟩ ⟨Nat.le_of_ble_eq_true rfl, Nat.le_of_ble_eq_true rfl⟩ rfl hl.1 rfl (Nat.le_of_ble_eq_true rfl) dX11_apart_101 (fun σ_14 H locs h S => ?_)
          refine lv_aload_n hx hb dX11_apart_104 rfl (lv_at hl 1 rfl) ?_
          refine o_get X S 0 9 (by decide) rfl rfl in_11 (by decide) k_328 rfl dX11_apart_105 ?_
          refine lv_aload_n hx hb dX11_apart_108 rfl (lv_at hl 1 rfl) ?_
          obtain ⟨T_15, eT_15⟩ : ∃ y : Nat, y = (σ_14 0 3).toNatClampNeg := ⟨_, rfl⟩
          refine o_get X S 0 3 (by decide) rfl rfl in_11 (by decide) k_322 (v := .ref (ad T_15)) (by rw [eT_15]; rfl) dX11_apart_109 ?_
          have hT_15 : isSten T_15 := (h T_15 eT_15).1
          replace h := (h T_15 eT_15).2
          refine lv_aload_n hx hb dX11_apart_112 rfl (lv_at hl 1 rfl) ?_
          refine o_get X S 0 12 (by decide) rfl rfl in_11 (by decide) k_331 rfl dX11_apart_113 ?_
          refine o_get X S 48 2 (by decide) rfl rfl in_9 (by decide) k_274 rfl dX11_apart_116 ?_
          refine lv_iload_n hx hb dX11_apart_119 rfl (lv_at hl 3 rfl) ?_
          obtain ⟨r_16, er_16⟩ : ∃ y : Nat, y = 51 + x2.toNatClampNeg := ⟨_, rfl⟩
          refine o_rald2 X S (r := r_16) 50 3 (by decide) rfl rfl h.1 (by rw [er_16]) dX11_apart_120 ?_
          have hr_16 : isStr r_16 := er_16 ▸ isStr_of h.1
          replace h := h.2 r_16 er_16
          refine lv_iload_n hx hb dX11_apart_121 rfl (lv_at hl 0 rfl) ?_
          refine o_callVv (k := 3) (EvB_ok z) X S (mX2_run l isCou_38 hT_15 hr_16 r_9 σ_14 _ h) (isCou_lt isCou_38 0 (by decide)) rfl rfl k_579 k_576 k_577 k_578 k_8 ⟨rfl, by decide, by decide, by decide +kernel⟩ ⟨rfl, rfl⟩ ⟨Nat.le_of_ble_eq_true rfl, Nat.le_of_ble_eq_true rfl⟩ rfl hl.1 rfl (Nat.le_of_ble_eq_true rfl) dX11_apart_122 (fun σ_18 H locs h S => ?_)
          refine lv_aload_n hx hb dX11_apart_125 rfl (lv_at hl 1 rfl) ?_
          refine o_get X S 0 8 (by decide) rfl rfl in_11 (by decide) k_327 rfl dX11_apart_126 ?_
          refine lv_aload_n hx hb dX11_apart_129 rfl (lv_at hl 1 rfl) ?_
          refine o_get X S 0 9 (by decide) rfl rfl in_11 (by decide) k_328 rfl dX11_apart_130 ?_
          refine lv_iload_n hx hb dX11_apart_133 rfl (lv_at hl 0 rfl) ?_
          refine o_callVl (k := 2) (EvB_ok z) X S (mX2_farthestFrom l isCou_36 isCou_38 r_9 σ_18 _ h) (isCou_lt isCou_36 0 (by decide)) rfl rfl k_759 k_756 k_757 k_758 k_8 ⟨rfl, by decide, by decide, by decide +kernel⟩ ⟨rfl, rfl⟩ ⟨Nat.le_of_ble_eq_true rfl, Nat.le_of_ble_eq_true rfl⟩ rfl hl.1 rfl (Nat.le_of_ble_eq_true rfl) dX11_apart_134 (fun r_19 σ_20 H locs h S => ?_)
          exact o_lret X S hr h dX11_apart_137
        · replace h := h.2 q_8
          exact mX11_apart_b64 l X hr S (lv_sub hl [] rfl) h
    · replace h := h.1 q_6
      exact mX11_apart_b22 l X hr S (lv_sub hl [] rfl) h
def wX11_kind_b26 (y0 : Int64) (σ : Sg) (Q : Int64 → Sg → Prop) : Prop :=
  Q y0 σ
def wX11_kind (x1 : Int32) (σ : Sg) (Q : Int64 → Sg → Prop) : Prop :=
  (∀ T_1 : Nat, T_1 = (σ 0 3).toNatClampNeg → (isSten T_1 ∧ (wX8_has T_1 x1 σ (fun r_2 σ_3 => ((r_2 = 0 → wX11_kind_b26 (-9000000000000000001 : Int64) σ_3 Q) ∧ (¬ r_2 = 0 → (∀ T_5 : Nat, T_5 = (σ_3 0 3).toNatClampNeg → (isSten T_5 ∧ (wX8_kindOf T_5 x1 σ_3 (fun r_6 σ_7 => wX11_kind_b26 (r_6.toInt64) σ_7 Q))))))))))
set_option maxHeartbeats 4000000 in
set_option maxRecDepth 100000 in
theorem mX11_kind_b26 {D : va_G} {cy : Nat → ClassId} {ad z : Nat → Nat} (l : Launch) {p : Program} {e : Env} {s : State} {m : MethodId} {args : Array Value} {below : List Frame} {meth : Method} {c : Code} {A : Nat → Prop} {Q : Int64 → Sg → Prop} (X : Fx D (tyB cy) (EvB z) p s m args meth c cX11_kind 2 "BackBay" A) (hr : meth.sig.returnType = some .long) (y0 : Int64) {σ : Sg} {H : Heap} {locs : List Loc} {ls : Array Slot} (S : St D ad 75 (shB cy ad) A s σ H locs) (hl : lv_has ls 2 []) (h : wX11_kind_b26 y0 σ Q) : W p l e ({ frames := 2, cells := 0, slots := 0, locals := 43 }) s m args below meth c H locs 0 0 (MQ below (va_Ql Q (PosW D (tyB cy) ad 75 (shB cy ad) A) A) args s 0 0 A) (F0 m 26 ls [.long y0]) := by
  have hx := X.1
  have hb := X.2.1
  unfold wX11_kind_b26 at h
  exact o_lret X S hr h dX11_kind_26
set_option maxHeartbeats 4000000 in
set_option maxRecDepth 100000 in
theorem mX11_kind {D : va_G} {cy : Nat → ClassId} {ad z : Nat → Nat} (l : Launch) (x1 : Int32) (σ : Sg) (Q : Int64 → Sg → Prop) (h : wX11_kind x1 σ Q) : MLB D cy ad z l yX11_kind (.code yX11_kind cX11_kind 2 (some .long) :: gT) ({ frames := 2, cells := 0, slots := 0, locals := 43 }) [.ref (ad 0), .int x1] σ Q := by
  refine metL_of (by decide +kernel) (Nat.le_of_ble_eq_true rfl) ?_
  intro p e s m args below meth c A ls X hr hl S
  have X : Fx D (tyB cy) (EvB z) p s m args meth c cX11_kind 2 "BackBay" A := X
  have hl : lv_has ls 2 [(0, .ref (ad 0)), (1, .int x1)] := hl
  have hx := X.1
  have hb := X.2.1
  unfold wX11_kind at h
  refine lv_aload_n hx hb dX11_kind_0 rfl (lv_at hl 0 rfl) ?_
  obtain ⟨T_1, eT_1⟩ : ∃ y : Nat, y = (σ 0 3).toNatClampNeg := ⟨_, rfl⟩
  refine o_get X S 0 3 (by decide) rfl rfl in_11 (by decide) k_322 (v := .ref (ad T_1)) (by rw [eT_1]; rfl) dX11_kind_1 ?_
  have hT_1 : isSten T_1 := (h T_1 eT_1).1
  replace h := (h T_1 eT_1).2
  refine lv_iload_n hx hb dX11_kind_4 rfl (lv_at hl 1 rfl) ?_
  refine o_callVi (k := 1) (EvB_ok z) X S (mX8_has l hT_1 x1 σ _ h) (isSten_lt hT_1 0 (by decide)) ((shS0 hT_1) _) rfl k_770 k_767 k_768 k_769 k_3 ⟨rfl, by decide, by decide, by decide +kernel⟩ ⟨rfl, rfl⟩ ⟨Nat.le_of_ble_eq_true rfl, Nat.le_of_ble_eq_true rfl⟩ rfl hl.1 rfl (Nat.le_of_ble_eq_true rfl) dX11_kind_5 (fun r_2 σ_3 H locs h S => ?_)
  refine lv_if_eq (tgt := 23) hx hb dX11_kind_8 (by decide) (fun q_4 => ?_) (fun q_4 => ?_)
  · replace h := h.1 q_4
    refine lv_ldc2 (v := (-9000000000000000001)) hx hb X.2.2.2.1 (X.2.2.2.2.1 _ k_372) dX11_kind_23 ?_
    exact mX11_kind_b26 l X hr (-9000000000000000001 : Int64) S (lv_sub hl [] rfl) h
  · replace h := h.2 q_4
    refine lv_aload_n hx hb dX11_kind_11 rfl (lv_at hl 0 rfl) ?_
    obtain ⟨T_5, eT_5⟩ : ∃ y : Nat, y = (σ_3 0 3).toNatClampNeg := ⟨_, rfl⟩
    refine o_get X S 0 3 (by decide) rfl rfl in_11 (by decide) k_322 (v := .ref (ad T_5)) (by rw [eT_5]; rfl) dX11_kind_12 ?_
    have hT_5 : isSten T_5 := (h T_5 eT_5).1
    replace h := (h T_5 eT_5).2
    refine lv_iload_n hx hb dX11_kind_15 rfl (lv_at hl 1 rfl) ?_
    refine o_callVi (k := 1) (EvB_ok z) X S (mX8_kindOf l hT_5 x1 σ_3 _ h) (isSten_lt hT_5 0 (by decide)) ((shS0 hT_5) _) rfl k_775 k_772 k_773 k_774 k_3 ⟨rfl, by decide, by decide, by decide +kernel⟩ ⟨rfl, rfl⟩ ⟨Nat.le_of_ble_eq_true rfl, Nat.le_of_ble_eq_true rfl⟩ rfl hl.1 rfl (Nat.le_of_ble_eq_true rfl) dX11_kind_16 (fun r_6 σ_7 H locs h S => ?_)
    refine lv_i2l hx hb dX11_kind_19 rfl ?_
    refine lv_goto (tgt := 26) hx hb dX11_kind_20 (by decide) ?_
    exact mX11_kind_b26 l X hr (r_6.toInt64) S (lv_sub hl [] rfl) h
def wX11_as_b20 (σ : Sg) (Q : Int64 → Sg → Prop) : Prop :=
  Q (-9000000000000000001 : Int64) σ
def wX11_as (x1 : Int32) (x2 : Int32) (σ : Sg) (Q : Int64 → Sg → Prop) : Prop :=
  (∀ T_1 : Nat, T_1 = (σ 0 3).toNatClampNeg → (isSten T_1 ∧ (wX8_has T_1 x1 σ (fun r_2 σ_3 => ((r_2 = 0 → wX11_as_b20 σ_3 Q) ∧ (¬ r_2 = 0 → (wX11_isWithin x2 0 5 σ_3 (fun r_5 σ_6 => ((r_5 = 0 → wX11_as_b20 σ_6 Q) ∧ (¬ r_5 = 0 → (∀ T_8 : Nat, T_8 = (σ_6 0 3).toNatClampNeg → (isSten T_8 ∧ (wX8_kindOf T_8 x1 σ_6 (fun r_9 σ_10 => (wX11_isKind r_9 x2 σ_10 (fun r_11 σ_12 => ((r_11 = 0 → (wX11_found 3 σ_12 (fun r_17 σ_18 => Q r_17 σ_18))) ∧ (¬ r_11 = 0 → (∀ T_14 : Nat, T_14 = (σ_12 0 3).toNatClampNeg → (isSten T_14 ∧ (vp_in x1 60 ∧ (wX11_foundNothing ((σ_12 (T_14 + 4) x1.toNatClampNeg).toInt64) σ_12 (fun r_15 σ_16 => Q r_15 σ_16)))))))))))))))))))))))
set_option maxHeartbeats 4000000 in
set_option maxRecDepth 100000 in
theorem mX11_as_b20 {D : va_G} {cy : Nat → ClassId} {ad z : Nat → Nat} (l : Launch) {p : Program} {e : Env} {s : State} {m : MethodId} {args : Array Value} {below : List Frame} {meth : Method} {c : Code} {A : Nat → Prop} {Q : Int64 → Sg → Prop} (X : Fx D (tyB cy) (EvB z) p s m args meth c cX11_as 3 "BackBay" A) (hr : meth.sig.returnType = some .long) {σ : Sg} {H : Heap} {locs : List Loc} {ls : Array Slot} (S : St D ad 75 (shB cy ad) A s σ H locs) (hl : lv_has ls 3 []) (h : wX11_as_b20 σ Q) : W p l e ({ frames := 2, cells := 0, slots := 0, locals := 43 }) s m args below meth c H locs 0 0 (MQ below (va_Ql Q (PosW D (tyB cy) ad 75 (shB cy ad) A) A) args s 0 0 A) (F0 m 20 ls []) := by
  have hx := X.1
  have hb := X.2.1
  unfold wX11_as_b20 at h
  refine lv_ldc2 (v := (-9000000000000000001)) hx hb X.2.2.2.1 (X.2.2.2.2.1 _ k_372) dX11_as_20 ?_
  exact o_lret X S hr h dX11_as_23
set_option maxHeartbeats 4000000 in
set_option maxRecDepth 100000 in
theorem mX11_as {D : va_G} {cy : Nat → ClassId} {ad z : Nat → Nat} (l : Launch) (x1 : Int32) (x2 : Int32) (σ : Sg) (Q : Int64 → Sg → Prop) (h : wX11_as x1 x2 σ Q) : MLB D cy ad z l yX11_as (.code yX11_as cX11_as 3 (some .long) :: gT) ({ frames := 2, cells := 0, slots := 0, locals := 43 }) [.ref (ad 0), .int x1, .int x2] σ Q := by
  refine metL_of (by decide +kernel) (Nat.le_of_ble_eq_true rfl) ?_
  intro p e s m args below meth c A ls X hr hl S
  have X : Fx D (tyB cy) (EvB z) p s m args meth c cX11_as 3 "BackBay" A := X
  have hl : lv_has ls 3 [(0, .ref (ad 0)), (1, .int x1), (2, .int x2)] := hl
  have hx := X.1
  have hb := X.2.1
  unfold wX11_as at h
  refine lv_aload_n hx hb dX11_as_0 rfl (lv_at hl 0 rfl) ?_
  obtain ⟨T_1, eT_1⟩ : ∃ y : Nat, y = (σ 0 3).toNatClampNeg := ⟨_, rfl⟩
  refine o_get X S 0 3 (by decide) rfl rfl in_11 (by decide) k_322 (v := .ref (ad T_1)) (by rw [eT_1]; rfl) dX11_as_1 ?_
  have hT_1 : isSten T_1 := (h T_1 eT_1).1
  replace h := (h T_1 eT_1).2
  refine lv_iload_n hx hb dX11_as_4 rfl (lv_at hl 1 rfl) ?_
  refine o_callVi (k := 1) (EvB_ok z) X S (mX8_has l hT_1 x1 σ _ h) (isSten_lt hT_1 0 (by decide)) ((shS0 hT_1) _) rfl k_770 k_767 k_768 k_769 k_3 ⟨rfl, by decide, by decide, by decide +kernel⟩ ⟨rfl, rfl⟩ ⟨Nat.le_of_ble_eq_true rfl, Nat.le_of_ble_eq_true rfl⟩ rfl hl.1 rfl (Nat.le_of_ble_eq_true rfl) dX11_as_5 (fun r_2 σ_3 H locs h S => ?_)
  refine lv_if_eq (tgt := 20) hx hb dX11_as_8 (by decide) (fun q_4 => ?_) (fun q_4 => ?_)
  · replace h := h.1 q_4
    exact mX11_as_b20 l X hr S (lv_sub hl [] rfl) h
  · replace h := h.2 q_4
    refine lv_iload_n hx hb dX11_as_11 rfl (lv_at hl 2 rfl) ?_
    refine lv_iconst (v := 0) hx hb dX11_as_12 (by decide) ?_
    refine lv_iconst (v := 5) hx hb dX11_as_13 (by decide) ?_
    refine o_callSi (k := 3) (EvB_ok z) X S (mX11_isWithin l x2 0 5 σ_3 _ h) k_371 k_369 k_370 k_1 ⟨by decide, by decide, by decide +kernel⟩ ⟨rfl, rfl⟩ ⟨Nat.le_of_ble_eq_true rfl, Nat.le_of_ble_eq_true rfl⟩ rfl hl.1 rfl (Nat.le_of_ble_eq_true rfl) dX11_as_14 (fun r_5 σ_6 H locs h S => ?_)
    refine lv_if_ne (tgt := 24) hx hb dX11_as_17 (by decide) (fun q_7 => ?_) (fun q_7 => ?_)
    · replace h := h.2 q_7
      refine lv_aload_n hx hb dX11_as_24 rfl (lv_at hl 0 rfl) ?_
      obtain ⟨T_8, eT_8⟩ : ∃ y : Nat, y = (σ_6 0 3).toNatClampNeg := ⟨_, rfl⟩
      refine o_get X S 0 3 (by decide) rfl rfl in_11 (by decide) k_322 (v := .ref (ad T_8)) (by rw [eT_8]; rfl) dX11_as_25 ?_
      have hT_8 : isSten T_8 := (h T_8 eT_8).1
      replace h := (h T_8 eT_8).2
      refine lv_iload_n hx hb dX11_as_28 rfl (lv_at hl 1 rfl) ?_
      refine o_callVi (k := 1) (EvB_ok z) X S (mX8_kindOf l hT_8 x1 σ_6 _ h) (isSten_lt hT_8 0 (by decide)) ((shS0 hT_8) _) rfl k_775 k_772 k_773 k_774 k_3 ⟨rfl, by decide, by decide, by decide +kernel⟩ ⟨rfl, rfl⟩ ⟨Nat.le_of_ble_eq_true rfl, Nat.le_of_ble_eq_true rfl⟩ rfl hl.1 rfl (Nat.le_of_ble_eq_true rfl) dX11_as_29 (fun r_9 σ_10 H locs h S => ?_)
      refine lv_iload_n hx hb dX11_as_32 rfl (lv_at hl 2 rfl) ?_
      refine o_callSi (k := 2) (EvB_ok z) X S (mX11_isKind l r_9 x2 σ_10 _ h) k_784 k_782 k_783 k_1 ⟨by decide, by decide, by decide +kernel⟩ ⟨rfl, rfl⟩ ⟨Nat.le_of_ble_eq_true rfl, Nat.le_of_ble_eq_true rfl⟩ rfl hl.1 rfl (Nat.le_of_ble_eq_true rfl) dX11_as_33 (fun r_11 σ_12 H locs h S => ?_)
      refine lv_if_ne (tgt := 45) hx hb dX11_as_36 (by decide) (fun q_13 => ?_) (fun q_13 => ?_)
      · replace h := h.2 q_13
        refine lv_aload_n hx hb dX11_as_45 rfl (lv_at hl 0 rfl) ?_
        refine lv_aload_n hx hb dX11_as_46 rfl (lv_at hl 0 rfl) ?_
        obtain ⟨T_14, eT_14⟩ : ∃ y : Nat, y = (σ_12 0 3).toNatClampNeg := ⟨_, rfl⟩
        refine o_get X S 0 3 (by decide) rfl rfl in_11 (by decide) k_322 (v := .ref (ad T_14)) (by rw [eT_14]; rfl) dX11_as_47 ?_
        have hT_14 : isSten T_14 := (h T_14 eT_14).1
        replace h := (h T_14 eT_14).2
        refine o_get X S T_14 5 (isSten_lt hT_14 0 (by decide)) ((shS0 hT_14) _) rfl in_8 (by decide) k_87 rfl dX11_as_50 ?_
        refine lv_iload_n hx hb dX11_as_53 rfl (lv_at hl 1 rfl) ?_
        refine o_iald X S (T_14 + 4) 0 (isSten_lt hT_14 4 (by decide)) (shS4 hT_14) rfl h.1 dX11_as_54 ?_
        replace h := h.2
        refine lv_i2l hx hb dX11_as_55 rfl ?_
        refine o_callVl (k := 1) (EvB_ok z) X S (mX11_foundNothing l ((σ_12 (T_14 + 4) x1.toNatClampNeg).toInt64) σ_12 _ h) (by decide) rfl rfl k_386 k_383 k_385 ks_1 k_1 ⟨rfl, by decide, by decide, by decide +kernel⟩ ⟨rfl, rfl⟩ ⟨Nat.le_of_ble_eq_true rfl, Nat.le_of_ble_eq_true rfl⟩ rfl hl.1 rfl (Nat.le_of_ble_eq_true rfl) dX11_as_56 (fun r_15 σ_16 H locs h S => ?_)
        exact o_lret X S hr h dX11_as_59
      · replace h := h.1 q_13
        refine lv_aload_n hx hb dX11_as_39 rfl (lv_at hl 0 rfl) ?_
        refine lv_iconst (v := 3) hx hb dX11_as_40 (by decide) ?_
        refine o_callVl (k := 1) (EvB_ok z) X S (mX11_found l 3 σ_12 _ h) (by decide) rfl rfl k_376 k_373 k_375 ks_0 k_1 ⟨rfl, by decide, by decide, by decide +kernel⟩ ⟨rfl, rfl⟩ ⟨Nat.le_of_ble_eq_true rfl, Nat.le_of_ble_eq_true rfl⟩ rfl hl.1 rfl (Nat.le_of_ble_eq_true rfl) dX11_as_41 (fun r_17 σ_18 H locs h S => ?_)
        exact o_lret X S hr h dX11_as_44
    · replace h := h.1 q_7
      exact mX11_as_b20 l X hr S (lv_sub hl [] rfl) h
def wX11_ask_b20 (σ : Sg) (Q : Int64 → Sg → Prop) : Prop :=
  Q (-9000000000000000001 : Int64) σ
def wX11_ask_b65 (y0 : Int64) (σ : Sg) (Q : Int64 → Sg → Prop) : Prop :=
  Q y0 σ
def wX11_ask (x1 : Int32) (x2 : Int32) (σ : Sg) (Q : Int64 → Sg → Prop) : Prop :=
  (∀ T_1 : Nat, T_1 = (σ 0 3).toNatClampNeg → (isSten T_1 ∧ (wX8_has T_1 x1 σ (fun r_2 σ_3 => ((r_2 = 0 → wX11_ask_b20 σ_3 Q) ∧ (¬ r_2 = 0 → (wX11_isWithin x2 0 1 σ_3 (fun r_5 σ_6 => ((r_5 = 0 → wX11_ask_b20 σ_6 Q) ∧ (¬ r_5 = 0 → (∀ σ_8, σ_8 = sto σ_6 57 1 0 → ((x2 = 0 → (∀ T_13 : Nat, T_13 = (σ_8 0 3).toNatClampNeg → (isSten T_13 ∧ (wX0_size T_13 x1 σ_8 (fun r_14 σ_15 => wX11_ask_b65 (r_14.toInt64) σ_15 Q))))) ∧ (¬ x2 = 0 → (∀ T_10 : Nat, T_10 = (σ_8 0 3).toNatClampNeg → (isSten T_10 ∧ (wX0_mark T_10 x1 σ_8 (fun r_11 σ_12 => wX11_ask_b65 (r_11.toInt64) σ_12 Q)))))))))))))))))
set_option maxHeartbeats 4000000 in
set_option maxRecDepth 100000 in
theorem mX11_ask_b20 {D : va_G} {cy : Nat → ClassId} {ad z : Nat → Nat} (l : Launch) {p : Program} {e : Env} {s : State} {m : MethodId} {args : Array Value} {below : List Frame} {meth : Method} {c : Code} {A : Nat → Prop} {Q : Int64 → Sg → Prop} (X : Fx D (tyB cy) (EvB z) p s m args meth c cX11_ask 3 "BackBay" A) (hr : meth.sig.returnType = some .long) {σ : Sg} {H : Heap} {locs : List Loc} {ls : Array Slot} (S : St D ad 75 (shB cy ad) A s σ H locs) (hl : lv_has ls 3 []) (h : wX11_ask_b20 σ Q) : W p l e ({ frames := 7, cells := 0, slots := 0, locals := 150 }) s m args below meth c H locs 0 0 (MQ below (va_Ql Q (PosW D (tyB cy) ad 75 (shB cy ad) A) A) args s 0 0 A) (F0 m 20 ls []) := by
  have hx := X.1
  have hb := X.2.1
  unfold wX11_ask_b20 at h
  refine lv_ldc2 (v := (-9000000000000000001)) hx hb X.2.2.2.1 (X.2.2.2.2.1 _ k_372) dX11_ask_20 ?_
  exact o_lret X S hr h dX11_ask_23
set_option maxHeartbeats 4000000 in
set_option maxRecDepth 100000 in
theorem mX11_ask_b65 {D : va_G} {cy : Nat → ClassId} {ad z : Nat → Nat} (l : Launch) {p : Program} {e : Env} {s : State} {m : MethodId} {args : Array Value} {below : List Frame} {meth : Method} {c : Code} {A : Nat → Prop} {Q : Int64 → Sg → Prop} (X : Fx D (tyB cy) (EvB z) p s m args meth c cX11_ask 3 "BackBay" A) (hr : meth.sig.returnType = some .long) (y0 : Int64) {σ : Sg} {H : Heap} {locs : List Loc} {ls : Array Slot} (S : St D ad 75 (shB cy ad) A s σ H locs) (hl : lv_has ls 3 []) (h : wX11_ask_b65 y0 σ Q) : W p l e ({ frames := 7, cells := 0, slots := 0, locals := 150 }) s m args below meth c H locs 0 0 (MQ below (va_Ql Q (PosW D (tyB cy) ad 75 (shB cy ad) A) A) args s 0 0 A) (F0 m 65 ls [.long y0]) := by
  have hx := X.1
  have hb := X.2.1
  unfold wX11_ask_b65 at h
  exact o_lret X S hr h dX11_ask_65
set_option maxHeartbeats 4000000 in
set_option maxRecDepth 100000 in
theorem mX11_ask {D : va_G} {cy : Nat → ClassId} {ad z : Nat → Nat} (l : Launch) (x1 : Int32) (x2 : Int32) (σ : Sg) (Q : Int64 → Sg → Prop) (h : wX11_ask x1 x2 σ Q) : MLB D cy ad z l yX11_ask (.code yX11_ask cX11_ask 3 (some .long) :: gT) ({ frames := 7, cells := 0, slots := 0, locals := 150 }) [.ref (ad 0), .int x1, .int x2] σ Q := by
  refine metL_of (by decide +kernel) (Nat.le_of_ble_eq_true rfl) ?_
  intro p e s m args below meth c A ls X hr hl S
  have X : Fx D (tyB cy) (EvB z) p s m args meth c cX11_ask 3 "BackBay" A := X
  have hl : lv_has ls 3 [(0, .ref (ad 0)), (1, .int x1), (2, .int x2)] := hl
  have hx := X.1
  have hb := X.2.1
  unfold wX11_ask at h
  refine lv_aload_n hx hb dX11_ask_0 rfl (lv_at hl 0 rfl) ?_
  obtain ⟨T_1, eT_1⟩ : ∃ y : Nat, y = (σ 0 3).toNatClampNeg := ⟨_, rfl⟩
  refine o_get X S 0 3 (by decide) rfl rfl in_11 (by decide) k_322 (v := .ref (ad T_1)) (by rw [eT_1]; rfl) dX11_ask_1 ?_
  have hT_1 : isSten T_1 := (h T_1 eT_1).1
  replace h := (h T_1 eT_1).2
  refine lv_iload_n hx hb dX11_ask_4 rfl (lv_at hl 1 rfl) ?_
  refine o_callVi (k := 1) (EvB_ok z) X S (mX8_has l hT_1 x1 σ _ h) (isSten_lt hT_1 0 (by decide)) ((shS0 hT_1) _) rfl k_770 k_767 k_768 k_769 k_3 ⟨rfl, by decide, by decide, by decide +kernel⟩ ⟨rfl, rfl⟩ ⟨Nat.le_of_ble_eq_true rfl, Nat.le_of_ble_eq_true rfl⟩ rfl hl.1 rfl (Nat.le_of_ble_eq_true rfl) dX11_ask_5 (fun r_2 σ_3 H locs h S => ?_)
  refine lv_if_eq (tgt := 20) hx hb dX11_ask_8 (by decide) (fun q_4 => ?_) (fun q_4 => ?_)
  · replace h := h.1 q_4
    exact mX11_ask_b20 l X hr S (lv_sub hl [] rfl) h
  · replace h := h.2 q_4
    refine lv_iload_n hx hb dX11_ask_11 rfl (lv_at hl 2 rfl) ?_
    refine lv_iconst (v := 0) hx hb dX11_ask_12 (by decide) ?_
    refine lv_iconst (v := 1) hx hb dX11_ask_13 (by decide) ?_
    refine o_callSi (k := 3) (EvB_ok z) X S (mX11_isWithin l x2 0 1 σ_3 _ h) k_371 k_369 k_370 k_1 ⟨by decide, by decide, by decide +kernel⟩ ⟨rfl, rfl⟩ ⟨Nat.le_of_ble_eq_true rfl, Nat.le_of_ble_eq_true rfl⟩ rfl hl.1 rfl (Nat.le_of_ble_eq_true rfl) dX11_ask_14 (fun r_5 σ_6 H locs h S => ?_)
    refine lv_if_ne (tgt := 24) hx hb dX11_ask_17 (by decide) (fun q_7 => ?_) (fun q_7 => ?_)
    · replace h := h.2 q_7
      refine lv_aload_n hx hb dX11_ask_24 rfl (lv_at hl 0 rfl) ?_
      refine o_get X S 0 13 (by decide) rfl rfl in_11 (by decide) k_332 rfl dX11_ask_25 ?_
      refine lv_iconst (v := 0) hx hb dX11_ask_28 (by decide) ?_
      refine o_puti X S (fs := fun c => [.ref (ad 58), .int (c 1)]) 57 1 (by decide) (fun _ => rfl) (fun _ _ => rfl) rfl in_0 tyX0_ok nmX0 (by decide) k_291 rfl rfl rfl rfl (fun _ => Nat.le_of_ble_eq_true rfl) dX11_ask_29 (fun σ_8 H locs eσ_8 S => ?_)
      replace h := h σ_8 eσ_8
      refine lv_iload_n hx hb dX11_ask_32 rfl (lv_at hl 2 rfl) ?_
      refine lv_if_ne (tgt := 52) hx hb dX11_ask_33 (by decide) (fun q_9 => ?_) (fun q_9 => ?_)
      · replace h := h.2 q_9
        refine lv_aload_n hx hb dX11_ask_52 rfl (lv_at hl 0 rfl) ?_
        refine o_get X S 0 13 (by decide) rfl rfl in_11 (by decide) k_332 rfl dX11_ask_53 ?_
        refine lv_aload_n hx hb dX11_ask_56 rfl (lv_at hl 0 rfl) ?_
        obtain ⟨T_10, eT_10⟩ : ∃ y : Nat, y = (σ_8 0 3).toNatClampNeg := ⟨_, rfl⟩
        refine o_get X S 0 3 (by decide) rfl rfl in_11 (by decide) k_322 (v := .ref (ad T_10)) (by rw [eT_10]; rfl) dX11_ask_57 ?_
        have hT_10 : isSten T_10 := (h T_10 eT_10).1
        replace h := (h T_10 eT_10).2
        refine lv_iload_n hx hb dX11_ask_60 rfl (lv_at hl 1 rfl) ?_
        refine o_callVi (k := 2) (EvB_ok z) X S (mX0_mark l hT_10 x1 σ_8 _ h) (by decide) rfl rfl k_811 k_840 k_809 k_810 k_12 ⟨rfl, by decide, by decide, by decide +kernel⟩ ⟨rfl, rfl⟩ ⟨Nat.le_of_ble_eq_true rfl, Nat.le_of_ble_eq_true rfl⟩ rfl hl.1 rfl (Nat.le_of_ble_eq_true rfl) dX11_ask_61 (fun r_11 σ_12 H locs h S => ?_)
        refine lv_i2l hx hb dX11_ask_64 rfl ?_
        exact mX11_ask_b65 l X hr (r_11.toInt64) S (lv_sub hl [] rfl) h
      · replace h := h.1 q_9
        refine lv_aload_n hx hb dX11_ask_36 rfl (lv_at hl 0 rfl) ?_
        refine o_get X S 0 13 (by decide) rfl rfl in_11 (by decide) k_332 rfl dX11_ask_37 ?_
        refine lv_aload_n hx hb dX11_ask_40 rfl (lv_at hl 0 rfl) ?_
        obtain ⟨T_13, eT_13⟩ : ∃ y : Nat, y = (σ_8 0 3).toNatClampNeg := ⟨_, rfl⟩
        refine o_get X S 0 3 (by decide) rfl rfl in_11 (by decide) k_322 (v := .ref (ad T_13)) (by rw [eT_13]; rfl) dX11_ask_41 ?_
        have hT_13 : isSten T_13 := (h T_13 eT_13).1
        replace h := (h T_13 eT_13).2
        refine lv_iload_n hx hb dX11_ask_44 rfl (lv_at hl 1 rfl) ?_
        refine o_callVi (k := 2) (EvB_ok z) X S (mX0_size l hT_13 x1 σ_8 _ h) (by decide) rfl rfl k_794 k_791 k_792 k_793 k_12 ⟨rfl, by decide, by decide, by decide +kernel⟩ ⟨rfl, rfl⟩ ⟨Nat.le_of_ble_eq_true rfl, Nat.le_of_ble_eq_true rfl⟩ rfl hl.1 rfl (Nat.le_of_ble_eq_true rfl) dX11_ask_45 (fun r_14 σ_15 H locs h S => ?_)
        refine lv_i2l hx hb dX11_ask_48 rfl ?_
        refine lv_goto (tgt := 65) hx hb dX11_ask_49 (by decide) ?_
        exact mX11_ask_b65 l X hr (r_14.toInt64) S (lv_sub hl [] rfl) h
    · replace h := h.1 q_7
      exact mX11_ask_b20 l X hr S (lv_sub hl [] rfl) h
def wX11_trace_b31 (y0 : Int32) (σ : Sg) (Q : Int32 → Sg → Prop) : Prop :=
  Q y0 σ
def wX11_trace (x1 : Int32) (σ : Sg) (Q : Int32 → Sg → Prop) : Prop :=
  (wX11_isWithin x1 0 ((σ 57 1) - 1) σ (fun r_1 σ_2 => ((r_1 = 0 → wX11_trace_b31 (-1000000) σ_2 Q) ∧ (¬ r_1 = 0 → (vp_in x1 16 ∧ wX11_trace_b31 (σ_2 58 x1.toNatClampNeg) σ_2 Q)))))
set_option maxHeartbeats 4000000 in
set_option maxRecDepth 100000 in
theorem mX11_trace_b31 {D : va_G} {cy : Nat → ClassId} {ad z : Nat → Nat} (l : Launch) {p : Program} {e : Env} {s : State} {m : MethodId} {args : Array Value} {below : List Frame} {meth : Method} {c : Code} {A : Nat → Prop} {Q : Int32 → Sg → Prop} (X : Fx D (tyB cy) (EvB z) p s m args meth c cX11_trace 2 "BackBay" A) (hr : meth.sig.returnType = some .int) (y0 : Int32) {σ : Sg} {H : Heap} {locs : List Loc} {ls : Array Slot} (S : St D ad 75 (shB cy ad) A s σ H locs) (hl : lv_has ls 2 []) (h : wX11_trace_b31 y0 σ Q) : W p l e ({ frames := 1, cells := 0, slots := 0, locals := 22 }) s m args below meth c H locs 0 0 (MQ below (va_Qi Q (PosW D (tyB cy) ad 75 (shB cy ad) A) A) args s 0 0 A) (F0 m 31 ls [.int y0]) := by
  have hx := X.1
  have hb := X.2.1
  unfold wX11_trace_b31 at h
  exact o_iret X S hr h dX11_trace_31
set_option maxHeartbeats 4000000 in
set_option maxRecDepth 100000 in
theorem mX11_trace {D : va_G} {cy : Nat → ClassId} {ad z : Nat → Nat} (l : Launch) (x1 : Int32) (σ : Sg) (Q : Int32 → Sg → Prop) (h : wX11_trace x1 σ Q) : MIB D cy ad z l yX11_trace (.code yX11_trace cX11_trace 2 (some .int) :: gT) ({ frames := 1, cells := 0, slots := 0, locals := 22 }) [.ref (ad 0), .int x1] σ Q := by
  refine metI_of (by decide +kernel) (Nat.le_of_ble_eq_true rfl) ?_
  intro p e s m args below meth c A ls X hr hl S
  have X : Fx D (tyB cy) (EvB z) p s m args meth c cX11_trace 2 "BackBay" A := X
  have hl : lv_has ls 2 [(0, .ref (ad 0)), (1, .int x1)] := hl
  have hx := X.1
  have hb := X.2.1
  unfold wX11_trace at h
  refine lv_iload_n hx hb dX11_trace_0 rfl (lv_at hl 1 rfl) ?_
  refine lv_iconst (v := 0) hx hb dX11_trace_1 (by decide) ?_
  refine lv_aload_n hx hb dX11_trace_2 rfl (lv_at hl 0 rfl) ?_
  refine o_get X S 0 13 (by decide) rfl rfl in_11 (by decide) k_332 rfl dX11_trace_3 ?_
  refine o_get X S 57 1 (by decide) rfl rfl in_0 (by decide) k_291 rfl dX11_trace_6 ?_
  refine lv_iconst (v := 1) hx hb dX11_trace_9 (by decide) ?_
  refine lv_isub hx hb dX11_trace_10 ?_
  refine o_callSi (k := 3) (EvB_ok z) X S (mX11_isWithin l x1 0 ((σ 57 1) - 1) σ _ h) k_371 k_369 k_370 k_1 ⟨by decide, by decide, by decide +kernel⟩ ⟨rfl, rfl⟩ ⟨Nat.le_of_ble_eq_true rfl, Nat.le_of_ble_eq_true rfl⟩ rfl hl.1 rfl (Nat.le_of_ble_eq_true rfl) dX11_trace_11 (fun r_1 σ_2 H locs h S => ?_)
  refine lv_if_eq (tgt := 29) hx hb dX11_trace_14 (by decide) (fun q_3 => ?_) (fun q_3 => ?_)
  · replace h := h.1 q_3
    refine lv_ldc (v := (-1000000)) hx hb X.2.2.2.1 (X.2.2.2.2.1 _ k_724) dX11_trace_29 ?_
    exact mX11_trace_b31 l X hr (-1000000) S (lv_sub hl [] rfl) h
  · replace h := h.2 q_3
    refine lv_aload_n hx hb dX11_trace_17 rfl (lv_at hl 0 rfl) ?_
    refine o_get X S 0 13 (by decide) rfl rfl in_11 (by decide) k_332 rfl dX11_trace_18 ?_
    refine o_get X S 57 0 (by decide) rfl rfl in_0 (by decide) k_289 rfl dX11_trace_21 ?_
    refine lv_iload_n hx hb dX11_trace_24 rfl (lv_at hl 1 rfl) ?_
    refine o_iald X S 58 0 (by decide) (fun _ => rfl) rfl h.1 dX11_trace_25 ?_
    replace h := h.2
    refine lv_goto (tgt := 31) hx hb dX11_trace_26 (by decide) ?_
    exact mX11_trace_b31 l X hr (σ_2 58 x1.toNatClampNeg) S (lv_sub hl [] rfl) h
def wX11_count (x1 : Int32) (σ : Sg) (Q : Int64 → Sg → Prop) : Prop :=
  ((x1 = 0 → (wX11_rowsThere σ (fun r_2 σ_3 => Q (r_2.toInt64) σ_3))) ∧ (¬ x1 = 0 → ((x1 = 1 → (∀ T_5 : Nat, T_5 = (σ 0 3).toNatClampNeg → (isSten T_5 ∧ Q ((σ T_5 0).toInt64) σ))) ∧ (¬ x1 = 1 → ((x1 = 2 → (∀ T_7 : Nat, T_7 = (σ 0 3).toNatClampNeg → (isSten T_7 ∧ Q ((σ T_7 1).toInt64) σ))) ∧ (¬ x1 = 2 → ((x1 = 3 → Q ((σ 4 0).toInt64) σ) ∧ (¬ x1 = 3 → ((x1 = 4 → Q ((σ 8 0).toInt64) σ) ∧ (¬ x1 = 4 → ((x1 = 5 → (wX4_howManyOut σ (fun r_11 σ_12 => Q (r_11.toInt64) σ_12))) ∧ (¬ x1 = 5 → ((x1 = 6 → Q ((σ 48 0).toInt64) σ) ∧ (¬ x1 = 6 → ((x1 = 7 → Q ((σ 2 0).toInt64) σ) ∧ (¬ x1 = 7 → Q (-9000000000000000001 : Int64) σ))))))))))))))))
set_option maxHeartbeats 4000000 in
set_option maxRecDepth 100000 in
theorem mX11_count {D : va_G} {cy : Nat → ClassId} {ad z : Nat → Nat} (l : Launch) (x1 : Int32) (σ : Sg) (Q : Int64 → Sg → Prop) (h : wX11_count x1 σ Q) : MLB D cy ad z l yX11_count (.code yX11_count cX11_count 2 (some .long) :: gT) ({ frames := 1, cells := 0, slots := 0, locals := 22 }) [.ref (ad 0), .int x1] σ Q := by
  refine metL_of (by decide +kernel) (Nat.le_of_ble_eq_true rfl) ?_
  intro p e s m args below meth c A ls X hr hl S
  have X : Fx D (tyB cy) (EvB z) p s m args meth c cX11_count 2 "BackBay" A := X
  have hl : lv_has ls 2 [(0, .ref (ad 0)), (1, .int x1)] := hl
  have hx := X.1
  have hb := X.2.1
  unfold wX11_count at h
  refine lv_iload_n hx hb dX11_count_0 rfl (lv_at hl 1 rfl) ?_
  by_cases q_1 : x1 = 0
  · refine lv_tableIn (tgt := 48) hx hb dX11_count_1 (by rw [q_1] <;> decide) (by rw [q_1] <;> decide) (by rw [q_1] <;> rfl) (by decide) ?_
    replace h := h.1 q_1
    refine lv_aload_n hx hb dX11_count_48 rfl (lv_at hl 0 rfl) ?_
    refine o_callVi (k := 0) (EvB_ok z) X S (mX11_rowsThere l σ _ h) (by decide) rfl rfl k_852 k_849 k_851 ks_33 k_1 ⟨rfl, by decide, by decide, by decide +kernel⟩ ⟨rfl, rfl⟩ ⟨Nat.le_of_ble_eq_true rfl, Nat.le_of_ble_eq_true rfl⟩ rfl hl.1 rfl (Nat.le_of_ble_eq_true rfl) dX11_count_49 (fun r_2 σ_3 H locs h S => ?_)
    refine lv_i2l hx hb dX11_count_52 rfl ?_
    exact o_lret X S hr h dX11_count_53
  replace h := h.2 q_1
  by_cases q_4 : x1 = 1
  · refine lv_tableIn (tgt := 54) hx hb dX11_count_1 (by rw [q_4] <;> decide) (by rw [q_4] <;> decide) (by rw [q_4] <;> rfl) (by decide) ?_
    replace h := h.1 q_4
    refine lv_aload_n hx hb dX11_count_54 rfl (lv_at hl 0 rfl) ?_
    obtain ⟨T_5, eT_5⟩ : ∃ y : Nat, y = (σ 0 3).toNatClampNeg := ⟨_, rfl⟩
    refine o_get X S 0 3 (by decide) rfl rfl in_11 (by decide) k_322 (v := .ref (ad T_5)) (by rw [eT_5]; rfl) dX11_count_55 ?_
    have hT_5 : isSten T_5 := (h T_5 eT_5).1
    replace h := (h T_5 eT_5).2
    refine o_get X S T_5 0 (isSten_lt hT_5 0 (by decide)) ((shS0 hT_5) _) rfl in_8 (by decide) k_76 rfl dX11_count_58 ?_
    refine lv_i2l hx hb dX11_count_61 rfl ?_
    exact o_lret X S hr h dX11_count_62
  replace h := h.2 q_4
  by_cases q_6 : x1 = 2
  · refine lv_tableIn (tgt := 63) hx hb dX11_count_1 (by rw [q_6] <;> decide) (by rw [q_6] <;> decide) (by rw [q_6] <;> rfl) (by decide) ?_
    replace h := h.1 q_6
    refine lv_aload_n hx hb dX11_count_63 rfl (lv_at hl 0 rfl) ?_
    obtain ⟨T_7, eT_7⟩ : ∃ y : Nat, y = (σ 0 3).toNatClampNeg := ⟨_, rfl⟩
    refine o_get X S 0 3 (by decide) rfl rfl in_11 (by decide) k_322 (v := .ref (ad T_7)) (by rw [eT_7]; rfl) dX11_count_64 ?_
    have hT_7 : isSten T_7 := (h T_7 eT_7).1
    replace h := (h T_7 eT_7).2
    refine o_get X S T_7 1 (isSten_lt hT_7 0 (by decide)) ((shS0 hT_7) _) rfl in_8 (by decide) k_78 rfl dX11_count_67 ?_
    refine lv_i2l hx hb dX11_count_70 rfl ?_
    exact o_lret X S hr h dX11_count_71
  replace h := h.2 q_6
  by_cases q_8 : x1 = 3
  · refine lv_tableIn (tgt := 72) hx hb dX11_count_1 (by rw [q_8] <;> decide) (by rw [q_8] <;> decide) (by rw [q_8] <;> rfl) (by decide) ?_
    replace h := h.1 q_8
    refine lv_aload_n hx hb dX11_count_72 rfl (lv_at hl 0 rfl) ?_
    refine o_get X S 0 5 (by decide) rfl rfl in_11 (by decide) k_324 rfl dX11_count_73 ?_
    refine o_get X S 4 0 (by decide) rfl rfl in_1 (by decide) k_130 rfl dX11_count_76 ?_
    refine lv_i2l hx hb dX11_count_79 rfl ?_
    exact o_lret X S hr h dX11_count_80
  replace h := h.2 q_8
  by_cases q_9 : x1 = 4
  · refine lv_tableIn (tgt := 81) hx hb dX11_count_1 (by rw [q_9] <;> decide) (by rw [q_9] <;> decide) (by rw [q_9] <;> rfl) (by decide) ?_
    replace h := h.1 q_9
    refine lv_aload_n hx hb dX11_count_81 rfl (lv_at hl 0 rfl) ?_
    refine o_get X S 0 6 (by decide) rfl rfl in_11 (by decide) k_325 rfl dX11_count_82 ?_
    refine o_get X S 8 0 (by decide) rfl rfl in_4 (by decide) k_157 rfl dX11_count_85 ?_
    refine lv_i2l hx hb dX11_count_88 rfl ?_
    exact o_lret X S hr h dX11_count_89
  replace h := h.2 q_9
  by_cases q_10 : x1 = 5
  · refine lv_tableIn (tgt := 90) hx hb dX11_count_1 (by rw [q_10] <;> decide) (by rw [q_10] <;> decide) (by rw [q_10] <;> rfl) (by decide) ?_
    replace h := h.1 q_10
    refine lv_aload_n hx hb dX11_count_90 rfl (lv_at hl 0 rfl) ?_
    refine o_get X S 0 6 (by decide) rfl rfl in_11 (by decide) k_325 rfl dX11_count_91 ?_
    refine o_callVi (k := 0) (EvB_ok z) X S (mX4_howManyOut l σ _ h) (by decide) rfl rfl k_856 k_853 k_854 k_855 k_6 ⟨rfl, by decide, by decide, by decide +kernel⟩ ⟨rfl, rfl⟩ ⟨Nat.le_of_ble_eq_true rfl, Nat.le_of_ble_eq_true rfl⟩ rfl hl.1 rfl (Nat.le_of_ble_eq_true rfl) dX11_count_94 (fun r_11 σ_12 H locs h S => ?_)
    refine lv_i2l hx hb dX11_count_97 rfl ?_
    exact o_lret X S hr h dX11_count_98
  replace h := h.2 q_10
  by_cases q_13 : x1 = 6
  · refine lv_tableIn (tgt := 99) hx hb dX11_count_1 (by rw [q_13] <;> decide) (by rw [q_13] <;> decide) (by rw [q_13] <;> rfl) (by decide) ?_
    replace h := h.1 q_13
    refine lv_aload_n hx hb dX11_count_99 rfl (lv_at hl 0 rfl) ?_
    refine o_get X S 0 12 (by decide) rfl rfl in_11 (by decide) k_331 rfl dX11_count_100 ?_
    refine o_get X S 48 0 (by decide) rfl rfl in_9 (by decide) k_270 rfl dX11_count_103 ?_
    refine lv_i2l hx hb dX11_count_106 rfl ?_
    exact o_lret X S hr h dX11_count_107
  replace h := h.2 q_13
  by_cases q_14 : x1 = 7
  · refine lv_tableIn (tgt := 108) hx hb dX11_count_1 (by rw [q_14] <;> decide) (by rw [q_14] <;> decide) (by rw [q_14] <;> rfl) (by decide) ?_
    replace h := h.1 q_14
    refine lv_aload_n hx hb dX11_count_108 rfl (lv_at hl 0 rfl) ?_
    refine o_get X S 0 2 (by decide) rfl rfl in_11 (by decide) k_321 rfl dX11_count_109 ?_
    refine o_get X S 2 0 (by decide) rfl rfl in_10 (by decide) k_38 rfl dX11_count_112 ?_
    refine lv_i2l hx hb dX11_count_115 rfl ?_
    exact o_lret X S hr h dX11_count_116
  replace h := h.2 q_14
  refine lv_tableOut (tgt := 117) hx hb dX11_count_1 (by have r0 := lv_neT (a := 0) q_1 rfl; have r1 := lv_neT (a := 1) q_4 rfl; have r2 := lv_neT (a := 2) q_6 rfl; have r3 := lv_neT (a := 3) q_8 rfl; have r4 := lv_neT (a := 4) q_9 rfl; have r5 := lv_neT (a := 5) q_10 rfl; have r6 := lv_neT (a := 6) q_13 rfl; have r7 := lv_neT (a := 7) q_14 rfl; omega) (by decide) ?_
  refine lv_ldc2 (v := (-9000000000000000001)) hx hb X.2.2.2.1 (X.2.2.2.2.1 _ k_372) dX11_count_117 ?_
  exact o_lret X S hr h dX11_count_120
def wX11_status (σ : Sg) (Q : Int32 → Sg → Prop) : Prop :=
  Q (σ 0 1) σ
set_option maxHeartbeats 4000000 in
set_option maxRecDepth 100000 in
theorem mX11_status {D : va_G} {cy : Nat → ClassId} {ad z : Nat → Nat} (l : Launch) (σ : Sg) (Q : Int32 → Sg → Prop) (h : wX11_status σ Q) : MIB D cy ad z l yX11_status (.code yX11_status cX11_status 1 (some .int) :: gT) ({ frames := 0, cells := 0, slots := 0, locals := 0 }) [.ref (ad 0)] σ Q := by
  refine metI_of (by decide +kernel) (Nat.le_of_ble_eq_true rfl) ?_
  intro p e s m args below meth c A ls X hr hl S
  have X : Fx D (tyB cy) (EvB z) p s m args meth c cX11_status 1 "BackBay" A := X
  have hl : lv_has ls 1 [(0, .ref (ad 0))] := hl
  have hx := X.1
  have hb := X.2.1
  unfold wX11_status at h
  refine lv_aload_n hx hb dX11_status_0 rfl (lv_at hl 0 rfl) ?_
  refine o_get X S 0 1 (by decide) rfl rfl in_11 (by decide) k_320 rfl dX11_status_1 ?_
  exact o_iret X S hr h dX11_status_4
