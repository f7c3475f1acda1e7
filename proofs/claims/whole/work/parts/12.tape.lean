def wX10_isName_L20 (i : Nat) (k55 : Sg → Prop) (k47 : Sg → Prop) (Q : Int32 → Sg → Prop) : Nat → Int32 → Sg → Prop
  | 0, _, _ => False
  | nn20 + 1, x2, σ =>
  (((nI (strL.getD i 0)) ≤ x2 → k55 σ) ∧ (¬ (nI (strL.getD i 0)) ≤ x2 → (vp_in ((σ 2 3) + x2) 300 ∧ (vp_in x2 (strL.getD i 0) ∧ (((σ 3 ((σ 2 3) + x2).toNatClampNeg) = ((strB.getD i []).getD x2.toNatClampNeg 0) → (∀ x2_4 : Int32, x2_4 = x2 + 1 → wX10_isName_L20 i k55 k47 Q nn20 x2_4 σ)) ∧ (¬ (σ 3 ((σ 2 3) + x2).toNatClampNeg) = ((strB.getD i []).getD x2.toNatClampNeg 0) → k47 σ))))))
def wX10_isName (i : Nat) (σ : Sg) (Q : Int32 → Sg → Prop) : Prop :=
  ((((σ 2 4) - (σ 2 3)) = (nI (strL.getD i 0)) → (∃ nf, wX10_isName_L20 i (fun σ_5 => Q 1 σ_5) (fun σ_6 => Q 0 σ_6) Q nf 0 σ)) ∧ (¬ ((σ 2 4) - (σ 2 3)) = (nI (strL.getD i 0)) → Q 0 σ))
set_option maxHeartbeats 4000000 in
set_option maxRecDepth 100000 in
theorem mX10_isName_L20 {D : va_G} {cy : Nat → ClassId} {ad z : Nat → Nat} (l : Launch) {i : Nat} (hi : i < 4) {p : Program} {e : Env} {s : State} {m : MethodId} {args : Array Value} {below : List Frame} {meth : Method} {c : Code} {A : Nat → Prop} {k55 : Sg → Prop} {k47 : Sg → Prop} {Q : Int32 → Sg → Prop} (X : Fx D (tyB cy) (EvB z) p s m args meth c cX10_isName 3 "BackBay$Tape" A) (hr : meth.sig.returnType = some .boolean) (hk55 : ∀ (σ : Sg) (H : Heap) (locs : List Loc) (ls : Array Slot), St D ad 75 (shB cy ad) A s σ H locs → lv_has ls 3 [] → k55 σ → W p l e ({ frames := 4, cells := 0, slots := 0, locals := 85 }) s m args below meth c H locs 0 0 (MQ below (va_Qi Q (PosW D (tyB cy) ad 75 (shB cy ad) A) A) args s 0 0 A) (F0 m 55 ls [])) (hk47 : ∀ (σ : Sg) (H : Heap) (locs : List Loc) (ls : Array Slot), St D ad 75 (shB cy ad) A s σ H locs → lv_has ls 3 [] → k47 σ → W p l e ({ frames := 4, cells := 0, slots := 0, locals := 85 }) s m args below meth c H locs 0 0 (MQ below (va_Qi Q (PosW D (tyB cy) ad 75 (shB cy ad) A) A) args s 0 0 A) (F0 m 47 ls [])) : ∀ (n : Nat) (x2 : Int32) (σ : Sg) (H : Heap) (locs : List Loc) (ls : Array Slot), St D ad 75 (shB cy ad) A s σ H locs → lv_has ls 3 [(0, .ref (ad 2)), (1, .ref (z (3 + i))), (2, .int x2)] → wX10_isName_L20 i k55 k47 Q n x2 σ → W p l e ({ frames := 4, cells := 0, slots := 0, locals := 85 }) s m args below meth c H locs 0 0 (MQ below (va_Qi Q (PosW D (tyB cy) ad 75 (shB cy ad) A) A) args s 0 0 A) (F0 m 20 ls []) := by
  have hx := X.1
  have hb := X.2.1
  intro n
  induction n with
  | zero =>
    intro _ _ _ _ _ _ _ h
    exact absurd h (by unfold wX10_isName_L20; exact id)
  | succ n ih =>
    intro x2 σ H locs ls S hl h
    unfold wX10_isName_L20 at h
    refine lv_iload_n hx hb dX10_isName_20 rfl (lv_at hl 2 rfl) ?_
    refine lv_aload_n hx hb dX10_isName_21 rfl (lv_at hl 1 rfl) ?_
    refine o_strlen (i := i) hi X S hl.1 k_452 (Nat.le_of_ble_eq_true rfl) (Nat.le_of_ble_eq_true rfl) (Nat.le_of_ble_eq_true rfl) dX10_isName_22 (fun H locs S => ?_)
    refine lv_icmp_ge (tgt := 55) hx hb dX10_isName_25 (by decide) (fun q_2 => ?_) (fun q_2 => ?_)
    · replace h := h.1 q_2
      exact hk55 _ _ _ _ S (lv_sub hl [] rfl) h
    · replace h := h.2 q_2
      refine lv_aload_n hx hb dX10_isName_28 rfl (lv_at hl 0 rfl) ?_
      refine o_get X S 2 1 (by decide) rfl rfl in_10 (by decide) k_39 rfl dX10_isName_29 ?_
      refine lv_aload_n hx hb dX10_isName_32 rfl (lv_at hl 0 rfl) ?_
      refine o_get X S 2 3 (by decide) rfl rfl in_10 (by decide) k_41 rfl dX10_isName_33 ?_
      refine lv_iload_n hx hb dX10_isName_36 rfl (lv_at hl 2 rfl) ?_
      refine lv_iadd hx hb dX10_isName_37 ?_
      refine o_iald X S 3 0 (by decide) (fun _ => rfl) rfl h.1 dX10_isName_38 ?_
      replace h := h.2
      refine lv_aload_n hx hb dX10_isName_39 rfl (lv_at hl 1 rfl) ?_
      refine lv_iload_n hx hb dX10_isName_40 rfl (lv_at hl 2 rfl) ?_
      refine o_strchar (i := i) hi X S hl.1 k_462 h.1 (Nat.le_of_ble_eq_true rfl) (Nat.le_of_ble_eq_true rfl) (Nat.le_of_ble_eq_true rfl) dX10_isName_41 (fun H locs S => ?_)
      replace h := h.2
      refine lv_icmp_eq (tgt := 49) hx hb dX10_isName_44 (by decide) (fun q_3 => ?_) (fun q_3 => ?_)
      · replace h := h.1 q_3
        obtain ⟨x2_4, ex2_4⟩ : ∃ y : Int32, y = x2 + 1 := ⟨_, rfl⟩
        replace h := h x2_4 ex2_4
        refine lv_iinc (v := x2_4) (lv' := [(2, .int x2_4), (0, .ref (ad 2)), (1, .ref (z (3 + i)))]) hx hb dX10_isName_49 hl (k := 2) rfl (by rw [ex2_4]; rfl) (by decide) rfl (fun ls hl => ?_)
        refine lv_goto (tgt := 20) hx hb dX10_isName_52 (by decide) ?_
        exact ih _ _ _ _ _ S (lv_sub hl [1, 2, 0] rfl) h
      · replace h := h.2 q_3
        exact hk47 _ _ _ _ S (lv_sub hl [] rfl) h
set_option maxHeartbeats 4000000 in
set_option maxRecDepth 100000 in
theorem mX10_isName {D : va_G} {cy : Nat → ClassId} {ad z : Nat → Nat} (l : Launch) {i : Nat} (hi : i < 4) (σ : Sg) (Q : Int32 → Sg → Prop) (h : wX10_isName i σ Q) : MIB D cy ad z l yX10_isName (.code yX10_isName cX10_isName 3 (some .boolean) :: gT) ({ frames := 4, cells := 0, slots := 0, locals := 85 }) [.ref (ad 2), .ref (z (3 + i))] σ Q := by
  refine metI_of (by decide +kernel) (Nat.le_of_ble_eq_true rfl) ?_
  intro p e s m args below meth c A ls X hr hl S
  have X : Fx D (tyB cy) (EvB z) p s m args meth c cX10_isName 3 "BackBay$Tape" A := X
  have hl : lv_has ls 3 [(0, .ref (ad 2)), (1, .ref (z (3 + i)))] := hl
  have hx := X.1
  have hb := X.2.1
  unfold wX10_isName at h
  refine lv_aload_n hx hb dX10_isName_0 rfl (lv_at hl 0 rfl) ?_
  refine o_get X S 2 4 (by decide) rfl rfl in_10 (by decide) k_42 rfl dX10_isName_1 ?_
  refine lv_aload_n hx hb dX10_isName_4 rfl (lv_at hl 0 rfl) ?_
  refine o_get X S 2 3 (by decide) rfl rfl in_10 (by decide) k_41 rfl dX10_isName_5 ?_
  refine lv_isub hx hb dX10_isName_8 ?_
  refine lv_aload_n hx hb dX10_isName_9 rfl (lv_at hl 1 rfl) ?_
  refine o_strlen (i := i) hi X S hl.1 k_452 (Nat.le_of_ble_eq_true rfl) (Nat.le_of_ble_eq_true rfl) (Nat.le_of_ble_eq_true rfl) dX10_isName_10 (fun H locs S => ?_)
  refine lv_icmp_eq (tgt := 18) hx hb dX10_isName_13 (by decide) (fun q_1 => ?_) (fun q_1 => ?_)
  · replace h := h.1 q_1
    refine lv_iconst (v := 0) hx hb dX10_isName_18 (by decide) ?_
    refine lv_istore_n (lv' := [(2, .int 0), (0, .ref (ad 2)), (1, .ref (z (3 + i)))]) hx hb dX10_isName_19 rfl hl (by decide) rfl (fun ls hl => ?_)
    obtain ⟨n_20, h⟩ := h
    refine mX10_isName_L20 l hi X hr ?_ ?_ n_20 _ _ _ _ _ S (lv_sub hl [1, 2, 0] rfl) h
    · intro σ_5 H locs ls S hl h
      refine lv_iconst (v := 1) hx hb dX10_isName_55 (by decide) ?_
      exact o_zret X S hr bok1 h dX10_isName_56
    · intro σ_6 H locs ls S hl h
      refine lv_iconst (v := 0) hx hb dX10_isName_47 (by decide) ?_
      exact o_zret X S hr bok0 h dX10_isName_48
  · replace h := h.2 q_1
    refine lv_iconst (v := 0) hx hb dX10_isName_16 (by decide) ?_
    exact o_zret X S hr bok0 h dX10_isName_17
def wX10_nameToken_b78 (y0 : Int32) (σ : Sg) (Q : Int32 → Sg → Prop) : Prop :=
  Q y0 σ
def wX10_nameToken (σ : Sg) (Q : Int32 → Sg → Prop) : Prop :=
  ((((σ 2 4) - (σ 2 3)) = 1 → (vp_in (σ 2 3) 300 ∧ (wX10_letterToken (σ 3 (σ 2 3).toNatClampNeg) σ (fun r_14 σ_15 => Q r_14 σ_15)))) ∧ (¬ ((σ 2 4) - (σ 2 3)) = 1 → (wX10_isName 0 σ (fun r_2 σ_3 => ((r_2 = 0 → (wX10_isName 1 σ_3 (fun r_5 σ_6 => ((r_5 = 0 → (wX10_isName 2 σ_6 (fun r_8 σ_9 => ((r_8 = 0 → (wX10_isName 3 σ_9 (fun r_11 σ_12 => ((r_11 = 0 → wX10_nameToken_b78 14 σ_12 Q) ∧ (¬ r_11 = 0 → wX10_nameToken_b78 10 σ_12 Q))))) ∧ (¬ r_8 = 0 → Q 9 σ_9))))) ∧ (¬ r_5 = 0 → Q 8 σ_6))))) ∧ (¬ r_2 = 0 → Q 11 σ_3))))))
set_option maxHeartbeats 4000000 in
set_option maxRecDepth 100000 in
theorem mX10_nameToken_b78 {D : va_G} {cy : Nat → ClassId} {ad z : Nat → Nat} (l : Launch) {p : Program} {e : Env} {s : State} {m : MethodId} {args : Array Value} {below : List Frame} {meth : Method} {c : Code} {A : Nat → Prop} {Q : Int32 → Sg → Prop} (X : Fx D (tyB cy) (EvB z) p s m args meth c cX10_nameToken 1 "BackBay$Tape" A) (hr : meth.sig.returnType = some .int) (y0 : Int32) {σ : Sg} {H : Heap} {locs : List Loc} {ls : Array Slot} (S : St D ad 75 (shB cy ad) A s σ H locs) (hl : lv_has ls 1 []) (h : wX10_nameToken_b78 y0 σ Q) : W p l e ({ frames := 5, cells := 0, slots := 0, locals := 107 }) s m args below meth c H locs 0 0 (MQ below (va_Qi Q (PosW D (tyB cy) ad 75 (shB cy ad) A) A) args s 0 0 A) (F0 m 78 ls [.int y0]) := by
  have hx := X.1
  have hb := X.2.1
  unfold wX10_nameToken_b78 at h
  exact o_iret X S hr h dX10_nameToken_78
set_option maxHeartbeats 4000000 in
set_option maxRecDepth 100000 in
theorem mX10_nameToken {D : va_G} {cy : Nat → ClassId} {ad z : Nat → Nat} (l : Launch) (σ : Sg) (Q : Int32 → Sg → Prop) (h : wX10_nameToken σ Q) : MIB D cy ad z l yX10_nameToken (.code yX10_nameToken cX10_nameToken 1 (some .int) :: gT) ({ frames := 5, cells := 0, slots := 0, locals := 107 }) [.ref (ad 2)] σ Q := by
  refine metI_of (by decide +kernel) (Nat.le_of_ble_eq_true rfl) ?_
  intro p e s m args below meth c A ls X hr hl S
  have X : Fx D (tyB cy) (EvB z) p s m args meth c cX10_nameToken 1 "BackBay$Tape" A := X
  have hl : lv_has ls 1 [(0, .ref (ad 2))] := hl
  have hx := X.1
  have hb := X.2.1
  unfold wX10_nameToken at h
  refine lv_aload_n hx hb dX10_nameToken_0 rfl (lv_at hl 0 rfl) ?_
  refine o_get X S 2 4 (by decide) rfl rfl in_10 (by decide) k_42 rfl dX10_nameToken_1 ?_
  refine lv_aload_n hx hb dX10_nameToken_4 rfl (lv_at hl 0 rfl) ?_
  refine o_get X S 2 3 (by decide) rfl rfl in_10 (by decide) k_41 rfl dX10_nameToken_5 ?_
  refine lv_isub hx hb dX10_nameToken_8 ?_
  refine lv_iconst (v := 1) hx hb dX10_nameToken_9 (by decide) ?_
  refine lv_icmp_ne (tgt := 26) hx hb dX10_nameToken_10 (by decide) (fun q_1 => ?_) (fun q_1 => ?_)
  · replace h := h.2 q_1
    refine lv_aload_n hx hb dX10_nameToken_26 rfl (lv_at hl 0 rfl) ?_
    refine va_ldcS hx hb X.2.2.2.1 X.2.2.2.2.2.2.2.1.2.2.2.2.2.1.1 dX10_nameToken_27 ?_
    refine o_callVi (k := 1) (EvB_ok z) X S (mX10_isName l (by decide : 0 < 4) σ _ h) (by decide) rfl rfl k_451 k_448 k_450 ks_5 k_2 ⟨rfl, by decide, by decide, by decide +kernel⟩ ⟨rfl, rfl⟩ ⟨Nat.le_of_ble_eq_true rfl, Nat.le_of_ble_eq_true rfl⟩ rfl hl.1 rfl (Nat.le_of_ble_eq_true rfl) dX10_nameToken_29 (fun r_2 σ_3 H locs h S => ?_)
    refine lv_if_eq (tgt := 38) hx hb dX10_nameToken_32 (by decide) (fun q_4 => ?_) (fun q_4 => ?_)
    · replace h := h.1 q_4
      refine lv_aload_n hx hb dX10_nameToken_38 rfl (lv_at hl 0 rfl) ?_
      refine va_ldcS hx hb X.2.2.2.1 X.2.2.2.2.2.2.2.1.2.2.2.2.2.1.2.1 dX10_nameToken_39 ?_
      refine o_callVi (k := 1) (EvB_ok z) X S (mX10_isName l (by decide : 1 < 4) σ_3 _ h) (by decide) rfl rfl k_451 k_448 k_450 ks_5 k_2 ⟨rfl, by decide, by decide, by decide +kernel⟩ ⟨rfl, rfl⟩ ⟨Nat.le_of_ble_eq_true rfl, Nat.le_of_ble_eq_true rfl⟩ rfl hl.1 rfl (Nat.le_of_ble_eq_true rfl) dX10_nameToken_41 (fun r_5 σ_6 H locs h S => ?_)
      refine lv_if_eq (tgt := 50) hx hb dX10_nameToken_44 (by decide) (fun q_7 => ?_) (fun q_7 => ?_)
      · replace h := h.1 q_7
        refine lv_aload_n hx hb dX10_nameToken_50 rfl (lv_at hl 0 rfl) ?_
        refine va_ldcS hx hb X.2.2.2.1 X.2.2.2.2.2.2.2.1.2.2.2.2.2.1.2.2.1 dX10_nameToken_51 ?_
        refine o_callVi (k := 1) (EvB_ok z) X S (mX10_isName l (by decide : 2 < 4) σ_6 _ h) (by decide) rfl rfl k_451 k_448 k_450 ks_5 k_2 ⟨rfl, by decide, by decide, by decide +kernel⟩ ⟨rfl, rfl⟩ ⟨Nat.le_of_ble_eq_true rfl, Nat.le_of_ble_eq_true rfl⟩ rfl hl.1 rfl (Nat.le_of_ble_eq_true rfl) dX10_nameToken_53 (fun r_8 σ_9 H locs h S => ?_)
        refine lv_if_eq (tgt := 62) hx hb dX10_nameToken_56 (by decide) (fun q_10 => ?_) (fun q_10 => ?_)
        · replace h := h.1 q_10
          refine lv_aload_n hx hb dX10_nameToken_62 rfl (lv_at hl 0 rfl) ?_
          refine va_ldcS hx hb X.2.2.2.1 X.2.2.2.2.2.2.2.1.2.2.2.2.2.1.2.2.2 dX10_nameToken_63 ?_
          refine o_callVi (k := 1) (EvB_ok z) X S (mX10_isName l (by decide : 3 < 4) σ_9 _ h) (by decide) rfl rfl k_451 k_448 k_450 ks_5 k_2 ⟨rfl, by decide, by decide, by decide +kernel⟩ ⟨rfl, rfl⟩ ⟨Nat.le_of_ble_eq_true rfl, Nat.le_of_ble_eq_true rfl⟩ rfl hl.1 rfl (Nat.le_of_ble_eq_true rfl) dX10_nameToken_65 (fun r_11 σ_12 H locs h S => ?_)
          refine lv_if_eq (tgt := 76) hx hb dX10_nameToken_68 (by decide) (fun q_13 => ?_) (fun q_13 => ?_)
          · replace h := h.1 q_13
            refine lv_bipush (v := 14) hx hb dX10_nameToken_76 (by decide) ?_
            exact mX10_nameToken_b78 l X hr 14 S (lv_sub hl [] rfl) h
          · replace h := h.2 q_13
            refine lv_bipush (v := 10) hx hb dX10_nameToken_71 (by decide) ?_
            refine lv_goto (tgt := 78) hx hb dX10_nameToken_73 (by decide) ?_
            exact mX10_nameToken_b78 l X hr 10 S (lv_sub hl [] rfl) h
        · replace h := h.2 q_10
          refine lv_bipush (v := 9) hx hb dX10_nameToken_59 (by decide) ?_
          exact o_iret X S hr h dX10_nameToken_61
      · replace h := h.2 q_7
        refine lv_bipush (v := 8) hx hb dX10_nameToken_47 (by decide) ?_
        exact o_iret X S hr h dX10_nameToken_49
    · replace h := h.2 q_4
      refine lv_bipush (v := 11) hx hb dX10_nameToken_35 (by decide) ?_
      exact o_iret X S hr h dX10_nameToken_37
  · replace h := h.1 q_1
    refine lv_aload_n hx hb dX10_nameToken_13 rfl (lv_at hl 0 rfl) ?_
    refine o_get X S 2 1 (by decide) rfl rfl in_10 (by decide) k_39 rfl dX10_nameToken_14 ?_
    refine lv_aload_n hx hb dX10_nameToken_17 rfl (lv_at hl 0 rfl) ?_
    refine o_get X S 2 3 (by decide) rfl rfl in_10 (by decide) k_41 rfl dX10_nameToken_18 ?_
    refine o_iald X S 3 0 (by decide) (fun _ => rfl) rfl h.1 dX10_nameToken_21 ?_
    replace h := h.2
    refine o_callSi (k := 1) (EvB_ok z) X S (mX10_letterToken l (σ 3 (σ 2 3).toNatClampNeg) σ _ h) k_446 k_444 k_445 k_2 ⟨by decide, by decide, by decide +kernel⟩ ⟨rfl, rfl⟩ ⟨Nat.le_of_ble_eq_true rfl, Nat.le_of_ble_eq_true rfl⟩ rfl hl.1 rfl (Nat.le_of_ble_eq_true rfl) dX10_nameToken_22 (fun r_14 σ_15 H locs h S => ?_)
    exact o_iret X S hr h dX10_nameToken_25
def wX10_advance_b35 (x1 : Int32) (σ : Sg) (k41 : Int32 → Sg → Prop) (kb5 : Int32 → Sg → Prop) (Q : Sg → Prop) : Prop :=
  (∀ x1_4 : Int32, x1_4 = x1 + 1 → kb5 x1_4 σ)
def wX10_advance_L5 (k41 : Int32 → Sg → Prop) (Q : Sg → Prop) : Nat → Int32 → Sg → Prop
  | 0, _, _ => False
  | nn5 + 1, x1, σ =>
  (((σ 2 0) ≤ x1 → k41 x1 σ) ∧ (¬ (σ 2 0) ≤ x1 → (vp_in x1 300 ∧ (((σ 3 x1.toNatClampNeg) = 32 → wX10_advance_b35 x1 σ k41 (wX10_advance_L5 k41 Q nn5) Q) ∧ (¬ (σ 3 x1.toNatClampNeg) = 32 → (vp_in x1 300 ∧ (((σ 3 x1.toNatClampNeg) = 10 → wX10_advance_b35 x1 σ k41 (wX10_advance_L5 k41 Q nn5) Q) ∧ (¬ (σ 3 x1.toNatClampNeg) = 10 → k41 x1 σ))))))))
def wX10_advance_b166 (σ : Sg) (Q : Sg → Prop) : Prop :=
  Q σ
def wX10_advance_b41 (x1 : Int32) (σ : Sg) (Q : Sg → Prop) : Prop :=
  (∀ σ_8, σ_8 = sto σ 2 3 x1 → (∀ σ_9, σ_9 = sto σ_8 2 4 (x1 + 1) → ((x1 < (σ_9 2 0) → (vp_in x1 300 ∧ (wX11_isWithin (σ_9 3 x1.toNatClampNeg) 97 122 σ_9 (fun r_11 σ_12 => ((r_11 = 0 → (vp_in x1 300 ∧ (wX11_isWithin (σ_12 3 x1.toNatClampNeg) 48 57 σ_12 (fun r_14 σ_15 => ((r_14 = 0 → (vp_in x1 300 ∧ (wX10_signToken (σ_15 3 x1.toNatClampNeg) σ_15 (fun r_17 σ_18 => (∀ σ_19, σ_19 = sto σ_18 2 2 r_17 → wX10_advance_b166 σ_19 Q))))) ∧ (¬ r_14 = 0 → (wX10_endOf 48 57 σ_15 (fun r_20 σ_21 => (∀ σ_22, σ_22 = sto σ_21 2 4 r_20 → (wX10_numberToken σ_22 (fun r_23 σ_24 => (∀ σ_25, σ_25 = sto σ_24 2 2 r_23 → wX10_advance_b166 σ_25 Q)))))))))))) ∧ (¬ r_11 = 0 → (wX10_endOf 97 122 σ_12 (fun r_26 σ_27 => (∀ σ_28, σ_28 = sto σ_27 2 4 r_26 → (wX10_nameToken σ_28 (fun r_29 σ_30 => (∀ σ_31, σ_31 = sto σ_30 2 2 r_29 → wX10_advance_b166 σ_31 Q)))))))))))) ∧ (¬ x1 < (σ_9 2 0) → (∀ σ_32, σ_32 = sto σ_9 2 4 x1 → (∀ σ_33, σ_33 = sto σ_32 2 2 13 → wX10_advance_b166 σ_33 Q))))))
def wX10_advance (σ : Sg) (Q : Sg → Prop) : Prop :=
  (∀ x1_1, x1_1 = (σ 2 4) → (∃ nf, wX10_advance_L5 (fun x1_6 σ_7 => wX10_advance_b41 x1_6 σ_7 Q) Q nf x1_1 σ))
set_option maxHeartbeats 4000000 in
set_option maxRecDepth 100000 in
theorem mX10_advance_b35 {D : va_G} {cy : Nat → ClassId} {ad z : Nat → Nat} (l : Launch) {p : Program} {e : Env} {s : State} {m : MethodId} {args : Array Value} {below : List Frame} {meth : Method} {c : Code} {A : Nat → Prop} {k41 : Int32 → Sg → Prop} {kb5 : Int32 → Sg → Prop} {Q : Sg → Prop} (X : Fx D (tyB cy) (EvB z) p s m args meth c cX10_advance 2 "BackBay$Tape" A) (hr : meth.sig.returnType = none) (x1 : Int32) (hk41 : ∀ (x1 : Int32) (σ : Sg) (H : Heap) (locs : List Loc) (ls : Array Slot), St D ad 75 (shB cy ad) A s σ H locs → lv_has ls 2 [(0, .ref (ad 2)), (1, .int x1)] → k41 x1 σ → W p l e ({ frames := 6, cells := 0, slots := 0, locals := 127 }) s m args below meth c H locs 0 0 (MQ below (va_Qv Q (PosW D (tyB cy) ad 75 (shB cy ad) A) A) args s 0 0 A) (F0 m 41 ls [])) (hkb5 : ∀ (x1 : Int32) (σ : Sg) (H : Heap) (locs : List Loc) (ls : Array Slot), St D ad 75 (shB cy ad) A s σ H locs → lv_has ls 2 [(0, .ref (ad 2)), (1, .int x1)] → kb5 x1 σ → W p l e ({ frames := 6, cells := 0, slots := 0, locals := 127 }) s m args below meth c H locs 0 0 (MQ below (va_Qv Q (PosW D (tyB cy) ad 75 (shB cy ad) A) A) args s 0 0 A) (F0 m 5 ls [])) {σ : Sg} {H : Heap} {locs : List Loc} {ls : Array Slot} (S : St D ad 75 (shB cy ad) A s σ H locs) (hl : lv_has ls 2 [(0, .ref (ad 2)), (1, .int x1)]) (h : wX10_advance_b35 x1 σ k41 kb5 Q) : W p l e ({ frames := 6, cells := 0, slots := 0, locals := 127 }) s m args below meth c H locs 0 0 (MQ below (va_Qv Q (PosW D (tyB cy) ad 75 (shB cy ad) A) A) args s 0 0 A) (F0 m 35 ls []) := by
  have hx := X.1
  have hb := X.2.1
  unfold wX10_advance_b35 at h
  obtain ⟨x1_4, ex1_4⟩ : ∃ y : Int32, y = x1 + 1 := ⟨_, rfl⟩
  replace h := h x1_4 ex1_4
  refine lv_iinc (v := x1_4) (lv' := [(1, .int x1_4), (0, .ref (ad 2))]) hx hb dX10_advance_35 hl (k := 1) rfl (by rw [ex1_4]; rfl) (by decide) rfl (fun ls hl => ?_)
  refine lv_goto (tgt := 5) hx hb dX10_advance_38 (by decide) ?_
  exact hkb5 _ _ _ _ _ S (lv_sub hl [1, 0] rfl) h
set_option maxHeartbeats 4000000 in
set_option maxRecDepth 100000 in
theorem mX10_advance_L5 {D : va_G} {cy : Nat → ClassId} {ad z : Nat → Nat} (l : Launch) {p : Program} {e : Env} {s : State} {m : MethodId} {args : Array Value} {below : List Frame} {meth : Method} {c : Code} {A : Nat → Prop} {k41 : Int32 → Sg → Prop} {Q : Sg → Prop} (X : Fx D (tyB cy) (EvB z) p s m args meth c cX10_advance 2 "BackBay$Tape" A) (hr : meth.sig.returnType = none) (hk41 : ∀ (x1 : Int32) (σ : Sg) (H : Heap) (locs : List Loc) (ls : Array Slot), St D ad 75 (shB cy ad) A s σ H locs → lv_has ls 2 [(0, .ref (ad 2)), (1, .int x1)] → k41 x1 σ → W p l e ({ frames := 6, cells := 0, slots := 0, locals := 127 }) s m args below meth c H locs 0 0 (MQ below (va_Qv Q (PosW D (tyB cy) ad 75 (shB cy ad) A) A) args s 0 0 A) (F0 m 41 ls [])) : ∀ (n : Nat) (x1 : Int32) (σ : Sg) (H : Heap) (locs : List Loc) (ls : Array Slot), St D ad 75 (shB cy ad) A s σ H locs → lv_has ls 2 [(0, .ref (ad 2)), (1, .int x1)] → wX10_advance_L5 k41 Q n x1 σ → W p l e ({ frames := 6, cells := 0, slots := 0, locals := 127 }) s m args below meth c H locs 0 0 (MQ below (va_Qv Q (PosW D (tyB cy) ad 75 (shB cy ad) A) A) args s 0 0 A) (F0 m 5 ls []) := by
  have hx := X.1
  have hb := X.2.1
  intro n
  induction n with
  | zero =>
    intro _ _ _ _ _ _ _ h
    exact absurd h (by unfold wX10_advance_L5; exact id)
  | succ n ih =>
    intro x1 σ H locs ls S hl h
    unfold wX10_advance_L5 at h
    refine lv_iload_n hx hb dX10_advance_5 rfl (lv_at hl 1 rfl) ?_
    refine lv_aload_n hx hb dX10_advance_6 rfl (lv_at hl 0 rfl) ?_
    refine o_get X S 2 0 (by decide) rfl rfl in_10 (by decide) k_37 rfl dX10_advance_7 ?_
    refine lv_icmp_ge (tgt := 41) hx hb dX10_advance_10 (by decide) (fun q_2 => ?_) (fun q_2 => ?_)
    · replace h := h.1 q_2
      exact hk41 _ _ _ _ _ S (lv_sub hl [0, 1] rfl) h
    · replace h := h.2 q_2
      refine lv_aload_n hx hb dX10_advance_13 rfl (lv_at hl 0 rfl) ?_
      refine o_get X S 2 1 (by decide) rfl rfl in_10 (by decide) k_39 rfl dX10_advance_14 ?_
      refine lv_iload_n hx hb dX10_advance_17 rfl (lv_at hl 1 rfl) ?_
      refine o_iald X S 3 0 (by decide) (fun _ => rfl) rfl h.1 dX10_advance_18 ?_
      replace h := h.2
      refine lv_bipush (v := 32) hx hb dX10_advance_19 (by decide) ?_
      refine lv_icmp_eq (tgt := 35) hx hb dX10_advance_21 (by decide) (fun q_3 => ?_) (fun q_3 => ?_)
      · replace h := h.1 q_3
        exact mX10_advance_b35 l X hr x1 hk41 ih S (lv_sub hl [0, 1] rfl) h
      · replace h := h.2 q_3
        refine lv_aload_n hx hb dX10_advance_24 rfl (lv_at hl 0 rfl) ?_
        refine o_get X S 2 1 (by decide) rfl rfl in_10 (by decide) k_39 rfl dX10_advance_25 ?_
        refine lv_iload_n hx hb dX10_advance_28 rfl (lv_at hl 1 rfl) ?_
        refine o_iald X S 3 0 (by decide) (fun _ => rfl) rfl h.1 dX10_advance_29 ?_
        replace h := h.2
        refine lv_bipush (v := 10) hx hb dX10_advance_30 (by decide) ?_
        refine lv_icmp_ne (tgt := 41) hx hb dX10_advance_32 (by decide) (fun q_5 => ?_) (fun q_5 => ?_)
        · replace h := h.2 q_5
          exact hk41 _ _ _ _ _ S (lv_sub hl [0, 1] rfl) h
        · replace h := h.1 q_5
          exact mX10_advance_b35 l X hr x1 hk41 ih S (lv_sub hl [0, 1] rfl) h
set_option maxHeartbeats 4000000 in
set_option maxRecDepth 100000 in
theorem mX10_advance_b166 {D : va_G} {cy : Nat → ClassId} {ad z : Nat → Nat} (l : Launch) {p : Program} {e : Env} {s : State} {m : MethodId} {args : Array Value} {below : List Frame} {meth : Method} {c : Code} {A : Nat → Prop} {Q : Sg → Prop} (X : Fx D (tyB cy) (EvB z) p s m args meth c cX10_advance 2 "BackBay$Tape" A) (hr : meth.sig.returnType = none) {σ : Sg} {H : Heap} {locs : List Loc} {ls : Array Slot} (S : St D ad 75 (shB cy ad) A s σ H locs) (hl : lv_has ls 2 []) (h : wX10_advance_b166 σ Q) : W p l e ({ frames := 6, cells := 0, slots := 0, locals := 127 }) s m args below meth c H locs 0 0 (MQ below (va_Qv Q (PosW D (tyB cy) ad 75 (shB cy ad) A) A) args s 0 0 A) (F0 m 166 ls []) := by
  have hx := X.1
  have hb := X.2.1
  unfold wX10_advance_b166 at h
  exact o_vret X S hr h dX10_advance_166
set_option maxHeartbeats 4000000 in
set_option maxRecDepth 100000 in
theorem mX10_advance_b41 {D : va_G} {cy : Nat → ClassId} {ad z : Nat → Nat} (l : Launch) {p : Program} {e : Env} {s : State} {m : MethodId} {args : Array Value} {below : List Frame} {meth : Method} {c : Code} {A : Nat → Prop} {Q : Sg → Prop} (X : Fx D (tyB cy) (EvB z) p s m args meth c cX10_advance 2 "BackBay$Tape" A) (hr : meth.sig.returnType = none) (x1 : Int32) {σ : Sg} {H : Heap} {locs : List Loc} {ls : Array Slot} (S : St D ad 75 (shB cy ad) A s σ H locs) (hl : lv_has ls 2 [(0, .ref (ad 2)), (1, .int x1)]) (h : wX10_advance_b41 x1 σ Q) : W p l e ({ frames := 6, cells := 0, slots := 0, locals := 127 }) s m args below meth c H locs 0 0 (MQ below (va_Qv Q (PosW D (tyB cy) ad 75 (shB cy ad) A) A) args s 0 0 A) (F0 m 41 ls []) := by
  have hx := X.1
  have hb := X.2.1
  unfold wX10_advance_b41 at h
  refine lv_aload_n hx hb dX10_advance_41 rfl (lv_at hl 0 rfl) ?_
  refine lv_iload_n hx hb dX10_advance_42 rfl (lv_at hl 1 rfl) ?_
  refine o_puti X S (fs := fun c => [.int (c 0), .ref (ad 3), .int (c 2), .int (c 3), .int (c 4), .int (c 5), .int (c 6), .int (c 7)]) 2 3 (by decide) (fun _ => rfl) (fun _ _ => rfl) rfl in_10 tyX10_ok nmX10 (by decide) k_41 rfl rfl rfl rfl (fun _ => Nat.le_of_ble_eq_true rfl) dX10_advance_43 (fun σ_8 H locs eσ_8 S => ?_)
  replace h := h σ_8 eσ_8
  refine lv_aload_n hx hb dX10_advance_46 rfl (lv_at hl 0 rfl) ?_
  refine lv_iload_n hx hb dX10_advance_47 rfl (lv_at hl 1 rfl) ?_
  refine lv_iconst (v := 1) hx hb dX10_advance_48 (by decide) ?_
  refine lv_iadd hx hb dX10_advance_49 ?_
  refine o_puti X S (fs := fun c => [.int (c 0), .ref (ad 3), .int (c 2), .int (c 3), .int (c 4), .int (c 5), .int (c 6), .int (c 7)]) 2 4 (by decide) (fun _ => rfl) (fun _ _ => rfl) rfl in_10 tyX10_ok nmX10 (by decide) k_42 rfl rfl rfl rfl (fun _ => Nat.le_of_ble_eq_true rfl) dX10_advance_50 (fun σ_9 H locs eσ_9 S => ?_)
  replace h := h σ_9 eσ_9
  refine lv_iload_n hx hb dX10_advance_53 rfl (lv_at hl 1 rfl) ?_
  refine lv_aload_n hx hb dX10_advance_54 rfl (lv_at hl 0 rfl) ?_
  refine o_get X S 2 0 (by decide) rfl rfl in_10 (by decide) k_37 rfl dX10_advance_55 ?_
  refine lv_icmp_lt (tgt := 75) hx hb dX10_advance_58 (by decide) (fun q_10 => ?_) (fun q_10 => ?_)
  · replace h := h.1 q_10
    refine lv_aload_n hx hb dX10_advance_75 rfl (lv_at hl 0 rfl) ?_
    refine o_get X S 2 1 (by decide) rfl rfl in_10 (by decide) k_39 rfl dX10_advance_76 ?_
    refine lv_iload_n hx hb dX10_advance_79 rfl (lv_at hl 1 rfl) ?_
    refine o_iald X S 3 0 (by decide) (fun _ => rfl) rfl h.1 dX10_advance_80 ?_
    replace h := h.2
    refine lv_bipush (v := 97) hx hb dX10_advance_81 (by decide) ?_
    refine lv_bipush (v := 122) hx hb dX10_advance_83 (by decide) ?_
    refine o_callNi (k := 3) (EvB_ok z) X S (mX11_isWithin l (σ_9 3 x1.toNatClampNeg) 97 122 σ_9 _ h) k_371 X.2.2.2.2.2.2.2.1.2.2.2.2.2.2.2.2.2.2.2.2.2.2.2.1 k_370 k_1 ⟨by decide, by decide, by decide +kernel⟩ ⟨rfl, rfl⟩ ⟨Nat.le_of_ble_eq_true rfl, Nat.le_of_ble_eq_true rfl⟩ rfl hl.1 rfl (Nat.le_of_ble_eq_true rfl) dX10_advance_85 (fun r_11 σ_12 H locs h S => ?_)
    refine lv_if_eq (tgt := 114) hx hb dX10_advance_88 (by decide) (fun q_13 => ?_) (fun q_13 => ?_)
    · replace h := h.1 q_13
      refine lv_aload_n hx hb dX10_advance_114 rfl (lv_at hl 0 rfl) ?_
      refine o_get X S 2 1 (by decide) rfl rfl in_10 (by decide) k_39 rfl dX10_advance_115 ?_
      refine lv_iload_n hx hb dX10_advance_118 rfl (lv_at hl 1 rfl) ?_
      refine o_iald X S 3 0 (by decide) (fun _ => rfl) rfl h.1 dX10_advance_119 ?_
      replace h := h.2
      refine lv_bipush (v := 48) hx hb dX10_advance_120 (by decide) ?_
      refine lv_bipush (v := 57) hx hb dX10_advance_122 (by decide) ?_
      refine o_callNi (k := 3) (EvB_ok z) X S (mX11_isWithin l (σ_12 3 x1.toNatClampNeg) 48 57 σ_12 _ h) k_371 X.2.2.2.2.2.2.2.1.2.2.2.2.2.2.2.2.2.2.2.2.2.2.2.1 k_370 k_1 ⟨by decide, by decide, by decide +kernel⟩ ⟨rfl, rfl⟩ ⟨Nat.le_of_ble_eq_true rfl, Nat.le_of_ble_eq_true rfl⟩ rfl hl.1 rfl (Nat.le_of_ble_eq_true rfl) dX10_advance_124 (fun r_14 σ_15 H locs h S => ?_)
      refine lv_if_eq (tgt := 153) hx hb dX10_advance_127 (by decide) (fun q_16 => ?_) (fun q_16 => ?_)
      · replace h := h.1 q_16
        refine lv_aload_n hx hb dX10_advance_153 rfl (lv_at hl 0 rfl) ?_
        refine lv_aload_n hx hb dX10_advance_154 rfl (lv_at hl 0 rfl) ?_
        refine o_get X S 2 1 (by decide) rfl rfl in_10 (by decide) k_39 rfl dX10_advance_155 ?_
        refine lv_iload_n hx hb dX10_advance_158 rfl (lv_at hl 1 rfl) ?_
        refine o_iald X S 3 0 (by decide) (fun _ => rfl) rfl h.1 dX10_advance_159 ?_
        replace h := h.2
        refine o_callSi (k := 1) (EvB_ok z) X S (mX10_signToken l (σ_15 3 x1.toNatClampNeg) σ_15 _ h) k_509 k_507 k_508 k_2 ⟨by decide, by decide, by decide +kernel⟩ ⟨rfl, rfl⟩ ⟨Nat.le_of_ble_eq_true rfl, Nat.le_of_ble_eq_true rfl⟩ rfl hl.1 rfl (Nat.le_of_ble_eq_true rfl) dX10_advance_160 (fun r_17 σ_18 H locs h S => ?_)
        refine o_puti X S (fs := fun c => [.int (c 0), .ref (ad 3), .int (c 2), .int (c 3), .int (c 4), .int (c 5), .int (c 6), .int (c 7)]) 2 2 (by decide) (fun _ => rfl) (fun _ _ => rfl) rfl in_10 tyX10_ok nmX10 (by decide) k_40 rfl rfl rfl rfl (fun _ => Nat.le_of_ble_eq_true rfl) dX10_advance_163 (fun σ_19 H locs eσ_19 S => ?_)
        replace h := h σ_19 eσ_19
        exact mX10_advance_b166 l X hr S (lv_sub hl [] rfl) h
      · replace h := h.2 q_16
        refine lv_aload_n hx hb dX10_advance_130 rfl (lv_at hl 0 rfl) ?_
        refine lv_aload_n hx hb dX10_advance_131 rfl (lv_at hl 0 rfl) ?_
        refine lv_bipush (v := 48) hx hb dX10_advance_132 (by decide) ?_
        refine lv_bipush (v := 57) hx hb dX10_advance_134 (by decide) ?_
        refine o_callVi (k := 2) (EvB_ok z) X S (mX10_endOf l 48 57 σ_15 _ h) (by decide) rfl rfl k_439 k_436 k_438 ks_3 k_2 ⟨rfl, by decide, by decide, by decide +kernel⟩ ⟨rfl, rfl⟩ ⟨Nat.le_of_ble_eq_true rfl, Nat.le_of_ble_eq_true rfl⟩ rfl hl.1 rfl (Nat.le_of_ble_eq_true rfl) dX10_advance_136 (fun r_20 σ_21 H locs h S => ?_)
        refine o_puti X S (fs := fun c => [.int (c 0), .ref (ad 3), .int (c 2), .int (c 3), .int (c 4), .int (c 5), .int (c 6), .int (c 7)]) 2 4 (by decide) (fun _ => rfl) (fun _ _ => rfl) rfl in_10 tyX10_ok nmX10 (by decide) k_42 rfl rfl rfl rfl (fun _ => Nat.le_of_ble_eq_true rfl) dX10_advance_139 (fun σ_22 H locs eσ_22 S => ?_)
        replace h := h σ_22 eσ_22
        refine lv_aload_n hx hb dX10_advance_142 rfl (lv_at hl 0 rfl) ?_
        refine lv_aload_n hx hb dX10_advance_143 rfl (lv_at hl 0 rfl) ?_
        refine o_callVi (k := 0) (EvB_ok z) X S (mX10_numberToken l σ_22 _ h) (by decide) rfl rfl k_506 k_503 k_505 ks_6 k_2 ⟨rfl, by decide, by decide, by decide +kernel⟩ ⟨rfl, rfl⟩ ⟨Nat.le_of_ble_eq_true rfl, Nat.le_of_ble_eq_true rfl⟩ rfl hl.1 rfl (Nat.le_of_ble_eq_true rfl) dX10_advance_144 (fun r_23 σ_24 H locs h S => ?_)
        refine o_puti X S (fs := fun c => [.int (c 0), .ref (ad 3), .int (c 2), .int (c 3), .int (c 4), .int (c 5), .int (c 6), .int (c 7)]) 2 2 (by decide) (fun _ => rfl) (fun _ _ => rfl) rfl in_10 tyX10_ok nmX10 (by decide) k_40 rfl rfl rfl rfl (fun _ => Nat.le_of_ble_eq_true rfl) dX10_advance_147 (fun σ_25 H locs eσ_25 S => ?_)
        replace h := h σ_25 eσ_25
        refine lv_goto (tgt := 166) hx hb dX10_advance_150 (by decide) ?_
        exact mX10_advance_b166 l X hr S (lv_sub hl [] rfl) h
    · replace h := h.2 q_13
      refine lv_aload_n hx hb dX10_advance_91 rfl (lv_at hl 0 rfl) ?_
      refine lv_aload_n hx hb dX10_advance_92 rfl (lv_at hl 0 rfl) ?_
      refine lv_bipush (v := 97) hx hb dX10_advance_93 (by decide) ?_
      refine lv_bipush (v := 122) hx hb dX10_advance_95 (by decide) ?_
      refine o_callVi (k := 2) (EvB_ok z) X S (mX10_endOf l 97 122 σ_12 _ h) (by decide) rfl rfl k_439 k_436 k_438 ks_3 k_2 ⟨rfl, by decide, by decide, by decide +kernel⟩ ⟨rfl, rfl⟩ ⟨Nat.le_of_ble_eq_true rfl, Nat.le_of_ble_eq_true rfl⟩ rfl hl.1 rfl (Nat.le_of_ble_eq_true rfl) dX10_advance_97 (fun r_26 σ_27 H locs h S => ?_)
      refine o_puti X S (fs := fun c => [.int (c 0), .ref (ad 3), .int (c 2), .int (c 3), .int (c 4), .int (c 5), .int (c 6), .int (c 7)]) 2 4 (by decide) (fun _ => rfl) (fun _ _ => rfl) rfl in_10 tyX10_ok nmX10 (by decide) k_42 rfl rfl rfl rfl (fun _ => Nat.le_of_ble_eq_true rfl) dX10_advance_100 (fun σ_28 H locs eσ_28 S => ?_)
      replace h := h σ_28 eσ_28
      refine lv_aload_n hx hb dX10_advance_103 rfl (lv_at hl 0 rfl) ?_
      refine lv_aload_n hx hb dX10_advance_104 rfl (lv_at hl 0 rfl) ?_
      refine o_callVi (k := 0) (EvB_ok z) X S (mX10_nameToken l σ_28 _ h) (by decide) rfl rfl k_443 k_440 k_442 ks_4 k_2 ⟨rfl, by decide, by decide, by decide +kernel⟩ ⟨rfl, rfl⟩ ⟨Nat.le_of_ble_eq_true rfl, Nat.le_of_ble_eq_true rfl⟩ rfl hl.1 rfl (Nat.le_of_ble_eq_true rfl) dX10_advance_105 (fun r_29 σ_30 H locs h S => ?_)
      refine o_puti X S (fs := fun c => [.int (c 0), .ref (ad 3), .int (c 2), .int (c 3), .int (c 4), .int (c 5), .int (c 6), .int (c 7)]) 2 2 (by decide) (fun _ => rfl) (fun _ _ => rfl) rfl in_10 tyX10_ok nmX10 (by decide) k_40 rfl rfl rfl rfl (fun _ => Nat.le_of_ble_eq_true rfl) dX10_advance_108 (fun σ_31 H locs eσ_31 S => ?_)
      replace h := h σ_31 eσ_31
      refine lv_goto (tgt := 166) hx hb dX10_advance_111 (by decide) ?_
      exact mX10_advance_b166 l X hr S (lv_sub hl [] rfl) h
  · replace h := h.2 q_10
    refine lv_aload_n hx hb dX10_advance_61 rfl (lv_at hl 0 rfl) ?_
    refine lv_iload_n hx hb dX10_advance_62 rfl (lv_at hl 1 rfl) ?_
    refine o_puti X S (fs := fun c => [.int (c 0), .ref (ad 3), .int (c 2), .int (c 3), .int (c 4), .int (c 5), .int (c 6), .int (c 7)]) 2 4 (by decide) (fun _ => rfl) (fun _ _ => rfl) rfl in_10 tyX10_ok nmX10 (by decide) k_42 rfl rfl rfl rfl (fun _ => Nat.le_of_ble_eq_true rfl) dX10_advance_63 (fun σ_32 H locs eσ_32 S => ?_)
    replace h := h σ_32 eσ_32
    refine lv_aload_n hx hb dX10_advance_66 rfl (lv_at hl 0 rfl) ?_
    refine lv_bipush (v := 13) hx hb dX10_advance_67 (by decide) ?_
    refine o_puti X S (fs := fun c => [.int (c 0), .ref (ad 3), .int (c 2), .int (c 3), .int (c 4), .int (c 5), .int (c 6), .int (c 7)]) 2 2 (by decide) (fun _ => rfl) (fun _ _ => rfl) rfl in_10 tyX10_ok nmX10 (by decide) k_40 rfl rfl rfl rfl (fun _ => Nat.le_of_ble_eq_true rfl) dX10_advance_69 (fun σ_33 H locs eσ_33 S => ?_)
    replace h := h σ_33 eσ_33
    refine lv_goto (tgt := 166) hx hb dX10_advance_72 (by decide) ?_
    exact mX10_advance_b166 l X hr S (lv_sub hl [] rfl) h
set_option maxHeartbeats 4000000 in
set_option maxRecDepth 100000 in
theorem mX10_advance {D : va_G} {cy : Nat → ClassId} {ad z : Nat → Nat} (l : Launch) (σ : Sg) (Q : Sg → Prop) (h : wX10_advance σ Q) : MVB D cy ad z l yX10_advance (.code yX10_advance cX10_advance 2 none :: gT) ({ frames := 6, cells := 0, slots := 0, locals := 127 }) [.ref (ad 2)] σ Q := by
  refine metV_of (by decide +kernel) (Nat.le_of_ble_eq_true rfl) ?_
  intro p e s m args below meth c A ls X hr hl S
  have X : Fx D (tyB cy) (EvB z) p s m args meth c cX10_advance 2 "BackBay$Tape" A := X
  have hl : lv_has ls 2 [(0, .ref (ad 2))] := hl
  have hx := X.1
  have hb := X.2.1
  unfold wX10_advance at h
  refine lv_aload_n hx hb dX10_advance_0 rfl (lv_at hl 0 rfl) ?_
  refine o_get X S 2 4 (by decide) rfl rfl in_10 (by decide) k_42 rfl dX10_advance_1 ?_
  refine lv_topi (fun x1_1 ex1_1 => ?_)
  replace h := h x1_1 ex1_1
  refine lv_istore_n (lv' := [(1, .int x1_1), (0, .ref (ad 2))]) hx hb dX10_advance_4 rfl hl (by decide) rfl (fun ls hl => ?_)
  obtain ⟨n_5, h⟩ := h
  refine mX10_advance_L5 l X hr ?_ n_5 _ _ _ _ _ S (lv_sub hl [1, 0] rfl) h
  · intro x1_6 σ_7 H locs ls S hl h
    exact mX10_advance_b41 l X hr x1_6 S (lv_sub hl [0, 1] rfl) h
def rmX10_readNode (d : Nat) : Room := { frames := 7 + d, cells := 0, slots := 0, locals := 148 + 25 * d }
def wX10_readNode_b30 (T : Nat) (rc : Int32 → Sg → (Int32 → Sg → Prop) → Prop) (σ : Sg) (Q : Int32 → Sg → Prop) : Prop :=
  (wX10_fail 3 σ (fun r_3 σ_4 => (bok r_3 ∧ Q r_3 σ_4)))
def wX10_readNode_L66 (T : Nat) (rc : Int32 → Sg → (Int32 → Sg → Prop) → Prop) (x2 : Int32) (x3 : Int32) (x4 : Int32) (k91 : Sg → Prop) (k83 : Sg → Prop) (Q : Int32 → Sg → Prop) : Nat → Int32 → Sg → Prop
  | 0, _, _ => False
  | nn66 + 1, x5, σ =>
  ((x3 ≤ x5 → k91 σ) ∧ (¬ x3 ≤ x5 → (rc (x2 + 1) σ (fun r_14 σ_15 => ((r_14 = 0 → k83 σ_15) ∧ (¬ r_14 = 0 → (∀ x5_17 : Int32, x5_17 = x5 + 1 → wX10_readNode_L66 T rc x2 x3 x4 k91 k83 Q nn66 x5_17 σ_15)))))))
def wX10_readNode_body (T : Nat) (rc : Int32 → Sg → (Int32 → Sg → Prop) → Prop) (x2 : Int32) (σ : Sg) (Q : Int32 → Sg → Prop) : Prop :=
  (((σ 2 2) ≤ 10 → ((6 < x2 → wX10_readNode_b30 T rc σ Q) ∧ (¬ 6 < x2 → (wX8_nodesOfOpen T σ (fun r_5 σ_6 => ((r_5 < 20 → (vp_in (σ_6 2 2) 11 ∧ (∀ x3_8, x3_8 = (tabP (σ_6 2 2).toNatClampNeg) → (wX8_addNode T (σ_6 2 2) (σ_6 2 5) σ_6 (fun r_9 σ_10 => (wX10_advance σ_10 (fun σ_12 => (∃ nf, wX10_readNode_L66 T rc x2 x3_8 r_9 (fun σ_18 => (wX8_closeNode T r_9 σ_18 (fun σ_20 => Q 1 σ_20))) (fun σ_21 => Q 0 σ_21) Q nf 0 σ_12)))))))) ∧ (¬ r_5 < 20 → wX10_readNode_b30 T rc σ_6 Q))))))) ∧ (¬ (σ 2 2) ≤ 10 → (wX10_fail 1 σ (fun r_22 σ_23 => (bok r_22 ∧ Q r_22 σ_23)))))
def wX10_readNode (T : Nat) : Nat → Int32 → Sg → (Int32 → Sg → Prop) → Prop
  | 0, _, _, _ => False
  | d + 1, x2, σ, Q => wX10_readNode_body T (wX10_readNode T d) x2 σ Q
set_option maxHeartbeats 4000000 in
set_option maxRecDepth 100000 in
theorem mX10_readNode_b30 {D : va_G} {cy : Nat → ClassId} {ad z : Nat → Nat} (l : Launch) {T : Nat} (hT : isSten T) {d : Nat} {rc : Int32 → Sg → (Int32 → Sg → Prop) → Prop} (hrc : ∀ (x : Int32) (σ : Sg) (Q : Int32 → Sg → Prop), rc x σ Q → MIB D cy ad z l yX10_readNode (.code yX10_readNode cX10_readNode 6 (some .boolean) :: gT) (rmX10_readNode d) [.ref (ad 2), .ref (ad T), .int x] σ Q) {p : Program} {e : Env} {s : State} {m : MethodId} {args : Array Value} {below : List Frame} {meth : Method} {c : Code} {A : Nat → Prop} {Q : Int32 → Sg → Prop} (X : Fx D (tyB cy) (EvB z) p s m args meth c cX10_readNode 6 "BackBay$Tape" A) (hr : meth.sig.returnType = some .boolean) {σ : Sg} {H : Heap} {locs : List Loc} {ls : Array Slot} (S : St D ad 75 (shB cy ad) A s σ H locs) (hl : lv_has ls 6 [(0, .ref (ad 2))]) (h : wX10_readNode_b30 T rc σ Q) : W p l e (rmX10_readNode (d + 1)) s m args below meth c H locs 0 0 (MQ below (va_Qi Q (PosW D (tyB cy) ad 75 (shB cy ad) A) A) args s 0 0 A) (F0 m 30 ls []) := by
  have hx := X.1
  have hb := X.2.1
  unfold wX10_readNode_b30 at h
  refine lv_aload_n hx hb dX10_readNode_30 rfl (lv_at hl 0 rfl) ?_
  refine lv_iconst (v := 3) hx hb dX10_readNode_31 (by decide) ?_
  refine o_callVi (k := 1) (EvB_ok z) X S (mX10_fail l 3 σ _ h) (by decide) rfl rfl k_517 k_514 k_516 ks_8 k_2 ⟨rfl, by decide, by decide, by decide +kernel⟩ ⟨rfl, rfl⟩ ⟨by simp only [rmX10_readNode]; omega, by simp only [rmX10_readNode]; omega⟩ rfl hl.1 rfl (Nat.le_of_ble_eq_true rfl) dX10_readNode_32 (fun r_3 σ_4 H locs h S => ?_)
  exact o_zret X S hr h.1 h.2 dX10_readNode_35
set_option maxHeartbeats 4000000 in
set_option maxRecDepth 100000 in
theorem mX10_readNode_L66 {D : va_G} {cy : Nat → ClassId} {ad z : Nat → Nat} (l : Launch) {T : Nat} (hT : isSten T) {d : Nat} {rc : Int32 → Sg → (Int32 → Sg → Prop) → Prop} (hrc : ∀ (x : Int32) (σ : Sg) (Q : Int32 → Sg → Prop), rc x σ Q → MIB D cy ad z l yX10_readNode (.code yX10_readNode cX10_readNode 6 (some .boolean) :: gT) (rmX10_readNode d) [.ref (ad 2), .ref (ad T), .int x] σ Q) {p : Program} {e : Env} {s : State} {m : MethodId} {args : Array Value} {below : List Frame} {meth : Method} {c : Code} {A : Nat → Prop} {k91 : Sg → Prop} {k83 : Sg → Prop} {Q : Int32 → Sg → Prop} (X : Fx D (tyB cy) (EvB z) p s m args meth c cX10_readNode 6 "BackBay$Tape" A) (hr : meth.sig.returnType = some .boolean) (x2 : Int32) (x3 : Int32) (x4 : Int32) (hk91 : ∀ (σ : Sg) (H : Heap) (locs : List Loc) (ls : Array Slot), St D ad 75 (shB cy ad) A s σ H locs → lv_has ls 6 [(1, .ref (ad T)), (4, .int x4)] → k91 σ → W p l e (rmX10_readNode (d + 1)) s m args below meth c H locs 0 0 (MQ below (va_Qi Q (PosW D (tyB cy) ad 75 (shB cy ad) A) A) args s 0 0 A) (F0 m 91 ls [])) (hk83 : ∀ (σ : Sg) (H : Heap) (locs : List Loc) (ls : Array Slot), St D ad 75 (shB cy ad) A s σ H locs → lv_has ls 6 [] → k83 σ → W p l e (rmX10_readNode (d + 1)) s m args below meth c H locs 0 0 (MQ below (va_Qi Q (PosW D (tyB cy) ad 75 (shB cy ad) A) A) args s 0 0 A) (F0 m 83 ls [])) : ∀ (n : Nat) (x5 : Int32) (σ : Sg) (H : Heap) (locs : List Loc) (ls : Array Slot), St D ad 75 (shB cy ad) A s σ H locs → lv_has ls 6 [(0, .ref (ad 2)), (1, .ref (ad T)), (2, .int x2), (3, .int x3), (4, .int x4), (5, .int x5)] → wX10_readNode_L66 T rc x2 x3 x4 k91 k83 Q n x5 σ → W p l e (rmX10_readNode (d + 1)) s m args below meth c H locs 0 0 (MQ below (va_Qi Q (PosW D (tyB cy) ad 75 (shB cy ad) A) A) args s 0 0 A) (F0 m 66 ls []) := by
  have hx := X.1
  have hb := X.2.1
  intro n
  induction n with
  | zero =>
    intro _ _ _ _ _ _ _ h
    exact absurd h (by unfold wX10_readNode_L66; exact id)
  | succ n ih =>
    intro x5 σ H locs ls S hl h
    unfold wX10_readNode_L66 at h
    refine lv_iload hx hb dX10_readNode_66 (lv_at hl 5 rfl) ?_
    refine lv_iload_n hx hb dX10_readNode_68 rfl (lv_at hl 3 rfl) ?_
    refine lv_icmp_ge (tgt := 91) hx hb dX10_readNode_69 (by decide) (fun q_13 => ?_) (fun q_13 => ?_)
    · replace h := h.1 q_13
      exact hk91 _ _ _ _ S (lv_sub hl [1, 4] rfl) h
    · replace h := h.2 q_13
      refine lv_aload_n hx hb dX10_readNode_72 rfl (lv_at hl 0 rfl) ?_
      refine lv_aload_n hx hb dX10_readNode_73 rfl (lv_at hl 1 rfl) ?_
      refine lv_iload_n hx hb dX10_readNode_74 rfl (lv_at hl 2 rfl) ?_
      refine lv_iconst (v := 1) hx hb dX10_readNode_75 (by decide) ?_
      refine lv_iadd hx hb dX10_readNode_76 ?_
      refine o_callVi (k := 2) (EvB_ok z) X S (hrc (x2 + 1) σ _ h) (by decide) rfl rfl k_521 k_518 k_520 ks_9 k_2 ⟨rfl, by decide, by decide, by decide +kernel⟩ ⟨rfl, rfl⟩ ⟨by simp only [rmX10_readNode]; omega, by simp only [rmX10_readNode]; omega⟩ rfl hl.1 rfl (Nat.le_of_ble_eq_true rfl) dX10_readNode_77 (fun r_14 σ_15 H locs h S => ?_)
      refine lv_if_ne (tgt := 85) hx hb dX10_readNode_80 (by decide) (fun q_16 => ?_) (fun q_16 => ?_)
      · replace h := h.2 q_16
        obtain ⟨x5_17, ex5_17⟩ : ∃ y : Int32, y = x5 + 1 := ⟨_, rfl⟩
        replace h := h x5_17 ex5_17
        refine lv_iinc (v := x5_17) (lv' := [(5, .int x5_17), (0, .ref (ad 2)), (1, .ref (ad T)), (2, .int x2), (3, .int x3), (4, .int x4)]) hx hb dX10_readNode_85 hl (k := 5) rfl (by rw [ex5_17]; rfl) (by decide) rfl (fun ls hl => ?_)
        refine lv_goto (tgt := 66) hx hb dX10_readNode_88 (by decide) ?_
        exact ih _ _ _ _ _ S (lv_sub hl [1, 2, 3, 4, 5, 0] rfl) h
      · replace h := h.1 q_16
        exact hk83 _ _ _ _ S (lv_sub hl [] rfl) h
set_option maxHeartbeats 4000000 in
set_option maxRecDepth 100000 in
theorem mX10_readNode_body {D : va_G} {cy : Nat → ClassId} {ad z : Nat → Nat} (l : Launch) {T : Nat} (hT : isSten T) {d : Nat} {rc : Int32 → Sg → (Int32 → Sg → Prop) → Prop} (hrc : ∀ (x : Int32) (σ : Sg) (Q : Int32 → Sg → Prop), rc x σ Q → MIB D cy ad z l yX10_readNode (.code yX10_readNode cX10_readNode 6 (some .boolean) :: gT) (rmX10_readNode d) [.ref (ad 2), .ref (ad T), .int x] σ Q) (x2 : Int32) (σ : Sg) (Q : Int32 → Sg → Prop) (h : wX10_readNode_body T rc x2 σ Q) : MIB D cy ad z l yX10_readNode (.code yX10_readNode cX10_readNode 6 (some .boolean) :: gT) (rmX10_readNode (d + 1)) [.ref (ad 2), .ref (ad T), .int x2] σ Q := by
  refine metI_of (by decide +kernel) (Nat.le_of_ble_eq_true rfl) ?_
  intro p e s m args below meth c A ls X hr hl S
  have X : Fx D (tyB cy) (EvB z) p s m args meth c cX10_readNode 6 "BackBay$Tape" A := X
  have hl : lv_has ls 6 [(0, .ref (ad 2)), (1, .ref (ad T)), (2, .int x2)] := hl
  have hx := X.1
  have hb := X.2.1
  unfold wX10_readNode_body at h
  refine lv_aload_n hx hb dX10_readNode_0 rfl (lv_at hl 0 rfl) ?_
  refine o_get X S 2 2 (by decide) rfl rfl in_10 (by decide) k_40 rfl dX10_readNode_1 ?_
  refine lv_bipush (v := 10) hx hb dX10_readNode_4 (by decide) ?_
  refine lv_icmp_le (tgt := 15) hx hb dX10_readNode_6 (by decide) (fun q_1 => ?_) (fun q_1 => ?_)
  · replace h := h.1 q_1
    refine lv_iload_n hx hb dX10_readNode_15 rfl (lv_at hl 2 rfl) ?_
    refine lv_bipush (v := 6) hx hb dX10_readNode_16 (by decide) ?_
    refine lv_icmp_gt (tgt := 30) hx hb dX10_readNode_18 (by decide) (fun q_2 => ?_) (fun q_2 => ?_)
    · replace h := h.1 q_2
      exact mX10_readNode_b30 l hT hrc X hr S (lv_sub hl [0] rfl) h
    · replace h := h.2 q_2
      refine lv_aload_n hx hb dX10_readNode_21 rfl (lv_at hl 1 rfl) ?_
      refine o_callVi (k := 0) (EvB_ok z) X S (mX8_nodesOfOpen l hT σ _ h) (isSten_lt hT 0 (by decide)) ((shS0 hT) _) rfl k_525 k_522 k_523 k_524 k_3 ⟨rfl, by decide, by decide, by decide +kernel⟩ ⟨rfl, rfl⟩ ⟨by simp only [rmX10_readNode]; omega, by simp only [rmX10_readNode]; omega⟩ rfl hl.1 rfl (Nat.le_of_ble_eq_true rfl) dX10_readNode_22 (fun r_5 σ_6 H locs h S => ?_)
      refine lv_bipush (v := 20) hx hb dX10_readNode_25 (by decide) ?_
      refine lv_icmp_lt (tgt := 36) hx hb dX10_readNode_27 (by decide) (fun q_7 => ?_) (fun q_7 => ?_)
      · replace h := h.1 q_7
        refine va_getsN hx hb X.2.2.2.2.2.2.2.1.1.1 S.2.2 X.2.2.2.1 (va_Nw.use rfl X.2.2.2.2.2.2.2.1.2.2.2.2.2.2.2.2.2.2.2.2.2.2.2.2.2.2.2.1) (fun _ h => h) dX10_readNode_36 ?_
        refine lv_aload_n hx hb dX10_readNode_39 rfl (lv_at hl 0 rfl) ?_
        refine o_get X S 2 2 (by decide) rfl rfl in_10 (by decide) k_40 rfl dX10_readNode_40 ?_
        refine va_ti hx hb X.2.2.2.2.2.2.2.1.1.2 S.2.2 h.1 rfl dX10_readNode_43 ?_
        replace h := h.2
        refine lv_topi (fun x3_8 ex3_8 => ?_)
        replace h := h x3_8 ex3_8
        refine lv_istore_n (lv' := [(3, .int x3_8), (0, .ref (ad 2)), (1, .ref (ad T)), (2, .int x2)]) hx hb dX10_readNode_44 rfl hl (by decide) rfl (fun ls hl => ?_)
        refine lv_aload_n hx hb dX10_readNode_45 rfl (lv_at hl 2 rfl) ?_
        refine lv_aload_n hx hb dX10_readNode_46 rfl (lv_at hl 1 rfl) ?_
        refine o_get X S 2 2 (by decide) rfl rfl in_10 (by decide) k_40 rfl dX10_readNode_47 ?_
        refine lv_aload_n hx hb dX10_readNode_50 rfl (lv_at hl 1 rfl) ?_
        refine o_get X S 2 5 (by decide) rfl rfl in_10 (by decide) k_43 rfl dX10_readNode_51 ?_
        refine o_callVi (k := 2) (EvB_ok z) X S (mX8_addNode l hT (σ_6 2 2) (σ_6 2 5) σ_6 _ h) (isSten_lt hT 0 (by decide)) ((shS0 hT) _) rfl k_531 k_528 k_529 k_530 k_3 ⟨rfl, by decide, by decide, by decide +kernel⟩ ⟨rfl, rfl⟩ ⟨by simp only [rmX10_readNode]; omega, by simp only [rmX10_readNode]; omega⟩ rfl hl.1 rfl (Nat.le_of_ble_eq_true rfl) dX10_readNode_54 (fun r_9 σ_10 H locs h S => ?_)
        refine lv_istore (lv' := [(4, .int r_9), (3, .int x3_8), (0, .ref (ad 2)), (1, .ref (ad T)), (2, .int x2)]) hx hb dX10_readNode_57 hl (by decide) rfl (fun ls hl => ?_)
        refine lv_aload_n hx hb dX10_readNode_59 rfl (lv_at hl 2 rfl) ?_
        refine o_callVv (k := 0) (EvB_ok z) X S (mX10_advance l σ_10 _ h) (by decide) rfl rfl k_434 k_431 k_433 ks_2 k_2 ⟨rfl, by decide, by decide, by decide +kernel⟩ ⟨rfl, rfl⟩ ⟨by simp only [rmX10_readNode]; omega, by simp only [rmX10_readNode]; omega⟩ rfl hl.1 rfl (Nat.le_of_ble_eq_true rfl) dX10_readNode_60 (fun σ_12 H locs h S => ?_)
        refine lv_iconst (v := 0) hx hb dX10_readNode_63 (by decide) ?_
        refine lv_istore (lv' := [(5, .int 0), (4, .int r_9), (3, .int x3_8), (0, .ref (ad 2)), (1, .ref (ad T)), (2, .int x2)]) hx hb dX10_readNode_64 hl (by decide) rfl (fun ls hl => ?_)
        obtain ⟨n_66, h⟩ := h
        refine mX10_readNode_L66 l hT hrc X hr x2 x3_8 r_9 ?_ ?_ n_66 _ _ _ _ _ S (lv_sub hl [3, 4, 5, 2, 1, 0] rfl) h
        · intro σ_18 H locs ls S hl h
          refine lv_aload_n hx hb dX10_readNode_91 rfl (lv_at hl 0 rfl) ?_
          refine lv_iload hx hb dX10_readNode_92 (lv_at hl 1 rfl) ?_
          refine o_callVv (k := 1) (EvB_ok z) X S (mX8_closeNode l hT r_9 σ_18 _ h) (isSten_lt hT 0 (by decide)) ((shS0 hT) _) rfl k_535 k_532 k_533 k_534 k_3 ⟨rfl, by decide, by decide, by decide +kernel⟩ ⟨rfl, rfl⟩ ⟨by simp only [rmX10_readNode]; omega, by simp only [rmX10_readNode]; omega⟩ rfl hl.1 rfl (Nat.le_of_ble_eq_true rfl) dX10_readNode_94 (fun σ_20 H locs h S => ?_)
          refine lv_iconst (v := 1) hx hb dX10_readNode_97 (by decide) ?_
          exact o_zret X S hr bok1 h dX10_readNode_98
        · intro σ_21 H locs ls S hl h
          refine lv_iconst (v := 0) hx hb dX10_readNode_83 (by decide) ?_
          exact o_zret X S hr bok0 h dX10_readNode_84
      · replace h := h.2 q_7
        exact mX10_readNode_b30 l hT hrc X hr S (lv_sub hl [0] rfl) h
  · replace h := h.2 q_1
    refine lv_aload_n hx hb dX10_readNode_9 rfl (lv_at hl 0 rfl) ?_
    refine lv_iconst (v := 1) hx hb dX10_readNode_10 (by decide) ?_
    refine o_callVi (k := 1) (EvB_ok z) X S (mX10_fail l 1 σ _ h) (by decide) rfl rfl k_517 k_514 k_516 ks_8 k_2 ⟨rfl, by decide, by decide, by decide +kernel⟩ ⟨rfl, rfl⟩ ⟨by simp only [rmX10_readNode]; omega, by simp only [rmX10_readNode]; omega⟩ rfl hl.1 rfl (Nat.le_of_ble_eq_true rfl) dX10_readNode_11 (fun r_22 σ_23 H locs h S => ?_)
    exact o_zret X S hr h.1 h.2 dX10_readNode_14
theorem mX10_readNode {D : va_G} {cy : Nat → ClassId} {ad z : Nat → Nat} (l : Launch) {T : Nat} (hT : isSten T) : ∀ (d : Nat) (x2 : Int32) (σ : Sg) (Q : Int32 → Sg → Prop), wX10_readNode T d x2 σ Q → MIB D cy ad z l yX10_readNode (.code yX10_readNode cX10_readNode 6 (some .boolean) :: gT) (rmX10_readNode d) [.ref (ad 2), .ref (ad T), .int x2] σ Q
  | 0, _, _, _, h => absurd h (by unfold wX10_readNode; exact id)
  | d + 1, x2, σ, Q, h => mX10_readNode_body l hT (fun x σ Q h => mX10_readNode l hT d x σ Q h) x2 σ Q (by unfold wX10_readNode at h; exact h)
def wX10_readStencil (T : Nat) (σ : Sg) (Q : Int32 → Sg → Prop) : Prop :=
  (((σ 2 2) = 11 → (((σ T 0) < 3 → (wX10_advance σ (fun σ_4 => (wX10_readNode T 8 1 σ_4 (fun r_5 σ_6 => ((r_5 = 0 → Q 0 σ_6) ∧ (¬ r_5 = 0 → (((σ_6 2 2) = 12 → (wX8_closeStencil T σ_6 (fun σ_10 => (wX10_advance σ_10 (fun σ_12 => Q 1 σ_12))))) ∧ (¬ (σ_6 2 2) = 12 → (wX10_fail 1 σ_6 (fun r_13 σ_14 => (bok r_13 ∧ Q r_13 σ_14)))))))))))) ∧ (¬ (σ T 0) < 3 → (wX10_fail 3 σ (fun r_15 σ_16 => (bok r_15 ∧ Q r_15 σ_16)))))) ∧ (¬ (σ 2 2) = 11 → (wX10_fail 1 σ (fun r_17 σ_18 => (bok r_17 ∧ Q r_17 σ_18)))))
set_option maxHeartbeats 4000000 in
set_option maxRecDepth 100000 in
theorem mX10_readStencil {D : va_G} {cy : Nat → ClassId} {ad z : Nat → Nat} (l : Launch) {T : Nat} (hT : isSten T) (σ : Sg) (Q : Int32 → Sg → Prop) (h : wX10_readStencil T σ Q) : MIB D cy ad z l yX10_readStencil (.code yX10_readStencil cX10_readStencil 2 (some .boolean) :: gT) ({ frames := 16, cells := 0, slots := 0, locals := 373 }) [.ref (ad 2), .ref (ad T)] σ Q := by
  refine metI_of (by decide +kernel) (Nat.le_of_ble_eq_true rfl) ?_
  intro p e s m args below meth c A ls X hr hl S
  have X : Fx D (tyB cy) (EvB z) p s m args meth c cX10_readStencil 2 "BackBay$Tape" A := X
  have hl : lv_has ls 2 [(0, .ref (ad 2)), (1, .ref (ad T))] := hl
  have hx := X.1
  have hb := X.2.1
  unfold wX10_readStencil at h
  refine lv_aload_n hx hb dX10_readStencil_0 rfl (lv_at hl 0 rfl) ?_
  refine o_get X S 2 2 (by decide) rfl rfl in_10 (by decide) k_40 rfl dX10_readStencil_1 ?_
  refine lv_bipush (v := 11) hx hb dX10_readStencil_4 (by decide) ?_
  refine lv_icmp_eq (tgt := 15) hx hb dX10_readStencil_6 (by decide) (fun q_1 => ?_) (fun q_1 => ?_)
  · replace h := h.1 q_1
    refine lv_aload_n hx hb dX10_readStencil_15 rfl (lv_at hl 1 rfl) ?_
    refine o_get X S T 0 (isSten_lt hT 0 (by decide)) ((shS0 hT) _) rfl in_8 (by decide) k_75 rfl dX10_readStencil_16 ?_
    refine lv_iconst (v := 3) hx hb dX10_readStencil_19 (by decide) ?_
    refine lv_icmp_lt (tgt := 29) hx hb dX10_readStencil_20 (by decide) (fun q_2 => ?_) (fun q_2 => ?_)
    · replace h := h.1 q_2
      refine lv_aload_n hx hb dX10_readStencil_29 rfl (lv_at hl 0 rfl) ?_
      refine o_callVv (k := 0) (EvB_ok z) X S (mX10_advance l σ _ h) (by decide) rfl rfl k_434 k_431 k_433 ks_2 k_2 ⟨rfl, by decide, by decide, by decide +kernel⟩ ⟨rfl, rfl⟩ ⟨Nat.le_of_ble_eq_true rfl, Nat.le_of_ble_eq_true rfl⟩ rfl hl.1 rfl (Nat.le_of_ble_eq_true rfl) dX10_readStencil_30 (fun σ_4 H locs h S => ?_)
      refine lv_aload_n hx hb dX10_readStencil_33 rfl (lv_at hl 0 rfl) ?_
      refine lv_aload_n hx hb dX10_readStencil_34 rfl (lv_at hl 1 rfl) ?_
      refine lv_iconst (v := 1) hx hb dX10_readStencil_35 (by decide) ?_
      refine o_callVi (k := 2) (EvB_ok z) X S (mX10_readNode l hT 8 1 σ_4 _ h) (by decide) rfl rfl k_521 k_518 k_520 ks_9 k_2 ⟨rfl, by decide, by decide, by decide +kernel⟩ ⟨rfl, rfl⟩ ⟨Nat.le_of_ble_eq_true rfl, Nat.le_of_ble_eq_true rfl⟩ rfl hl.1 rfl (Nat.le_of_ble_eq_true rfl) dX10_readStencil_36 (fun r_5 σ_6 H locs h S => ?_)
      refine lv_if_ne (tgt := 44) hx hb dX10_readStencil_39 (by decide) (fun q_7 => ?_) (fun q_7 => ?_)
      · replace h := h.2 q_7
        refine lv_aload_n hx hb dX10_readStencil_44 rfl (lv_at hl 0 rfl) ?_
        refine o_get X S 2 2 (by decide) rfl rfl in_10 (by decide) k_40 rfl dX10_readStencil_45 ?_
        refine lv_bipush (v := 12) hx hb dX10_readStencil_48 (by decide) ?_
        refine lv_icmp_eq (tgt := 59) hx hb dX10_readStencil_50 (by decide) (fun q_8 => ?_) (fun q_8 => ?_)
        · replace h := h.1 q_8
          refine lv_aload_n hx hb dX10_readStencil_59 rfl (lv_at hl 1 rfl) ?_
          refine o_callVv (k := 0) (EvB_ok z) X S (mX8_closeStencil l hT σ_6 _ h) (isSten_lt hT 0 (by decide)) ((shS0 hT) _) rfl k_543 k_540 k_541 k_542 k_3 ⟨rfl, by decide, by decide, by decide +kernel⟩ ⟨rfl, rfl⟩ ⟨Nat.le_of_ble_eq_true rfl, Nat.le_of_ble_eq_true rfl⟩ rfl hl.1 rfl (Nat.le_of_ble_eq_true rfl) dX10_readStencil_60 (fun σ_10 H locs h S => ?_)
          refine lv_aload_n hx hb dX10_readStencil_63 rfl (lv_at hl 0 rfl) ?_
          refine o_callVv (k := 0) (EvB_ok z) X S (mX10_advance l σ_10 _ h) (by decide) rfl rfl k_434 k_431 k_433 ks_2 k_2 ⟨rfl, by decide, by decide, by decide +kernel⟩ ⟨rfl, rfl⟩ ⟨Nat.le_of_ble_eq_true rfl, Nat.le_of_ble_eq_true rfl⟩ rfl hl.1 rfl (Nat.le_of_ble_eq_true rfl) dX10_readStencil_64 (fun σ_12 H locs h S => ?_)
          refine lv_iconst (v := 1) hx hb dX10_readStencil_67 (by decide) ?_
          exact o_zret X S hr bok1 h dX10_readStencil_68
        · replace h := h.2 q_8
          refine lv_aload_n hx hb dX10_readStencil_53 rfl (lv_at hl 0 rfl) ?_
          refine lv_iconst (v := 1) hx hb dX10_readStencil_54 (by decide) ?_
          refine o_callVi (k := 1) (EvB_ok z) X S (mX10_fail l 1 σ_6 _ h) (by decide) rfl rfl k_517 k_514 k_516 ks_8 k_2 ⟨rfl, by decide, by decide, by decide +kernel⟩ ⟨rfl, rfl⟩ ⟨Nat.le_of_ble_eq_true rfl, Nat.le_of_ble_eq_true rfl⟩ rfl hl.1 rfl (Nat.le_of_ble_eq_true rfl) dX10_readStencil_55 (fun r_13 σ_14 H locs h S => ?_)
          exact o_zret X S hr h.1 h.2 dX10_readStencil_58
      · replace h := h.1 q_7
        refine lv_iconst (v := 0) hx hb dX10_readStencil_42 (by decide) ?_
        exact o_zret X S hr bok0 h dX10_readStencil_43
    · replace h := h.2 q_2
      refine lv_aload_n hx hb dX10_readStencil_23 rfl (lv_at hl 0 rfl) ?_
      refine lv_iconst (v := 3) hx hb dX10_readStencil_24 (by decide) ?_
      refine o_callVi (k := 1) (EvB_ok z) X S (mX10_fail l 3 σ _ h) (by decide) rfl rfl k_517 k_514 k_516 ks_8 k_2 ⟨rfl, by decide, by decide, by decide +kernel⟩ ⟨rfl, rfl⟩ ⟨Nat.le_of_ble_eq_true rfl, Nat.le_of_ble_eq_true rfl⟩ rfl hl.1 rfl (Nat.le_of_ble_eq_true rfl) dX10_readStencil_25 (fun r_15 σ_16 H locs h S => ?_)
      exact o_zret X S hr h.1 h.2 dX10_readStencil_28
  · replace h := h.2 q_1
    refine lv_aload_n hx hb dX10_readStencil_9 rfl (lv_at hl 0 rfl) ?_
    refine lv_iconst (v := 1) hx hb dX10_readStencil_10 (by decide) ?_
    refine o_callVi (k := 1) (EvB_ok z) X S (mX10_fail l 1 σ _ h) (by decide) rfl rfl k_517 k_514 k_516 ks_8 k_2 ⟨rfl, by decide, by decide, by decide +kernel⟩ ⟨rfl, rfl⟩ ⟨Nat.le_of_ble_eq_true rfl, Nat.le_of_ble_eq_true rfl⟩ rfl hl.1 rfl (Nat.le_of_ble_eq_true rfl) dX10_readStencil_11 (fun r_17 σ_18 H locs h S => ?_)
    exact o_zret X S hr h.1 h.2 dX10_readStencil_14
def wX10_readText_L21 (T : Nat) (k51 : Int32 → Sg → Prop) (Q : Int32 → Sg → Prop) : Nat → Int32 → Int32 → Sg → Prop
  | 0, _, _, _ => False
  | nn21 + 1, x2, x3, σ =>
  ((3 ≤ x3 → k51 x2 σ) ∧ (¬ 3 ≤ x3 → ((x2 = 0 → k51 x2 σ) ∧ (¬ x2 = 0 → (((σ 2 2) = 13 → k51 x2 σ) ∧ (¬ (σ 2 2) = 13 → (wX10_readStencil T σ (fun r_11 σ_12 => (∀ x3_13 : Int32, x3_13 = x3 + 1 → wX10_readText_L21 T k51 Q nn21 r_11 x3_13 σ_12)))))))))
def wX10_readText_b51 (T : Nat) (x2 : Int32) (σ : Sg) (Q : Int32 → Sg → Prop) : Prop :=
  (bok x2 ∧ Q x2 σ)
def wX10_readText (T : Nat) (σ : Sg) (Q : Int32 → Sg → Prop) : Prop :=
  (wX8_clear T σ (fun σ_2 => (∀ σ_3, σ_3 = sto σ_2 2 4 0 → (wX10_advance σ_3 (fun σ_5 => (wX10_readStencil T σ_5 (fun r_6 σ_7 => (∃ nf, wX10_readText_L21 T (fun x2_14 σ_15 => wX10_readText_b51 T x2_14 σ_15 Q) Q nf r_6 0 σ_7))))))))
set_option maxHeartbeats 4000000 in
set_option maxRecDepth 100000 in
theorem mX10_readText_L21 {D : va_G} {cy : Nat → ClassId} {ad z : Nat → Nat} (l : Launch) {T : Nat} (hT : isSten T) {p : Program} {e : Env} {s : State} {m : MethodId} {args : Array Value} {below : List Frame} {meth : Method} {c : Code} {A : Nat → Prop} {k51 : Int32 → Sg → Prop} {Q : Int32 → Sg → Prop} (X : Fx D (tyB cy) (EvB z) p s m args meth c cX10_readText 4 "BackBay$Tape" A) (hr : meth.sig.returnType = some .boolean) (hk51 : ∀ (x2 : Int32) (σ : Sg) (H : Heap) (locs : List Loc) (ls : Array Slot), St D ad 75 (shB cy ad) A s σ H locs → lv_has ls 4 [(2, .int x2)] → k51 x2 σ → W p l e ({ frames := 17, cells := 0, slots := 0, locals := 394 }) s m args below meth c H locs 0 0 (MQ below (va_Qi Q (PosW D (tyB cy) ad 75 (shB cy ad) A) A) args s 0 0 A) (F0 m 51 ls [])) : ∀ (n : Nat) (x2 : Int32) (x3 : Int32) (σ : Sg) (H : Heap) (locs : List Loc) (ls : Array Slot), St D ad 75 (shB cy ad) A s σ H locs → lv_has ls 4 [(0, .ref (ad 2)), (1, .ref (ad T)), (2, .int x2), (3, .int x3)] → wX10_readText_L21 T k51 Q n x2 x3 σ → W p l e ({ frames := 17, cells := 0, slots := 0, locals := 394 }) s m args below meth c H locs 0 0 (MQ below (va_Qi Q (PosW D (tyB cy) ad 75 (shB cy ad) A) A) args s 0 0 A) (F0 m 21 ls []) := by
  have hx := X.1
  have hb := X.2.1
  intro n
  induction n with
  | zero =>
    intro _ _ _ _ _ _ _ _ h
    exact absurd h (by unfold wX10_readText_L21; exact id)
  | succ n ih =>
    intro x2 x3 σ H locs ls S hl h
    unfold wX10_readText_L21 at h
    refine lv_iload_n hx hb dX10_readText_21 rfl (lv_at hl 3 rfl) ?_
    refine lv_iconst (v := 3) hx hb dX10_readText_22 (by decide) ?_
    refine lv_icmp_ge (tgt := 51) hx hb dX10_readText_23 (by decide) (fun q_8 => ?_) (fun q_8 => ?_)
    · replace h := h.1 q_8
      exact hk51 _ _ _ _ _ S (lv_sub hl [2] rfl) h
    · replace h := h.2 q_8
      refine lv_iload_n hx hb dX10_readText_26 rfl (lv_at hl 2 rfl) ?_
      refine lv_if_eq (tgt := 51) hx hb dX10_readText_27 (by decide) (fun q_9 => ?_) (fun q_9 => ?_)
      · replace h := h.1 q_9
        exact hk51 _ _ _ _ _ S (lv_sub hl [2] rfl) h
      · replace h := h.2 q_9
        refine lv_aload_n hx hb dX10_readText_30 rfl (lv_at hl 0 rfl) ?_
        refine o_get X S 2 2 (by decide) rfl rfl in_10 (by decide) k_40 rfl dX10_readText_31 ?_
        refine lv_bipush (v := 13) hx hb dX10_readText_34 (by decide) ?_
        refine lv_icmp_eq (tgt := 51) hx hb dX10_readText_36 (by decide) (fun q_10 => ?_) (fun q_10 => ?_)
        · replace h := h.1 q_10
          exact hk51 _ _ _ _ _ S (lv_sub hl [2] rfl) h
        · replace h := h.2 q_10
          refine lv_aload_n hx hb dX10_readText_39 rfl (lv_at hl 0 rfl) ?_
          refine lv_aload_n hx hb dX10_readText_40 rfl (lv_at hl 1 rfl) ?_
          refine o_callVi (k := 1) (EvB_ok z) X S (mX10_readStencil l hT σ _ h) (by decide) rfl rfl k_513 k_510 k_512 ks_7 k_2 ⟨rfl, by decide, by decide, by decide +kernel⟩ ⟨rfl, rfl⟩ ⟨Nat.le_of_ble_eq_true rfl, Nat.le_of_ble_eq_true rfl⟩ rfl hl.1 rfl (Nat.le_of_ble_eq_true rfl) dX10_readText_41 (fun r_11 σ_12 H locs h S => ?_)
          refine lv_istore_n (lv' := [(2, .int r_11), (0, .ref (ad 2)), (1, .ref (ad T)), (3, .int x3)]) hx hb dX10_readText_44 rfl hl (by decide) rfl (fun ls hl => ?_)
          obtain ⟨x3_13, ex3_13⟩ : ∃ y : Int32, y = x3 + 1 := ⟨_, rfl⟩
          replace h := h x3_13 ex3_13
          refine lv_iinc (v := x3_13) (lv' := [(3, .int x3_13), (2, .int r_11), (0, .ref (ad 2)), (1, .ref (ad T))]) hx hb dX10_readText_45 hl (k := 3) rfl (by rw [ex3_13]; rfl) (by decide) rfl (fun ls hl => ?_)
          refine lv_goto (tgt := 21) hx hb dX10_readText_48 (by decide) ?_
          exact ih _ _ _ _ _ _ S (lv_sub hl [2, 3, 1, 0] rfl) h
set_option maxHeartbeats 4000000 in
set_option maxRecDepth 100000 in
theorem mX10_readText_b51 {D : va_G} {cy : Nat → ClassId} {ad z : Nat → Nat} (l : Launch) {T : Nat} (hT : isSten T) {p : Program} {e : Env} {s : State} {m : MethodId} {args : Array Value} {below : List Frame} {meth : Method} {c : Code} {A : Nat → Prop} {Q : Int32 → Sg → Prop} (X : Fx D (tyB cy) (EvB z) p s m args meth c cX10_readText 4 "BackBay$Tape" A) (hr : meth.sig.returnType = some .boolean) (x2 : Int32) {σ : Sg} {H : Heap} {locs : List Loc} {ls : Array Slot} (S : St D ad 75 (shB cy ad) A s σ H locs) (hl : lv_has ls 4 [(2, .int x2)]) (h : wX10_readText_b51 T x2 σ Q) : W p l e ({ frames := 17, cells := 0, slots := 0, locals := 394 }) s m args below meth c H locs 0 0 (MQ below (va_Qi Q (PosW D (tyB cy) ad 75 (shB cy ad) A) A) args s 0 0 A) (F0 m 51 ls []) := by
  have hx := X.1
  have hb := X.2.1
  unfold wX10_readText_b51 at h
  refine lv_iload_n hx hb dX10_readText_51 rfl (lv_at hl 0 rfl) ?_
  exact o_zret X S hr h.1 h.2 dX10_readText_52
set_option maxHeartbeats 4000000 in
set_option maxRecDepth 100000 in
theorem mX10_readText {D : va_G} {cy : Nat → ClassId} {ad z : Nat → Nat} (l : Launch) {T : Nat} (hT : isSten T) (σ : Sg) (Q : Int32 → Sg → Prop) (h : wX10_readText T σ Q) : MIB D cy ad z l yX10_readText (.code yX10_readText cX10_readText 4 (some .boolean) :: gT) ({ frames := 17, cells := 0, slots := 0, locals := 394 }) [.ref (ad 2), .ref (ad T)] σ Q := by
  refine metI_of (by decide +kernel) (Nat.le_of_ble_eq_true rfl) ?_
  intro p e s m args below meth c A ls X hr hl S
  have X : Fx D (tyB cy) (EvB z) p s m args meth c cX10_readText 4 "BackBay$Tape" A := X
  have hl : lv_has ls 4 [(0, .ref (ad 2)), (1, .ref (ad T))] := hl
  have hx := X.1
  have hb := X.2.1
  unfold wX10_readText at h
  refine lv_aload_n hx hb dX10_readText_0 rfl (lv_at hl 1 rfl) ?_
  refine o_callVv (k := 0) (EvB_ok z) X S (mX8_clear l hT σ _ h) (isSten_lt hT 0 (by decide)) ((shS0 hT) _) rfl k_430 k_427 k_428 k_429 k_3 ⟨rfl, by decide, by decide, by decide +kernel⟩ ⟨rfl, rfl⟩ ⟨Nat.le_of_ble_eq_true rfl, Nat.le_of_ble_eq_true rfl⟩ rfl hl.1 rfl (Nat.le_of_ble_eq_true rfl) dX10_readText_1 (fun σ_2 H locs h S => ?_)
  refine lv_aload_n hx hb dX10_readText_4 rfl (lv_at hl 0 rfl) ?_
  refine lv_iconst (v := 0) hx hb dX10_readText_5 (by decide) ?_
  refine o_puti X S (fs := fun c => [.int (c 0), .ref (ad 3), .int (c 2), .int (c 3), .int (c 4), .int (c 5), .int (c 6), .int (c 7)]) 2 4 (by decide) (fun _ => rfl) (fun _ _ => rfl) rfl in_10 tyX10_ok nmX10 (by decide) k_42 rfl rfl rfl rfl (fun _ => Nat.le_of_ble_eq_true rfl) dX10_readText_6 (fun σ_3 H locs eσ_3 S => ?_)
  replace h := h σ_3 eσ_3
  refine lv_aload_n hx hb dX10_readText_9 rfl (lv_at hl 0 rfl) ?_
  refine o_callVv (k := 0) (EvB_ok z) X S (mX10_advance l σ_3 _ h) (by decide) rfl rfl k_434 k_431 k_433 ks_2 k_2 ⟨rfl, by decide, by decide, by decide +kernel⟩ ⟨rfl, rfl⟩ ⟨Nat.le_of_ble_eq_true rfl, Nat.le_of_ble_eq_true rfl⟩ rfl hl.1 rfl (Nat.le_of_ble_eq_true rfl) dX10_readText_10 (fun σ_5 H locs h S => ?_)
  refine lv_aload_n hx hb dX10_readText_13 rfl (lv_at hl 0 rfl) ?_
  refine lv_aload_n hx hb dX10_readText_14 rfl (lv_at hl 1 rfl) ?_
  refine o_callVi (k := 1) (EvB_ok z) X S (mX10_readStencil l hT σ_5 _ h) (by decide) rfl rfl k_513 k_510 k_512 ks_7 k_2 ⟨rfl, by decide, by decide, by decide +kernel⟩ ⟨rfl, rfl⟩ ⟨Nat.le_of_ble_eq_true rfl, Nat.le_of_ble_eq_true rfl⟩ rfl hl.1 rfl (Nat.le_of_ble_eq_true rfl) dX10_readText_15 (fun r_6 σ_7 H locs h S => ?_)
  refine lv_istore_n (lv' := [(2, .int r_6), (0, .ref (ad 2)), (1, .ref (ad T))]) hx hb dX10_readText_18 rfl hl (by decide) rfl (fun ls hl => ?_)
  refine lv_iconst (v := 0) hx hb dX10_readText_19 (by decide) ?_
  refine lv_istore_n (lv' := [(3, .int 0), (2, .int r_6), (0, .ref (ad 2)), (1, .ref (ad T))]) hx hb dX10_readText_20 rfl hl (by decide) rfl (fun ls hl => ?_)
  obtain ⟨n_21, h⟩ := h
  refine mX10_readText_L21 l hT X hr ?_ n_21 _ _ _ _ _ _ S (lv_sub hl [2, 3, 1, 0] rfl) h
  · intro x2_14 σ_15 H locs ls S hl h
    exact mX10_readText_b51 l hT X hr x2_14 S (lv_sub hl [0] rfl) h
