/-! Bay's constructor; printed by wip/whole/gen_init.py -/
def shY (cy : Nat → ClassId) (ad : Nat → Nat) : Shp := fun j => ([fun c => .inr (1, [.int (c 0), .ref (ad 1), .ref (ad 2), .ref (ad 3)]), fun c => .inl (cy 0, 10, .inl c), fun c => .inl (cy 0, 10, .inl c), fun c => .inl (cy 0, 2, .inl c)] : List ((Nat → Int32) → va_E)).getD j (fun _ => .inr (0, []))
def wY_begin (x1 : Int32) (σ : Sg) (Q : Sg → Prop) : Prop :=
  (∀ σ_1, σ_1 = sto σ 0 0 x1 → (wJ7_fill_53178 1 10 0 σ_1 (fun σ_3 => (wJ7_fill_53178 2 10 1 σ_3 (fun σ_5 => Q σ_5)))))
set_option maxHeartbeats 4000000 in
set_option maxRecDepth 100000 in
theorem mY_fill_L5 {D : va_G} {cy : Nat → ClassId} {ad : Nat → Nat} (l : Launch) {a : Nat} (ha : a < 4) {len : Nat} (hsh : ∀ c, (shY cy ad) a c = .inl (cy 0, len, .inl c)) {p : Program} {e : Env} {s : State} {m : MethodId} {args : Array Value} {below : List Frame} {meth : Method} {c : Code} {A : Nat → Prop} {k20 : Sg → Prop} {Q : Sg → Prop} (X : Fx D (tyB cy) EvM p s m args meth c cJ7_fill_53178 4 "java/util/Arrays" A) (hr : meth.sig.returnType = none) (x1 : Int32) (x3 : Int32) (hk20 : ∀ (σ : Sg) (H : Heap) (locs : List Loc) (ls : Array Slot), St D ad 4 (shY cy ad) A s σ H locs → lv_has ls 4 [] → k20 σ → W p l e ({ frames := 0, cells := 0, slots := 0, locals := 0 }) s m args below meth c H locs 0 0 (MQ below (va_Qv Q (PosW D (tyB cy) ad 4 (shY cy ad) A) A) args s 0 0 A) (F0 m 20 ls [])) : ∀ (n : Nat) (x2 : Int32) (σ : Sg) (H : Heap) (locs : List Loc) (ls : Array Slot), St D ad 4 (shY cy ad) A s σ H locs → lv_has ls 4 [(0, .ref (ad a)), (1, .int x1), (2, .int x2), (3, .int x3)] → wJ7_fill_53178_L5 a len x1 x3 k20 Q n x2 σ → W p l e ({ frames := 0, cells := 0, slots := 0, locals := 0 }) s m args below meth c H locs 0 0 (MQ below (va_Qv Q (PosW D (tyB cy) ad 4 (shY cy ad) A) A) args s 0 0 A) (F0 m 5 ls []) := by
  have hx := X.1
  have hb := X.2.1
  intro n
  induction n with
  | zero =>
    intro _ _ _ _ _ _ _ h
    exact absurd h (by unfold wJ7_fill_53178_L5; exact id)
  | succ n ih =>
    intro x2 σ H locs ls S hl h
    unfold wJ7_fill_53178_L5 at h
    refine lv_iload_n hx hb dJ7_fill_53178_5 rfl (lv_at hl 2 rfl) ?_
    refine lv_iload_n hx hb dJ7_fill_53178_6 rfl (lv_at hl 3 rfl) ?_
    refine lv_icmp_ge (tgt := 20) hx hb dJ7_fill_53178_7 (by decide) (fun q_2 => ?_) (fun q_2 => ?_)
    · replace h := h.1 q_2
      exact hk20 _ _ _ _ S (lv_sub hl [] rfl) h
    · replace h := h.2 q_2
      refine lv_aload_n hx hb dJ7_fill_53178_10 rfl (lv_at hl 0 rfl) ?_
      refine lv_iload_n hx hb dJ7_fill_53178_11 rfl (lv_at hl 2 rfl) ?_
      refine lv_iload_n hx hb dJ7_fill_53178_12 rfl (lv_at hl 1 rfl) ?_
      refine o_iast X S a 0 ha hsh rfl h.1 dJ7_fill_53178_13 (fun σ_3 H locs eσ_3 S => ?_)
      replace h := h.2 σ_3 eσ_3
      obtain ⟨x2_4, ex2_4⟩ : ∃ y : Int32, y = x2 + 1 := ⟨_, rfl⟩
      replace h := h x2_4 ex2_4
      refine lv_iinc (v := x2_4) (lv' := [(2, .int x2_4), (0, .ref (ad a)), (1, .int x1), (3, .int x3)]) hx hb dJ7_fill_53178_14 hl (k := 2) rfl (by rw [ex2_4]; rfl) (by decide) rfl (fun ls hl => ?_)
      refine lv_goto (tgt := 5) hx hb dJ7_fill_53178_17 (by decide) ?_
      exact ih _ _ _ _ _ S (lv_sub hl [1, 2, 0, 3] rfl) h
set_option maxHeartbeats 4000000 in
set_option maxRecDepth 100000 in
theorem mY_fill {D : va_G} {cy : Nat → ClassId} {ad : Nat → Nat} (l : Launch) {a : Nat} (ha : a < 4) {len : Nat} (hsh : ∀ c, (shY cy ad) a c = .inl (cy 0, len, .inl c)) (x1 : Int32) (σ : Sg) (Q : Sg → Prop) (h : wJ7_fill_53178 a len x1 σ Q) : MetV D (tyB cy) ad 4 (shY cy ad) EvM l yJ7_fill_53178 (.code yJ7_fill_53178 cJ7_fill_53178 4 none :: gT) ({ frames := 0, cells := 0, slots := 0, locals := 0 }) [.ref (ad a), .int x1] σ Q := by
  refine metV_of (by decide +kernel) (Nat.le_of_ble_eq_true rfl) ?_
  intro p e s m args below meth c A ls X hr hl S
  have X : Fx D (tyB cy) EvM p s m args meth c cJ7_fill_53178 4 "java/util/Arrays" A := X
  have hl : lv_has ls 4 [(0, .ref (ad a)), (1, .int x1)] := hl
  have hx := X.1
  have hb := X.2.1
  unfold wJ7_fill_53178 at h
  refine lv_iconst (v := 0) hx hb dJ7_fill_53178_0 (by decide) ?_
  refine lv_istore_n (lv' := [(2, .int 0), (0, .ref (ad a)), (1, .int x1)]) hx hb dJ7_fill_53178_1 rfl hl (by decide) rfl (fun ls hl => ?_)
  refine lv_aload_n hx hb dJ7_fill_53178_2 rfl (lv_at hl 1 rfl) ?_
  refine o_alen X S a 0 ha (hsh _) rfl rfl dJ7_fill_53178_3 ?_
  refine lv_topi (fun x3_1 ex3_1 => ?_)
  replace h := h x3_1 ex3_1
  refine lv_istore_n (lv' := [(3, .int x3_1), (2, .int 0), (0, .ref (ad a)), (1, .int x1)]) hx hb dJ7_fill_53178_4 rfl hl (by decide) rfl (fun ls hl => ?_)
  obtain ⟨n_5, h⟩ := h
  refine mY_fill_L5 l ha hsh X hr x1 x3_1 ?_ n_5 _ _ _ _ _ S (lv_sub hl [2, 3, 1, 0] rfl) h
  · intro σ_5 H locs ls S hl h
    exact o_vret X S hr h dJ7_fill_53178_20
set_option maxHeartbeats 4000000 in
set_option maxRecDepth 100000 in
theorem mY_begin {D : va_G} {cy : Nat → ClassId} {ad : Nat → Nat} (l : Launch) (x1 : Int32) (σ : Sg) (Q : Sg → Prop) (h : wY_begin x1 σ Q) : MetV D (tyB cy) ad 4 (shY cy ad) EvM l yX1_begin (.code yX1_begin cX1_begin 2 none :: gT) ({ frames := 1, cells := 0, slots := 0, locals := 23 }) [.ref (ad 0), .int x1] σ Q := by
  refine metV_of (by decide +kernel) (Nat.le_of_ble_eq_true rfl) ?_
  intro p e s m args below meth c A ls X hr hl S
  have X : Fx D (tyB cy) EvM p s m args meth c cX1_begin 2 "BackBay$Bay" A := X
  have hl : lv_has ls 2 [(0, .ref (ad 0)), (1, .int x1)] := hl
  have hx := X.1
  have hb := X.2.1
  unfold wY_begin at h
  refine lv_aload_n hx hb dX1_begin_0 rfl (lv_at hl 0 rfl) ?_
  refine lv_iload_n hx hb dX1_begin_1 rfl (lv_at hl 1 rfl) ?_
  refine o_puti X S (fs := fun c => [.int (c 0), .ref (ad 1), .ref (ad 2), .ref (ad 3)]) 0 0 (by decide) (fun _ => rfl) (fun _ _ => rfl) rfl in_1 tyX1_ok nmX1 (by decide) k_126 rfl rfl rfl rfl (fun _ => Nat.le_of_ble_eq_true rfl) dX1_begin_2 (fun σ_1 H locs eσ_1 S => ?_)
  replace h := h σ_1 eσ_1
  refine lv_aload_n hx hb dX1_begin_5 rfl (lv_at hl 0 rfl) ?_
  refine o_get X S 0 1 (by decide) rfl rfl in_1 (by decide) k_131 rfl dX1_begin_6 ?_
  refine lv_iconst (v := 0) hx hb dX1_begin_9 (by decide) ?_
  refine o_callSv (k := 2) EvM_ok X S (mY_fill l (by decide) (fun _ => rfl) 0 σ_1 _ h) k_125 k_123 k_124 k_5 ⟨by decide, by decide, by decide +kernel⟩ ⟨rfl, rfl⟩ ⟨Nat.le_of_ble_eq_true rfl, Nat.le_of_ble_eq_true rfl⟩ rfl hl.1 rfl (Nat.le_of_ble_eq_true rfl) dX1_begin_10 (fun σ_3 H locs h S => ?_)
  refine lv_aload_n hx hb dX1_begin_13 rfl (lv_at hl 0 rfl) ?_
  refine o_get X S 0 2 (by decide) rfl rfl in_1 (by decide) k_134 rfl dX1_begin_14 ?_
  refine lv_iconst (v := 1) hx hb dX1_begin_17 (by decide) ?_
  refine o_callSv (k := 2) EvM_ok X S (mY_fill l (by decide) (fun _ => rfl) 1 σ_3 _ h) k_125 k_123 k_124 k_5 ⟨by decide, by decide, by decide +kernel⟩ ⟨rfl, rfl⟩ ⟨Nat.le_of_ble_eq_true rfl, Nat.le_of_ble_eq_true rfl⟩ rfl hl.1 rfl (Nat.le_of_ble_eq_true rfl) dX1_begin_18 (fun σ_5 H locs h S => ?_)
  exact o_vret X S hr h dX1_begin_21
def bayQ (u : Sg) : Prop := u 0 0 = 4 ∧ (∀ i, i < 10 → u 1 i = 0) ∧ (∀ i, i < 10 → u 2 i = 1) ∧ ∀ i, i < 2 → u 3 i = 0
theorem pY_begin : wY_begin 4 (fun _ _ => 0) bayQ := by
  unfold wY_begin
  intro σ1 e1
  subst e1
  refine p_fill (by decide) (p_fill (by decide) ?_)
  refine ⟨?_, fun i hi => ?_, fun i hi => ?_, fun i hi => ?_⟩
  · rw [fil_ne _ _ _ _ (by omega), fil_ne _ _ _ _ (by omega), sto_at]
  · rw [fil_ne _ _ _ _ (by omega), fil_same, if_pos (by omega)]
  · rw [fil_same, if_pos (by omega)]
  · rw [fil_ne _ _ _ _ (by omega), fil_ne _ _ _ _ (by omega), sto_ne _ _ _ (by omega)]
theorem ci_callW {p : Program} {l : Launch} {e : Env} {R : Room} {s : State} {m : MethodId} {args : Array Value} {below : List Frame} {meth : Method} {c : Code} {H : Heap} {locs : List Loc} {cells slots : Nat} {Q : State → Prop}
    {D : va_G} {cy : Nat → ClassId} {ad : Nat → Nat} {A : Nat → Prop} {σ : Sg} {cc : ByteArray} {nL : Nat} {own : String} {pc : Nat} {ls : Array Slot} {rest : List Value} (X : Fx D (tyB cy) EvC p s m args meth c cc nL own A) (S0 : St D ad 4 (shY cy ad) A s σ H locs) {y : MethodName} {bytes : ByteArray} {maxL index k : Nat} {ret : Option FieldType} {rm : Room} {As st : List Value} {Qx : Sg → Prop}
    (hM : MetV D (tyB cy) ad 4 (shY cy ad) EvM l y (.code y bytes maxL ret :: gT) rm (.ref (ad 0) :: As) σ Qx) (kc : Cond.code y bytes maxL ret ∈ gT) (kl : Cond.methodLink own index y ∈ gT) (ki : Cond.instanceMethod y ∈ gT) (ks : Cond.selects "BackBay$Bay" y y ∈ gT) (kn : Cond.initialized "BackBay$Bay" ∈ gT)
    (hd : y.cls = "BackBay$Bay" ∧ y.cls ≠ "java/lang/invoke/MethodHandle" ∧ y.cls ≠ "java/lang/invoke/VarHandle" ∧ (parseMethodDescriptor y.desc).map (fun d => d.parameters.length) = some k) (hrm : rm.cells = 0 ∧ rm.slots = 0) (hR : rm.frames + 1 ≤ R.frames ∧ 8 + (maxL + 11) + rm.locals ≤ R.locals) (hRc : cells ≤ R.cells ∧ slots ≤ R.slots) (hn : As.length = k) (hsz : ls.size = nL) (hst : st = As.reverse ++ .ref (ad 0) :: rest) (hW : (rest.map fun v => v.category).sum ≤ 8) (hdg : decode cc pc = .ok (.invokevirtual index, 3))
    (kk : ∀ (u : Sg) (H1 : Heap) (locs1 : List Loc), Qx u → St D ad 4 (shY cy ad) A s u H1 locs1 → W p l e R s m args below meth c H1 locs1 cells slots Q (F0 m (pc + 3) ls rest)) : W p l e R s m args below meth c H locs cells slots Q (F0 m pc ls st) := by
  subst hst
  have hF := S0.free X.2.2.2.2.2.2.2.2
  have hG : GoodIn gT (wsV own index "BackBay$Bay" y (Cond.code y bytes maxL ret :: gT)) := fun w h => by
    have h1 : w ∈ gT := (List.mem_append.mp h).elim (fun h => by rcases List.mem_cons.mp h with rfl | h; exact kl; rcases List.mem_cons.mp h with rfl | h; exact ki; rcases List.mem_cons.mp h with rfl | h; exact ks; rcases List.mem_cons.mp h with rfl | h; exact kn; cases h) (fun h => (List.mem_cons.mp h).elim (fun e => e ▸ kc) id)
    exact ⟨h1, good_of_word (gT_good h1)⟩
  refine va_callv (A0 := A) (va_runV (As := As) (rest := rest) (nL := nL) ⟨X.1, X.2.1, X.2.2.1, X.2.2.2.1, X.2.2.2.2.1⟩ (hM H.size) (cwV k X.2.2.2.2.1 hG rfl hrm.1 hrm.2 hd hR) ⟨pre_blind EvM_ok, va_recv (ci := 1) (q0 := 0) X.2.2.2.2.2.2.1 S0.1 rfl (wS_at (by decide)), fun U hU hW => ⟨rfl, pre_at EvM_ok X.2.2.2.2.2.2.1 trivial X.2.2.2.2.2.2.2.2 S0 U hU hW⟩⟩ rfl hn hsz rfl (by show 2 * 0 + _ ≤ 8; rw [Nat.mul_zero, Nat.zero_add]; exact hW) hdg ⟨by omega, by omega⟩) S0.2.2 (fun q _ h => hF q h) hF (fun u t H1 locs1 ht hvm hw hB hz1 hk1 hS1 => ?_)
  have b := o_back S0 ht hB hS1
  exact kk u H1 locs1 hw ⟨b.1, b.2.1, hS1⟩
def wiX1 (cy : Nat → ClassId) (h0 : Nat) (u : Nat → Nat) : va_W := [(h0, .inr (1, [.int 4, .ref (u 0), .ref (u 1), .ref (u 2)])), ((u 0), .inl (cy 0, 10, .inl (fun _ => 0))), ((u 1), .inl (cy 0, 10, .inl (fun _ => 1))), ((u 2), .inl (cy 0, 2, .inl (fun _ => 0)))]
set_option maxHeartbeats 4000000 in
set_option maxRecDepth 100000 in
theorem iX1 {D : va_G} {cy : Nat → ClassId} (l : Launch) (h0 : Nat) : CI D cy l yX1_init (.code yX1_init cX1_init 1 none :: gT) ({ frames := 2, cells := 3, slots := 22, locals := 44 }) [.ref h0] [(h0, .inr (1, [.int 0, .null, .null, .null]))] (fun _ => True) (wiX1 cy h0) := by
  refine ci_of (by decide +kernel) (Nat.le_of_ble_eq_true rfl) ?_
  intro p e s m args below meth c A ls X hr hnm hl hP hD hS
  have X : Fx D (tyB cy) EvC p s m args meth c cX1_init 1 "BackBay$Bay" A := X
  have hl : lv_has ls 1 [(0, .ref h0)] := hl
  have hx := X.1
  have hb := X.2.1
  have hts := X.2.2.2.2.1
  have hown := X.2.2.2.1
  have hK := X.2.2.2.2.2.2.1
  have hA := X.2.2.2.2.2.2.2.2
  refine lv_aload_n hx hb dX1_init_0 rfl (lv_at hl 0 rfl) ?_
  refine ci_obj X k_118 hl.1 ⟨Nat.le_of_ble_eq_true rfl, Nat.le_of_ble_eq_true rfl⟩ dX1_init_1 ?_
  refine lv_aload_n hx hb dX1_init_4 rfl (lv_at hl 0 rfl) ?_
  refine lv_bipush (v := 10) hx hb dX1_init_5 (by decide) ?_
  refine ci_newa X hP hD hS 0 (N := 10) rfl rfl (fun _ _ h => h) (fun _ => rfl) k_65 (by decide) (by decide) (by decide) (Nat.le_of_ble_eq_true rfl) (Nat.le_of_ble_eq_true rfl) dX1_init_7 (fun q1 H hP hD hS => ?_)
  have hP : va_P D vwCl [(h0, .inr (1, [.int 0, .null, .null, .null])), (q1, .inl (cy 0, 10, .inl (fun _ => 0)))] H := hP
  have hD : va_D A [(h0, .inr (1, [.int 0, .null, .null, .null])), (q1, .inl (cy 0, 10, .inl (fun _ => 0)))] := hD
  refine W.widen (k := 1) (n := 10) (Nat.le_of_ble_eq_true rfl) (Nat.le_of_ble_eq_true rfl) ?_
  refine va_putF (D := D) (ci := 1) (v := .ref q1) (ty := (.array .int)) (C := RX1) (T := TX1) (N := 4) hx hb hts in_1 tyX1 tyX1_ok nmX1 hown hK hP hD hS 0 rfl rfl 1 (by decide) (hts _ k_131) (fun _ h9 => h9) rfl hnm rfl (by decide +kernel) rfl rfl (Nat.le_of_ble_eq_true rfl) dX1_init_9 (fun H locs hP hD hS => ?_)
  have hP : va_P D vwCl [(h0, .inr (1, [.int 0, .ref q1, .null, .null])), (q1, .inl (cy 0, 10, .inl (fun _ => 0)))] H := hP
  have hD : va_D A [(h0, .inr (1, [.int 0, .ref q1, .null, .null])), (q1, .inl (cy 0, 10, .inl (fun _ => 0)))] := hD
  refine lv_aload_n hx hb dX1_init_12 rfl (lv_at hl 0 rfl) ?_
  refine lv_bipush (v := 10) hx hb dX1_init_13 (by decide) ?_
  refine ci_newa X hP hD hS 0 (N := 10) rfl rfl (fun _ _ h => h) (fun _ => rfl) k_65 (by decide) (by decide) (by decide) (Nat.le_of_ble_eq_true rfl) (Nat.le_of_ble_eq_true rfl) dX1_init_15 (fun q2 H hP hD hS => ?_)
  have hP : va_P D vwCl [(h0, .inr (1, [.int 0, .ref q1, .null, .null])), (q1, .inl (cy 0, 10, .inl (fun _ => 0))), (q2, .inl (cy 0, 10, .inl (fun _ => 0)))] H := hP
  have hD : va_D A [(h0, .inr (1, [.int 0, .ref q1, .null, .null])), (q1, .inl (cy 0, 10, .inl (fun _ => 0))), (q2, .inl (cy 0, 10, .inl (fun _ => 0)))] := hD
  refine W.widen (k := 2) (n := 20) (Nat.le_of_ble_eq_true rfl) (Nat.le_of_ble_eq_true rfl) ?_
  refine va_putF (D := D) (ci := 1) (v := .ref q2) (ty := (.array .int)) (C := RX1) (T := TX1) (N := 4) hx hb hts in_1 tyX1 tyX1_ok nmX1 hown hK hP hD hS 0 rfl rfl 2 (by decide) (hts _ k_134) (fun _ h9 => h9) rfl hnm rfl (by decide +kernel) rfl rfl (Nat.le_of_ble_eq_true rfl) dX1_init_17 (fun H locs hP hD hS => ?_)
  have hP : va_P D vwCl [(h0, .inr (1, [.int 0, .ref q1, .ref q2, .null])), (q1, .inl (cy 0, 10, .inl (fun _ => 0))), (q2, .inl (cy 0, 10, .inl (fun _ => 0)))] H := hP
  have hD : va_D A [(h0, .inr (1, [.int 0, .ref q1, .ref q2, .null])), (q1, .inl (cy 0, 10, .inl (fun _ => 0))), (q2, .inl (cy 0, 10, .inl (fun _ => 0)))] := hD
  refine lv_aload_n hx hb dX1_init_20 rfl (lv_at hl 0 rfl) ?_
  refine lv_iconst (v := 2) hx hb dX1_init_21 (by decide) ?_
  refine ci_newa X hP hD hS 0 (N := 2) rfl rfl (fun _ _ h => h) (fun _ => rfl) k_65 (by decide) (by decide) (by decide) (Nat.le_of_ble_eq_true rfl) (Nat.le_of_ble_eq_true rfl) dX1_init_22 (fun q3 H hP hD hS => ?_)
  have hP : va_P D vwCl [(h0, .inr (1, [.int 0, .ref q1, .ref q2, .null])), (q1, .inl (cy 0, 10, .inl (fun _ => 0))), (q2, .inl (cy 0, 10, .inl (fun _ => 0))), (q3, .inl (cy 0, 2, .inl (fun _ => 0)))] H := hP
  have hD : va_D A [(h0, .inr (1, [.int 0, .ref q1, .ref q2, .null])), (q1, .inl (cy 0, 10, .inl (fun _ => 0))), (q2, .inl (cy 0, 10, .inl (fun _ => 0))), (q3, .inl (cy 0, 2, .inl (fun _ => 0)))] := hD
  refine W.widen (k := 3) (n := 22) (Nat.le_of_ble_eq_true rfl) (Nat.le_of_ble_eq_true rfl) ?_
  refine va_putF (D := D) (ci := 1) (v := .ref q3) (ty := (.array .int)) (C := RX1) (T := TX1) (N := 4) hx hb hts in_1 tyX1 tyX1_ok nmX1 hown hK hP hD hS 0 rfl rfl 3 (by decide) (hts _ k_138) (fun _ h9 => h9) rfl hnm rfl (by decide +kernel) rfl rfl (Nat.le_of_ble_eq_true rfl) dX1_init_24 (fun H locs hP hD hS => ?_)
  have hP : va_P D vwCl [(h0, .inr (1, [.int 0, .ref q1, .ref q2, .ref q3])), (q1, .inl (cy 0, 10, .inl (fun _ => 0))), (q2, .inl (cy 0, 10, .inl (fun _ => 0))), (q3, .inl (cy 0, 2, .inl (fun _ => 0)))] H := hP
  have hD : va_D A [(h0, .inr (1, [.int 0, .ref q1, .ref q2, .ref q3])), (q1, .inl (cy 0, 10, .inl (fun _ => 0))), (q2, .inl (cy 0, 10, .inl (fun _ => 0))), (q3, .inl (cy 0, 2, .inl (fun _ => 0)))] := hD
  refine lv_aload_n hx hb dX1_init_27 rfl (lv_at hl 0 rfl) ?_
  refine lv_iconst (v := 4) hx hb dX1_init_28 (by decide) ?_
  have S0 : St D (fun j => ([h0, q1, q2, q3] : List Nat).getD j 0) 4 (shY cy (fun j => ([h0, q1, q2, q3] : List Nat).getD j 0)) A s (fun _ _ => 0) H locs := ⟨hP, hD, hS⟩
  refine ci_callW (k := 1) (As := [.int 4]) (rest := []) X S0 (mY_begin l 4 (fun _ _ => 0) bayQ pY_begin) k_122 k_119 k_120 k_121 k_4 ⟨rfl, by decide, by decide, by decide +kernel⟩ ⟨rfl, rfl⟩ ⟨Nat.le_of_ble_eq_true rfl, Nat.le_of_ble_eq_true rfl⟩ ⟨Nat.le_of_ble_eq_true rfl, Nat.le_of_ble_eq_true rfl⟩ rfl hl.1 rfl (Nat.le_of_ble_eq_true rfl) dX1_init_29 (fun u H locs hq S => ?_)
  obtain ⟨hP, hD, hS⟩ := S
  have hP : va_P D vwCl [(h0, .inr (1, [.int (u 0 0), .ref q1, .ref q2, .ref q3])), (q1, .inl (cy 0, 10, .inl (u 1))), (q2, .inl (cy 0, 10, .inl (u 2))), (q3, .inl (cy 0, 2, .inl (u 3)))] H := hP
  have hD : va_D A [(h0, .inr (1, [.int (u 0 0), .ref q1, .ref q2, .ref q3])), (q1, .inl (cy 0, 10, .inl (u 1))), (q2, .inl (cy 0, 10, .inl (u 2))), (q3, .inl (cy 0, 2, .inl (u 3)))] := hD
  rw [hq.1] at hP hD
  obtain ⟨hP, hD⟩ := ci_swapi hP hD (k := 1) (fun _ => 0) rfl hq.2.1
  obtain ⟨hP, hD⟩ := ci_swapi hP hD (k := 2) (fun _ => 1) rfl hq.2.2.1
  obtain ⟨hP, hD⟩ := ci_swapi hP hD (k := 3) (fun _ => 0) rfl hq.2.2.2
  have hP : va_P D vwCl [(h0, .inr (1, [.int 4, .ref q1, .ref q2, .ref q3])), (q1, .inl (cy 0, 10, .inl (fun _ => 0))), (q2, .inl (cy 0, 10, .inl (fun _ => 1))), (q3, .inl (cy 0, 2, .inl (fun _ => 0)))] H := hP
  have hD : va_D A [(h0, .inr (1, [.int 4, .ref q1, .ref q2, .ref q3])), (q1, .inl (cy 0, 10, .inl (fun _ => 0))), (q2, .inl (cy 0, 10, .inl (fun _ => 1))), (q3, .inl (cy 0, 2, .inl (fun _ => 0)))] := hD
  exact ci_ret X hr (fun i => ([q1, q2, q3] : List Nat).getD i 0) trivial hP hD hS (Nat.le_of_ble_eq_true rfl) (Nat.le_of_ble_eq_true rfl) dX1_init_32
