/-! String.length, String.charAt on the four texts of the class -/
theorem strL_le {i : Nat} (hi : i < 4) : strL.getD i 0 ≤ 4 := (by decide +kernel : ∀ i : Fin 4, strL.getD i.val 0 ≤ 4) ⟨i, hi⟩
theorem strL_lt {i : Nat} (hi : i < 4) : strL.getD i 0 < 2 ^ 31 := Nat.lt_of_le_of_lt (strL_le hi) (by decide)
section STR
variable {p : Program} {l : Launch} {e : Env} {R : Room} {s : State} {m : MethodId} {args : Array Value} {below : List Frame} {meth : Method} {c : Code} {H : Heap} {locs : List Loc} {Q : State → Prop}
variable {D : va_G} {tys : List (ClassId × FieldType)} {ad : Nat → Nat} {n : Nat} {sh : Shp} {Ev : Evp} {A : Nat → Prop} {σ : Sg} {cc : ByteArray} {nL : Nat} {own : String} {pc : Nat} {ls : Array Slot} {rest : List Value}
theorem o_nret {Qp : Int32 → Sg → Prop} {ty : FieldType} (X : Fx D tys Ev p s m args meth c cc nL own A) (S : St D ad n sh A s σ H locs) (hr : meth.sig.returnType = some ty) {v : Int32} (hv : narrow ty (.int v) = .int v) (h : Qp v σ) (hdg : decode cc pc = .ok (.ireturn, 1)) : W p l e R s m args below meth c H locs 0 0 (MQ below (va_Qi Qp (PosW D tys ad n sh A) A) args s 0 0 A) (F0 m pc ls [.int v]) :=
  W.zret X.1 X.2.1 hr hv (fun t ht hW => ⟨⟨v, σ, rfl, h, by rw [ht]; exact S.1, va_K.moved hW.alike X.2.2.2.2.2.2.1, S.2.1⟩, S.2.2.F ht⟩) S.2.2.2.2 hdg X.2.2.2.2.2.1
/-- a call on a receiver that lies outside the world -/
theorem o_callRi (hE : EvOk Ev) (X : Fx D tys Ev p s m args meth c cc nL own A) (S : St D ad n sh A s σ H locs) {y : MethodName} {bytes : ByteArray} {maxL index k b : Nat} {ret : Option FieldType} {rm : Room} {As st : List Value} {C : String} {Qx : Int32 → Sg → Prop}
    (hM : MetI D tys ad n sh Ev l y (.code y bytes maxL ret :: gT) rm (.ref b :: As) σ Qx) (hrec : ∃ cell : Cell, H[b]? = some cell ∧ cell.vm.isStatics = false ∧ s.vm.findClass C = some cell.cls) (kc : Cond.code y bytes maxL ret ∈ gT) (kl : Cond.methodLink own index y ∈ gT) (ki : Cond.instanceMethod y ∈ gT) (ks : Cond.selects C y y ∈ gT) (kn : Cond.initialized C ∈ gT)
    (hd : y.cls = C ∧ y.cls ≠ "java/lang/invoke/MethodHandle" ∧ y.cls ≠ "java/lang/invoke/VarHandle" ∧ (parseMethodDescriptor y.desc).map (fun d => d.parameters.length) = some k) (hrm : rm.cells = 0 ∧ rm.slots = 0) (hR : rm.frames + 1 ≤ R.frames ∧ 8 + (maxL + 11) + rm.locals ≤ R.locals) (hn : As.length = k) (hsz : ls.size = nL) (hst : st = As.reverse ++ .ref b :: rest) (hW : (rest.map fun v => v.category).sum ≤ 8) (hdg : decode cc pc = .ok (.invokevirtual index, 3))
    (kk : ∀ (r : Int32) (σ' : Sg) (H1 : Heap) (locs1 : List Loc), Qx r σ' → St D ad n sh A s σ' H1 locs1 → W p l e R s m args below meth c H1 locs1 0 0 Q (F0 m (pc + 3) ls (.int r :: rest))) : W p l e R s m args below meth c H locs 0 0 Q (F0 m pc ls st) := by
  subst hst
  have hF := S.free X.2.2.2.2.2.2.2.2
  have hG : GoodIn gT (wsV own index C y (Cond.code y bytes maxL ret :: gT)) := fun w h => by
    have h1 : w ∈ gT := (List.mem_append.mp h).elim (fun h => by rcases List.mem_cons.mp h with rfl | h; exact kl; rcases List.mem_cons.mp h with rfl | h; exact ki; rcases List.mem_cons.mp h with rfl | h; exact ks; rcases List.mem_cons.mp h with rfl | h; exact kn; cases h) (fun h => (List.mem_cons.mp h).elim (fun e => e ▸ kc) id)
    exact ⟨h1, good_of_word (gT_good h1)⟩
  refine va_calli (A0 := A) (va_runV (As := As) (rest := rest) (nL := nL) ⟨X.1, X.2.1, X.2.2.1, X.2.2.2.1, X.2.2.2.2.1⟩ (hM H.size) (cwV k X.2.2.2.2.1 hG rfl hrm.1 hrm.2 hd hR) ⟨pre_blind hE, hrec, fun U hU hW => ⟨rfl, pre_at hE X.2.2.2.2.2.2.1 X.2.2.2.2.2.2.2.1 X.2.2.2.2.2.2.2.2 S U hU hW⟩⟩ rfl hn hsz rfl (by show 2 * 0 + _ ≤ 8; rw [Nat.mul_zero, Nat.zero_add]; exact hW) hdg ⟨Nat.zero_le _, Nat.zero_le _⟩) S.2.2 (fun q _ h => hF q h) hF (fun r u t H1 locs1 ht hvm hw hB hz1 hk1 hS1 => ?_)
  exact kk r u H1 locs1 hw (o_back S ht hB hS1)
end STR
set_option maxHeartbeats 4000000 in
set_option maxRecDepth 100000 in
theorem mJ0_coder {D : va_G} {cy : Nat → ClassId} {ad z : Nat → Nat} (l : Launch) {i : Nat} (hi : i < 4) (σ : Sg) : MIB D cy ad z l yJ0_coder_7d493 (.code yJ0_coder_7d493 cJ0_coder_7d493 1 (some .byte) :: gT) { frames := 0, cells := 0, slots := 0, locals := 0 } [.ref (z (3 + i))] σ (fun r τ => r = 0 ∧ τ = σ) := by
  refine metI_of (by decide +kernel) (Nat.le_of_ble_eq_true rfl) ?_
  intro p e s m args below meth c A ls X hr hl S
  have X : Fx D (tyB cy) (EvB z) p s m args meth c cJ0_coder_7d493 1 "java/lang/String" A := X
  have hl : lv_has ls 1 [(0, .ref (z (3 + i)))] := hl
  have hx := X.1
  have hb := X.2.1
  have hV := X.2.2.2.2.2.2.2.1
  refine va_gets hx hb hV.2.2.2.2.1.1 S.2.2 X.2.2.2.1 (X.2.2.2.2.1 _ k_460) (fun _ h => h) dJ0_coder_7d493_0 ?_
  refine lv_if_eq (tgt := 13) hx hb dJ0_coder_7d493_3 (by decide) (fun q => absurd q (by decide)) (fun _ => ?_)
  refine lv_aload_n hx hb dJ0_coder_7d493_6 rfl (lv_at hl 0 rfl) ?_
  refine vk_getf hx hb (hV.2.2.2.1.1 i hi).2.1 S.2.2 X.2.2.2.1 (X.2.2.2.2.1 _ k_1298) (fun _ h => h) dJ0_coder_7d493_7 ?_
  refine lv_goto (tgt := 14) hx hb dJ0_coder_7d493_10 (by decide) ?_
  exact o_nret X S hr rfl ⟨rfl, rfl⟩ dJ0_coder_7d493_14
set_option maxHeartbeats 4000000 in
set_option maxRecDepth 100000 in
theorem mJ0_isLatin1 {D : va_G} {cy : Nat → ClassId} {ad z : Nat → Nat} (l : Launch) {i : Nat} (hi : i < 4) (σ : Sg) : MIB D cy ad z l yJ0_isLatin1_aae02 (.code yJ0_isLatin1_aae02 cJ0_isLatin1_aae02 1 (some .boolean) :: gT) { frames := 0, cells := 0, slots := 0, locals := 0 } [.ref (z (3 + i))] σ (fun r τ => r = 1 ∧ τ = σ) := by
  refine metI_of (by decide +kernel) (Nat.le_of_ble_eq_true rfl) ?_
  intro p e s m args below meth c A ls X hr hl S
  have X : Fx D (tyB cy) (EvB z) p s m args meth c cJ0_isLatin1_aae02 1 "java/lang/String" A := X
  have hl : lv_has ls 1 [(0, .ref (z (3 + i)))] := hl
  have hx := X.1
  have hb := X.2.1
  have hV := X.2.2.2.2.2.2.2.1
  refine va_gets hx hb hV.2.2.2.2.1.1 S.2.2 X.2.2.2.1 (X.2.2.2.2.1 _ k_460) (fun _ h => h) dJ0_isLatin1_aae02_0 ?_
  refine lv_if_eq (tgt := 17) hx hb dJ0_isLatin1_aae02_3 (by decide) (fun q => absurd q (by decide)) (fun _ => ?_)
  refine lv_aload_n hx hb dJ0_isLatin1_aae02_6 rfl (lv_at hl 0 rfl) ?_
  refine vk_getf hx hb (hV.2.2.2.1.1 i hi).2.1 S.2.2 X.2.2.2.1 (X.2.2.2.2.1 _ k_1298) (fun _ h => h) dJ0_isLatin1_aae02_7 ?_
  refine lv_if_ne (tgt := 17) hx hb dJ0_isLatin1_aae02_10 (by decide) (fun q => absurd rfl q) (fun _ => ?_)
  refine lv_iconst (v := 1) hx hb dJ0_isLatin1_aae02_13 (by decide) ?_
  refine lv_goto (tgt := 18) hx hb dJ0_isLatin1_aae02_14 (by decide) ?_
  exact o_nret X S hr rfl ⟨rfl, rfl⟩ dJ0_isLatin1_aae02_18
set_option maxHeartbeats 4000000 in
set_option maxRecDepth 100000 in
theorem mJ0_length {D : va_G} {cy : Nat → ClassId} {ad z : Nat → Nat} (l : Launch) {i : Nat} (hi : i < 4) (σ : Sg) : MIB D cy ad z l yJ0_length_8abf5 (.code yJ0_length_8abf5 cJ0_length_8abf5 1 (some .int) :: gT) { frames := 1, cells := 0, slots := 0, locals := 20 } [.ref (z (3 + i))] σ (fun r τ => r = nI (strL.getD i 0) ∧ τ = σ) := by
  refine metI_of (by decide +kernel) (Nat.le_of_ble_eq_true rfl) ?_
  intro p e s m args below meth c A ls X hr hl S
  have X : Fx D (tyB cy) (EvB z) p s m args meth c cJ0_length_8abf5 1 "java/lang/String" A := X
  have hl : lv_has ls 1 [(0, .ref (z (3 + i)))] := hl
  have hx := X.1
  have hb := X.2.1
  have hV := X.2.2.2.2.2.2.2.1
  refine lv_aload_n hx hb dJ0_length_8abf5_0 rfl (lv_at hl 0 rfl) ?_
  refine vk_getf hx hb (hV.2.2.2.1.1 i hi).2.2.1 S.2.2 X.2.2.2.1 (X.2.2.2.2.1 _ k_1297) (fun _ h => h) dJ0_length_8abf5_1 ?_
  refine va_tlen (v := nI (strL.getD i 0)) hx hb (hV.2.2.2.1.1 i hi).2.2.2 S.2.2 rfl dJ0_length_8abf5_4 ?_
  refine lv_aload_n hx hb dJ0_length_8abf5_5 rfl (lv_at hl 0 rfl) ?_
  refine o_callRi (k := 0) (EvB_ok z) X S (mJ0_coder l hi σ) (vk_recv (adK := fun i => z (3 + i)) (i := i) hV.2.2.2.1 hi S.2.2) k_459 k_456 k_457 k_458 k_16 ⟨rfl, by decide, by decide, by decide +kernel⟩ ⟨rfl, rfl⟩ ⟨Nat.le_of_ble_eq_true rfl, Nat.le_of_ble_eq_true rfl⟩ rfl hl.1 rfl (Nat.le_of_ble_eq_true rfl) dJ0_length_8abf5_6 (fun r τ H locs h S1 => ?_)
  obtain ⟨h1, h2⟩ := h
  rw [h2] at S1
  rw [h1]
  refine lv_ishr hx hb dJ0_length_8abf5_9 ?_
  exact o_iret X S1 hr (And.intro (sb_shr0 _) rfl) dJ0_length_8abf5_10
set_option maxHeartbeats 4000000 in
set_option maxRecDepth 100000 in
theorem mJ3_checkIndex {D : va_G} {cy : Nat → ClassId} {ad z : Nat → Nat} (l : Launch) (i k : Int32) (h1 : ¬ i < 0) (h2 : i < k) (r : Option Nat) (σ : Sg) : MIB D cy ad z l yJ3_checkIndex_8e157 (.code yJ3_checkIndex_8e157 cJ3_checkIndex_8e157 3 (some .int) :: gT) { frames := 0, cells := 0, slots := 0, locals := 0 } [.int i, .int k, va_rf r] σ (fun _ τ => τ = σ) := by
  cases r with
  | none =>
    refine metI_of (by decide +kernel) (Nat.le_of_ble_eq_true rfl) ?_
    intro p e s m args below meth c A ls X hr hl S
    have hl : lv_has ls 3 [(0, .int i), (1, .int k), (2, .null)] := hl
    have hx := X.1
    have hb := X.2.1
    refine lv_iload_n hx hb dJ3_checkIndex_8e157_0 rfl (lv_at hl 0 rfl) ?_
    refine lv_if_lt (tgt := 9) hx hb dJ3_checkIndex_8e157_1 (by decide) (fun q => absurd q h1) (fun _ => ?_)
    refine lv_iload_n hx hb dJ3_checkIndex_8e157_4 rfl (lv_at hl 0 rfl) ?_
    refine lv_iload_n hx hb dJ3_checkIndex_8e157_5 rfl (lv_at hl 1 rfl) ?_
    refine lv_icmp_lt (tgt := 16) hx hb dJ3_checkIndex_8e157_6 (by decide) (fun _ => ?_) (fun q => absurd h2 q)
    refine lv_iload_n hx hb dJ3_checkIndex_8e157_16 rfl (lv_at hl 0 rfl) ?_
    exact o_iret X S hr rfl dJ3_checkIndex_8e157_17
  | some a =>
    refine metI_of (by decide +kernel) (Nat.le_of_ble_eq_true rfl) ?_
    intro p e s m args below meth c A ls X hr hl S
    have hl : lv_has ls 3 [(0, .int i), (1, .int k), (2, .ref a)] := hl
    have hx := X.1
    have hb := X.2.1
    refine lv_iload_n hx hb dJ3_checkIndex_8e157_0 rfl (lv_at hl 0 rfl) ?_
    refine lv_if_lt (tgt := 9) hx hb dJ3_checkIndex_8e157_1 (by decide) (fun q => absurd q h1) (fun _ => ?_)
    refine lv_iload_n hx hb dJ3_checkIndex_8e157_4 rfl (lv_at hl 0 rfl) ?_
    refine lv_iload_n hx hb dJ3_checkIndex_8e157_5 rfl (lv_at hl 1 rfl) ?_
    refine lv_icmp_lt (tgt := 16) hx hb dJ3_checkIndex_8e157_6 (by decide) (fun _ => ?_) (fun q => absurd h2 q)
    refine lv_iload_n hx hb dJ3_checkIndex_8e157_16 rfl (lv_at hl 0 rfl) ?_
    exact o_iret X S hr rfl dJ3_checkIndex_8e157_17
set_option maxHeartbeats 4000000 in
set_option maxRecDepth 100000 in
theorem mJ0_checkIndex {D : va_G} {cy : Nat → ClassId} {ad z : Nat → Nat} (l : Launch) (i k : Int32) (h1 : ¬ i < 0) (h2 : i < k) (σ : Sg) : MVB D cy ad z l yJ0_checkIndex_df160 (.code yJ0_checkIndex_df160 cJ0_checkIndex_df160 2 none :: gT) { frames := 1, cells := 0, slots := 0, locals := 22 } [.int i, .int k] σ (fun τ => τ = σ) := by
  refine metV_of (by decide +kernel) (Nat.le_of_ble_eq_true rfl) ?_
  intro p e s m args below meth c A ls X hr hl S
  have X : Fx D (tyB cy) (EvB z) p s m args meth c cJ0_checkIndex_df160 2 "java/lang/String" A := X
  have hl : lv_has ls 2 [(0, .int i), (1, .int k)] := hl
  have hx := X.1
  have hb := X.2.1
  have hV := X.2.2.2.2.2.2.2.1
  refine lv_iload_n hx hb dJ0_checkIndex_df160_0 rfl (lv_at hl 0 rfl) ?_
  refine lv_iload_n hx hb dJ0_checkIndex_df160_1 rfl (lv_at hl 1 rfl) ?_
  refine va_gets hx hb hV.2.2.2.2.1.2 S.2.2 X.2.2.2.1 (X.2.2.2.2.1 _ k_476) (fun _ h => h) dJ0_checkIndex_df160_2 ?_
  refine o_callSi (k := 3) (EvB_ok z) X S (mJ3_checkIndex l i k h1 h2 (zSI z) σ) k_480 k_478 k_479 k_18 ⟨by decide, by decide, by decide +kernel⟩ ⟨rfl, rfl⟩ ⟨Nat.le_of_ble_eq_true rfl, Nat.le_of_ble_eq_true rfl⟩ rfl hl.1 rfl (Nat.le_of_ble_eq_true rfl) dJ0_checkIndex_df160_5 (fun r τ H locs h S => ?_)
  refine lv_pop hx hb dJ0_checkIndex_df160_8 rfl ?_
  exact o_vret X S hr h dJ0_checkIndex_df160_9
def strC (i : Nat) (k : Int32) : Int32 := (((strB.getD i []).getD k.toNatClampNeg 0 &&& 255).toUInt32 % 65536).toInt32
set_option maxHeartbeats 4000000 in
set_option maxRecDepth 100000 in
theorem mJ1_charAt {D : va_G} {cy : Nat → ClassId} {ad z : Nat → Nat} (l : Launch) {i : Nat} (hi : i < 4) (k : Int32) (hk : vp_in k (strL.getD i 0)) (σ : Sg) : MIB D cy ad z l yJ1_charAt_3b067 (.code yJ1_charAt_3b067 cJ1_charAt_3b067 2 (some .char) :: gT) { frames := 2, cells := 0, slots := 0, locals := 43 } [.ref (z (7 + i)), .int k] σ (fun r τ => r = strC i k ∧ τ = σ) := by
  refine metI_of (by decide +kernel) (Nat.le_of_ble_eq_true rfl) ?_
  intro p e s m args below meth c A ls X hr hl S
  have X : Fx D (tyB cy) (EvB z) p s m args meth c cJ1_charAt_3b067 2 "java/lang/StringLatin1" A := X
  have hl : lv_has ls 2 [(0, .ref (z (7 + i))), (1, .int k)] := hl
  have hx := X.1
  have hb := X.2.1
  have hV := X.2.2.2.2.2.2.2.1
  have hT := (hV.2.2.2.1.1 i hi).2.2.2
  have hlen : strL.getD i 0 < 2 ^ 31 := strL_lt hi
  have h1 : ¬ k < 0 := fun q => hk (Or.inl q)
  have h2 : k < nI (strL.getD i 0) := by
    obtain ⟨j, hj, rfl⟩ := vp_in_of hk hlen
    exact nI_lt hj hlen
  refine lv_iload_n hx hb dJ1_charAt_3b067_0 rfl (lv_at hl 1 rfl) ?_
  refine lv_aload_n hx hb dJ1_charAt_3b067_1 rfl (lv_at hl 0 rfl) ?_
  refine va_tlen (v := nI (strL.getD i 0)) hx hb hT S.2.2 rfl dJ1_charAt_3b067_2 ?_
  refine o_callSv (k := 2) (EvB_ok z) X S (mJ0_checkIndex l k (nI (strL.getD i 0)) h1 h2 σ) k_475 k_473 k_474 k_16 ⟨by decide, by decide, by decide +kernel⟩ ⟨rfl, rfl⟩ ⟨Nat.le_of_ble_eq_true rfl, Nat.le_of_ble_eq_true rfl⟩ rfl hl.1 rfl (Nat.le_of_ble_eq_true rfl) dJ1_charAt_3b067_3 (fun τ H locs h S1 => ?_)
  rw [h] at S1
  refine lv_aload_n hx hb dJ1_charAt_3b067_6 rfl (lv_at hl 0 rfl) ?_
  refine lv_iload_n hx hb dJ1_charAt_3b067_7 rfl (lv_at hl 1 rfl) ?_
  refine va_tb (v := .int ((strB.getD i []).getD k.toNatClampNeg 0)) hx hb hT S1.2.2 hk rfl dJ1_charAt_3b067_8 ?_
  refine lv_sipush (v := 255) hx hb dJ1_charAt_3b067_9 (by decide) ?_
  refine lv_iand hx hb dJ1_charAt_3b067_12 ?_
  refine lv_i2c hx hb dJ1_charAt_3b067_13 rfl ?_
  exact o_nret X S1 hr (pk_nc _) ⟨rfl, rfl⟩ dJ1_charAt_3b067_14
set_option maxHeartbeats 4000000 in
set_option maxRecDepth 100000 in
theorem mJ0_charAt {D : va_G} {cy : Nat → ClassId} {ad z : Nat → Nat} (l : Launch) {i : Nat} (hi : i < 4) (k : Int32) (hk : vp_in k (strL.getD i 0)) (σ : Sg) : MIB D cy ad z l yJ0_charAt_5068e (.code yJ0_charAt_5068e cJ0_charAt_5068e 2 (some .char) :: gT) { frames := 3, cells := 0, slots := 0, locals := 64 } [.ref (z (3 + i)), .int k] σ (fun r τ => r = strC i k ∧ τ = σ) := by
  refine metI_of (by decide +kernel) (Nat.le_of_ble_eq_true rfl) ?_
  intro p e s m args below meth c A ls X hr hl S
  have X : Fx D (tyB cy) (EvB z) p s m args meth c cJ0_charAt_5068e 2 "java/lang/String" A := X
  have hl : lv_has ls 2 [(0, .ref (z (3 + i))), (1, .int k)] := hl
  have hx := X.1
  have hb := X.2.1
  have hV := X.2.2.2.2.2.2.2.1
  refine lv_aload_n hx hb dJ0_charAt_5068e_0 rfl (lv_at hl 0 rfl) ?_
  refine o_callRi (k := 0) (EvB_ok z) X S (mJ0_isLatin1 l hi σ) (vk_recv (adK := fun i => z (3 + i)) (i := i) hV.2.2.2.1 hi S.2.2) k_469 k_466 k_467 k_468 k_16 ⟨rfl, by decide, by decide, by decide +kernel⟩ ⟨rfl, rfl⟩ ⟨Nat.le_of_ble_eq_true rfl, Nat.le_of_ble_eq_true rfl⟩ rfl hl.1 rfl (Nat.le_of_ble_eq_true rfl) dJ0_charAt_5068e_1 (fun r τ H locs h S1 => ?_)
  obtain ⟨h1, h2⟩ := h
  rw [h2] at S1
  rw [h1]
  refine lv_if_eq (tgt := 16) hx hb dJ0_charAt_5068e_4 (by decide) (fun q => absurd q (by decide)) (fun _ => ?_)
  refine lv_aload_n hx hb dJ0_charAt_5068e_7 rfl (lv_at hl 0 rfl) ?_
  refine vk_getf hx hb (hV.2.2.2.1.1 i hi).2.2.1 S1.2.2 X.2.2.2.1 (X.2.2.2.2.1 _ k_1297) (fun _ h => h) dJ0_charAt_5068e_8 ?_
  refine lv_iload_n hx hb dJ0_charAt_5068e_11 rfl (lv_at hl 1 rfl) ?_
  refine o_callSi (k := 2) (EvB_ok z) X S1 (mJ1_charAt l hi k hk σ) k_472 k_470 k_471 k_17 ⟨by decide, by decide, by decide +kernel⟩ ⟨rfl, rfl⟩ ⟨Nat.le_of_ble_eq_true rfl, Nat.le_of_ble_eq_true rfl⟩ rfl hl.1 rfl (Nat.le_of_ble_eq_true rfl) dJ0_charAt_5068e_12 (fun r τ2 H locs h S2 => ?_)
  obtain ⟨h3, h4⟩ := h
  rw [h4] at S2
  rw [h3]
  exact o_nret X S2 hr (pk_nc _) (And.intro rfl rfl) dJ0_charAt_5068e_15
theorem strC_eq : ∀ i : Fin 4, ∀ k : Fin 4, k.val < strL.getD i.val 0 → (((strB.getD i.val []).getD k.val 0 &&& 255).toUInt32 % 65536).toInt32 = (strB.getD i.val []).getD k.val 0 := by decide +kernel
theorem strC_at {i : Nat} (hi : i < 4) {k : Int32} (hk : vp_in k (strL.getD i 0)) : strC i k = (strB.getD i []).getD k.toNatClampNeg 0 := by
  have h1 : k.toNatClampNeg < strL.getD i 0 := Nat.not_le.mp fun q => hk (Or.inr q)
  have h4 : strL.getD i 0 ≤ 4 := strL_le hi
  exact strC_eq ⟨i, hi⟩ ⟨k.toNatClampNeg, by omega⟩ h1
section STR2
variable {p : Program} {l : Launch} {e : Env} {R : Room} {s : State} {m : MethodId} {args : Array Value} {below : List Frame} {meth : Method} {c : Code} {H : Heap} {locs : List Loc} {Q : State → Prop}
variable {D : va_G} {cy : Nat → ClassId} {ad z : Nat → Nat} {A : Nat → Prop} {σ : Sg} {cc : ByteArray} {nL : Nat} {own : String} {pc : Nat} {ls : Array Slot} {rest : List Value}
theorem o_strlen {i index : Nat} (hi : i < 4) (X : Fx D (tyB cy) (EvB z) p s m args meth c cc nL own A) (S : St D ad 75 (shB cy ad) A s σ H locs) (hsz : ls.size = nL) (kl : Cond.methodLink own index yJ0_length_8abf5 ∈ gT) (h1 : 2 ≤ R.frames) (h2 : 40 ≤ R.locals) (hW : (rest.map fun v => v.category).sum ≤ 8) (hdg : decode cc pc = .ok (.invokevirtual index, 3))
    (kk : ∀ (H1 : Heap) (locs1 : List Loc), St D ad 75 (shB cy ad) A s σ H1 locs1 → W p l e R s m args below meth c H1 locs1 0 0 Q (F0 m (pc + 3) ls (.int (nI (strL.getD i 0)) :: rest))) : W p l e R s m args below meth c H locs 0 0 Q (F0 m pc ls (.ref (z (3 + i)) :: rest)) := by
  refine o_callRi (k := 0) (EvB_ok z) X S (mJ0_length l hi σ) (vk_recv (adK := fun i => z (3 + i)) (i := i) X.2.2.2.2.2.2.2.1.2.2.2.1 hi S.2.2) k_455 kl k_453 k_454 k_16 ⟨rfl, by decide, by decide, by decide +kernel⟩ ⟨rfl, rfl⟩ ⟨h1, h2⟩ rfl hsz rfl hW hdg (fun r τ H locs h S1 => ?_)
  obtain ⟨h3, h4⟩ := h
  rw [h4] at S1
  rw [h3]
  exact kk H locs S1
theorem o_strchar {i index : Nat} {k : Int32} (hi : i < 4) (X : Fx D (tyB cy) (EvB z) p s m args meth c cc nL own A) (S : St D ad 75 (shB cy ad) A s σ H locs) (hsz : ls.size = nL) (kl : Cond.methodLink own index yJ0_charAt_5068e ∈ gT) (hk : vp_in k (strL.getD i 0)) (h1 : 4 ≤ R.frames) (h2 : 85 ≤ R.locals) (hW : (rest.map fun v => v.category).sum ≤ 8) (hdg : decode cc pc = .ok (.invokevirtual index, 3))
    (kk : ∀ (H1 : Heap) (locs1 : List Loc), St D ad 75 (shB cy ad) A s σ H1 locs1 → W p l e R s m args below meth c H1 locs1 0 0 Q (F0 m (pc + 3) ls (.int ((strB.getD i []).getD k.toNatClampNeg 0) :: rest))) : W p l e R s m args below meth c H locs 0 0 Q (F0 m pc ls (.int k :: .ref (z (3 + i)) :: rest)) := by
  refine o_callRi (k := 1) (EvB_ok z) X S (mJ0_charAt l hi k hk σ) (vk_recv (adK := fun i => z (3 + i)) (i := i) X.2.2.2.2.2.2.2.1.2.2.2.1 hi S.2.2) k_465 kl k_463 k_464 k_16 ⟨rfl, by decide, by decide, by decide +kernel⟩ ⟨rfl, rfl⟩ ⟨h1, h2⟩ rfl hsz rfl hW hdg (fun r τ H locs h S1 => ?_)
  obtain ⟨h3, h4⟩ := h
  rw [h4] at S1
  rw [h3, strC_at hi hk]
  exact kk H locs S1
end STR2
