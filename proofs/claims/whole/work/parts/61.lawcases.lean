/-! the law's cases; printed by wip/whole/gen_law2.py -/
def R_law : String := "BackBayLaw"
def lw_P (b : Addr) (xs : List Int32) (args : Array Value) (s : State) : Prop := args = #[.ref b] ∧ s.IntsAt b xs ∧ xs.length ≤ 3072 ∧ (Jvm.Cond.and given_1 narrow_1).before args s = true
def lw_Q (_ : Array Value) (s : State) (o : Outcome) (t : State) : Prop := o = .returned (some (.int 1)) ∧ Framed s o t [] 600000 7302249
def lw_Z (below : List Frame) (a : Array Value) (s : State) : State → Prop := fun t => ∃ o, t.status = .running ∧ Ended t below o ∧ lw_Q a s o t
/-- the law's own end, with 1 on the stack, nothing written that was there before, its room as the claim has it -/
theorem lw_ret {p : Program} {l : Launch} {e : Env} {s : State} {m : MethodId} {below : List Frame} {meth : Method} {c : Code} {b : Nat} (hx : p.tables.exec = Jvm.exec) (hb : c.code = code) (hr : meth.sig.returnType = ret) (hlocks : meth.locks = false) {pc : Nat} {H : Heap} {ls : Array Slot} (hdg : decode code pc = .ok (.ireturn, 1)) : W p l e room_1 s m #[Value.ref b] below meth c H [] 600000 7302249 (lw_Z below #[Value.ref b] s) (F0 m pc ls [.int 1]) := by
  intro T hT X
  obtain ⟨fs, hret, hrun, hended, hW, hframe⟩ := X.leave (v := some (.int 1)) (hlocks := hlocks) (fun h => by rw [hr] at h; cases h)
  have hmeth' : T.vm.method? m = some meth := X.method'
  refine ⟨T.setFrames fs, ?_, .returned (some (.int 1)), hrun, hended, rfl, ⟨_, rfl⟩, hW, hframe⟩
  jvm_step X.here [X.here.top, hx, hb, hdg, hmeth', hr, ret, narrow_b1]
  (try refine ⟨rfl, ?_⟩); (try refine ⟨rfl, ?_⟩)
  first | (intro acts; rw [hret _ acts rfl rfl rfl]) | rw [hret _ _ rfl rfl rfl]
  exact Steps.refl _
/-- what holds at the law's entry: the machine, the code, the tables' words (any of lw_tbl by 'hts w (by decide +kernel)'), the script of L ints xs at the cell b, what the Statement gives of the start (any of its parts by flat_of_before) -/
def lw_At (p : Program) (s : State) (m : MethodId) (meth : Method) (c : Code) (b L : Nat) (xs : Nat → Int32) : Prop :=
  p.tables.exec = Jvm.exec ∧ c.code = code ∧ meth.sig.returnType = ret ∧ c.maxLocals = 4 ∧ s.vm.findClass R_law = some m.cls ∧ (∀ w ∈ lw_tbl, w.before #[Value.ref b] s = true) ∧ va_X b L xs s s.heap ∧ b < s.heap.size ∧ meth.locks = false ∧ (Jvm.Cond.and given_1 narrow_1).before #[Value.ref b] s = true
def LwX (D : va_G) (cy : Nat → ClassId) (z : Nat → Nat) (p : Program) (s : State) (m : MethodId) (meth : Method) (c : Code) (b L : Nat) (xs : Nat → Int32) : Prop :=
  Fx D (tyB cy) (EvB z) p s m #[Value.ref b] meth c cL_law 4 "BackBayLaw" (fun q : Nat => s.heap.size ≤ q) ∧ Fx D (tyM cy) EvM p s m #[Value.ref b] meth c cL_law 4 "BackBayLaw" (fun q : Nat => s.heap.size ≤ q) ∧ va_X b L xs s s.heap ∧ b < s.heap.size
section LAWK
variable {p : Program} {e : Env} {s : State} {m : MethodId} {below : List Frame} {meth : Method} {c : Code} {H : Heap} {locs : List Loc} {cells slots : Nat} {Q : State → Prop}
variable {D : va_G} {cy : Nat → ClassId} {aB aM z : Nat → Nat} {σ τ : Sg} {b L : Nat} {xs : Nat → Int32} {ls : Array Slot} {x3 : Int32}
theorem lc_row (l : Launch) (C : LwX D cy z p s m meth c b L xs) (hI : Inv σ τ) (S : St2 D cy aB aM (fun q : Nat => s.heap.size ≤ q) s σ τ H locs) (hl : lv_has ls 4 [(0, .ref b), (1, .ref (aB 0)), (2, .ref (aM 0)), (3, .int x3)]) (hv : vp_in (x3 + 1) L ∧ vp_in (x3 + 2) L ∧ vp_in (x3 + 3) L ∧ vp_in (x3 + 4) L ∧ vp_in (x3 + 5) L) (hc : cells ≤ room_1.cells ∧ slots ≤ room_1.slots)
    (kk : ∀ (σ' τ' : Sg) (H1 : Heap) (locs1 : List Loc), Inv σ' τ' → St2 D cy aB aM (fun q : Nat => s.heap.size ≤ q) s σ' τ' H1 locs1 → W p l e room_1 s m #[Value.ref b] below meth c H1 locs1 cells slots Q (F0 m 1065 ls [])) : W p l e room_1 s m #[Value.ref b] below meth c H locs cells slots Q (F0 m 164 ls []) := by
  obtain ⟨XB, XM, hX, hbl⟩ := C
  obtain ⟨h1, h2, h3, h4, h5⟩ := hv
  have hx := XB.1
  have hb := XB.2.1
  have hbA : ¬ (fun q : Nat => s.heap.size ≤ q) b := Nat.not_le.mpr hbl
  refine lv_aload_n hx hb dL_law_164 rfl (lv_at hl 1 rfl) ?_
  refine lv_aload_n hx hb dL_law_165 rfl (lv_at hl 0 rfl) ?_
  refine lv_iload_n hx hb dL_law_166 rfl (lv_at hl 3 rfl) ?_
  refine lv_iconst (v := 1) hx hb dL_law_167 (by decide) ?_
  refine lv_iadd hx hb dL_law_168 ?_
  refine va_sld hx hb hX hbl hbA S.2.2.2.2.2 h1 dL_law_169 ?_
  refine lv_aload_n hx hb dL_law_170 rfl (lv_at hl 0 rfl) ?_
  refine lv_iload_n hx hb dL_law_171 rfl (lv_at hl 3 rfl) ?_
  refine lv_iconst (v := 2) hx hb dL_law_172 (by decide) ?_
  refine lv_iadd hx hb dL_law_173 ?_
  refine va_sld hx hb hX hbl hbA S.2.2.2.2.2 h2 dL_law_174 ?_
  refine lv_aload_n hx hb dL_law_175 rfl (lv_at hl 0 rfl) ?_
  refine lv_iload_n hx hb dL_law_176 rfl (lv_at hl 3 rfl) ?_
  refine lv_iconst (v := 3) hx hb dL_law_177 (by decide) ?_
  refine lv_iadd hx hb dL_law_178 ?_
  refine va_sld hx hb hX hbl hbA S.2.2.2.2.2 h3 dL_law_179 ?_
  refine l2_Bl (k := 3) (rest := []) XB S (mX11_row l (xs (x3 + 1).toNatClampNeg) (xs (x3 + 2).toNatClampNeg) (xs (x3 + 3).toNatClampNeg) σ _ (E_row (xs (x3 + 1).toNatClampNeg) (xs (x3 + 2).toNatClampNeg) (xs (x3 + 3).toNatClampNeg) hI)) k_365 k_362 k_363 k_364 k_1 ⟨rfl, by decide, by decide, by decide +kernel⟩ ⟨rfl, rfl⟩ ⟨Nat.le_of_ble_eq_true rfl, Nat.le_of_ble_eq_true rfl⟩ hc rfl hl.1 rfl (Nat.le_of_ble_eq_true rfl) dL_law_180 (fun rB uB H locs hw S => ?_)
  refine lv_aload_n hx hb dL_law_183 rfl (lv_at hl 2 rfl) ?_
  refine lv_aload_n hx hb dL_law_184 rfl (lv_at hl 0 rfl) ?_
  refine lv_iload_n hx hb dL_law_185 rfl (lv_at hl 3 rfl) ?_
  refine lv_iconst (v := 1) hx hb dL_law_186 (by decide) ?_
  refine lv_iadd hx hb dL_law_187 ?_
  refine va_sld hx hb hX hbl hbA S.2.2.2.2.2 h1 dL_law_188 ?_
  refine lv_aload_n hx hb dL_law_189 rfl (lv_at hl 0 rfl) ?_
  refine lv_iload_n hx hb dL_law_190 rfl (lv_at hl 3 rfl) ?_
  refine lv_iconst (v := 2) hx hb dL_law_191 (by decide) ?_
  refine lv_iadd hx hb dL_law_192 ?_
  refine va_sld hx hb hX hbl hbA S.2.2.2.2.2 h2 dL_law_193 ?_
  refine lv_aload_n hx hb dL_law_194 rfl (lv_at hl 0 rfl) ?_
  refine lv_iload_n hx hb dL_law_195 rfl (lv_at hl 3 rfl) ?_
  refine lv_iconst (v := 3) hx hb dL_law_196 (by decide) ?_
  refine lv_iadd hx hb dL_law_197 ?_
  refine va_sld hx hb hX hbl hbA S.2.2.2.2.2 h3 dL_law_198 ?_
  refine l2_Ml (k := 3) (rest := [.long rB]) XM S (mX12_row l (xs (x3 + 1).toNatClampNeg) (xs (x3 + 2).toNatClampNeg) (xs (x3 + 3).toNatClampNeg) τ _ hw) k_1015 k_1012 k_1013 k_1014 k_14 ⟨rfl, by decide, by decide, by decide +kernel⟩ ⟨rfl, rfl⟩ ⟨Nat.le_of_ble_eq_true rfl, Nat.le_of_ble_eq_true rfl⟩ hc rfl hl.1 rfl (Nat.le_of_ble_eq_true rfl) dL_law_199 (fun rM uM H locs hw S => ?_)
  refine W.lcmp hx hb dL_law_202 ?_
  exact lv_if_eq (tgt := 1065) hx hb dL_law_203 (by decide) (fun _ => kk _ _ _ _ hw.2 S) (fun q => absurd ((lg_cmp_eq _ _).mpr hw.1) q)
theorem lc_set (l : Launch) (C : LwX D cy z p s m meth c b L xs) (hI : Inv σ τ) (S : St2 D cy aB aM (fun q : Nat => s.heap.size ≤ q) s σ τ H locs) (hl : lv_has ls 4 [(0, .ref b), (1, .ref (aB 0)), (2, .ref (aM 0)), (3, .int x3)]) (hv : vp_in (x3 + 1) L ∧ vp_in (x3 + 2) L ∧ vp_in (x3 + 3) L ∧ vp_in (x3 + 4) L ∧ vp_in (x3 + 5) L) (hc : cells ≤ room_1.cells ∧ slots ≤ room_1.slots)
    (kk : ∀ (σ' τ' : Sg) (H1 : Heap) (locs1 : List Loc), Inv σ' τ' → St2 D cy aB aM (fun q : Nat => s.heap.size ≤ q) s σ' τ' H1 locs1 → W p l e room_1 s m #[Value.ref b] below meth c H1 locs1 cells slots Q (F0 m 1065 ls [])) : W p l e room_1 s m #[Value.ref b] below meth c H locs cells slots Q (F0 m 208 ls []) := by
  obtain ⟨XB, XM, hX, hbl⟩ := C
  obtain ⟨h1, h2, h3, h4, h5⟩ := hv
  have hx := XB.1
  have hb := XB.2.1
  have hbA : ¬ (fun q : Nat => s.heap.size ≤ q) b := Nat.not_le.mpr hbl
  refine lv_aload_n hx hb dL_law_208 rfl (lv_at hl 1 rfl) ?_
  refine lv_aload_n hx hb dL_law_209 rfl (lv_at hl 0 rfl) ?_
  refine lv_iload_n hx hb dL_law_210 rfl (lv_at hl 3 rfl) ?_
  refine lv_iconst (v := 1) hx hb dL_law_211 (by decide) ?_
  refine lv_iadd hx hb dL_law_212 ?_
  refine va_sld hx hb hX hbl hbA S.2.2.2.2.2 h1 dL_law_213 ?_
  refine lv_aload_n hx hb dL_law_214 rfl (lv_at hl 0 rfl) ?_
  refine lv_iload_n hx hb dL_law_215 rfl (lv_at hl 3 rfl) ?_
  refine lv_iconst (v := 2) hx hb dL_law_216 (by decide) ?_
  refine lv_iadd hx hb dL_law_217 ?_
  refine va_sld hx hb hX hbl hbA S.2.2.2.2.2 h2 dL_law_218 ?_
  refine lv_aload_n hx hb dL_law_219 rfl (lv_at hl 0 rfl) ?_
  refine lv_iload_n hx hb dL_law_220 rfl (lv_at hl 3 rfl) ?_
  refine lv_iconst (v := 3) hx hb dL_law_221 (by decide) ?_
  refine lv_iadd hx hb dL_law_222 ?_
  refine va_sld hx hb hX hbl hbA S.2.2.2.2.2 h3 dL_law_223 ?_
  refine l2_Bl (k := 3) (rest := []) XB S (mX11_set l (xs (x3 + 1).toNatClampNeg) (xs (x3 + 2).toNatClampNeg) (xs (x3 + 3).toNatClampNeg) σ _ (E_set (xs (x3 + 1).toNatClampNeg) (xs (x3 + 2).toNatClampNeg) (xs (x3 + 3).toNatClampNeg) hI)) k_390 k_387 k_388 k_389 k_1 ⟨rfl, by decide, by decide, by decide +kernel⟩ ⟨rfl, rfl⟩ ⟨Nat.le_of_ble_eq_true rfl, Nat.le_of_ble_eq_true rfl⟩ hc rfl hl.1 rfl (Nat.le_of_ble_eq_true rfl) dL_law_224 (fun rB uB H locs hw S => ?_)
  refine lv_aload_n hx hb dL_law_227 rfl (lv_at hl 2 rfl) ?_
  refine lv_aload_n hx hb dL_law_228 rfl (lv_at hl 0 rfl) ?_
  refine lv_iload_n hx hb dL_law_229 rfl (lv_at hl 3 rfl) ?_
  refine lv_iconst (v := 1) hx hb dL_law_230 (by decide) ?_
  refine lv_iadd hx hb dL_law_231 ?_
  refine va_sld hx hb hX hbl hbA S.2.2.2.2.2 h1 dL_law_232 ?_
  refine lv_aload_n hx hb dL_law_233 rfl (lv_at hl 0 rfl) ?_
  refine lv_iload_n hx hb dL_law_234 rfl (lv_at hl 3 rfl) ?_
  refine lv_iconst (v := 2) hx hb dL_law_235 (by decide) ?_
  refine lv_iadd hx hb dL_law_236 ?_
  refine va_sld hx hb hX hbl hbA S.2.2.2.2.2 h2 dL_law_237 ?_
  refine lv_aload_n hx hb dL_law_238 rfl (lv_at hl 0 rfl) ?_
  refine lv_iload_n hx hb dL_law_239 rfl (lv_at hl 3 rfl) ?_
  refine lv_iconst (v := 3) hx hb dL_law_240 (by decide) ?_
  refine lv_iadd hx hb dL_law_241 ?_
  refine va_sld hx hb hX hbl hbA S.2.2.2.2.2 h3 dL_law_242 ?_
  refine l2_Ml (k := 3) (rest := [.long rB]) XM S (mX12_set l (xs (x3 + 1).toNatClampNeg) (xs (x3 + 2).toNatClampNeg) (xs (x3 + 3).toNatClampNeg) τ _ hw) k_1034 k_1031 k_1032 k_1033 k_14 ⟨rfl, by decide, by decide, by decide +kernel⟩ ⟨rfl, rfl⟩ ⟨Nat.le_of_ble_eq_true rfl, Nat.le_of_ble_eq_true rfl⟩ hc rfl hl.1 rfl (Nat.le_of_ble_eq_true rfl) dL_law_243 (fun rM uM H locs hw S => ?_)
  refine W.lcmp hx hb dL_law_246 ?_
  exact lv_if_eq (tgt := 1065) hx hb dL_law_247 (by decide) (fun _ => kk _ _ _ _ hw.2 S) (fun q => absurd ((lg_cmp_eq _ _).mpr hw.1) q)
theorem lc_copy (l : Launch) (C : LwX D cy z p s m meth c b L xs) (hI : Inv σ τ) (S : St2 D cy aB aM (fun q : Nat => s.heap.size ≤ q) s σ τ H locs) (hl : lv_has ls 4 [(0, .ref b), (1, .ref (aB 0)), (2, .ref (aM 0)), (3, .int x3)]) (hv : vp_in (x3 + 1) L ∧ vp_in (x3 + 2) L ∧ vp_in (x3 + 3) L ∧ vp_in (x3 + 4) L ∧ vp_in (x3 + 5) L) (hc : cells ≤ room_1.cells ∧ slots ≤ room_1.slots)
    (kk : ∀ (σ' τ' : Sg) (H1 : Heap) (locs1 : List Loc), Inv σ' τ' → St2 D cy aB aM (fun q : Nat => s.heap.size ≤ q) s σ' τ' H1 locs1 → W p l e room_1 s m #[Value.ref b] below meth c H1 locs1 cells slots Q (F0 m 1065 ls [])) : W p l e room_1 s m #[Value.ref b] below meth c H locs cells slots Q (F0 m 252 ls []) := by
  obtain ⟨XB, XM, hX, hbl⟩ := C
  obtain ⟨h1, h2, h3, h4, h5⟩ := hv
  have hx := XB.1
  have hb := XB.2.1
  have hbA : ¬ (fun q : Nat => s.heap.size ≤ q) b := Nat.not_le.mpr hbl
  refine lv_aload_n hx hb dL_law_252 rfl (lv_at hl 1 rfl) ?_
  refine lv_aload_n hx hb dL_law_253 rfl (lv_at hl 0 rfl) ?_
  refine lv_iload_n hx hb dL_law_254 rfl (lv_at hl 3 rfl) ?_
  refine lv_iconst (v := 1) hx hb dL_law_255 (by decide) ?_
  refine lv_iadd hx hb dL_law_256 ?_
  refine va_sld hx hb hX hbl hbA S.2.2.2.2.2 h1 dL_law_257 ?_
  refine lv_aload_n hx hb dL_law_258 rfl (lv_at hl 0 rfl) ?_
  refine lv_iload_n hx hb dL_law_259 rfl (lv_at hl 3 rfl) ?_
  refine lv_iconst (v := 2) hx hb dL_law_260 (by decide) ?_
  refine lv_iadd hx hb dL_law_261 ?_
  refine va_sld hx hb hX hbl hbA S.2.2.2.2.2 h2 dL_law_262 ?_
  refine lv_aload_n hx hb dL_law_263 rfl (lv_at hl 0 rfl) ?_
  refine lv_iload_n hx hb dL_law_264 rfl (lv_at hl 3 rfl) ?_
  refine lv_iconst (v := 3) hx hb dL_law_265 (by decide) ?_
  refine lv_iadd hx hb dL_law_266 ?_
  refine va_sld hx hb hX hbl hbA S.2.2.2.2.2 h3 dL_law_267 ?_
  refine lv_aload_n hx hb dL_law_268 rfl (lv_at hl 0 rfl) ?_
  refine lv_iload_n hx hb dL_law_269 rfl (lv_at hl 3 rfl) ?_
  refine lv_iconst (v := 4) hx hb dL_law_270 (by decide) ?_
  refine lv_iadd hx hb dL_law_271 ?_
  refine va_sld hx hb hX hbl hbA S.2.2.2.2.2 h4 dL_law_272 ?_
  refine lv_aload_n hx hb dL_law_273 rfl (lv_at hl 0 rfl) ?_
  refine lv_iload_n hx hb dL_law_274 rfl (lv_at hl 3 rfl) ?_
  refine lv_iconst (v := 5) hx hb dL_law_275 (by decide) ?_
  refine lv_iadd hx hb dL_law_276 ?_
  refine va_sld hx hb hX hbl hbA S.2.2.2.2.2 h5 dL_law_277 ?_
  refine l2_Bl (k := 5) (rest := []) XB S (mX11_copy l (xs (x3 + 1).toNatClampNeg) (xs (x3 + 2).toNatClampNeg) (xs (x3 + 3).toNatClampNeg) (xs (x3 + 4).toNatClampNeg) (xs (x3 + 5).toNatClampNeg) σ _ (E_copy (xs (x3 + 1).toNatClampNeg) (xs (x3 + 2).toNatClampNeg) (xs (x3 + 3).toNatClampNeg) (xs (x3 + 4).toNatClampNeg) (xs (x3 + 5).toNatClampNeg) hI)) k_402 k_399 k_400 k_401 k_1 ⟨rfl, by decide, by decide, by decide +kernel⟩ ⟨rfl, rfl⟩ ⟨Nat.le_of_ble_eq_true rfl, Nat.le_of_ble_eq_true rfl⟩ hc rfl hl.1 rfl (Nat.le_of_ble_eq_true rfl) dL_law_278 (fun rB uB H locs hw S => ?_)
  refine lv_aload_n hx hb dL_law_281 rfl (lv_at hl 2 rfl) ?_
  refine lv_aload_n hx hb dL_law_282 rfl (lv_at hl 0 rfl) ?_
  refine lv_iload_n hx hb dL_law_283 rfl (lv_at hl 3 rfl) ?_
  refine lv_iconst (v := 1) hx hb dL_law_284 (by decide) ?_
  refine lv_iadd hx hb dL_law_285 ?_
  refine va_sld hx hb hX hbl hbA S.2.2.2.2.2 h1 dL_law_286 ?_
  refine lv_aload_n hx hb dL_law_287 rfl (lv_at hl 0 rfl) ?_
  refine lv_iload_n hx hb dL_law_288 rfl (lv_at hl 3 rfl) ?_
  refine lv_iconst (v := 2) hx hb dL_law_289 (by decide) ?_
  refine lv_iadd hx hb dL_law_290 ?_
  refine va_sld hx hb hX hbl hbA S.2.2.2.2.2 h2 dL_law_291 ?_
  refine lv_aload_n hx hb dL_law_292 rfl (lv_at hl 0 rfl) ?_
  refine lv_iload_n hx hb dL_law_293 rfl (lv_at hl 3 rfl) ?_
  refine lv_iconst (v := 3) hx hb dL_law_294 (by decide) ?_
  refine lv_iadd hx hb dL_law_295 ?_
  refine va_sld hx hb hX hbl hbA S.2.2.2.2.2 h3 dL_law_296 ?_
  refine lv_aload_n hx hb dL_law_297 rfl (lv_at hl 0 rfl) ?_
  refine lv_iload_n hx hb dL_law_298 rfl (lv_at hl 3 rfl) ?_
  refine lv_iconst (v := 4) hx hb dL_law_299 (by decide) ?_
  refine lv_iadd hx hb dL_law_300 ?_
  refine va_sld hx hb hX hbl hbA S.2.2.2.2.2 h4 dL_law_301 ?_
  refine lv_aload_n hx hb dL_law_302 rfl (lv_at hl 0 rfl) ?_
  refine lv_iload_n hx hb dL_law_303 rfl (lv_at hl 3 rfl) ?_
  refine lv_iconst (v := 5) hx hb dL_law_304 (by decide) ?_
  refine lv_iadd hx hb dL_law_305 ?_
  refine va_sld hx hb hX hbl hbA S.2.2.2.2.2 h5 dL_law_306 ?_
  refine l2_Ml (k := 5) (rest := [.long rB]) XM S (mX12_copy l (xs (x3 + 1).toNatClampNeg) (xs (x3 + 2).toNatClampNeg) (xs (x3 + 3).toNatClampNeg) (xs (x3 + 4).toNatClampNeg) (xs (x3 + 5).toNatClampNeg) τ _ hw) k_1041 k_1038 k_1039 k_1040 k_14 ⟨rfl, by decide, by decide, by decide +kernel⟩ ⟨rfl, rfl⟩ ⟨Nat.le_of_ble_eq_true rfl, Nat.le_of_ble_eq_true rfl⟩ hc rfl hl.1 rfl (Nat.le_of_ble_eq_true rfl) dL_law_307 (fun rM uM H locs hw S => ?_)
  refine W.lcmp hx hb dL_law_310 ?_
  exact lv_if_eq (tgt := 1065) hx hb dL_law_311 (by decide) (fun _ => kk _ _ _ _ hw.2 S) (fun q => absurd ((lg_cmp_eq _ _).mpr hw.1) q)
theorem lc_drop (l : Launch) (C : LwX D cy z p s m meth c b L xs) (hI : Inv σ τ) (S : St2 D cy aB aM (fun q : Nat => s.heap.size ≤ q) s σ τ H locs) (hl : lv_has ls 4 [(0, .ref b), (1, .ref (aB 0)), (2, .ref (aM 0)), (3, .int x3)]) (hv : vp_in (x3 + 1) L ∧ vp_in (x3 + 2) L ∧ vp_in (x3 + 3) L ∧ vp_in (x3 + 4) L ∧ vp_in (x3 + 5) L) (hc : cells ≤ room_1.cells ∧ slots ≤ room_1.slots)
    (kk : ∀ (σ' τ' : Sg) (H1 : Heap) (locs1 : List Loc), Inv σ' τ' → St2 D cy aB aM (fun q : Nat => s.heap.size ≤ q) s σ' τ' H1 locs1 → W p l e room_1 s m #[Value.ref b] below meth c H1 locs1 cells slots Q (F0 m 1065 ls [])) : W p l e room_1 s m #[Value.ref b] below meth c H locs cells slots Q (F0 m 316 ls []) := by
  obtain ⟨XB, XM, hX, hbl⟩ := C
  obtain ⟨h1, h2, h3, h4, h5⟩ := hv
  have hx := XB.1
  have hb := XB.2.1
  have hbA : ¬ (fun q : Nat => s.heap.size ≤ q) b := Nat.not_le.mpr hbl
  refine lv_aload_n hx hb dL_law_316 rfl (lv_at hl 1 rfl) ?_
  refine lv_aload_n hx hb dL_law_317 rfl (lv_at hl 0 rfl) ?_
  refine lv_iload_n hx hb dL_law_318 rfl (lv_at hl 3 rfl) ?_
  refine lv_iconst (v := 1) hx hb dL_law_319 (by decide) ?_
  refine lv_iadd hx hb dL_law_320 ?_
  refine va_sld hx hb hX hbl hbA S.2.2.2.2.2 h1 dL_law_321 ?_
  refine l2_Bl (k := 1) (rest := []) XB S (mX11_drop l (xs (x3 + 1).toNatClampNeg) σ _ (E_drop (xs (x3 + 1).toNatClampNeg) hI)) k_409 k_406 k_407 k_408 k_1 ⟨rfl, by decide, by decide, by decide +kernel⟩ ⟨rfl, rfl⟩ ⟨Nat.le_of_ble_eq_true rfl, Nat.le_of_ble_eq_true rfl⟩ hc rfl hl.1 rfl (Nat.le_of_ble_eq_true rfl) dL_law_322 (fun rB uB H locs hw S => ?_)
  refine lv_aload_n hx hb dL_law_325 rfl (lv_at hl 2 rfl) ?_
  refine lv_aload_n hx hb dL_law_326 rfl (lv_at hl 0 rfl) ?_
  refine lv_iload_n hx hb dL_law_327 rfl (lv_at hl 3 rfl) ?_
  refine lv_iconst (v := 1) hx hb dL_law_328 (by decide) ?_
  refine lv_iadd hx hb dL_law_329 ?_
  refine va_sld hx hb hX hbl hbA S.2.2.2.2.2 h1 dL_law_330 ?_
  refine l2_Ml (k := 1) (rest := [.long rB]) XM S (mX12_drop l (xs (x3 + 1).toNatClampNeg) τ _ hw) k_1045 k_1042 k_1043 k_1044 k_14 ⟨rfl, by decide, by decide, by decide +kernel⟩ ⟨rfl, rfl⟩ ⟨Nat.le_of_ble_eq_true rfl, Nat.le_of_ble_eq_true rfl⟩ hc rfl hl.1 rfl (Nat.le_of_ble_eq_true rfl) dL_law_331 (fun rM uM H locs hw S => ?_)
  refine W.lcmp hx hb dL_law_334 ?_
  exact lv_if_eq (tgt := 1065) hx hb dL_law_335 (by decide) (fun _ => kk _ _ _ _ hw.2 S) (fun q => absurd ((lg_cmp_eq _ _).mpr hw.1) q)
theorem lc_feed (l : Launch) (C : LwX D cy z p s m meth c b L xs) (hI : Inv σ τ) (S : St2 D cy aB aM (fun q : Nat => s.heap.size ≤ q) s σ τ H locs) (hl : lv_has ls 4 [(0, .ref b), (1, .ref (aB 0)), (2, .ref (aM 0)), (3, .int x3)]) (hv : vp_in (x3 + 1) L ∧ vp_in (x3 + 2) L ∧ vp_in (x3 + 3) L ∧ vp_in (x3 + 4) L ∧ vp_in (x3 + 5) L) (hc : cells ≤ room_1.cells ∧ slots ≤ room_1.slots)
    (kk : ∀ (σ' τ' : Sg) (H1 : Heap) (locs1 : List Loc), Inv σ' τ' → St2 D cy aB aM (fun q : Nat => s.heap.size ≤ q) s σ' τ' H1 locs1 → W p l e room_1 s m #[Value.ref b] below meth c H1 locs1 cells slots Q (F0 m 1065 ls [])) : W p l e room_1 s m #[Value.ref b] below meth c H locs cells slots Q (F0 m 340 ls []) := by
  obtain ⟨XB, XM, hX, hbl⟩ := C
  obtain ⟨h1, h2, h3, h4, h5⟩ := hv
  have hx := XB.1
  have hb := XB.2.1
  have hbA : ¬ (fun q : Nat => s.heap.size ≤ q) b := Nat.not_le.mpr hbl
  refine lv_aload_n hx hb dL_law_340 rfl (lv_at hl 1 rfl) ?_
  refine lv_aload_n hx hb dL_law_341 rfl (lv_at hl 0 rfl) ?_
  refine lv_iload_n hx hb dL_law_342 rfl (lv_at hl 3 rfl) ?_
  refine lv_iconst (v := 1) hx hb dL_law_343 (by decide) ?_
  refine lv_iadd hx hb dL_law_344 ?_
  refine va_sld hx hb hX hbl hbA S.2.2.2.2.2 h1 dL_law_345 ?_
  refine lv_i2l hx hb dL_law_346 rfl ?_
  refine lv_bipush (v := 32) hx hb dL_law_347 (by decide) ?_
  refine lv_lshl hx hb dL_law_349 rfl ?_
  refine lv_aload_n hx hb dL_law_350 rfl (lv_at hl 0 rfl) ?_
  refine lv_iload_n hx hb dL_law_351 rfl (lv_at hl 3 rfl) ?_
  refine lv_iconst (v := 2) hx hb dL_law_352 (by decide) ?_
  refine lv_iadd hx hb dL_law_353 ?_
  refine va_sld hx hb hX hbl hbA S.2.2.2.2.2 h2 dL_law_354 ?_
  refine lv_i2l hx hb dL_law_355 rfl ?_
  refine lv_ldc2 (v := 4294967295) hx hb XB.2.2.2.1 (XB.2.2.2.2.1 _ k_1296) dL_law_356 ?_
  refine lv_land hx hb dL_law_359 ?_
  refine lv_lor hx hb dL_law_360 ?_
  refine lv_aload_n hx hb dL_law_361 rfl (lv_at hl 0 rfl) ?_
  refine lv_iload_n hx hb dL_law_362 rfl (lv_at hl 3 rfl) ?_
  refine lv_iconst (v := 3) hx hb dL_law_363 (by decide) ?_
  refine lv_iadd hx hb dL_law_364 ?_
  refine va_sld hx hb hX hbl hbA S.2.2.2.2.2 h3 dL_law_365 ?_
  refine l2_Bl (k := 2) (rest := []) XB S (mX11_feed l (((xs (x3 + 1).toNatClampNeg).toInt64 <<< ((32 : Int32).toInt64 &&& 63)) ||| ((xs (x3 + 2).toNatClampNeg).toInt64 &&& (4294967295 : Int64))) (xs (x3 + 3).toNatClampNeg) σ _ (E_feed (((xs (x3 + 1).toNatClampNeg).toInt64 <<< ((32 : Int32).toInt64 &&& 63)) ||| ((xs (x3 + 2).toNatClampNeg).toInt64 &&& (4294967295 : Int64))) (xs (x3 + 3).toNatClampNeg) hI)) k_413 k_410 k_411 k_412 k_1 ⟨rfl, by decide, by decide, by decide +kernel⟩ ⟨rfl, rfl⟩ ⟨Nat.le_of_ble_eq_true rfl, Nat.le_of_ble_eq_true rfl⟩ hc rfl hl.1 rfl (Nat.le_of_ble_eq_true rfl) dL_law_366 (fun rB uB H locs hw S => ?_)
  refine lv_aload_n hx hb dL_law_369 rfl (lv_at hl 2 rfl) ?_
  refine lv_aload_n hx hb dL_law_370 rfl (lv_at hl 0 rfl) ?_
  refine lv_iload_n hx hb dL_law_371 rfl (lv_at hl 3 rfl) ?_
  refine lv_iconst (v := 1) hx hb dL_law_372 (by decide) ?_
  refine lv_iadd hx hb dL_law_373 ?_
  refine va_sld hx hb hX hbl hbA S.2.2.2.2.2 h1 dL_law_374 ?_
  refine lv_i2l hx hb dL_law_375 rfl ?_
  refine lv_bipush (v := 32) hx hb dL_law_376 (by decide) ?_
  refine lv_lshl hx hb dL_law_378 rfl ?_
  refine lv_aload_n hx hb dL_law_379 rfl (lv_at hl 0 rfl) ?_
  refine lv_iload_n hx hb dL_law_380 rfl (lv_at hl 3 rfl) ?_
  refine lv_iconst (v := 2) hx hb dL_law_381 (by decide) ?_
  refine lv_iadd hx hb dL_law_382 ?_
  refine va_sld hx hb hX hbl hbA S.2.2.2.2.2 h2 dL_law_383 ?_
  refine lv_i2l hx hb dL_law_384 rfl ?_
  refine lv_ldc2 (v := 4294967295) hx hb XB.2.2.2.1 (XB.2.2.2.2.1 _ k_1296) dL_law_385 ?_
  refine lv_land hx hb dL_law_388 ?_
  refine lv_lor hx hb dL_law_389 ?_
  refine lv_aload_n hx hb dL_law_390 rfl (lv_at hl 0 rfl) ?_
  refine lv_iload_n hx hb dL_law_391 rfl (lv_at hl 3 rfl) ?_
  refine lv_iconst (v := 3) hx hb dL_law_392 (by decide) ?_
  refine lv_iadd hx hb dL_law_393 ?_
  refine va_sld hx hb hX hbl hbA S.2.2.2.2.2 h3 dL_law_394 ?_
  refine l2_Ml (k := 2) (rest := [.long rB]) XM S (mX12_feed l (((xs (x3 + 1).toNatClampNeg).toInt64 <<< ((32 : Int32).toInt64 &&& 63)) ||| ((xs (x3 + 2).toNatClampNeg).toInt64 &&& (4294967295 : Int64))) (xs (x3 + 3).toNatClampNeg) τ _ hw) k_1049 k_1046 k_1047 k_1048 k_14 ⟨rfl, by decide, by decide, by decide +kernel⟩ ⟨rfl, rfl⟩ ⟨Nat.le_of_ble_eq_true rfl, Nat.le_of_ble_eq_true rfl⟩ hc rfl hl.1 rfl (Nat.le_of_ble_eq_true rfl) dL_law_395 (fun rM uM H locs hw S => ?_)
  refine W.lcmp hx hb dL_law_398 ?_
  exact lv_if_eq (tgt := 1065) hx hb dL_law_399 (by decide) (fun _ => kk _ _ _ _ hw.2 S) (fun q => absurd ((lg_cmp_eq _ _).mpr hw.1) q)
theorem lc_stencils (l : Launch) (C : LwX D cy z p s m meth c b L xs) (hI : Inv σ τ) (S : St2 D cy aB aM (fun q : Nat => s.heap.size ≤ q) s σ τ H locs) (hl : lv_has ls 4 [(0, .ref b), (1, .ref (aB 0)), (2, .ref (aM 0)), (3, .int x3)]) (hv : vp_in (x3 + 1) L ∧ vp_in (x3 + 2) L ∧ vp_in (x3 + 3) L ∧ vp_in (x3 + 4) L ∧ vp_in (x3 + 5) L) (hc : cells ≤ room_1.cells ∧ slots ≤ room_1.slots)
    (kk : ∀ (σ' τ' : Sg) (H1 : Heap) (locs1 : List Loc), Inv σ' τ' → St2 D cy aB aM (fun q : Nat => s.heap.size ≤ q) s σ' τ' H1 locs1 → W p l e room_1 s m #[Value.ref b] below meth c H1 locs1 cells slots Q (F0 m 1065 ls [])) : W p l e room_1 s m #[Value.ref b] below meth c H locs cells slots Q (F0 m 404 ls []) := by
  obtain ⟨XB, XM, hX, hbl⟩ := C
  obtain ⟨h1, h2, h3, h4, h5⟩ := hv
  have hx := XB.1
  have hb := XB.2.1
  have hbA : ¬ (fun q : Nat => s.heap.size ≤ q) b := Nat.not_le.mpr hbl
  refine lv_aload_n hx hb dL_law_404 rfl (lv_at hl 1 rfl) ?_
  refine l2_Bl (k := 0) (rest := []) XB S (mX11_stencils l σ _ (E_stencils hI)) k_422 k_419 k_420 k_421 k_1 ⟨rfl, by decide, by decide, by decide +kernel⟩ ⟨rfl, rfl⟩ ⟨Nat.le_of_ble_eq_true rfl, Nat.le_of_ble_eq_true rfl⟩ hc rfl hl.1 rfl (Nat.le_of_ble_eq_true rfl) dL_law_405 (fun rB uB H locs hw S => ?_)
  refine lv_aload_n hx hb dL_law_408 rfl (lv_at hl 2 rfl) ?_
  refine l2_Ml (k := 0) (rest := [.long rB]) XM S (mX12_stencils l τ _ hw) k_1053 k_1050 k_1051 k_1052 k_14 ⟨rfl, by decide, by decide, by decide +kernel⟩ ⟨rfl, rfl⟩ ⟨Nat.le_of_ble_eq_true rfl, Nat.le_of_ble_eq_true rfl⟩ hc rfl hl.1 rfl (Nat.le_of_ble_eq_true rfl) dL_law_409 (fun rM uM H locs hw S => ?_)
  refine W.lcmp hx hb dL_law_412 ?_
  exact lv_if_eq (tgt := 1065) hx hb dL_law_413 (by decide) (fun _ => kk _ _ _ _ hw.2 S) (fun q => absurd ((lg_cmp_eq _ _).mpr hw.1) q)
theorem lc_fault (l : Launch) (C : LwX D cy z p s m meth c b L xs) (hI : Inv σ τ) (S : St2 D cy aB aM (fun q : Nat => s.heap.size ≤ q) s σ τ H locs) (hl : lv_has ls 4 [(0, .ref b), (1, .ref (aB 0)), (2, .ref (aM 0)), (3, .int x3)]) (hv : vp_in (x3 + 1) L ∧ vp_in (x3 + 2) L ∧ vp_in (x3 + 3) L ∧ vp_in (x3 + 4) L ∧ vp_in (x3 + 5) L) (hc : cells ≤ room_1.cells ∧ slots ≤ room_1.slots)
    (kk : ∀ (σ' τ' : Sg) (H1 : Heap) (locs1 : List Loc), Inv σ' τ' → St2 D cy aB aM (fun q : Nat => s.heap.size ≤ q) s σ' τ' H1 locs1 → W p l e room_1 s m #[Value.ref b] below meth c H1 locs1 cells slots Q (F0 m 1065 ls [])) : W p l e room_1 s m #[Value.ref b] below meth c H locs cells slots Q (F0 m 418 ls []) := by
  obtain ⟨XB, XM, hX, hbl⟩ := C
  obtain ⟨h1, h2, h3, h4, h5⟩ := hv
  have hx := XB.1
  have hb := XB.2.1
  have hbA : ¬ (fun q : Nat => s.heap.size ≤ q) b := Nat.not_le.mpr hbl
  refine lv_aload_n hx hb dL_law_418 rfl (lv_at hl 1 rfl) ?_
  refine l2_Bi (k := 0) (rest := []) XB S (mX11_fault l σ _ (E_fault hI)) k_549 k_546 k_547 k_548 k_1 ⟨rfl, by decide, by decide, by decide +kernel⟩ ⟨rfl, rfl⟩ ⟨Nat.le_of_ble_eq_true rfl, Nat.le_of_ble_eq_true rfl⟩ hc rfl hl.1 rfl (Nat.le_of_ble_eq_true rfl) dL_law_419 (fun rB uB H locs hw S => ?_)
  refine lv_aload_n hx hb dL_law_422 rfl (lv_at hl 2 rfl) ?_
  refine l2_Mi (k := 0) (rest := [.int rB]) XM S (mX12_fault l τ _ hw) k_1086 k_1083 k_1084 k_1085 k_14 ⟨rfl, by decide, by decide, by decide +kernel⟩ ⟨rfl, rfl⟩ ⟨Nat.le_of_ble_eq_true rfl, Nat.le_of_ble_eq_true rfl⟩ hc rfl hl.1 rfl (Nat.le_of_ble_eq_true rfl) dL_law_423 (fun rM uM H locs hw S => ?_)
  exact lv_icmp_eq (tgt := 1065) hx hb dL_law_426 (by decide) (fun _ => kk _ _ _ _ hw.2 S) (fun q => absurd hw.1 q)
theorem lc_bay (l : Launch) (C : LwX D cy z p s m meth c b L xs) (hI : Inv σ τ) (S : St2 D cy aB aM (fun q : Nat => s.heap.size ≤ q) s σ τ H locs) (hl : lv_has ls 4 [(0, .ref b), (1, .ref (aB 0)), (2, .ref (aM 0)), (3, .int x3)]) (hv : vp_in (x3 + 1) L ∧ vp_in (x3 + 2) L ∧ vp_in (x3 + 3) L ∧ vp_in (x3 + 4) L ∧ vp_in (x3 + 5) L) (hc : cells ≤ room_1.cells ∧ slots ≤ room_1.slots)
    (kk : ∀ (σ' τ' : Sg) (H1 : Heap) (locs1 : List Loc), Inv σ' τ' → St2 D cy aB aM (fun q : Nat => s.heap.size ≤ q) s σ' τ' H1 locs1 → W p l e room_1 s m #[Value.ref b] below meth c H1 locs1 cells slots Q (F0 m 1065 ls [])) : W p l e room_1 s m #[Value.ref b] below meth c H locs cells slots Q (F0 m 431 ls []) := by
  obtain ⟨XB, XM, hX, hbl⟩ := C
  obtain ⟨h1, h2, h3, h4, h5⟩ := hv
  have hx := XB.1
  have hb := XB.2.1
  have hbA : ¬ (fun q : Nat => s.heap.size ≤ q) b := Nat.not_le.mpr hbl
  refine lv_aload_n hx hb dL_law_431 rfl (lv_at hl 1 rfl) ?_
  refine lv_aload_n hx hb dL_law_432 rfl (lv_at hl 0 rfl) ?_
  refine lv_iload_n hx hb dL_law_433 rfl (lv_at hl 3 rfl) ?_
  refine lv_iconst (v := 1) hx hb dL_law_434 (by decide) ?_
  refine lv_iadd hx hb dL_law_435 ?_
  refine va_sld hx hb hX hbl hbA S.2.2.2.2.2 h1 dL_law_436 ?_
  refine l2_Bl (k := 1) (rest := []) XB S (mX11_bay l (xs (x3 + 1).toNatClampNeg) σ _ (E_bay (xs (x3 + 1).toNatClampNeg) hI)) k_553 k_550 k_551 k_552 k_1 ⟨rfl, by decide, by decide, by decide +kernel⟩ ⟨rfl, rfl⟩ ⟨Nat.le_of_ble_eq_true rfl, Nat.le_of_ble_eq_true rfl⟩ hc rfl hl.1 rfl (Nat.le_of_ble_eq_true rfl) dL_law_437 (fun rB uB H locs hw S => ?_)
  refine lv_aload_n hx hb dL_law_440 rfl (lv_at hl 2 rfl) ?_
  refine lv_aload_n hx hb dL_law_441 rfl (lv_at hl 0 rfl) ?_
  refine lv_iload_n hx hb dL_law_442 rfl (lv_at hl 3 rfl) ?_
  refine lv_iconst (v := 1) hx hb dL_law_443 (by decide) ?_
  refine lv_iadd hx hb dL_law_444 ?_
  refine va_sld hx hb hX hbl hbA S.2.2.2.2.2 h1 dL_law_445 ?_
  refine l2_Ml (k := 1) (rest := [.long rB]) XM S (mX12_bay l (xs (x3 + 1).toNatClampNeg) τ _ hw) k_1090 k_1087 k_1088 k_1089 k_14 ⟨rfl, by decide, by decide, by decide +kernel⟩ ⟨rfl, rfl⟩ ⟨Nat.le_of_ble_eq_true rfl, Nat.le_of_ble_eq_true rfl⟩ hc rfl hl.1 rfl (Nat.le_of_ble_eq_true rfl) dL_law_446 (fun rM uM H locs hw S => ?_)
  refine W.lcmp hx hb dL_law_449 ?_
  exact lv_if_eq (tgt := 1065) hx hb dL_law_450 (by decide) (fun _ => kk _ _ _ _ hw.2 S) (fun q => absurd ((lg_cmp_eq _ _).mpr hw.1) q)
theorem lc_start (l : Launch) (C : LwX D cy z p s m meth c b L xs) (hI : Inv σ τ) (S : St2 D cy aB aM (fun q : Nat => s.heap.size ≤ q) s σ τ H locs) (hl : lv_has ls 4 [(0, .ref b), (1, .ref (aB 0)), (2, .ref (aM 0)), (3, .int x3)]) (hv : vp_in (x3 + 1) L ∧ vp_in (x3 + 2) L ∧ vp_in (x3 + 3) L ∧ vp_in (x3 + 4) L ∧ vp_in (x3 + 5) L) (hc : cells ≤ room_1.cells ∧ slots ≤ room_1.slots)
    (kk : ∀ (σ' τ' : Sg) (H1 : Heap) (locs1 : List Loc), Inv σ' τ' → St2 D cy aB aM (fun q : Nat => s.heap.size ≤ q) s σ' τ' H1 locs1 → W p l e room_1 s m #[Value.ref b] below meth c H1 locs1 cells slots Q (F0 m 1065 ls [])) : W p l e room_1 s m #[Value.ref b] below meth c H locs cells slots Q (F0 m 455 ls []) := by
  obtain ⟨XB, XM, hX, hbl⟩ := C
  obtain ⟨h1, h2, h3, h4, h5⟩ := hv
  have hx := XB.1
  have hb := XB.2.1
  have hbA : ¬ (fun q : Nat => s.heap.size ≤ q) b := Nat.not_le.mpr hbl
  refine lv_aload_n hx hb dL_law_455 rfl (lv_at hl 1 rfl) ?_
  refine lv_aload_n hx hb dL_law_456 rfl (lv_at hl 0 rfl) ?_
  refine lv_iload_n hx hb dL_law_457 rfl (lv_at hl 3 rfl) ?_
  refine lv_iconst (v := 1) hx hb dL_law_458 (by decide) ?_
  refine lv_iadd hx hb dL_law_459 ?_
  refine va_sld hx hb hX hbl hbA S.2.2.2.2.2 h1 dL_law_460 ?_
  refine lv_aload_n hx hb dL_law_461 rfl (lv_at hl 0 rfl) ?_
  refine lv_iload_n hx hb dL_law_462 rfl (lv_at hl 3 rfl) ?_
  refine lv_iconst (v := 2) hx hb dL_law_463 (by decide) ?_
  refine lv_iadd hx hb dL_law_464 ?_
  refine va_sld hx hb hX hbl hbA S.2.2.2.2.2 h2 dL_law_465 ?_
  refine l2_Bl (k := 2) (rest := []) XB S (mX11_start l (xs (x3 + 1).toNatClampNeg) (xs (x3 + 2).toNatClampNeg) σ _ (E_start (xs (x3 + 1).toNatClampNeg) (xs (x3 + 2).toNatClampNeg) hI)) k_558 k_555 k_556 k_557 k_1 ⟨rfl, by decide, by decide, by decide +kernel⟩ ⟨rfl, rfl⟩ ⟨Nat.le_of_ble_eq_true rfl, Nat.le_of_ble_eq_true rfl⟩ hc rfl hl.1 rfl (Nat.le_of_ble_eq_true rfl) dL_law_466 (fun rB uB H locs hw S => ?_)
  refine lv_aload_n hx hb dL_law_469 rfl (lv_at hl 2 rfl) ?_
  refine lv_aload_n hx hb dL_law_470 rfl (lv_at hl 0 rfl) ?_
  refine lv_iload_n hx hb dL_law_471 rfl (lv_at hl 3 rfl) ?_
  refine lv_iconst (v := 1) hx hb dL_law_472 (by decide) ?_
  refine lv_iadd hx hb dL_law_473 ?_
  refine va_sld hx hb hX hbl hbA S.2.2.2.2.2 h1 dL_law_474 ?_
  refine lv_aload_n hx hb dL_law_475 rfl (lv_at hl 0 rfl) ?_
  refine lv_iload_n hx hb dL_law_476 rfl (lv_at hl 3 rfl) ?_
  refine lv_iconst (v := 2) hx hb dL_law_477 (by decide) ?_
  refine lv_iadd hx hb dL_law_478 ?_
  refine va_sld hx hb hX hbl hbA S.2.2.2.2.2 h2 dL_law_479 ?_
  refine l2_Ml (k := 2) (rest := [.long rB]) XM S (mX12_start l (xs (x3 + 1).toNatClampNeg) (xs (x3 + 2).toNatClampNeg) τ _ hw) k_1094 k_1091 k_1092 k_1093 k_14 ⟨rfl, by decide, by decide, by decide +kernel⟩ ⟨rfl, rfl⟩ ⟨Nat.le_of_ble_eq_true rfl, Nat.le_of_ble_eq_true rfl⟩ hc rfl hl.1 rfl (Nat.le_of_ble_eq_true rfl) dL_law_480 (fun rM uM H locs hw S => ?_)
  refine W.lcmp hx hb dL_law_483 ?_
  exact lv_if_eq (tgt := 1065) hx hb dL_law_484 (by decide) (fun _ => kk _ _ _ _ hw.2 S) (fun q => absurd ((lg_cmp_eq _ _).mpr hw.1) q)
theorem lc_strip (l : Launch) (C : LwX D cy z p s m meth c b L xs) (hI : Inv σ τ) (S : St2 D cy aB aM (fun q : Nat => s.heap.size ≤ q) s σ τ H locs) (hl : lv_has ls 4 [(0, .ref b), (1, .ref (aB 0)), (2, .ref (aM 0)), (3, .int x3)]) (hv : vp_in (x3 + 1) L ∧ vp_in (x3 + 2) L ∧ vp_in (x3 + 3) L ∧ vp_in (x3 + 4) L ∧ vp_in (x3 + 5) L) (hc : cells ≤ room_1.cells ∧ slots ≤ room_1.slots)
    (kk : ∀ (σ' τ' : Sg) (H1 : Heap) (locs1 : List Loc), Inv σ' τ' → St2 D cy aB aM (fun q : Nat => s.heap.size ≤ q) s σ' τ' H1 locs1 → W p l e room_1 s m #[Value.ref b] below meth c H1 locs1 cells slots Q (F0 m 1065 ls [])) : W p l e room_1 s m #[Value.ref b] below meth c H locs cells slots Q (F0 m 489 ls []) := by
  obtain ⟨XB, XM, hX, hbl⟩ := C
  obtain ⟨h1, h2, h3, h4, h5⟩ := hv
  have hx := XB.1
  have hb := XB.2.1
  have hbA : ¬ (fun q : Nat => s.heap.size ≤ q) b := Nat.not_le.mpr hbl
  refine lv_aload_n hx hb dL_law_489 rfl (lv_at hl 1 rfl) ?_
  refine lv_aload_n hx hb dL_law_490 rfl (lv_at hl 0 rfl) ?_
  refine lv_iload_n hx hb dL_law_491 rfl (lv_at hl 3 rfl) ?_
  refine lv_iconst (v := 1) hx hb dL_law_492 (by decide) ?_
  refine lv_iadd hx hb dL_law_493 ?_
  refine va_sld hx hb hX hbl hbA S.2.2.2.2.2 h1 dL_law_494 ?_
  refine lv_aload_n hx hb dL_law_495 rfl (lv_at hl 0 rfl) ?_
  refine lv_iload_n hx hb dL_law_496 rfl (lv_at hl 3 rfl) ?_
  refine lv_iconst (v := 2) hx hb dL_law_497 (by decide) ?_
  refine lv_iadd hx hb dL_law_498 ?_
  refine va_sld hx hb hX hbl hbA S.2.2.2.2.2 h2 dL_law_499 ?_
  refine l2_Bl (k := 2) (rest := []) XB S (mX11_strip l (xs (x3 + 1).toNatClampNeg) (xs (x3 + 2).toNatClampNeg) σ _ (E_strip (xs (x3 + 1).toNatClampNeg) (xs (x3 + 2).toNatClampNeg) hI)) k_562 k_559 k_560 k_561 k_1 ⟨rfl, by decide, by decide, by decide +kernel⟩ ⟨rfl, rfl⟩ ⟨Nat.le_of_ble_eq_true rfl, Nat.le_of_ble_eq_true rfl⟩ hc rfl hl.1 rfl (Nat.le_of_ble_eq_true rfl) dL_law_500 (fun rB uB H locs hw S => ?_)
  refine lv_aload_n hx hb dL_law_503 rfl (lv_at hl 2 rfl) ?_
  refine lv_aload_n hx hb dL_law_504 rfl (lv_at hl 0 rfl) ?_
  refine lv_iload_n hx hb dL_law_505 rfl (lv_at hl 3 rfl) ?_
  refine lv_iconst (v := 1) hx hb dL_law_506 (by decide) ?_
  refine lv_iadd hx hb dL_law_507 ?_
  refine va_sld hx hb hX hbl hbA S.2.2.2.2.2 h1 dL_law_508 ?_
  refine lv_aload_n hx hb dL_law_509 rfl (lv_at hl 0 rfl) ?_
  refine lv_iload_n hx hb dL_law_510 rfl (lv_at hl 3 rfl) ?_
  refine lv_iconst (v := 2) hx hb dL_law_511 (by decide) ?_
  refine lv_iadd hx hb dL_law_512 ?_
  refine va_sld hx hb hX hbl hbA S.2.2.2.2.2 h2 dL_law_513 ?_
  refine l2_Ml (k := 2) (rest := [.long rB]) XM S (mX12_strip l (xs (x3 + 1).toNatClampNeg) (xs (x3 + 2).toNatClampNeg) τ _ hw) k_1098 k_1095 k_1096 k_1097 k_14 ⟨rfl, by decide, by decide, by decide +kernel⟩ ⟨rfl, rfl⟩ ⟨Nat.le_of_ble_eq_true rfl, Nat.le_of_ble_eq_true rfl⟩ hc rfl hl.1 rfl (Nat.le_of_ble_eq_true rfl) dL_law_514 (fun rM uM H locs hw S => ?_)
  refine W.lcmp hx hb dL_law_517 ?_
  exact lv_if_eq (tgt := 1065) hx hb dL_law_518 (by decide) (fun _ => kk _ _ _ _ hw.2 S) (fun q => absurd ((lg_cmp_eq _ _).mpr hw.1) q)
theorem lc_edge (l : Launch) (C : LwX D cy z p s m meth c b L xs) (hI : Inv σ τ) (S : St2 D cy aB aM (fun q : Nat => s.heap.size ≤ q) s σ τ H locs) (hl : lv_has ls 4 [(0, .ref b), (1, .ref (aB 0)), (2, .ref (aM 0)), (3, .int x3)]) (hv : vp_in (x3 + 1) L ∧ vp_in (x3 + 2) L ∧ vp_in (x3 + 3) L ∧ vp_in (x3 + 4) L ∧ vp_in (x3 + 5) L) (hc : cells ≤ room_1.cells ∧ slots ≤ room_1.slots)
    (kk : ∀ (σ' τ' : Sg) (H1 : Heap) (locs1 : List Loc), Inv σ' τ' → St2 D cy aB aM (fun q : Nat => s.heap.size ≤ q) s σ' τ' H1 locs1 → W p l e room_1 s m #[Value.ref b] below meth c H1 locs1 cells slots Q (F0 m 1065 ls [])) : W p l e room_1 s m #[Value.ref b] below meth c H locs cells slots Q (F0 m 523 ls []) := by
  obtain ⟨XB, XM, hX, hbl⟩ := C
  obtain ⟨h1, h2, h3, h4, h5⟩ := hv
  have hx := XB.1
  have hb := XB.2.1
  have hbA : ¬ (fun q : Nat => s.heap.size ≤ q) b := Nat.not_le.mpr hbl
  refine lv_aload_n hx hb dL_law_523 rfl (lv_at hl 1 rfl) ?_
  refine lv_aload_n hx hb dL_law_524 rfl (lv_at hl 0 rfl) ?_
  refine lv_iload_n hx hb dL_law_525 rfl (lv_at hl 3 rfl) ?_
  refine lv_iconst (v := 1) hx hb dL_law_526 (by decide) ?_
  refine lv_iadd hx hb dL_law_527 ?_
  refine va_sld hx hb hX hbl hbA S.2.2.2.2.2 h1 dL_law_528 ?_
  refine lv_aload_n hx hb dL_law_529 rfl (lv_at hl 0 rfl) ?_
  refine lv_iload_n hx hb dL_law_530 rfl (lv_at hl 3 rfl) ?_
  refine lv_iconst (v := 2) hx hb dL_law_531 (by decide) ?_
  refine lv_iadd hx hb dL_law_532 ?_
  refine va_sld hx hb hX hbl hbA S.2.2.2.2.2 h2 dL_law_533 ?_
  refine l2_Bl (k := 2) (rest := []) XB S (mX11_edge l (xs (x3 + 1).toNatClampNeg) (xs (x3 + 2).toNatClampNeg) σ _ (E_edge (xs (x3 + 1).toNatClampNeg) (xs (x3 + 2).toNatClampNeg) hI)) k_571 k_568 k_569 k_570 k_1 ⟨rfl, by decide, by decide, by decide +kernel⟩ ⟨rfl, rfl⟩ ⟨Nat.le_of_ble_eq_true rfl, Nat.le_of_ble_eq_true rfl⟩ hc rfl hl.1 rfl (Nat.le_of_ble_eq_true rfl) dL_law_534 (fun rB uB H locs hw S => ?_)
  refine lv_aload_n hx hb dL_law_537 rfl (lv_at hl 2 rfl) ?_
  refine lv_aload_n hx hb dL_law_538 rfl (lv_at hl 0 rfl) ?_
  refine lv_iload_n hx hb dL_law_539 rfl (lv_at hl 3 rfl) ?_
  refine lv_iconst (v := 1) hx hb dL_law_540 (by decide) ?_
  refine lv_iadd hx hb dL_law_541 ?_
  refine va_sld hx hb hX hbl hbA S.2.2.2.2.2 h1 dL_law_542 ?_
  refine lv_aload_n hx hb dL_law_543 rfl (lv_at hl 0 rfl) ?_
  refine lv_iload_n hx hb dL_law_544 rfl (lv_at hl 3 rfl) ?_
  refine lv_iconst (v := 2) hx hb dL_law_545 (by decide) ?_
  refine lv_iadd hx hb dL_law_546 ?_
  refine va_sld hx hb hX hbl hbA S.2.2.2.2.2 h2 dL_law_547 ?_
  refine l2_Ml (k := 2) (rest := [.long rB]) XM S (mX12_edge l (xs (x3 + 1).toNatClampNeg) (xs (x3 + 2).toNatClampNeg) τ _ hw) k_1106 k_1103 k_1104 k_1105 k_14 ⟨rfl, by decide, by decide, by decide +kernel⟩ ⟨rfl, rfl⟩ ⟨Nat.le_of_ble_eq_true rfl, Nat.le_of_ble_eq_true rfl⟩ hc rfl hl.1 rfl (Nat.le_of_ble_eq_true rfl) dL_law_548 (fun rM uM H locs hw S => ?_)
  refine W.lcmp hx hb dL_law_551 ?_
  exact lv_if_eq (tgt := 1065) hx hb dL_law_552 (by decide) (fun _ => kk _ _ _ _ hw.2 S) (fun q => absurd ((lg_cmp_eq _ _).mpr hw.1) q)
theorem lc_cell (l : Launch) (C : LwX D cy z p s m meth c b L xs) (hI : Inv σ τ) (S : St2 D cy aB aM (fun q : Nat => s.heap.size ≤ q) s σ τ H locs) (hl : lv_has ls 4 [(0, .ref b), (1, .ref (aB 0)), (2, .ref (aM 0)), (3, .int x3)]) (hv : vp_in (x3 + 1) L ∧ vp_in (x3 + 2) L ∧ vp_in (x3 + 3) L ∧ vp_in (x3 + 4) L ∧ vp_in (x3 + 5) L) (hc : cells ≤ room_1.cells ∧ slots ≤ room_1.slots)
    (kk : ∀ (σ' τ' : Sg) (H1 : Heap) (locs1 : List Loc), Inv σ' τ' → St2 D cy aB aM (fun q : Nat => s.heap.size ≤ q) s σ' τ' H1 locs1 → W p l e room_1 s m #[Value.ref b] below meth c H1 locs1 cells slots Q (F0 m 1065 ls [])) : W p l e room_1 s m #[Value.ref b] below meth c H locs cells slots Q (F0 m 557 ls []) := by
  obtain ⟨XB, XM, hX, hbl⟩ := C
  obtain ⟨h1, h2, h3, h4, h5⟩ := hv
  have hx := XB.1
  have hb := XB.2.1
  have hbA : ¬ (fun q : Nat => s.heap.size ≤ q) b := Nat.not_le.mpr hbl
  refine lv_aload_n hx hb dL_law_557 rfl (lv_at hl 1 rfl) ?_
  refine lv_aload_n hx hb dL_law_558 rfl (lv_at hl 0 rfl) ?_
  refine lv_iload_n hx hb dL_law_559 rfl (lv_at hl 3 rfl) ?_
  refine lv_iconst (v := 1) hx hb dL_law_560 (by decide) ?_
  refine lv_iadd hx hb dL_law_561 ?_
  refine va_sld hx hb hX hbl hbA S.2.2.2.2.2 h1 dL_law_562 ?_
  refine lv_aload_n hx hb dL_law_563 rfl (lv_at hl 0 rfl) ?_
  refine lv_iload_n hx hb dL_law_564 rfl (lv_at hl 3 rfl) ?_
  refine lv_iconst (v := 2) hx hb dL_law_565 (by decide) ?_
  refine lv_iadd hx hb dL_law_566 ?_
  refine va_sld hx hb hX hbl hbA S.2.2.2.2.2 h2 dL_law_567 ?_
  refine l2_Bl (k := 2) (rest := []) XB S (mX11_cell l (xs (x3 + 1).toNatClampNeg) (xs (x3 + 2).toNatClampNeg) σ _ (E_cell (xs (x3 + 1).toNatClampNeg) (xs (x3 + 2).toNatClampNeg) hI)) k_575 k_572 k_573 k_574 k_1 ⟨rfl, by decide, by decide, by decide +kernel⟩ ⟨rfl, rfl⟩ ⟨Nat.le_of_ble_eq_true rfl, Nat.le_of_ble_eq_true rfl⟩ hc rfl hl.1 rfl (Nat.le_of_ble_eq_true rfl) dL_law_568 (fun rB uB H locs hw S => ?_)
  refine lv_aload_n hx hb dL_law_571 rfl (lv_at hl 2 rfl) ?_
  refine lv_aload_n hx hb dL_law_572 rfl (lv_at hl 0 rfl) ?_
  refine lv_iload_n hx hb dL_law_573 rfl (lv_at hl 3 rfl) ?_
  refine lv_iconst (v := 1) hx hb dL_law_574 (by decide) ?_
  refine lv_iadd hx hb dL_law_575 ?_
  refine va_sld hx hb hX hbl hbA S.2.2.2.2.2 h1 dL_law_576 ?_
  refine lv_aload_n hx hb dL_law_577 rfl (lv_at hl 0 rfl) ?_
  refine lv_iload_n hx hb dL_law_578 rfl (lv_at hl 3 rfl) ?_
  refine lv_iconst (v := 2) hx hb dL_law_579 (by decide) ?_
  refine lv_iadd hx hb dL_law_580 ?_
  refine va_sld hx hb hX hbl hbA S.2.2.2.2.2 h2 dL_law_581 ?_
  refine l2_Ml (k := 2) (rest := [.long rB]) XM S (mX12_cell l (xs (x3 + 1).toNatClampNeg) (xs (x3 + 2).toNatClampNeg) τ _ hw) k_1110 k_1107 k_1108 k_1109 k_14 ⟨rfl, by decide, by decide, by decide +kernel⟩ ⟨rfl, rfl⟩ ⟨Nat.le_of_ble_eq_true rfl, Nat.le_of_ble_eq_true rfl⟩ hc rfl hl.1 rfl (Nat.le_of_ble_eq_true rfl) dL_law_582 (fun rM uM H locs hw S => ?_)
  refine W.lcmp hx hb dL_law_585 ?_
  exact lv_if_eq (tgt := 1065) hx hb dL_law_586 (by decide) (fun _ => kk _ _ _ _ hw.2 S) (fun q => absurd ((lg_cmp_eq _ _).mpr hw.1) q)
theorem lc_gauge (l : Launch) (C : LwX D cy z p s m meth c b L xs) (hI : Inv σ τ) (S : St2 D cy aB aM (fun q : Nat => s.heap.size ≤ q) s σ τ H locs) (hl : lv_has ls 4 [(0, .ref b), (1, .ref (aB 0)), (2, .ref (aM 0)), (3, .int x3)]) (hv : vp_in (x3 + 1) L ∧ vp_in (x3 + 2) L ∧ vp_in (x3 + 3) L ∧ vp_in (x3 + 4) L ∧ vp_in (x3 + 5) L) (hc : cells ≤ room_1.cells ∧ slots ≤ room_1.slots)
    (kk : ∀ (σ' τ' : Sg) (H1 : Heap) (locs1 : List Loc), Inv σ' τ' → St2 D cy aB aM (fun q : Nat => s.heap.size ≤ q) s σ' τ' H1 locs1 → W p l e room_1 s m #[Value.ref b] below meth c H1 locs1 cells slots Q (F0 m 1065 ls [])) : W p l e room_1 s m #[Value.ref b] below meth c H locs cells slots Q (F0 m 591 ls []) := by
  obtain ⟨XB, XM, hX, hbl⟩ := C
  obtain ⟨h1, h2, h3, h4, h5⟩ := hv
  have hx := XB.1
  have hb := XB.2.1
  have hbA : ¬ (fun q : Nat => s.heap.size ≤ q) b := Nat.not_le.mpr hbl
  refine lv_aload_n hx hb dL_law_591 rfl (lv_at hl 1 rfl) ?_
  refine lv_aload_n hx hb dL_law_592 rfl (lv_at hl 0 rfl) ?_
  refine lv_iload_n hx hb dL_law_593 rfl (lv_at hl 3 rfl) ?_
  refine lv_iconst (v := 1) hx hb dL_law_594 (by decide) ?_
  refine lv_iadd hx hb dL_law_595 ?_
  refine va_sld hx hb hX hbl hbA S.2.2.2.2.2 h1 dL_law_596 ?_
  refine lv_aload_n hx hb dL_law_597 rfl (lv_at hl 0 rfl) ?_
  refine lv_iload_n hx hb dL_law_598 rfl (lv_at hl 3 rfl) ?_
  refine lv_iconst (v := 2) hx hb dL_law_599 (by decide) ?_
  refine lv_iadd hx hb dL_law_600 ?_
  refine va_sld hx hb hX hbl hbA S.2.2.2.2.2 h2 dL_law_601 ?_
  refine lv_aload_n hx hb dL_law_602 rfl (lv_at hl 0 rfl) ?_
  refine lv_iload_n hx hb dL_law_603 rfl (lv_at hl 3 rfl) ?_
  refine lv_iconst (v := 3) hx hb dL_law_604 (by decide) ?_
  refine lv_iadd hx hb dL_law_605 ?_
  refine va_sld hx hb hX hbl hbA S.2.2.2.2.2 h3 dL_law_606 ?_
  refine lv_aload_n hx hb dL_law_607 rfl (lv_at hl 0 rfl) ?_
  refine lv_iload_n hx hb dL_law_608 rfl (lv_at hl 3 rfl) ?_
  refine lv_iconst (v := 4) hx hb dL_law_609 (by decide) ?_
  refine lv_iadd hx hb dL_law_610 ?_
  refine va_sld hx hb hX hbl hbA S.2.2.2.2.2 h4 dL_law_611 ?_
  refine l2_Bl (k := 4) (rest := []) XB S (mX11_gauge l (xs (x3 + 1).toNatClampNeg) (xs (x3 + 2).toNatClampNeg) (xs (x3 + 3).toNatClampNeg) (xs (x3 + 4).toNatClampNeg) σ _ (E_gauge (xs (x3 + 1).toNatClampNeg) (xs (x3 + 2).toNatClampNeg) (xs (x3 + 3).toNatClampNeg) (xs (x3 + 4).toNatClampNeg) hI)) k_604 k_601 k_602 k_603 k_1 ⟨rfl, by decide, by decide, by decide +kernel⟩ ⟨rfl, rfl⟩ ⟨Nat.le_of_ble_eq_true rfl, Nat.le_of_ble_eq_true rfl⟩ hc rfl hl.1 rfl (Nat.le_of_ble_eq_true rfl) dL_law_612 (fun rB uB H locs hw S => ?_)
  refine lv_aload_n hx hb dL_law_615 rfl (lv_at hl 2 rfl) ?_
  refine lv_aload_n hx hb dL_law_616 rfl (lv_at hl 0 rfl) ?_
  refine lv_iload_n hx hb dL_law_617 rfl (lv_at hl 3 rfl) ?_
  refine lv_iconst (v := 1) hx hb dL_law_618 (by decide) ?_
  refine lv_iadd hx hb dL_law_619 ?_
  refine va_sld hx hb hX hbl hbA S.2.2.2.2.2 h1 dL_law_620 ?_
  refine lv_aload_n hx hb dL_law_621 rfl (lv_at hl 0 rfl) ?_
  refine lv_iload_n hx hb dL_law_622 rfl (lv_at hl 3 rfl) ?_
  refine lv_iconst (v := 2) hx hb dL_law_623 (by decide) ?_
  refine lv_iadd hx hb dL_law_624 ?_
  refine va_sld hx hb hX hbl hbA S.2.2.2.2.2 h2 dL_law_625 ?_
  refine lv_aload_n hx hb dL_law_626 rfl (lv_at hl 0 rfl) ?_
  refine lv_iload_n hx hb dL_law_627 rfl (lv_at hl 3 rfl) ?_
  refine lv_iconst (v := 3) hx hb dL_law_628 (by decide) ?_
  refine lv_iadd hx hb dL_law_629 ?_
  refine va_sld hx hb hX hbl hbA S.2.2.2.2.2 h3 dL_law_630 ?_
  refine lv_aload_n hx hb dL_law_631 rfl (lv_at hl 0 rfl) ?_
  refine lv_iload_n hx hb dL_law_632 rfl (lv_at hl 3 rfl) ?_
  refine lv_iconst (v := 4) hx hb dL_law_633 (by decide) ?_
  refine lv_iadd hx hb dL_law_634 ?_
  refine va_sld hx hb hX hbl hbA S.2.2.2.2.2 h4 dL_law_635 ?_
  refine l2_Ml (k := 4) (rest := [.long rB]) XM S (mX12_gauge l (xs (x3 + 1).toNatClampNeg) (xs (x3 + 2).toNatClampNeg) (xs (x3 + 3).toNatClampNeg) (xs (x3 + 4).toNatClampNeg) τ _ hw) k_1154 k_1151 k_1152 k_1153 k_14 ⟨rfl, by decide, by decide, by decide +kernel⟩ ⟨rfl, rfl⟩ ⟨Nat.le_of_ble_eq_true rfl, Nat.le_of_ble_eq_true rfl⟩ hc rfl hl.1 rfl (Nat.le_of_ble_eq_true rfl) dL_law_636 (fun rM uM H locs hw S => ?_)
  refine W.lcmp hx hb dL_law_639 ?_
  exact lv_if_eq (tgt := 1065) hx hb dL_law_640 (by decide) (fun _ => kk _ _ _ _ hw.2 S) (fun q => absurd ((lg_cmp_eq _ _).mpr hw.1) q)
theorem lc_out (l : Launch) (C : LwX D cy z p s m meth c b L xs) (hI : Inv σ τ) (S : St2 D cy aB aM (fun q : Nat => s.heap.size ≤ q) s σ τ H locs) (hl : lv_has ls 4 [(0, .ref b), (1, .ref (aB 0)), (2, .ref (aM 0)), (3, .int x3)]) (hv : vp_in (x3 + 1) L ∧ vp_in (x3 + 2) L ∧ vp_in (x3 + 3) L ∧ vp_in (x3 + 4) L ∧ vp_in (x3 + 5) L) (hc : cells ≤ room_1.cells ∧ slots ≤ room_1.slots)
    (kk : ∀ (σ' τ' : Sg) (H1 : Heap) (locs1 : List Loc), Inv σ' τ' → St2 D cy aB aM (fun q : Nat => s.heap.size ≤ q) s σ' τ' H1 locs1 → W p l e room_1 s m #[Value.ref b] below meth c H1 locs1 cells slots Q (F0 m 1065 ls [])) : W p l e room_1 s m #[Value.ref b] below meth c H locs cells slots Q (F0 m 645 ls []) := by
  obtain ⟨XB, XM, hX, hbl⟩ := C
  obtain ⟨h1, h2, h3, h4, h5⟩ := hv
  have hx := XB.1
  have hb := XB.2.1
  have hbA : ¬ (fun q : Nat => s.heap.size ≤ q) b := Nat.not_le.mpr hbl
  refine lv_aload_n hx hb dL_law_645 rfl (lv_at hl 1 rfl) ?_
  refine lv_aload_n hx hb dL_law_646 rfl (lv_at hl 0 rfl) ?_
  refine lv_iload_n hx hb dL_law_647 rfl (lv_at hl 3 rfl) ?_
  refine lv_iconst (v := 1) hx hb dL_law_648 (by decide) ?_
  refine lv_iadd hx hb dL_law_649 ?_
  refine va_sld hx hb hX hbl hbA S.2.2.2.2.2 h1 dL_law_650 ?_
  refine lv_aload_n hx hb dL_law_651 rfl (lv_at hl 0 rfl) ?_
  refine lv_iload_n hx hb dL_law_652 rfl (lv_at hl 3 rfl) ?_
  refine lv_iconst (v := 2) hx hb dL_law_653 (by decide) ?_
  refine lv_iadd hx hb dL_law_654 ?_
  refine va_sld hx hb hX hbl hbA S.2.2.2.2.2 h2 dL_law_655 ?_
  refine l2_Bl (k := 2) (rest := []) XB S (mX11_out l (xs (x3 + 1).toNatClampNeg) (xs (x3 + 2).toNatClampNeg) σ _ (E_out (xs (x3 + 1).toNatClampNeg) (xs (x3 + 2).toNatClampNeg) hI)) k_612 k_609 k_610 k_611 k_1 ⟨rfl, by decide, by decide, by decide +kernel⟩ ⟨rfl, rfl⟩ ⟨Nat.le_of_ble_eq_true rfl, Nat.le_of_ble_eq_true rfl⟩ hc rfl hl.1 rfl (Nat.le_of_ble_eq_true rfl) dL_law_656 (fun rB uB H locs hw S => ?_)
  refine lv_aload_n hx hb dL_law_659 rfl (lv_at hl 2 rfl) ?_
  refine lv_aload_n hx hb dL_law_660 rfl (lv_at hl 0 rfl) ?_
  refine lv_iload_n hx hb dL_law_661 rfl (lv_at hl 3 rfl) ?_
  refine lv_iconst (v := 1) hx hb dL_law_662 (by decide) ?_
  refine lv_iadd hx hb dL_law_663 ?_
  refine va_sld hx hb hX hbl hbA S.2.2.2.2.2 h1 dL_law_664 ?_
  refine lv_aload_n hx hb dL_law_665 rfl (lv_at hl 0 rfl) ?_
  refine lv_iload_n hx hb dL_law_666 rfl (lv_at hl 3 rfl) ?_
  refine lv_iconst (v := 2) hx hb dL_law_667 (by decide) ?_
  refine lv_iadd hx hb dL_law_668 ?_
  refine va_sld hx hb hX hbl hbA S.2.2.2.2.2 h2 dL_law_669 ?_
  refine l2_Ml (k := 2) (rest := [.long rB]) XM S (mX12_out l (xs (x3 + 1).toNatClampNeg) (xs (x3 + 2).toNatClampNeg) τ _ hw) k_1158 k_1155 k_1156 k_1157 k_14 ⟨rfl, by decide, by decide, by decide +kernel⟩ ⟨rfl, rfl⟩ ⟨Nat.le_of_ble_eq_true rfl, Nat.le_of_ble_eq_true rfl⟩ hc rfl hl.1 rfl (Nat.le_of_ble_eq_true rfl) dL_law_670 (fun rM uM H locs hw S => ?_)
  refine W.lcmp hx hb dL_law_673 ?_
  exact lv_if_eq (tgt := 1065) hx hb dL_law_674 (by decide) (fun _ => kk _ _ _ _ hw.2 S) (fun q => absurd ((lg_cmp_eq _ _).mpr hw.1) q)
theorem lc_wish (l : Launch) (C : LwX D cy z p s m meth c b L xs) (hI : Inv σ τ) (S : St2 D cy aB aM (fun q : Nat => s.heap.size ≤ q) s σ τ H locs) (hl : lv_has ls 4 [(0, .ref b), (1, .ref (aB 0)), (2, .ref (aM 0)), (3, .int x3)]) (hv : vp_in (x3 + 1) L ∧ vp_in (x3 + 2) L ∧ vp_in (x3 + 3) L ∧ vp_in (x3 + 4) L ∧ vp_in (x3 + 5) L) (hc : cells ≤ room_1.cells ∧ slots ≤ room_1.slots)
    (kk : ∀ (σ' τ' : Sg) (H1 : Heap) (locs1 : List Loc), Inv σ' τ' → St2 D cy aB aM (fun q : Nat => s.heap.size ≤ q) s σ' τ' H1 locs1 → W p l e room_1 s m #[Value.ref b] below meth c H1 locs1 cells slots Q (F0 m 1065 ls [])) : W p l e room_1 s m #[Value.ref b] below meth c H locs cells slots Q (F0 m 679 ls []) := by
  obtain ⟨XB, XM, hX, hbl⟩ := C
  obtain ⟨h1, h2, h3, h4, h5⟩ := hv
  have hx := XB.1
  have hb := XB.2.1
  have hbA : ¬ (fun q : Nat => s.heap.size ≤ q) b := Nat.not_le.mpr hbl
  refine lv_aload_n hx hb dL_law_679 rfl (lv_at hl 1 rfl) ?_
  refine lv_aload_n hx hb dL_law_680 rfl (lv_at hl 0 rfl) ?_
  refine lv_iload_n hx hb dL_law_681 rfl (lv_at hl 3 rfl) ?_
  refine lv_iconst (v := 1) hx hb dL_law_682 (by decide) ?_
  refine lv_iadd hx hb dL_law_683 ?_
  refine va_sld hx hb hX hbl hbA S.2.2.2.2.2 h1 dL_law_684 ?_
  refine l2_Bl (k := 1) (rest := []) XB S (mX11_wish l (xs (x3 + 1).toNatClampNeg) σ _ (E_wish (xs (x3 + 1).toNatClampNeg) hI)) k_616 k_613 k_614 k_615 k_1 ⟨rfl, by decide, by decide, by decide +kernel⟩ ⟨rfl, rfl⟩ ⟨Nat.le_of_ble_eq_true rfl, Nat.le_of_ble_eq_true rfl⟩ hc rfl hl.1 rfl (Nat.le_of_ble_eq_true rfl) dL_law_685 (fun rB uB H locs hw S => ?_)
  refine lv_aload_n hx hb dL_law_688 rfl (lv_at hl 2 rfl) ?_
  refine lv_aload_n hx hb dL_law_689 rfl (lv_at hl 0 rfl) ?_
  refine lv_iload_n hx hb dL_law_690 rfl (lv_at hl 3 rfl) ?_
  refine lv_iconst (v := 1) hx hb dL_law_691 (by decide) ?_
  refine lv_iadd hx hb dL_law_692 ?_
  refine va_sld hx hb hX hbl hbA S.2.2.2.2.2 h1 dL_law_693 ?_
  refine l2_Ml (k := 1) (rest := [.long rB]) XM S (mX12_wish l (xs (x3 + 1).toNatClampNeg) τ _ hw) k_1162 k_1159 k_1160 k_1161 k_14 ⟨rfl, by decide, by decide, by decide +kernel⟩ ⟨rfl, rfl⟩ ⟨Nat.le_of_ble_eq_true rfl, Nat.le_of_ble_eq_true rfl⟩ hc rfl hl.1 rfl (Nat.le_of_ble_eq_true rfl) dL_law_694 (fun rM uM H locs hw S => ?_)
  refine W.lcmp hx hb dL_law_697 ?_
  exact lv_if_eq (tgt := 1065) hx hb dL_law_698 (by decide) (fun _ => kk _ _ _ _ hw.2 S) (fun q => absurd ((lg_cmp_eq _ _).mpr hw.1) q)
theorem lc_slope (l : Launch) (C : LwX D cy z p s m meth c b L xs) (hI : Inv σ τ) (S : St2 D cy aB aM (fun q : Nat => s.heap.size ≤ q) s σ τ H locs) (hl : lv_has ls 4 [(0, .ref b), (1, .ref (aB 0)), (2, .ref (aM 0)), (3, .int x3)]) (hv : vp_in (x3 + 1) L ∧ vp_in (x3 + 2) L ∧ vp_in (x3 + 3) L ∧ vp_in (x3 + 4) L ∧ vp_in (x3 + 5) L) (hc : cells ≤ room_1.cells ∧ slots ≤ room_1.slots)
    (kk : ∀ (σ' τ' : Sg) (H1 : Heap) (locs1 : List Loc), Inv σ' τ' → St2 D cy aB aM (fun q : Nat => s.heap.size ≤ q) s σ' τ' H1 locs1 → W p l e room_1 s m #[Value.ref b] below meth c H1 locs1 cells slots Q (F0 m 1065 ls [])) : W p l e room_1 s m #[Value.ref b] below meth c H locs cells slots Q (F0 m 703 ls []) := by
  obtain ⟨XB, XM, hX, hbl⟩ := C
  obtain ⟨h1, h2, h3, h4, h5⟩ := hv
  have hx := XB.1
  have hb := XB.2.1
  have hbA : ¬ (fun q : Nat => s.heap.size ≤ q) b := Nat.not_le.mpr hbl
  refine lv_aload_n hx hb dL_law_703 rfl (lv_at hl 1 rfl) ?_
  refine lv_aload_n hx hb dL_law_704 rfl (lv_at hl 0 rfl) ?_
  refine lv_iload_n hx hb dL_law_705 rfl (lv_at hl 3 rfl) ?_
  refine lv_iconst (v := 1) hx hb dL_law_706 (by decide) ?_
  refine lv_iadd hx hb dL_law_707 ?_
  refine va_sld hx hb hX hbl hbA S.2.2.2.2.2 h1 dL_law_708 ?_
  refine lv_aload_n hx hb dL_law_709 rfl (lv_at hl 0 rfl) ?_
  refine lv_iload_n hx hb dL_law_710 rfl (lv_at hl 3 rfl) ?_
  refine lv_iconst (v := 2) hx hb dL_law_711 (by decide) ?_
  refine lv_iadd hx hb dL_law_712 ?_
  refine va_sld hx hb hX hbl hbA S.2.2.2.2.2 h2 dL_law_713 ?_
  refine l2_Bl (k := 2) (rest := []) XB S (mX11_slope l (xs (x3 + 1).toNatClampNeg) (xs (x3 + 2).toNatClampNeg) σ _ (E_slope (xs (x3 + 1).toNatClampNeg) (xs (x3 + 2).toNatClampNeg) hI)) k_660 k_657 k_658 k_659 k_1 ⟨rfl, by decide, by decide, by decide +kernel⟩ ⟨rfl, rfl⟩ ⟨Nat.le_of_ble_eq_true rfl, Nat.le_of_ble_eq_true rfl⟩ hc rfl hl.1 rfl (Nat.le_of_ble_eq_true rfl) dL_law_714 (fun rB uB H locs hw S => ?_)
  refine lv_aload_n hx hb dL_law_717 rfl (lv_at hl 2 rfl) ?_
  refine lv_aload_n hx hb dL_law_718 rfl (lv_at hl 0 rfl) ?_
  refine lv_iload_n hx hb dL_law_719 rfl (lv_at hl 3 rfl) ?_
  refine lv_iconst (v := 1) hx hb dL_law_720 (by decide) ?_
  refine lv_iadd hx hb dL_law_721 ?_
  refine va_sld hx hb hX hbl hbA S.2.2.2.2.2 h1 dL_law_722 ?_
  refine lv_aload_n hx hb dL_law_723 rfl (lv_at hl 0 rfl) ?_
  refine lv_iload_n hx hb dL_law_724 rfl (lv_at hl 3 rfl) ?_
  refine lv_iconst (v := 2) hx hb dL_law_725 (by decide) ?_
  refine lv_iadd hx hb dL_law_726 ?_
  refine va_sld hx hb hX hbl hbA S.2.2.2.2.2 h2 dL_law_727 ?_
  refine l2_Ml (k := 2) (rest := [.long rB]) XM S (mX12_slope l (xs (x3 + 1).toNatClampNeg) (xs (x3 + 2).toNatClampNeg) τ _ hw) k_1178 k_1175 k_1176 k_1177 k_14 ⟨rfl, by decide, by decide, by decide +kernel⟩ ⟨rfl, rfl⟩ ⟨Nat.le_of_ble_eq_true rfl, Nat.le_of_ble_eq_true rfl⟩ hc rfl hl.1 rfl (Nat.le_of_ble_eq_true rfl) dL_law_728 (fun rM uM H locs hw S => ?_)
  refine W.lcmp hx hb dL_law_731 ?_
  exact lv_if_eq (tgt := 1065) hx hb dL_law_732 (by decide) (fun _ => kk _ _ _ _ hw.2 S) (fun q => absurd ((lg_cmp_eq _ _).mpr hw.1) q)
theorem lc_push (l : Launch) (C : LwX D cy z p s m meth c b L xs) (hI : Inv σ τ) (S : St2 D cy aB aM (fun q : Nat => s.heap.size ≤ q) s σ τ H locs) (hl : lv_has ls 4 [(0, .ref b), (1, .ref (aB 0)), (2, .ref (aM 0)), (3, .int x3)]) (hv : vp_in (x3 + 1) L ∧ vp_in (x3 + 2) L ∧ vp_in (x3 + 3) L ∧ vp_in (x3 + 4) L ∧ vp_in (x3 + 5) L) (hc : cells ≤ room_1.cells ∧ slots ≤ room_1.slots)
    (kk : ∀ (σ' τ' : Sg) (H1 : Heap) (locs1 : List Loc), Inv σ' τ' → St2 D cy aB aM (fun q : Nat => s.heap.size ≤ q) s σ' τ' H1 locs1 → W p l e room_1 s m #[Value.ref b] below meth c H1 locs1 cells slots Q (F0 m 1065 ls [])) : W p l e room_1 s m #[Value.ref b] below meth c H locs cells slots Q (F0 m 737 ls []) := by
  obtain ⟨XB, XM, hX, hbl⟩ := C
  obtain ⟨h1, h2, h3, h4, h5⟩ := hv
  have hx := XB.1
  have hb := XB.2.1
  have hbA : ¬ (fun q : Nat => s.heap.size ≤ q) b := Nat.not_le.mpr hbl
  refine lv_aload_n hx hb dL_law_737 rfl (lv_at hl 1 rfl) ?_
  refine lv_aload_n hx hb dL_law_738 rfl (lv_at hl 0 rfl) ?_
  refine lv_iload_n hx hb dL_law_739 rfl (lv_at hl 3 rfl) ?_
  refine lv_iconst (v := 1) hx hb dL_law_740 (by decide) ?_
  refine lv_iadd hx hb dL_law_741 ?_
  refine va_sld hx hb hX hbl hbA S.2.2.2.2.2 h1 dL_law_742 ?_
  refine lv_aload_n hx hb dL_law_743 rfl (lv_at hl 0 rfl) ?_
  refine lv_iload_n hx hb dL_law_744 rfl (lv_at hl 3 rfl) ?_
  refine lv_iconst (v := 2) hx hb dL_law_745 (by decide) ?_
  refine lv_iadd hx hb dL_law_746 ?_
  refine va_sld hx hb hX hbl hbA S.2.2.2.2.2 h2 dL_law_747 ?_
  refine l2_Bl (k := 2) (rest := []) XB S (mX11_push l (xs (x3 + 1).toNatClampNeg) (xs (x3 + 2).toNatClampNeg) σ _ (E_push (xs (x3 + 1).toNatClampNeg) (xs (x3 + 2).toNatClampNeg) hI)) k_693 k_690 k_691 k_692 k_1 ⟨rfl, by decide, by decide, by decide +kernel⟩ ⟨rfl, rfl⟩ ⟨Nat.le_of_ble_eq_true rfl, Nat.le_of_ble_eq_true rfl⟩ hc rfl hl.1 rfl (Nat.le_of_ble_eq_true rfl) dL_law_748 (fun rB uB H locs hw S => ?_)
  refine lv_aload_n hx hb dL_law_751 rfl (lv_at hl 2 rfl) ?_
  refine lv_aload_n hx hb dL_law_752 rfl (lv_at hl 0 rfl) ?_
  refine lv_iload_n hx hb dL_law_753 rfl (lv_at hl 3 rfl) ?_
  refine lv_iconst (v := 1) hx hb dL_law_754 (by decide) ?_
  refine lv_iadd hx hb dL_law_755 ?_
  refine va_sld hx hb hX hbl hbA S.2.2.2.2.2 h1 dL_law_756 ?_
  refine lv_aload_n hx hb dL_law_757 rfl (lv_at hl 0 rfl) ?_
  refine lv_iload_n hx hb dL_law_758 rfl (lv_at hl 3 rfl) ?_
  refine lv_iconst (v := 2) hx hb dL_law_759 (by decide) ?_
  refine lv_iadd hx hb dL_law_760 ?_
  refine va_sld hx hb hX hbl hbA S.2.2.2.2.2 h2 dL_law_761 ?_
  refine l2_Ml (k := 2) (rest := [.long rB]) XM S (mX12_push l (xs (x3 + 1).toNatClampNeg) (xs (x3 + 2).toNatClampNeg) τ _ hw) k_1198 k_1195 k_1196 k_1197 k_14 ⟨rfl, by decide, by decide, by decide +kernel⟩ ⟨rfl, rfl⟩ ⟨Nat.le_of_ble_eq_true rfl, Nat.le_of_ble_eq_true rfl⟩ hc rfl hl.1 rfl (Nat.le_of_ble_eq_true rfl) dL_law_762 (fun rM uM H locs hw S => ?_)
  refine W.lcmp hx hb dL_law_765 ?_
  exact lv_if_eq (tgt := 1065) hx hb dL_law_766 (by decide) (fun _ => kk _ _ _ _ hw.2 S) (fun q => absurd ((lg_cmp_eq _ _).mpr hw.1) q)
theorem lc_again (l : Launch) (C : LwX D cy z p s m meth c b L xs) (hI : Inv σ τ) (S : St2 D cy aB aM (fun q : Nat => s.heap.size ≤ q) s σ τ H locs) (hl : lv_has ls 4 [(0, .ref b), (1, .ref (aB 0)), (2, .ref (aM 0)), (3, .int x3)]) (hv : vp_in (x3 + 1) L ∧ vp_in (x3 + 2) L ∧ vp_in (x3 + 3) L ∧ vp_in (x3 + 4) L ∧ vp_in (x3 + 5) L) (hc : cells ≤ room_1.cells ∧ slots ≤ room_1.slots)
    (kk : ∀ (σ' τ' : Sg) (H1 : Heap) (locs1 : List Loc), Inv σ' τ' → St2 D cy aB aM (fun q : Nat => s.heap.size ≤ q) s σ' τ' H1 locs1 → W p l e room_1 s m #[Value.ref b] below meth c H1 locs1 cells slots Q (F0 m 1065 ls [])) : W p l e room_1 s m #[Value.ref b] below meth c H locs cells slots Q (F0 m 771 ls []) := by
  obtain ⟨XB, XM, hX, hbl⟩ := C
  obtain ⟨h1, h2, h3, h4, h5⟩ := hv
  have hx := XB.1
  have hb := XB.2.1
  have hbA : ¬ (fun q : Nat => s.heap.size ≤ q) b := Nat.not_le.mpr hbl
  refine lv_aload_n hx hb dL_law_771 rfl (lv_at hl 1 rfl) ?_
  refine lv_aload_n hx hb dL_law_772 rfl (lv_at hl 0 rfl) ?_
  refine lv_iload_n hx hb dL_law_773 rfl (lv_at hl 3 rfl) ?_
  refine lv_iconst (v := 1) hx hb dL_law_774 (by decide) ?_
  refine lv_iadd hx hb dL_law_775 ?_
  refine va_sld hx hb hX hbl hbA S.2.2.2.2.2 h1 dL_law_776 ?_
  refine lv_aload_n hx hb dL_law_777 rfl (lv_at hl 0 rfl) ?_
  refine lv_iload_n hx hb dL_law_778 rfl (lv_at hl 3 rfl) ?_
  refine lv_iconst (v := 2) hx hb dL_law_779 (by decide) ?_
  refine lv_iadd hx hb dL_law_780 ?_
  refine va_sld hx hb hX hbl hbA S.2.2.2.2.2 h2 dL_law_781 ?_
  refine lv_aload_n hx hb dL_law_782 rfl (lv_at hl 0 rfl) ?_
  refine lv_iload_n hx hb dL_law_783 rfl (lv_at hl 3 rfl) ?_
  refine lv_iconst (v := 3) hx hb dL_law_784 (by decide) ?_
  refine lv_iadd hx hb dL_law_785 ?_
  refine va_sld hx hb hX hbl hbA S.2.2.2.2.2 h3 dL_law_786 ?_
  refine l2_Bl (k := 3) (rest := []) XB S (mX11_again l (xs (x3 + 1).toNatClampNeg) (xs (x3 + 2).toNatClampNeg) (xs (x3 + 3).toNatClampNeg) σ _ (E_again (xs (x3 + 1).toNatClampNeg) (xs (x3 + 2).toNatClampNeg) (xs (x3 + 3).toNatClampNeg) hI)) k_697 k_694 k_695 k_696 k_1 ⟨rfl, by decide, by decide, by decide +kernel⟩ ⟨rfl, rfl⟩ ⟨Nat.le_of_ble_eq_true rfl, Nat.le_of_ble_eq_true rfl⟩ hc rfl hl.1 rfl (Nat.le_of_ble_eq_true rfl) dL_law_787 (fun rB uB H locs hw S => ?_)
  refine lv_aload_n hx hb dL_law_790 rfl (lv_at hl 2 rfl) ?_
  refine lv_aload_n hx hb dL_law_791 rfl (lv_at hl 0 rfl) ?_
  refine lv_iload_n hx hb dL_law_792 rfl (lv_at hl 3 rfl) ?_
  refine lv_iconst (v := 1) hx hb dL_law_793 (by decide) ?_
  refine lv_iadd hx hb dL_law_794 ?_
  refine va_sld hx hb hX hbl hbA S.2.2.2.2.2 h1 dL_law_795 ?_
  refine lv_aload_n hx hb dL_law_796 rfl (lv_at hl 0 rfl) ?_
  refine lv_iload_n hx hb dL_law_797 rfl (lv_at hl 3 rfl) ?_
  refine lv_iconst (v := 2) hx hb dL_law_798 (by decide) ?_
  refine lv_iadd hx hb dL_law_799 ?_
  refine va_sld hx hb hX hbl hbA S.2.2.2.2.2 h2 dL_law_800 ?_
  refine lv_aload_n hx hb dL_law_801 rfl (lv_at hl 0 rfl) ?_
  refine lv_iload_n hx hb dL_law_802 rfl (lv_at hl 3 rfl) ?_
  refine lv_iconst (v := 3) hx hb dL_law_803 (by decide) ?_
  refine lv_iadd hx hb dL_law_804 ?_
  refine va_sld hx hb hX hbl hbA S.2.2.2.2.2 h3 dL_law_805 ?_
  refine l2_Ml (k := 3) (rest := [.long rB]) XM S (mX12_again l (xs (x3 + 1).toNatClampNeg) (xs (x3 + 2).toNatClampNeg) (xs (x3 + 3).toNatClampNeg) τ _ hw) k_1202 k_1199 k_1200 k_1201 k_14 ⟨rfl, by decide, by decide, by decide +kernel⟩ ⟨rfl, rfl⟩ ⟨Nat.le_of_ble_eq_true rfl, Nat.le_of_ble_eq_true rfl⟩ hc rfl hl.1 rfl (Nat.le_of_ble_eq_true rfl) dL_law_806 (fun rM uM H locs hw S => ?_)
  refine W.lcmp hx hb dL_law_809 ?_
  exact lv_if_eq (tgt := 1065) hx hb dL_law_810 (by decide) (fun _ => kk _ _ _ _ hw.2 S) (fun q => absurd ((lg_cmp_eq _ _).mpr hw.1) q)
theorem lc_move (l : Launch) (C : LwX D cy z p s m meth c b L xs) (hI : Inv σ τ) (S : St2 D cy aB aM (fun q : Nat => s.heap.size ≤ q) s σ τ H locs) (hl : lv_has ls 4 [(0, .ref b), (1, .ref (aB 0)), (2, .ref (aM 0)), (3, .int x3)]) (hv : vp_in (x3 + 1) L ∧ vp_in (x3 + 2) L ∧ vp_in (x3 + 3) L ∧ vp_in (x3 + 4) L ∧ vp_in (x3 + 5) L) (hc : cells ≤ room_1.cells ∧ slots ≤ room_1.slots)
    (kk : ∀ (σ' τ' : Sg) (H1 : Heap) (locs1 : List Loc), Inv σ' τ' → St2 D cy aB aM (fun q : Nat => s.heap.size ≤ q) s σ' τ' H1 locs1 → W p l e room_1 s m #[Value.ref b] below meth c H1 locs1 cells slots Q (F0 m 1065 ls [])) : W p l e room_1 s m #[Value.ref b] below meth c H locs cells slots Q (F0 m 815 ls []) := by
  obtain ⟨XB, XM, hX, hbl⟩ := C
  obtain ⟨h1, h2, h3, h4, h5⟩ := hv
  have hx := XB.1
  have hb := XB.2.1
  have hbA : ¬ (fun q : Nat => s.heap.size ≤ q) b := Nat.not_le.mpr hbl
  refine lv_aload_n hx hb dL_law_815 rfl (lv_at hl 1 rfl) ?_
  refine l2_Bi (k := 0) (rest := []) XB S (mX11_move l σ _ (E_move hI)) k_715 k_712 k_713 k_714 k_1 ⟨rfl, by decide, by decide, by decide +kernel⟩ ⟨rfl, rfl⟩ ⟨Nat.le_of_ble_eq_true rfl, Nat.le_of_ble_eq_true rfl⟩ hc rfl hl.1 rfl (Nat.le_of_ble_eq_true rfl) dL_law_816 (fun rB uB H locs hw S => ?_)
  refine lv_aload_n hx hb dL_law_819 rfl (lv_at hl 2 rfl) ?_
  refine l2_Mi (k := 0) (rest := [.int rB]) XM S (mX12_move l τ _ hw) k_1211 k_1208 k_1209 k_1210 k_14 ⟨rfl, by decide, by decide, by decide +kernel⟩ ⟨rfl, rfl⟩ ⟨Nat.le_of_ble_eq_true rfl, Nat.le_of_ble_eq_true rfl⟩ hc rfl hl.1 rfl (Nat.le_of_ble_eq_true rfl) dL_law_820 (fun rM uM H locs hw S => ?_)
  exact lv_icmp_eq (tgt := 1065) hx hb dL_law_823 (by decide) (fun _ => kk _ _ _ _ hw.2 S) (fun q => absurd hw.1 q)
theorem lc_rest (l : Launch) (C : LwX D cy z p s m meth c b L xs) (hI : Inv σ τ) (S : St2 D cy aB aM (fun q : Nat => s.heap.size ≤ q) s σ τ H locs) (hl : lv_has ls 4 [(0, .ref b), (1, .ref (aB 0)), (2, .ref (aM 0)), (3, .int x3)]) (hv : vp_in (x3 + 1) L ∧ vp_in (x3 + 2) L ∧ vp_in (x3 + 3) L ∧ vp_in (x3 + 4) L ∧ vp_in (x3 + 5) L) (hc : cells ≤ room_1.cells ∧ slots ≤ room_1.slots)
    (kk : ∀ (σ' τ' : Sg) (H1 : Heap) (locs1 : List Loc), Inv σ' τ' → St2 D cy aB aM (fun q : Nat => s.heap.size ≤ q) s σ' τ' H1 locs1 → W p l e room_1 s m #[Value.ref b] below meth c H1 locs1 cells slots Q (F0 m 1065 ls [])) : W p l e room_1 s m #[Value.ref b] below meth c H locs cells slots Q (F0 m 828 ls []) := by
  obtain ⟨XB, XM, hX, hbl⟩ := C
  obtain ⟨h1, h2, h3, h4, h5⟩ := hv
  have hx := XB.1
  have hb := XB.2.1
  have hbA : ¬ (fun q : Nat => s.heap.size ≤ q) b := Nat.not_le.mpr hbl
  refine lv_aload_n hx hb dL_law_828 rfl (lv_at hl 1 rfl) ?_
  refine l2_Bi (k := 0) (rest := []) XB S (mX11_rest l σ _ (E_rest hI)) k_732 k_729 k_730 k_731 k_1 ⟨rfl, by decide, by decide, by decide +kernel⟩ ⟨rfl, rfl⟩ ⟨Nat.le_of_ble_eq_true rfl, Nat.le_of_ble_eq_true rfl⟩ hc rfl hl.1 rfl (Nat.le_of_ble_eq_true rfl) dL_law_829 (fun rB uB H locs hw S => ?_)
  refine lv_aload_n hx hb dL_law_832 rfl (lv_at hl 2 rfl) ?_
  refine l2_Mi (k := 0) (rest := [.int rB]) XM S (mX12_rest l τ _ hw) k_1222 k_1219 k_1220 k_1221 k_14 ⟨rfl, by decide, by decide, by decide +kernel⟩ ⟨rfl, rfl⟩ ⟨Nat.le_of_ble_eq_true rfl, Nat.le_of_ble_eq_true rfl⟩ hc rfl hl.1 rfl (Nat.le_of_ble_eq_true rfl) dL_law_833 (fun rM uM H locs hw S => ?_)
  exact lv_icmp_eq (tgt := 1065) hx hb dL_law_836 (by decide) (fun _ => kk _ _ _ _ hw.2 S) (fun q => absurd hw.1 q)
theorem lc_keep (l : Launch) (C : LwX D cy z p s m meth c b L xs) (hI : Inv σ τ) (S : St2 D cy aB aM (fun q : Nat => s.heap.size ≤ q) s σ τ H locs) (hl : lv_has ls 4 [(0, .ref b), (1, .ref (aB 0)), (2, .ref (aM 0)), (3, .int x3)]) (hv : vp_in (x3 + 1) L ∧ vp_in (x3 + 2) L ∧ vp_in (x3 + 3) L ∧ vp_in (x3 + 4) L ∧ vp_in (x3 + 5) L) (hc : cells ≤ room_1.cells ∧ slots ≤ room_1.slots)
    (kk : ∀ (σ' τ' : Sg) (H1 : Heap) (locs1 : List Loc), Inv σ' τ' → St2 D cy aB aM (fun q : Nat => s.heap.size ≤ q) s σ' τ' H1 locs1 → W p l e room_1 s m #[Value.ref b] below meth c H1 locs1 cells slots Q (F0 m 1065 ls [])) : W p l e room_1 s m #[Value.ref b] below meth c H locs cells slots Q (F0 m 841 ls []) := by
  obtain ⟨XB, XM, hX, hbl⟩ := C
  obtain ⟨h1, h2, h3, h4, h5⟩ := hv
  have hx := XB.1
  have hb := XB.2.1
  have hbA : ¬ (fun q : Nat => s.heap.size ≤ q) b := Nat.not_le.mpr hbl
  refine lv_aload_n hx hb dL_law_841 rfl (lv_at hl 1 rfl) ?_
  refine l2_Bl (k := 0) (rest := []) XB S (mX11_keep l σ _ (E_keep hI)) k_736 k_733 k_734 k_735 k_1 ⟨rfl, by decide, by decide, by decide +kernel⟩ ⟨rfl, rfl⟩ ⟨Nat.le_of_ble_eq_true rfl, Nat.le_of_ble_eq_true rfl⟩ hc rfl hl.1 rfl (Nat.le_of_ble_eq_true rfl) dL_law_842 (fun rB uB H locs hw S => ?_)
  refine lv_aload_n hx hb dL_law_845 rfl (lv_at hl 2 rfl) ?_
  refine l2_Ml (k := 0) (rest := [.long rB]) XM S (mX12_keep l τ _ hw) k_1226 k_1223 k_1224 k_1225 k_14 ⟨rfl, by decide, by decide, by decide +kernel⟩ ⟨rfl, rfl⟩ ⟨Nat.le_of_ble_eq_true rfl, Nat.le_of_ble_eq_true rfl⟩ hc rfl hl.1 rfl (Nat.le_of_ble_eq_true rfl) dL_law_846 (fun rM uM H locs hw S => ?_)
  refine W.lcmp hx hb dL_law_849 ?_
  exact lv_if_eq (tgt := 1065) hx hb dL_law_850 (by decide) (fun _ => kk _ _ _ _ hw.2 S) (fun q => absurd ((lg_cmp_eq _ _).mpr hw.1) q)
theorem lc_lay (l : Launch) (C : LwX D cy z p s m meth c b L xs) (hI : Inv σ τ) (S : St2 D cy aB aM (fun q : Nat => s.heap.size ≤ q) s σ τ H locs) (hl : lv_has ls 4 [(0, .ref b), (1, .ref (aB 0)), (2, .ref (aM 0)), (3, .int x3)]) (hv : vp_in (x3 + 1) L ∧ vp_in (x3 + 2) L ∧ vp_in (x3 + 3) L ∧ vp_in (x3 + 4) L ∧ vp_in (x3 + 5) L) (hc : cells ≤ room_1.cells ∧ slots ≤ room_1.slots)
    (kk : ∀ (σ' τ' : Sg) (H1 : Heap) (locs1 : List Loc), Inv σ' τ' → St2 D cy aB aM (fun q : Nat => s.heap.size ≤ q) s σ' τ' H1 locs1 → W p l e room_1 s m #[Value.ref b] below meth c H1 locs1 cells slots Q (F0 m 1065 ls [])) : W p l e room_1 s m #[Value.ref b] below meth c H locs cells slots Q (F0 m 855 ls []) := by
  obtain ⟨XB, XM, hX, hbl⟩ := C
  obtain ⟨h1, h2, h3, h4, h5⟩ := hv
  have hx := XB.1
  have hb := XB.2.1
  have hbA : ¬ (fun q : Nat => s.heap.size ≤ q) b := Nat.not_le.mpr hbl
  refine lv_aload_n hx hb dL_law_855 rfl (lv_at hl 1 rfl) ?_
  refine lv_aload_n hx hb dL_law_856 rfl (lv_at hl 0 rfl) ?_
  refine lv_iload_n hx hb dL_law_857 rfl (lv_at hl 3 rfl) ?_
  refine lv_iconst (v := 1) hx hb dL_law_858 (by decide) ?_
  refine lv_iadd hx hb dL_law_859 ?_
  refine va_sld hx hb hX hbl hbA S.2.2.2.2.2 h1 dL_law_860 ?_
  refine l2_Bl (k := 1) (rest := []) XB S (mX11_lay l (xs (x3 + 1).toNatClampNeg) σ _ (E_lay (xs (x3 + 1).toNatClampNeg) hI)) k_745 k_742 k_743 k_744 k_1 ⟨rfl, by decide, by decide, by decide +kernel⟩ ⟨rfl, rfl⟩ ⟨Nat.le_of_ble_eq_true rfl, Nat.le_of_ble_eq_true rfl⟩ hc rfl hl.1 rfl (Nat.le_of_ble_eq_true rfl) dL_law_861 (fun rB uB H locs hw S => ?_)
  refine lv_aload_n hx hb dL_law_864 rfl (lv_at hl 2 rfl) ?_
  refine lv_aload_n hx hb dL_law_865 rfl (lv_at hl 0 rfl) ?_
  refine lv_iload_n hx hb dL_law_866 rfl (lv_at hl 3 rfl) ?_
  refine lv_iconst (v := 1) hx hb dL_law_867 (by decide) ?_
  refine lv_iadd hx hb dL_law_868 ?_
  refine va_sld hx hb hX hbl hbA S.2.2.2.2.2 h1 dL_law_869 ?_
  refine l2_Ml (k := 1) (rest := [.long rB]) XM S (mX12_lay l (xs (x3 + 1).toNatClampNeg) τ _ hw) k_1230 k_1227 k_1228 k_1229 k_14 ⟨rfl, by decide, by decide, by decide +kernel⟩ ⟨rfl, rfl⟩ ⟨Nat.le_of_ble_eq_true rfl, Nat.le_of_ble_eq_true rfl⟩ hc rfl hl.1 rfl (Nat.le_of_ble_eq_true rfl) dL_law_870 (fun rM uM H locs hw S => ?_)
  refine W.lcmp hx hb dL_law_873 ?_
  exact lv_if_eq (tgt := 1065) hx hb dL_law_874 (by decide) (fun _ => kk _ _ _ _ hw.2 S) (fun q => absurd ((lg_cmp_eq _ _).mpr hw.1) q)
theorem lc_apart (l : Launch) (C : LwX D cy z p s m meth c b L xs) (hI : Inv σ τ) (S : St2 D cy aB aM (fun q : Nat => s.heap.size ≤ q) s σ τ H locs) (hl : lv_has ls 4 [(0, .ref b), (1, .ref (aB 0)), (2, .ref (aM 0)), (3, .int x3)]) (hv : vp_in (x3 + 1) L ∧ vp_in (x3 + 2) L ∧ vp_in (x3 + 3) L ∧ vp_in (x3 + 4) L ∧ vp_in (x3 + 5) L) (hc : cells ≤ room_1.cells ∧ slots ≤ room_1.slots)
    (kk : ∀ (σ' τ' : Sg) (H1 : Heap) (locs1 : List Loc), Inv σ' τ' → St2 D cy aB aM (fun q : Nat => s.heap.size ≤ q) s σ' τ' H1 locs1 → W p l e room_1 s m #[Value.ref b] below meth c H1 locs1 cells slots Q (F0 m 1065 ls [])) : W p l e room_1 s m #[Value.ref b] below meth c H locs cells slots Q (F0 m 879 ls []) := by
  obtain ⟨XB, XM, hX, hbl⟩ := C
  obtain ⟨h1, h2, h3, h4, h5⟩ := hv
  have hx := XB.1
  have hb := XB.2.1
  have hbA : ¬ (fun q : Nat => s.heap.size ≤ q) b := Nat.not_le.mpr hbl
  refine lv_aload_n hx hb dL_law_879 rfl (lv_at hl 1 rfl) ?_
  refine lv_aload_n hx hb dL_law_880 rfl (lv_at hl 0 rfl) ?_
  refine lv_iload_n hx hb dL_law_881 rfl (lv_at hl 3 rfl) ?_
  refine lv_iconst (v := 1) hx hb dL_law_882 (by decide) ?_
  refine lv_iadd hx hb dL_law_883 ?_
  refine va_sld hx hb hX hbl hbA S.2.2.2.2.2 h1 dL_law_884 ?_
  refine lv_aload_n hx hb dL_law_885 rfl (lv_at hl 0 rfl) ?_
  refine lv_iload_n hx hb dL_law_886 rfl (lv_at hl 3 rfl) ?_
  refine lv_iconst (v := 2) hx hb dL_law_887 (by decide) ?_
  refine lv_iadd hx hb dL_law_888 ?_
  refine va_sld hx hb hX hbl hbA S.2.2.2.2.2 h2 dL_law_889 ?_
  refine l2_Bl (k := 2) (rest := []) XB S (mX11_apart l (xs (x3 + 1).toNatClampNeg) (xs (x3 + 2).toNatClampNeg) σ _ (E_apart (xs (x3 + 1).toNatClampNeg) (xs (x3 + 2).toNatClampNeg) hI)) k_755 k_752 k_753 k_754 k_1 ⟨rfl, by decide, by decide, by decide +kernel⟩ ⟨rfl, rfl⟩ ⟨Nat.le_of_ble_eq_true rfl, Nat.le_of_ble_eq_true rfl⟩ hc rfl hl.1 rfl (Nat.le_of_ble_eq_true rfl) dL_law_890 (fun rB uB H locs hw S => ?_)
  refine lv_aload_n hx hb dL_law_893 rfl (lv_at hl 2 rfl) ?_
  refine lv_aload_n hx hb dL_law_894 rfl (lv_at hl 0 rfl) ?_
  refine lv_iload_n hx hb dL_law_895 rfl (lv_at hl 3 rfl) ?_
  refine lv_iconst (v := 1) hx hb dL_law_896 (by decide) ?_
  refine lv_iadd hx hb dL_law_897 ?_
  refine va_sld hx hb hX hbl hbA S.2.2.2.2.2 h1 dL_law_898 ?_
  refine lv_aload_n hx hb dL_law_899 rfl (lv_at hl 0 rfl) ?_
  refine lv_iload_n hx hb dL_law_900 rfl (lv_at hl 3 rfl) ?_
  refine lv_iconst (v := 2) hx hb dL_law_901 (by decide) ?_
  refine lv_iadd hx hb dL_law_902 ?_
  refine va_sld hx hb hX hbl hbA S.2.2.2.2.2 h2 dL_law_903 ?_
  refine l2_Ml (k := 2) (rest := [.long rB]) XM S (mX12_apart l (xs (x3 + 1).toNatClampNeg) (xs (x3 + 2).toNatClampNeg) τ _ hw) k_1242 k_1239 k_1240 k_1241 k_14 ⟨rfl, by decide, by decide, by decide +kernel⟩ ⟨rfl, rfl⟩ ⟨Nat.le_of_ble_eq_true rfl, Nat.le_of_ble_eq_true rfl⟩ hc rfl hl.1 rfl (Nat.le_of_ble_eq_true rfl) dL_law_904 (fun rM uM H locs hw S => ?_)
  refine W.lcmp hx hb dL_law_907 ?_
  exact lv_if_eq (tgt := 1065) hx hb dL_law_908 (by decide) (fun _ => kk _ _ _ _ hw.2 S) (fun q => absurd ((lg_cmp_eq _ _).mpr hw.1) q)
theorem lc_kind (l : Launch) (C : LwX D cy z p s m meth c b L xs) (hI : Inv σ τ) (S : St2 D cy aB aM (fun q : Nat => s.heap.size ≤ q) s σ τ H locs) (hl : lv_has ls 4 [(0, .ref b), (1, .ref (aB 0)), (2, .ref (aM 0)), (3, .int x3)]) (hv : vp_in (x3 + 1) L ∧ vp_in (x3 + 2) L ∧ vp_in (x3 + 3) L ∧ vp_in (x3 + 4) L ∧ vp_in (x3 + 5) L) (hc : cells ≤ room_1.cells ∧ slots ≤ room_1.slots)
    (kk : ∀ (σ' τ' : Sg) (H1 : Heap) (locs1 : List Loc), Inv σ' τ' → St2 D cy aB aM (fun q : Nat => s.heap.size ≤ q) s σ' τ' H1 locs1 → W p l e room_1 s m #[Value.ref b] below meth c H1 locs1 cells slots Q (F0 m 1065 ls [])) : W p l e room_1 s m #[Value.ref b] below meth c H locs cells slots Q (F0 m 913 ls []) := by
  obtain ⟨XB, XM, hX, hbl⟩ := C
  obtain ⟨h1, h2, h3, h4, h5⟩ := hv
  have hx := XB.1
  have hb := XB.2.1
  have hbA : ¬ (fun q : Nat => s.heap.size ≤ q) b := Nat.not_le.mpr hbl
  refine lv_aload_n hx hb dL_law_913 rfl (lv_at hl 1 rfl) ?_
  refine lv_aload_n hx hb dL_law_914 rfl (lv_at hl 0 rfl) ?_
  refine lv_iload_n hx hb dL_law_915 rfl (lv_at hl 3 rfl) ?_
  refine lv_iconst (v := 1) hx hb dL_law_916 (by decide) ?_
  refine lv_iadd hx hb dL_law_917 ?_
  refine va_sld hx hb hX hbl hbA S.2.2.2.2.2 h1 dL_law_918 ?_
  refine l2_Bl (k := 1) (rest := []) XB S (mX11_kind l (xs (x3 + 1).toNatClampNeg) σ _ (E_kind (xs (x3 + 1).toNatClampNeg) hI)) k_766 k_763 k_764 k_765 k_1 ⟨rfl, by decide, by decide, by decide +kernel⟩ ⟨rfl, rfl⟩ ⟨Nat.le_of_ble_eq_true rfl, Nat.le_of_ble_eq_true rfl⟩ hc rfl hl.1 rfl (Nat.le_of_ble_eq_true rfl) dL_law_919 (fun rB uB H locs hw S => ?_)
  refine lv_aload_n hx hb dL_law_922 rfl (lv_at hl 2 rfl) ?_
  refine lv_aload_n hx hb dL_law_923 rfl (lv_at hl 0 rfl) ?_
  refine lv_iload_n hx hb dL_law_924 rfl (lv_at hl 3 rfl) ?_
  refine lv_iconst (v := 1) hx hb dL_law_925 (by decide) ?_
  refine lv_iadd hx hb dL_law_926 ?_
  refine va_sld hx hb hX hbl hbA S.2.2.2.2.2 h1 dL_law_927 ?_
  refine l2_Ml (k := 1) (rest := [.long rB]) XM S (mX12_kind l (xs (x3 + 1).toNatClampNeg) τ _ hw) k_1246 k_1243 k_1244 k_1245 k_14 ⟨rfl, by decide, by decide, by decide +kernel⟩ ⟨rfl, rfl⟩ ⟨Nat.le_of_ble_eq_true rfl, Nat.le_of_ble_eq_true rfl⟩ hc rfl hl.1 rfl (Nat.le_of_ble_eq_true rfl) dL_law_928 (fun rM uM H locs hw S => ?_)
  refine W.lcmp hx hb dL_law_931 ?_
  exact lv_if_eq (tgt := 1065) hx hb dL_law_932 (by decide) (fun _ => kk _ _ _ _ hw.2 S) (fun q => absurd ((lg_cmp_eq _ _).mpr hw.1) q)
theorem lc_as (l : Launch) (C : LwX D cy z p s m meth c b L xs) (hI : Inv σ τ) (S : St2 D cy aB aM (fun q : Nat => s.heap.size ≤ q) s σ τ H locs) (hl : lv_has ls 4 [(0, .ref b), (1, .ref (aB 0)), (2, .ref (aM 0)), (3, .int x3)]) (hv : vp_in (x3 + 1) L ∧ vp_in (x3 + 2) L ∧ vp_in (x3 + 3) L ∧ vp_in (x3 + 4) L ∧ vp_in (x3 + 5) L) (hc : cells ≤ room_1.cells ∧ slots ≤ room_1.slots)
    (kk : ∀ (σ' τ' : Sg) (H1 : Heap) (locs1 : List Loc), Inv σ' τ' → St2 D cy aB aM (fun q : Nat => s.heap.size ≤ q) s σ' τ' H1 locs1 → W p l e room_1 s m #[Value.ref b] below meth c H1 locs1 cells slots Q (F0 m 1065 ls [])) : W p l e room_1 s m #[Value.ref b] below meth c H locs cells slots Q (F0 m 937 ls []) := by
  obtain ⟨XB, XM, hX, hbl⟩ := C
  obtain ⟨h1, h2, h3, h4, h5⟩ := hv
  have hx := XB.1
  have hb := XB.2.1
  have hbA : ¬ (fun q : Nat => s.heap.size ≤ q) b := Nat.not_le.mpr hbl
  refine lv_aload_n hx hb dL_law_937 rfl (lv_at hl 1 rfl) ?_
  refine lv_aload_n hx hb dL_law_938 rfl (lv_at hl 0 rfl) ?_
  refine lv_iload_n hx hb dL_law_939 rfl (lv_at hl 3 rfl) ?_
  refine lv_iconst (v := 1) hx hb dL_law_940 (by decide) ?_
  refine lv_iadd hx hb dL_law_941 ?_
  refine va_sld hx hb hX hbl hbA S.2.2.2.2.2 h1 dL_law_942 ?_
  refine lv_aload_n hx hb dL_law_943 rfl (lv_at hl 0 rfl) ?_
  refine lv_iload_n hx hb dL_law_944 rfl (lv_at hl 3 rfl) ?_
  refine lv_iconst (v := 2) hx hb dL_law_945 (by decide) ?_
  refine lv_iadd hx hb dL_law_946 ?_
  refine va_sld hx hb hX hbl hbA S.2.2.2.2.2 h2 dL_law_947 ?_
  refine l2_Bl (k := 2) (rest := []) XB S (mX11_as l (xs (x3 + 1).toNatClampNeg) (xs (x3 + 2).toNatClampNeg) σ _ (E_as (xs (x3 + 1).toNatClampNeg) (xs (x3 + 2).toNatClampNeg) hI)) k_781 k_778 k_779 k_780 k_1 ⟨rfl, by decide, by decide, by decide +kernel⟩ ⟨rfl, rfl⟩ ⟨Nat.le_of_ble_eq_true rfl, Nat.le_of_ble_eq_true rfl⟩ hc rfl hl.1 rfl (Nat.le_of_ble_eq_true rfl) dL_law_948 (fun rB uB H locs hw S => ?_)
  refine lv_aload_n hx hb dL_law_951 rfl (lv_at hl 2 rfl) ?_
  refine lv_aload_n hx hb dL_law_952 rfl (lv_at hl 0 rfl) ?_
  refine lv_iload_n hx hb dL_law_953 rfl (lv_at hl 3 rfl) ?_
  refine lv_iconst (v := 1) hx hb dL_law_954 (by decide) ?_
  refine lv_iadd hx hb dL_law_955 ?_
  refine va_sld hx hb hX hbl hbA S.2.2.2.2.2 h1 dL_law_956 ?_
  refine lv_aload_n hx hb dL_law_957 rfl (lv_at hl 0 rfl) ?_
  refine lv_iload_n hx hb dL_law_958 rfl (lv_at hl 3 rfl) ?_
  refine lv_iconst (v := 2) hx hb dL_law_959 (by decide) ?_
  refine lv_iadd hx hb dL_law_960 ?_
  refine va_sld hx hb hX hbl hbA S.2.2.2.2.2 h2 dL_law_961 ?_
  refine l2_Ml (k := 2) (rest := [.long rB]) XM S (mX12_as l (xs (x3 + 1).toNatClampNeg) (xs (x3 + 2).toNatClampNeg) τ _ hw) k_1254 k_1251 k_1252 k_1253 k_14 ⟨rfl, by decide, by decide, by decide +kernel⟩ ⟨rfl, rfl⟩ ⟨Nat.le_of_ble_eq_true rfl, Nat.le_of_ble_eq_true rfl⟩ hc rfl hl.1 rfl (Nat.le_of_ble_eq_true rfl) dL_law_962 (fun rM uM H locs hw S => ?_)
  refine W.lcmp hx hb dL_law_965 ?_
  exact lv_if_eq (tgt := 1065) hx hb dL_law_966 (by decide) (fun _ => kk _ _ _ _ hw.2 S) (fun q => absurd ((lg_cmp_eq _ _).mpr hw.1) q)
theorem lc_ask (l : Launch) (C : LwX D cy z p s m meth c b L xs) (hI : Inv σ τ) (S : St2 D cy aB aM (fun q : Nat => s.heap.size ≤ q) s σ τ H locs) (hl : lv_has ls 4 [(0, .ref b), (1, .ref (aB 0)), (2, .ref (aM 0)), (3, .int x3)]) (hv : vp_in (x3 + 1) L ∧ vp_in (x3 + 2) L ∧ vp_in (x3 + 3) L ∧ vp_in (x3 + 4) L ∧ vp_in (x3 + 5) L) (hc : cells ≤ room_1.cells ∧ slots ≤ room_1.slots)
    (kk : ∀ (σ' τ' : Sg) (H1 : Heap) (locs1 : List Loc), Inv σ' τ' → St2 D cy aB aM (fun q : Nat => s.heap.size ≤ q) s σ' τ' H1 locs1 → W p l e room_1 s m #[Value.ref b] below meth c H1 locs1 cells slots Q (F0 m 1065 ls [])) : W p l e room_1 s m #[Value.ref b] below meth c H locs cells slots Q (F0 m 971 ls []) := by
  obtain ⟨XB, XM, hX, hbl⟩ := C
  obtain ⟨h1, h2, h3, h4, h5⟩ := hv
  have hx := XB.1
  have hb := XB.2.1
  have hbA : ¬ (fun q : Nat => s.heap.size ≤ q) b := Nat.not_le.mpr hbl
  refine lv_aload_n hx hb dL_law_971 rfl (lv_at hl 1 rfl) ?_
  refine lv_aload_n hx hb dL_law_972 rfl (lv_at hl 0 rfl) ?_
  refine lv_iload_n hx hb dL_law_973 rfl (lv_at hl 3 rfl) ?_
  refine lv_iconst (v := 1) hx hb dL_law_974 (by decide) ?_
  refine lv_iadd hx hb dL_law_975 ?_
  refine va_sld hx hb hX hbl hbA S.2.2.2.2.2 h1 dL_law_976 ?_
  refine lv_aload_n hx hb dL_law_977 rfl (lv_at hl 0 rfl) ?_
  refine lv_iload_n hx hb dL_law_978 rfl (lv_at hl 3 rfl) ?_
  refine lv_iconst (v := 2) hx hb dL_law_979 (by decide) ?_
  refine lv_iadd hx hb dL_law_980 ?_
  refine va_sld hx hb hX hbl hbA S.2.2.2.2.2 h2 dL_law_981 ?_
  refine l2_Bl (k := 2) (rest := []) XB S (mX11_ask l (xs (x3 + 1).toNatClampNeg) (xs (x3 + 2).toNatClampNeg) σ _ (E_ask (xs (x3 + 1).toNatClampNeg) (xs (x3 + 2).toNatClampNeg) hI)) k_790 k_787 k_788 k_789 k_1 ⟨rfl, by decide, by decide, by decide +kernel⟩ ⟨rfl, rfl⟩ ⟨Nat.le_of_ble_eq_true rfl, Nat.le_of_ble_eq_true rfl⟩ hc rfl hl.1 rfl (Nat.le_of_ble_eq_true rfl) dL_law_982 (fun rB uB H locs hw S => ?_)
  refine lv_aload_n hx hb dL_law_985 rfl (lv_at hl 2 rfl) ?_
  refine lv_aload_n hx hb dL_law_986 rfl (lv_at hl 0 rfl) ?_
  refine lv_iload_n hx hb dL_law_987 rfl (lv_at hl 3 rfl) ?_
  refine lv_iconst (v := 1) hx hb dL_law_988 (by decide) ?_
  refine lv_iadd hx hb dL_law_989 ?_
  refine va_sld hx hb hX hbl hbA S.2.2.2.2.2 h1 dL_law_990 ?_
  refine lv_aload_n hx hb dL_law_991 rfl (lv_at hl 0 rfl) ?_
  refine lv_iload_n hx hb dL_law_992 rfl (lv_at hl 3 rfl) ?_
  refine lv_iconst (v := 2) hx hb dL_law_993 (by decide) ?_
  refine lv_iadd hx hb dL_law_994 ?_
  refine va_sld hx hb hX hbl hbA S.2.2.2.2.2 h2 dL_law_995 ?_
  refine l2_Ml (k := 2) (rest := [.long rB]) XM S (mX12_ask l (xs (x3 + 1).toNatClampNeg) (xs (x3 + 2).toNatClampNeg) τ _ hw) k_1261 k_1258 k_1259 k_1260 k_14 ⟨rfl, by decide, by decide, by decide +kernel⟩ ⟨rfl, rfl⟩ ⟨Nat.le_of_ble_eq_true rfl, Nat.le_of_ble_eq_true rfl⟩ hc rfl hl.1 rfl (Nat.le_of_ble_eq_true rfl) dL_law_996 (fun rM uM H locs hw S => ?_)
  refine W.lcmp hx hb dL_law_999 ?_
  exact lv_if_eq (tgt := 1065) hx hb dL_law_1000 (by decide) (fun _ => kk _ _ _ _ hw.2 S) (fun q => absurd ((lg_cmp_eq _ _).mpr hw.1) q)
theorem lc_trace (l : Launch) (C : LwX D cy z p s m meth c b L xs) (hI : Inv σ τ) (S : St2 D cy aB aM (fun q : Nat => s.heap.size ≤ q) s σ τ H locs) (hl : lv_has ls 4 [(0, .ref b), (1, .ref (aB 0)), (2, .ref (aM 0)), (3, .int x3)]) (hv : vp_in (x3 + 1) L ∧ vp_in (x3 + 2) L ∧ vp_in (x3 + 3) L ∧ vp_in (x3 + 4) L ∧ vp_in (x3 + 5) L) (hc : cells ≤ room_1.cells ∧ slots ≤ room_1.slots)
    (kk : ∀ (σ' τ' : Sg) (H1 : Heap) (locs1 : List Loc), Inv σ' τ' → St2 D cy aB aM (fun q : Nat => s.heap.size ≤ q) s σ' τ' H1 locs1 → W p l e room_1 s m #[Value.ref b] below meth c H1 locs1 cells slots Q (F0 m 1065 ls [])) : W p l e room_1 s m #[Value.ref b] below meth c H locs cells slots Q (F0 m 1005 ls []) := by
  obtain ⟨XB, XM, hX, hbl⟩ := C
  obtain ⟨h1, h2, h3, h4, h5⟩ := hv
  have hx := XB.1
  have hb := XB.2.1
  have hbA : ¬ (fun q : Nat => s.heap.size ≤ q) b := Nat.not_le.mpr hbl
  refine lv_aload_n hx hb dL_law_1005 rfl (lv_at hl 1 rfl) ?_
  refine lv_aload_n hx hb dL_law_1006 rfl (lv_at hl 0 rfl) ?_
  refine lv_iload_n hx hb dL_law_1007 rfl (lv_at hl 3 rfl) ?_
  refine lv_iconst (v := 1) hx hb dL_law_1008 (by decide) ?_
  refine lv_iadd hx hb dL_law_1009 ?_
  refine va_sld hx hb hX hbl hbA S.2.2.2.2.2 h1 dL_law_1010 ?_
  refine l2_Bi (k := 1) (rest := []) XB S (mX11_trace l (xs (x3 + 1).toNatClampNeg) σ _ (E_trace (xs (x3 + 1).toNatClampNeg) hI)) k_844 k_841 k_842 k_843 k_1 ⟨rfl, by decide, by decide, by decide +kernel⟩ ⟨rfl, rfl⟩ ⟨Nat.le_of_ble_eq_true rfl, Nat.le_of_ble_eq_true rfl⟩ hc rfl hl.1 rfl (Nat.le_of_ble_eq_true rfl) dL_law_1011 (fun rB uB H locs hw S => ?_)
  refine lv_aload_n hx hb dL_law_1014 rfl (lv_at hl 2 rfl) ?_
  refine lv_aload_n hx hb dL_law_1015 rfl (lv_at hl 0 rfl) ?_
  refine lv_iload_n hx hb dL_law_1016 rfl (lv_at hl 3 rfl) ?_
  refine lv_iconst (v := 1) hx hb dL_law_1017 (by decide) ?_
  refine lv_iadd hx hb dL_law_1018 ?_
  refine va_sld hx hb hX hbl hbA S.2.2.2.2.2 h1 dL_law_1019 ?_
  refine l2_Mi (k := 1) (rest := [.int rB]) XM S (mX12_trace l (xs (x3 + 1).toNatClampNeg) τ _ hw) k_1279 k_1276 k_1277 k_1278 k_14 ⟨rfl, by decide, by decide, by decide +kernel⟩ ⟨rfl, rfl⟩ ⟨Nat.le_of_ble_eq_true rfl, Nat.le_of_ble_eq_true rfl⟩ hc rfl hl.1 rfl (Nat.le_of_ble_eq_true rfl) dL_law_1020 (fun rM uM H locs hw S => ?_)
  exact lv_icmp_eq (tgt := 1065) hx hb dL_law_1023 (by decide) (fun _ => kk _ _ _ _ hw.2 S) (fun q => absurd hw.1 q)
theorem lc_count (l : Launch) (C : LwX D cy z p s m meth c b L xs) (hI : Inv σ τ) (S : St2 D cy aB aM (fun q : Nat => s.heap.size ≤ q) s σ τ H locs) (hl : lv_has ls 4 [(0, .ref b), (1, .ref (aB 0)), (2, .ref (aM 0)), (3, .int x3)]) (hv : vp_in (x3 + 1) L ∧ vp_in (x3 + 2) L ∧ vp_in (x3 + 3) L ∧ vp_in (x3 + 4) L ∧ vp_in (x3 + 5) L) (hc : cells ≤ room_1.cells ∧ slots ≤ room_1.slots)
    (kk : ∀ (σ' τ' : Sg) (H1 : Heap) (locs1 : List Loc), Inv σ' τ' → St2 D cy aB aM (fun q : Nat => s.heap.size ≤ q) s σ' τ' H1 locs1 → W p l e room_1 s m #[Value.ref b] below meth c H1 locs1 cells slots Q (F0 m 1065 ls [])) : W p l e room_1 s m #[Value.ref b] below meth c H locs cells slots Q (F0 m 1028 ls []) := by
  obtain ⟨XB, XM, hX, hbl⟩ := C
  obtain ⟨h1, h2, h3, h4, h5⟩ := hv
  have hx := XB.1
  have hb := XB.2.1
  have hbA : ¬ (fun q : Nat => s.heap.size ≤ q) b := Nat.not_le.mpr hbl
  refine lv_aload_n hx hb dL_law_1028 rfl (lv_at hl 1 rfl) ?_
  refine lv_aload_n hx hb dL_law_1029 rfl (lv_at hl 0 rfl) ?_
  refine lv_iload_n hx hb dL_law_1030 rfl (lv_at hl 3 rfl) ?_
  refine lv_iconst (v := 1) hx hb dL_law_1031 (by decide) ?_
  refine lv_iadd hx hb dL_law_1032 ?_
  refine va_sld hx hb hX hbl hbA S.2.2.2.2.2 h1 dL_law_1033 ?_
  refine l2_Bl (k := 1) (rest := []) XB S (mX11_count l (xs (x3 + 1).toNatClampNeg) σ _ (E_count (xs (x3 + 1).toNatClampNeg) hI)) k_848 k_845 k_846 k_847 k_1 ⟨rfl, by decide, by decide, by decide +kernel⟩ ⟨rfl, rfl⟩ ⟨Nat.le_of_ble_eq_true rfl, Nat.le_of_ble_eq_true rfl⟩ hc rfl hl.1 rfl (Nat.le_of_ble_eq_true rfl) dL_law_1034 (fun rB uB H locs hw S => ?_)
  refine lv_aload_n hx hb dL_law_1037 rfl (lv_at hl 2 rfl) ?_
  refine lv_aload_n hx hb dL_law_1038 rfl (lv_at hl 0 rfl) ?_
  refine lv_iload_n hx hb dL_law_1039 rfl (lv_at hl 3 rfl) ?_
  refine lv_iconst (v := 1) hx hb dL_law_1040 (by decide) ?_
  refine lv_iadd hx hb dL_law_1041 ?_
  refine va_sld hx hb hX hbl hbA S.2.2.2.2.2 h1 dL_law_1042 ?_
  refine l2_Ml (k := 1) (rest := [.long rB]) XM S (mX12_count l (xs (x3 + 1).toNatClampNeg) τ _ hw) k_1283 k_1280 k_1281 k_1282 k_14 ⟨rfl, by decide, by decide, by decide +kernel⟩ ⟨rfl, rfl⟩ ⟨Nat.le_of_ble_eq_true rfl, Nat.le_of_ble_eq_true rfl⟩ hc rfl hl.1 rfl (Nat.le_of_ble_eq_true rfl) dL_law_1043 (fun rM uM H locs hw S => ?_)
  refine W.lcmp hx hb dL_law_1046 ?_
  exact lv_if_eq (tgt := 1065) hx hb dL_law_1047 (by decide) (fun _ => kk _ _ _ _ hw.2 S) (fun q => absurd ((lg_cmp_eq _ _).mpr hw.1) q)
theorem lc_status (l : Launch) (C : LwX D cy z p s m meth c b L xs) (hI : Inv σ τ) (S : St2 D cy aB aM (fun q : Nat => s.heap.size ≤ q) s σ τ H locs) (hl : lv_has ls 4 [(0, .ref b), (1, .ref (aB 0)), (2, .ref (aM 0)), (3, .int x3)]) (hv : vp_in (x3 + 1) L ∧ vp_in (x3 + 2) L ∧ vp_in (x3 + 3) L ∧ vp_in (x3 + 4) L ∧ vp_in (x3 + 5) L) (hc : cells ≤ room_1.cells ∧ slots ≤ room_1.slots)
    (kk : ∀ (σ' τ' : Sg) (H1 : Heap) (locs1 : List Loc), Inv σ' τ' → St2 D cy aB aM (fun q : Nat => s.heap.size ≤ q) s σ' τ' H1 locs1 → W p l e room_1 s m #[Value.ref b] below meth c H1 locs1 cells slots Q (F0 m 1065 ls [])) : W p l e room_1 s m #[Value.ref b] below meth c H locs cells slots Q (F0 m 1052 ls []) := by
  obtain ⟨XB, XM, hX, hbl⟩ := C
  obtain ⟨h1, h2, h3, h4, h5⟩ := hv
  have hx := XB.1
  have hb := XB.2.1
  have hbA : ¬ (fun q : Nat => s.heap.size ≤ q) b := Nat.not_le.mpr hbl
  refine lv_aload_n hx hb dL_law_1052 rfl (lv_at hl 1 rfl) ?_
  refine l2_Bi (k := 0) (rest := []) XB S (mX11_status l σ _ (E_status hI)) k_860 k_857 k_858 k_859 k_1 ⟨rfl, by decide, by decide, by decide +kernel⟩ ⟨rfl, rfl⟩ ⟨Nat.le_of_ble_eq_true rfl, Nat.le_of_ble_eq_true rfl⟩ hc rfl hl.1 rfl (Nat.le_of_ble_eq_true rfl) dL_law_1053 (fun rB uB H locs hw S => ?_)
  refine lv_aload_n hx hb dL_law_1056 rfl (lv_at hl 2 rfl) ?_
  refine l2_Mi (k := 0) (rest := [.int rB]) XM S (mX12_status l τ _ hw) k_1295 k_1292 k_1293 k_1294 k_14 ⟨rfl, by decide, by decide, by decide +kernel⟩ ⟨rfl, rfl⟩ ⟨Nat.le_of_ble_eq_true rfl, Nat.le_of_ble_eq_true rfl⟩ hc rfl hl.1 rfl (Nat.le_of_ble_eq_true rfl) dL_law_1057 (fun rM uM H locs hw S => ?_)
  exact lv_icmp_eq (tgt := 1065) hx hb dL_law_1060 (by decide) (fun _ => kk _ _ _ _ hw.2 S) (fun q => absurd hw.1 q)
end LAWK
