/-! CONSTRUCTORS: contracts over lists of cells -/
def EvC : Evp := fun _ U _ => EvN U ∧ va_AO "BackBay$Row" U ∧ (Cond.arrayOver (.array .int)).before #[] U = true
theorem EvC_ok : EvOk EvC := by
  refine ⟨fun A s H H1 h _ => h, fun A B s H h _ => h, fun A s U H hW h => ⟨EvN_warm hW h.1, va_AO.moved hW.alike h.2.1, over_moved hW.alike h.2.2⟩, fun A s U H hv h => ?_⟩
  have hvm : s.vm.Alike U.vm := by rw [hv]; exact Vm.Alike.refl _
  exact ⟨EvN_same hv h.1, va_AO.moved hvm h.2.1, over_moved hvm h.2.2⟩
def PreL (D : va_G) (cy : Nat → ClassId) (w0 : va_W) (sz : Nat) (U : State) : Prop :=
  U.heap.size = sz ∧ va_P D vwCl w0 U.heap ∧ va_K D vwCl (tyB cy) U ∧ va_D (fun _ => True) w0 ∧ EvC (fun _ => True) U U.heap
def PosL (D : va_G) (A : Nat → Prop) (wf : (Nat → Nat) → va_W) (u : Nat → Nat) (t : State) : Prop := va_P D vwCl (wf u) t.heap ∧ va_D A (wf u)
def CI (D : va_G) (cy : Nat → ClassId) (l : Launch) (y : MethodName) (ws : List Cond) (rm : Room) (av : List Value) (w0 : va_W) (pq : (Nat → Nat) → Prop) (wf : (Nat → Nat) → va_W) : Prop :=
  ∀ sz : Nat, Met l y ws rm (va_Pc av (PreL D cy w0 sz)) (va_Qv pq (PosL D (va_A w0 sz) wf) (va_A w0 sz)) rm.cells rm.slots (va_A w0 sz)
theorem preL_blind {D : va_G} {cy : Nat → ClassId} {w0 : va_W} {sz : Nat} {av : List Value} : FrameBlind (va_Pc av (PreL D cy w0 sz)) := by
  intro a U g mk q
  obtain ⟨q0, q1, qP, qK, qD, qE⟩ := q
  exact ⟨q0, q1, qP, va_K.moved (u := U) (U := U.calling g mk a) (Vm.Alike.refl U.vm) qK, qD, EvC_ok.2.2.2 _ U (U.calling g mk a) _ rfl qE⟩
theorem ci_left {α : Type} {ws w : List α} {k : Nat} {x : α} (h : ws[k]? = some x) : (ws ++ w)[k]? = some x := by
  rw [List.getElem?_append_left (List.getElem?_eq_some_iff.mp h).1]
  exact h
theorem ci_right {α : Type} {ws w : List α} {k : Nat} {x : α} (h : w[k]? = some x) : (ws ++ w)[ws.length + k]? = some x := by
  rw [List.getElem?_append_right (Nat.le_add_right _ _), Nat.add_sub_cancel_left]
  exact h
theorem ci_free {A : Nat → Prop} {ws w0 : va_W} {H0 H : Heap} {locs : List Loc} (hD : va_D A (ws ++ w0)) (hS : va_S A H0 H locs) (hA : ∀ q, H0.size ≤ q → A q) : ∀ x, va_A w0 H.size x → A x := by
  rintro x (⟨k, ee, h⟩ | h)
  · exact hD.2 _ _ (ci_right h)
  · exact hA x (Nat.le_trans hS.1 h)
theorem ci_join {D : va_G} {A : Nat → Prop} {ws w0 w1 : va_W} {H H1 : Heap} (hP : va_P D vwCl (ws ++ w0) H) (hD : va_D A (ws ++ w0)) (hk : ∀ q : Nat, q < H.size → ¬ va_A w0 H.size q → H1[q]? = H[q]?) (hF : ∀ x, va_A w0 H.size x → A x) (hP1 : va_P D vwCl w1 H1) (hD1 : va_D (va_A w0 H.size) w1) : va_P D vwCl (ws ++ w1) H1 ∧ va_D A (ws ++ w1) := by
  have apart : ∀ (k : Nat) (x : Nat × va_E), ws[k]? = some x → x.1 < H.size ∧ ¬ va_A w0 H.size x.1 := by
    intro k x hx
    have hl := (hP k x (ci_left hx)).lt
    refine ⟨hl, ?_⟩
    rintro (⟨k2, ee, h⟩ | h)
    · have := hD.1 k (ws.length + k2) x (x.1, ee) (ci_left hx) (ci_right h) rfl
      have := (List.getElem?_eq_some_iff.mp hx).1
      omega
    · omega
  refine ⟨va_P.app (fun k x hx => ?_) hP1, va_D.app ⟨fun i j a b h1 h2 e => hD.1 i j a b (ci_left h1) (ci_left h2) e, fun k x h => hD.2 k x (ci_left h)⟩ (hD1.weaken (fun k x _ h => hF x.1 h)) (fun i j a b h1 h2 e => (apart i a h1).2 (by rw [e]; exact hD1.2 j b h2))⟩
  exact (hP k x (ci_left hx)).kept (hk x.1 (apart k x hx).1 (apart k x hx).2)
/-- an entry told anew -/
theorem ci_swap {D : va_G} {A : Nat → Prop} {ws : va_W} {H : Heap} (hP : va_P D vwCl ws H) (hD : va_D A ws) {k a : Nat} {E E' : va_E} (he : ws[k]? = some (a, E)) (hi : va_at D vwCl (a, E) H → va_at D vwCl (a, E') H) : va_P D vwCl (ws.set k (a, E')) H ∧ va_D A (ws.set k (a, E')) := by
  refine ⟨fun j x hx => ?_, hD.set he⟩
  rw [List.getElem?_set] at hx
  split at hx
  · split at hx
    · cases hx
      exact hi (hP k _ he)
    · cases hx
  · exact hP j x hx
theorem ci_swapi {D : va_G} {A : Nat → Prop} {ws : va_W} {H : Heap} (hP : va_P D vwCl ws H) (hD : va_D A ws) {k a n : Nat} {cA : ClassId} {f : Nat → Int32} (g : Nat → Int32) (he : ws[k]? = some (a, .inl (cA, n, .inl f))) (h : ∀ j, j < n → f j = g j) : va_P D vwCl (ws.set k (a, .inl (cA, n, .inl g))) H ∧ va_D A (ws.set k (a, .inl (cA, n, .inl g))) := by
  refine ci_swap hP hD he (fun q => ?_)
  have q : H[a]? = some (arrV cA n (fun j => .int (f j))) := q
  show H[a]? = some (arrV cA n (fun j => .int (g j)))
  rw [q, arrV_ext (g := fun j => .int (g j)) (fun j hj => by rw [h j hj])]
theorem ci_swapq {D : va_G} {A : Nat → Prop} {ws : va_W} {H : Heap} (hP : va_P D vwCl ws H) (hD : va_D A ws) {k a n : Nat} {cA : ClassId} {f : Nat → Option Nat} (g : Nat → Option Nat) (he : ws[k]? = some (a, .inl (cA, n, .inr (.inr (.inr (.inr f)))))) (h : ∀ j, j < n → f j = g j) : va_P D vwCl (ws.set k (a, .inl (cA, n, .inr (.inr (.inr (.inr g)))))) H ∧ va_D A (ws.set k (a, .inl (cA, n, .inr (.inr (.inr (.inr g)))))) := by
  refine ci_swap hP hD he (fun q => ?_)
  have q : H[a]? = some (arrV cA n (fun j => va_rf (f j))) := q
  show H[a]? = some (arrV cA n (fun j => va_rf (g j)))
  rw [q, arrV_ext (g := fun j => va_rf (g j)) (fun j hj => by rw [h j hj])]
section INIT
variable {p : Program} {l : Launch} {e : Env} {R : Room} {s : State} {m : MethodId} {args : Array Value} {below : List Frame} {meth : Method} {c : Code} {H : Heap} {locs : List Loc} {cells slots : Nat} {Q : State → Prop}
variable {D : va_G} {cy : Nat → ClassId} {A : Nat → Prop} {cc : ByteArray} {nL : Nat} {own : String} {pc : Nat} {ls : Array Slot} {rest : List Value} {ws : va_W}
theorem ci_of {y : MethodName} {maxL : Nat} {rm : Room} {av : List Value} {w0 : va_W} {pq : (Nat → Nat) → Prop} {wf : (Nat → Nat) → va_W} (hy : plainName y.cls = true) (hlen : (lg_sl av).length ≤ maxL)
    (body : ∀ (p : Program) (e : Env) (s : State) (m : MethodId) (args : Array Value) (below : List Frame) (meth : Method) (c : Code) (A : Nat → Prop) (ls : Array Slot), Fx D (tyB cy) EvC p s m args meth c cc maxL y.cls A → meth.sig.returnType = none → meth.name = y.name → lv_has ls maxL (lv_args 0 av) → va_P D vwCl w0 s.heap → va_D A w0 → va_S A s.heap s.heap [] →
      W p l e rm s m args below meth c s.heap [] 0 0 (MQ below (va_Qv pq (PosL D A wf) A) args s rm.cells rm.slots A) (F0 m 0 ls [])) : CI D cy l y (.code y cc maxL none :: gT) rm av w0 pq wf := by
  intro sz
  refine Met.ofW (cc := cc) (maxL := maxL) (ret := none) hy rfl ?_
  intro p e s m args below meth c s₁ B hml hv
  obtain ⟨rfl, hsz, hP, hK, hD0, hE⟩ := hv
  have hts0 := atoms_spec (ws := Cond.code y cc maxL none :: gT) B.pre
  subst hsz
  have hD := hD0.self (sz := s.heap.size)
  rw [lg_entry_eq]
  exact body p e s m _ below meth c _ _ ⟨B.exec, B.bytes, hml, findClass_of_methodNamed B.named, fun w h => hts0 w (List.mem_cons_of_mem _ h), B.notSynchronized, hK, hE, fun q h => Or.inr h⟩ B.returns (name_of_methodNamed B.named B.method).1 (lv_entry av hlen) hP hD va_S.rf
theorem ci_ret (X : Fx D (tyB cy) EvC p s m args meth c cc nL own A) (hr : meth.sig.returnType = none) {pq : (Nat → Nat) → Prop} {wf : (Nat → Nat) → va_W} {mc ms : Nat} (u : Nat → Nat) (hu : pq u) (hP : va_P D vwCl (wf u) H) (hD : va_D A (wf u)) (hS : va_S A s.heap H locs) (hc : cells ≤ mc) (hs : slots ≤ ms) (hdg : decode cc pc = .ok (.return_, 1)) : W p l e R s m args below meth c H locs cells slots (MQ below (va_Qv pq (PosL D A wf) A) args s mc ms A) (F0 m pc ls []) :=
  W.widen (k := mc) (n := ms) hc hs (W.vret X.1 X.2.1 hr (fun t ht _ => ⟨⟨u, rfl, hu, by rw [ht]; exact hP, hD⟩, hS.F ht⟩) hS.2.2 hdg X.2.2.2.2.2.1)
theorem ci_obj (X : Fx D (tyB cy) EvC p s m args meth c cc nL own A) {idx a : Nat} (kl : Cond.methodLink own idx ⟨"java/lang/Object", "<init>", "()V"⟩ ∈ gT) (hsz : ls.size = nL) (hR : 1 ≤ R.frames ∧ 12 ≤ R.locals) (hdg : decode cc pc = .ok (.invokespecial idx, 3))
    (kk : W p l e R s m args below meth c H locs cells slots Q (F0 m (pc + 3) ls [])) : W p l e R s m args below meth c H locs cells slots Q (F0 m pc ls [.ref a]) :=
  W.objInit X.1 X.2.1 X.2.2.2.1 (X.2.2.2.2.1 _ kl) (X.2.2.2.2.1 _ k_27) (X.2.2.2.2.1 _ k_28) rfl (hsz.trans X.2.2.1.symm) rfl hdg hR.1 hR.2 kk
theorem ci_newa (X : Fx D (tyB cy) EvC p s m args meth c cc nL own A) (hP : va_P D vwCl ws H) (hD : va_D A ws) (hS : va_S A s.heap H locs) (t0 : Nat) {cA : ClassId} {ty : FieldType} {atype : ArrayType} {N : Nat} {n : Int32} (ht : (tyB cy)[t0]? = some (cA, ty)) (hty : newarray.typeOf atype = ty) (hra : ∀ (U : State) (c : ClassId), va_RA U c ty → U.vm.findClass ("[" ++ ty.toString) = some c)
    (ha : ∀ cA : ClassId, vp_cell cA (N, .inl (fun _ => (0 : Int32))) = arrV cA N (fun _ => defaultValue ty)) (ka : Cond.arrayClass ty ∈ gT) (hn : ¬ n < 0) (hN : n.toNatClampNeg = N) (hby : N * componentBytes ty ≤ 536870912) (hc : cells + 1 ≤ R.cells) (hs : slots + N ≤ R.slots) (hdg : decode cc pc = .ok (.newarray atype, 2))
    (kk : ∀ (q : Nat) (H1 : Heap), va_P D vwCl (ws ++ [(q, .inl (cA, N, .inl (fun _ => 0)))]) H1 → va_D A (ws ++ [(q, .inl (cA, N, .inl (fun _ => 0)))]) → va_S A s.heap H1 locs → W p l e R s m args below meth c H1 locs (cells + 1) (slots + N) Q (F0 m (pc + 2) ls (.ref q :: rest))) : W p l e R s m args below meth c H locs cells slots Q (F0 m pc ls (.int n :: rest)) := by
  refine va_newa X.1 X.2.1 (by rw [hty]; exact X.2.2.2.2.1 _ ka) hty X.2.2.2.2.2.2.1 hP hD hS X.2.2.2.2.2.2.2.2 ha hn hN hby hc hs hdg (fun q cA' H1 hK1 hP1 hD1 hS1 => ?_)
  have e : cA' = cA := Option.some.inj ((hra s cA' (hK1.2 4 (cA', ty) rfl).2).symm.trans (hra s cA (X.2.2.2.2.2.2.1.2 t0 (cA, ty) ht).2))
  subst e
  exact kk q H1 hP1 hD1 hS1
theorem preL_at (X : Fx D (tyB cy) EvC p s m args meth c cc nL own A) {w0 : va_W} (hP : va_P D vwCl (ws ++ w0) H) (hD : va_D A (ws ++ w0)) (U : State) (hU : U.heap = H) (hW : s.WarmedH U.vm) : PreL D cy w0 H.size U := by
  refine ⟨by rw [hU], by rw [hU]; exact fun k x hx => hP _ x (ci_right hx), va_K.moved hW.alike X.2.2.2.2.2.2.1, ⟨fun i j a b h1 h2 e => ?_, fun _ _ _ => trivial⟩, EvC_ok.2.2.1 _ s U _ hW X.2.2.2.2.2.2.2.1⟩
  have := hD.1 _ _ a b (ci_right h1) (ci_right h2) e
  omega
theorem ci_callN (X : Fx D (tyB cy) EvC p s m args meth c cc nL own A) {y : MethodName} {bytes : ByteArray} {maxL index k q : Nat} {host : String} {rm : Room} {As st : List Value} {w0 : va_W} {pq : (Nat → Nat) → Prop} {wf : (Nat → Nat) → va_W} (hM : CI D cy l y (.code y bytes maxL none :: gT) rm (.ref q :: As) w0 pq wf) (hP : va_P D vwCl (ws ++ w0) H) (hD : va_D A (ws ++ w0)) (hS : va_S A s.heap H locs)
    (kc : Cond.code y bytes maxL none ∈ gT) (kl : va_Nw (.methodLinkNest own index y host) s) (ki : Cond.instanceMethod y ∈ gT) (kn : Cond.initialized y.cls ∈ gT) (hd : y.name = "<init>" ∧ y.cls ≠ "java/lang/invoke/MethodHandle" ∧ y.cls ≠ "java/lang/invoke/VarHandle" ∧ (parseMethodDescriptor y.desc).map (fun d => d.parameters.length) = some k) (hR : rm.frames + 1 ≤ R.frames ∧ 8 + (maxL + 11) + rm.locals ≤ R.locals) (hRc : cells + rm.cells ≤ R.cells ∧ slots + rm.slots ≤ R.slots) (hn : As.length = k) (hsz : ls.size = nL) (hst : st = As.reverse ++ .ref q :: rest) (hW : (rest.map fun v => v.category).sum ≤ 8) (hdg : decode cc pc = .ok (.invokespecial index, 3))
    (kk : ∀ (u : Nat → Nat) (H1 : Heap) (locs1 : List Loc), pq u → va_P D vwCl (ws ++ wf u) H1 → va_D A (ws ++ wf u) → va_S A s.heap H1 locs1 → W p l e R s m args below meth c H1 locs1 (cells + rm.cells) (slots + rm.slots) Q (F0 m (pc + 3) ls rest)) : W p l e R s m args below meth c H locs cells slots Q (F0 m pc ls st) := by
  subst hst
  have hF := ci_free hD hS X.2.2.2.2.2.2.2.2
  refine va_callv (A0 := A) (va_runIN (As := As) (rest := rest) (nL := nL) ⟨X.1, X.2.1, X.2.2.1, X.2.2.2.1, X.2.2.2.2.1⟩ (hM H.size) ⟨va_cnB k X.2.2.2.2.1 (gT_goodIn (fun _ h => h) kc) rfl rfl rfl kl (X.2.2.2.2.1 _ kn) hd.2 hR, hd.1, X.2.2.2.2.1 _ ki⟩ ⟨preL_blind, fun U hU hW => ⟨rfl, preL_at X hP hD U hU hW⟩⟩ rfl hn hsz rfl (by show 2 * 0 + _ ≤ 8; rw [Nat.mul_zero, Nat.zero_add]; exact hW) hdg hRc) hS (fun q _ h => hF q h) hF (fun u t H1 locs1 ht hvm hw hB hz1 hk1 hS1 => ?_)
  obtain ⟨hP1, hD1⟩ := hB
  rw [ht] at hP1
  have j := ci_join hP hD hk1 hF hP1 hD1
  exact kk u H1 locs1 hw j.1 j.2 hS1
theorem ci_callI (X : Fx D (tyB cy) EvC p s m args meth c cc nL own A) {y : MethodName} {bytes : ByteArray} {maxL index k q : Nat} {rm : Room} {As st : List Value} {w0 : va_W} {pq : (Nat → Nat) → Prop} {wf : (Nat → Nat) → va_W} (hM : CI D cy l y (.code y bytes maxL none :: gT) rm (.ref q :: As) w0 pq wf) (hP : va_P D vwCl (ws ++ w0) H) (hD : va_D A (ws ++ w0)) (hS : va_S A s.heap H locs)
    (kc : Cond.code y bytes maxL none ∈ gT) (kl : Cond.methodLink own index y ∈ gT) (ki : Cond.instanceMethod y ∈ gT) (kn : Cond.initialized y.cls ∈ gT) (hd : y.name = "<init>" ∧ y.cls ≠ "java/lang/invoke/MethodHandle" ∧ y.cls ≠ "java/lang/invoke/VarHandle" ∧ (parseMethodDescriptor y.desc).map (fun d => d.parameters.length) = some k) (hR : rm.frames + 1 ≤ R.frames ∧ 8 + (maxL + 11) + rm.locals ≤ R.locals) (hRc : cells + rm.cells ≤ R.cells ∧ slots + rm.slots ≤ R.slots) (hn : As.length = k) (hsz : ls.size = nL) (hst : st = As.reverse ++ .ref q :: rest) (hW : (rest.map fun v => v.category).sum ≤ 8) (hdg : decode cc pc = .ok (.invokespecial index, 3))
    (kk : ∀ (u : Nat → Nat) (H1 : Heap) (locs1 : List Loc), pq u → va_P D vwCl (ws ++ wf u) H1 → va_D A (ws ++ wf u) → va_S A s.heap H1 locs1 → W p l e R s m args below meth c H1 locs1 (cells + rm.cells) (slots + rm.slots) Q (F0 m (pc + 3) ls rest)) : W p l e R s m args below meth c H locs cells slots Q (F0 m pc ls st) := by
  subst hst
  have hF := ci_free hD hS X.2.2.2.2.2.2.2.2
  refine va_callv (A0 := A) (va_runI (As := As) (rest := rest) (nL := nL) ⟨X.1, X.2.1, X.2.2.1, X.2.2.2.1, X.2.2.2.2.1⟩ (hM H.size) (cwI k X.2.2.2.2.1 (gT_goodIn (fun _ h => h) kc) rfl rfl rfl (X.2.2.2.2.1 _ kn) (X.2.2.2.2.1 _ kl) (X.2.2.2.2.1 _ ki) hd.1 hd.2 hR) ⟨preL_blind, fun U hU hW => ⟨rfl, preL_at X hP hD U hU hW⟩⟩ rfl hn hsz rfl (by show 2 * 0 + _ ≤ 8; rw [Nat.mul_zero, Nat.zero_add]; exact hW) hdg hRc) hS (fun q _ h => hF q h) hF (fun u t H1 locs1 ht hvm hw hB hz1 hk1 hS1 => ?_)
  obtain ⟨hP1, hD1⟩ := hB
  rw [ht] at hP1
  have j := ci_join hP hD hk1 hF hP1 hD1
  exact kk u H1 locs1 hw j.1 j.2 hS1
end INIT
