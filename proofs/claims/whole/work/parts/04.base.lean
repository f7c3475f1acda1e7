/-! THE STATIC WORLD: cell j of a world of n cells lies at ad j and is sh j (σ j): an object's whole numbers, or an array's elements, are σ j 0, σ j 1, .. -/
abbrev Sg : Type := Nat → Nat → Int32
abbrev Shp : Type := Nat → (Nat → Int32) → va_E
abbrev Evp : Type := (Nat → Prop) → State → Heap → Prop
def wS (ad : Nat → Nat) (n : Nat) (sh : Shp) (σ : Sg) : va_W := (List.range n).map (fun j => (ad j, sh j (σ j)))
theorem wS_at {ad : Nat → Nat} {n : Nat} {sh : Shp} {σ : Sg} {j : Nat} (hj : j < n) : (wS ad n sh σ)[j]? = some (ad j, sh j (σ j)) := by
  simp [wS, hj]
theorem wS_none {ad : Nat → Nat} {n : Nat} {sh : Shp} {σ : Sg} {j : Nat} (hj : ¬ j < n) : (wS ad n sh σ)[j]? = none := by
  simp [wS]; omega
theorem wS_inv {ad : Nat → Nat} {n : Nat} {sh : Shp} {σ : Sg} {j : Nat} {q : Nat × va_E} (h : (wS ad n sh σ)[j]? = some q) : j < n ∧ q = (ad j, sh j (σ j)) := by
  by_cases hj : j < n
  · rw [wS_at hj] at h
    exact ⟨hj, (Option.some.inj h).symm⟩
  · rw [wS_none hj] at h
    cases h
theorem wS_len {ad : Nat → Nat} {n : Nat} {sh : Shp} {σ : Sg} : (wS ad n sh σ).length = n := by simp [wS]
theorem wS_set {ad : Nat → Nat} {n : Nat} {sh : Shp} {σ : Sg} {j : Nat} (hj : j < n) (c : Nat → Int32) : (wS ad n sh σ).set j (ad j, sh j c) = wS ad n sh (va_up σ j c) := by
  apply List.ext_getElem?
  intro i
  by_cases hi : i < n
  · by_cases e : j = i
    · subst e
      rw [List.getElem?_set_self (by rw [wS_len]; exact hj), wS_at hi, va_up_self]
    · rw [List.getElem?_set_ne e, wS_at hi, wS_at hi, va_up_ne _ _ (Ne.symm e)]
  · rw [wS_none hi, List.getElem?_eq_none (by rw [List.length_set, wS_len]; omega)]
theorem wS_D {A : Nat → Prop} {ad : Nat → Nat} {n : Nat} {sh : Shp} {σ τ : Sg} (h : va_D A (wS ad n sh σ)) : va_D A (wS ad n sh τ) := by
  refine ⟨fun i j p q h1 h2 e => ?_, fun k q h1 => ?_⟩
  · obtain ⟨hi, rfl⟩ := wS_inv h1
    obtain ⟨hj, rfl⟩ := wS_inv h2
    exact h.1 i j _ _ (wS_at hi) (wS_at hj) e
  · obtain ⟨hi, rfl⟩ := wS_inv h1
    exact h.2 k (ad k, sh k (σ k)) (wS_at hi)
/-- σ with v at place i of cell j -/
def sto (σ : Sg) (j i : Nat) (v : Int32) : Sg := va_up σ j (upd (σ j) i v)
def bok (v : Int32) : Prop := narrow .boolean (.int v) = .int v
theorem bok0 : bok 0 := rfl
theorem bok1 : bok 1 := rfl
def PreW (D : va_G) (tys : List (ClassId × FieldType)) (ad : Nat → Nat) (n : Nat) (sh : Shp) (Ev : Evp) (sz : Nat) (σ : Sg) (U : State) : Prop :=
  U.heap.size = sz ∧ va_P D vwCl (wS ad n sh σ) U.heap ∧ va_K D vwCl tys U ∧ va_D (fun _ => True) (wS ad n sh σ) ∧ Ev (va_A (wS ad n sh σ) sz) U U.heap
def PosW (D : va_G) (tys : List (ClassId × FieldType)) (ad : Nat → Nat) (n : Nat) (sh : Shp) (A : Nat → Prop) (σ : Sg) (t : State) : Prop :=
  va_P D vwCl (wS ad n sh σ) t.heap ∧ va_K D vwCl tys t ∧ va_D A (wS ad n sh σ)
/-- the contracts: an int (or boolean), a long, nothing -/
def MetI (D : va_G) (tys : List (ClassId × FieldType)) (ad : Nat → Nat) (n : Nat) (sh : Shp) (Ev : Evp) (l : Launch) (y : MethodName) (ws : List Cond) (rm : Room) (av : List Value) (σ : Sg) (Q : Int32 → Sg → Prop) : Prop :=
  ∀ sz : Nat, Met l y ws rm (va_Pc av (PreW D tys ad n sh Ev sz σ)) (va_Qi Q (PosW D tys ad n sh (va_A (wS ad n sh σ) sz)) (va_A (wS ad n sh σ) sz)) 0 0 (va_A (wS ad n sh σ) sz)
def MetL (D : va_G) (tys : List (ClassId × FieldType)) (ad : Nat → Nat) (n : Nat) (sh : Shp) (Ev : Evp) (l : Launch) (y : MethodName) (ws : List Cond) (rm : Room) (av : List Value) (σ : Sg) (Q : Int64 → Sg → Prop) : Prop :=
  ∀ sz : Nat, Met l y ws rm (va_Pc av (PreW D tys ad n sh Ev sz σ)) (va_Ql Q (PosW D tys ad n sh (va_A (wS ad n sh σ) sz)) (va_A (wS ad n sh σ) sz)) 0 0 (va_A (wS ad n sh σ) sz)
def MetV (D : va_G) (tys : List (ClassId × FieldType)) (ad : Nat → Nat) (n : Nat) (sh : Shp) (Ev : Evp) (l : Launch) (y : MethodName) (ws : List Cond) (rm : Room) (av : List Value) (σ : Sg) (Q : Sg → Prop) : Prop :=
  ∀ sz : Nat, Met l y ws rm (va_Pc av (PreW D tys ad n sh Ev sz σ)) (va_Qv Q (PosW D tys ad n sh (va_A (wS ad n sh σ) sz)) (va_A (wS ad n sh σ) sz)) 0 0 (va_A (wS ad n sh σ) sz)
/-- what the surroundings (statics, strings, nest links) must bear -/
def EvOk (Ev : Evp) : Prop :=
  (∀ (A : Nat → Prop) (s : State) (H H1 : Heap), Ev A s H → (∀ q : Nat, q < H.size → ¬ A q → H1[q]? = H[q]?) → Ev A s H1) ∧
  (∀ (A B : Nat → Prop) (s : State) (H : Heap), Ev A s H → (∀ q, B q → A q) → Ev B s H) ∧
  (∀ (A : Nat → Prop) (s U : State) (H : Heap), s.WarmedH U.vm → Ev A s H → Ev A U H) ∧
  (∀ (A : Nat → Prop) (s U : State) (H : Heap), s.vm = U.vm → Ev A s H → Ev A U H)
def Fx (D : va_G) (tys : List (ClassId × FieldType)) (Ev : Evp) (p : Program) (s : State) (m : MethodId) (args : Array Value) (meth : Method) (c : Code) (cc : ByteArray) (nL : Nat) (own : String) (A : Nat → Prop) : Prop :=
  p.tables.exec = Jvm.exec ∧ c.code = cc ∧ c.maxLocals = nL ∧ s.vm.findClass own = some m.cls ∧ (∀ w ∈ gT, w.before args s = true) ∧ meth.locks = false ∧ va_K D vwCl tys s ∧ Ev A s s.heap ∧ (∀ q : Nat, s.heap.size ≤ q → A q)
def St (D : va_G) (ad : Nat → Nat) (n : Nat) (sh : Shp) (A : Nat → Prop) (s : State) (σ : Sg) (H : Heap) (locs : List Loc) : Prop :=
  va_P D vwCl (wS ad n sh σ) H ∧ va_D A (wS ad n sh σ) ∧ va_S A s.heap H locs
theorem St.free {D : va_G} {ad : Nat → Nat} {n : Nat} {sh : Shp} {A : Nat → Prop} {s : State} {σ : Sg} {H : Heap} {locs : List Loc} (S : St D ad n sh A s σ H locs) (hA : ∀ q : Nat, s.heap.size ≤ q → A q) : ∀ q, va_A (wS ad n sh σ) H.size q → A q := by
  intro q h
  rcases h with ⟨k, e, h⟩ | h
  · exact S.2.1.2 k _ h
  · exact hA q (Nat.le_trans S.2.2.1 h)
theorem pre_blind {D : va_G} {tys : List (ClassId × FieldType)} {ad : Nat → Nat} {n : Nat} {sh : Shp} {Ev : Evp} {sz : Nat} {σ : Sg} {av : List Value} (hE : EvOk Ev) : FrameBlind (va_Pc av (PreW D tys ad n sh Ev sz σ)) := by
  intro a U g mk q
  obtain ⟨q0, q1, qP, qK, qD, qE⟩ := q
  exact ⟨q0, q1, qP, va_K.moved (u := U) (U := U.calling g mk a) (Vm.Alike.refl U.vm) qK, qD, hE.2.2.2 _ U (U.calling g mk a) _ rfl qE⟩
theorem pre_at {D : va_G} {tys : List (ClassId × FieldType)} {ad : Nat → Nat} {n : Nat} {sh : Shp} {Ev : Evp} {A : Nat → Prop} {s : State} {σ : Sg} {H : Heap} {locs : List Loc} (hE : EvOk Ev) (hK : va_K D vwCl tys s) (hEv : Ev A s s.heap) (hA : ∀ q : Nat, s.heap.size ≤ q → A q) (S : St D ad n sh A s σ H locs) (U : State) (hU : U.heap = H) (hW : s.WarmedH U.vm) : PreW D tys ad n sh Ev H.size σ U := by
  have hF := S.free hA
  refine ⟨by rw [hU], by rw [hU]; exact S.1, va_K.moved hW.alike hK, S.2.1.weaken (fun _ _ _ _ => trivial), ?_⟩
  rw [hU]
  exact hE.2.2.1 _ s U _ hW (hE.2.1 A _ s H (hE.1 A s s.heap H hEv S.2.2.2.1) hF)
section OP
variable {p : Program} {l : Launch} {e : Env} {R : Room} {s : State} {m : MethodId} {args : Array Value} {below : List Frame} {meth : Method} {c : Code} {H : Heap} {locs : List Loc} {Q : State → Prop}
variable {D : va_G} {tys : List (ClassId × FieldType)} {ad : Nat → Nat} {n : Nat} {sh : Shp} {Ev : Evp} {A : Nat → Prop} {σ : Sg} {cc : ByteArray} {nL : Nat} {own : String} {pc : Nat} {ls : Array Slot} {rest : List Value}
theorem metI_of {y : MethodName} {maxL : Nat} {ret : Option FieldType} {rm : Room} {av : List Value} {Qp : Int32 → Sg → Prop} (hy : plainName y.cls = true) (hlen : (lg_sl av).length ≤ maxL)
    (body : ∀ (p : Program) (e : Env) (s : State) (m : MethodId) (args : Array Value) (below : List Frame) (meth : Method) (c : Code) (A : Nat → Prop) (ls : Array Slot), Fx D tys Ev p s m args meth c cc maxL y.cls A → meth.sig.returnType = ret → lv_has ls maxL (lv_args 0 av) → St D ad n sh A s σ s.heap [] →
      W p l e rm s m args below meth c s.heap [] 0 0 (MQ below (va_Qi Qp (PosW D tys ad n sh A) A) args s 0 0 A) (F0 m 0 ls [])) : MetI D tys ad n sh Ev l y (.code y cc maxL ret :: gT) rm av σ Qp := by
  intro sz
  refine Met.ofW (cc := cc) (maxL := maxL) (ret := ret) hy rfl ?_
  intro p e s m args below meth c s₁ B hml hv
  obtain ⟨rfl, hsz, hP, hK, hD0, hE⟩ := hv
  have hts0 := atoms_spec (ws := Cond.code y cc maxL ret :: gT) B.pre
  subst hsz
  have hD := hD0.self (sz := s.heap.size)
  rw [lg_entry_eq]
  exact body p e s m _ below meth c _ _ ⟨B.exec, B.bytes, hml, findClass_of_methodNamed B.named, fun w h => hts0 w (List.mem_cons_of_mem _ h), B.notSynchronized, hK, hE, fun q h => Or.inr h⟩ B.returns (lv_entry av hlen) ⟨hP, hD, va_S.rf⟩
theorem metL_of {y : MethodName} {maxL : Nat} {ret : Option FieldType} {rm : Room} {av : List Value} {Qp : Int64 → Sg → Prop} (hy : plainName y.cls = true) (hlen : (lg_sl av).length ≤ maxL)
    (body : ∀ (p : Program) (e : Env) (s : State) (m : MethodId) (args : Array Value) (below : List Frame) (meth : Method) (c : Code) (A : Nat → Prop) (ls : Array Slot), Fx D tys Ev p s m args meth c cc maxL y.cls A → meth.sig.returnType = ret → lv_has ls maxL (lv_args 0 av) → St D ad n sh A s σ s.heap [] →
      W p l e rm s m args below meth c s.heap [] 0 0 (MQ below (va_Ql Qp (PosW D tys ad n sh A) A) args s 0 0 A) (F0 m 0 ls [])) : MetL D tys ad n sh Ev l y (.code y cc maxL ret :: gT) rm av σ Qp := by
  intro sz
  refine Met.ofW (cc := cc) (maxL := maxL) (ret := ret) hy rfl ?_
  intro p e s m args below meth c s₁ B hml hv
  obtain ⟨rfl, hsz, hP, hK, hD0, hE⟩ := hv
  have hts0 := atoms_spec (ws := Cond.code y cc maxL ret :: gT) B.pre
  subst hsz
  have hD := hD0.self (sz := s.heap.size)
  rw [lg_entry_eq]
  exact body p e s m _ below meth c _ _ ⟨B.exec, B.bytes, hml, findClass_of_methodNamed B.named, fun w h => hts0 w (List.mem_cons_of_mem _ h), B.notSynchronized, hK, hE, fun q h => Or.inr h⟩ B.returns (lv_entry av hlen) ⟨hP, hD, va_S.rf⟩
theorem metV_of {y : MethodName} {maxL : Nat} {ret : Option FieldType} {rm : Room} {av : List Value} {Qp : Sg → Prop} (hy : plainName y.cls = true) (hlen : (lg_sl av).length ≤ maxL)
    (body : ∀ (p : Program) (e : Env) (s : State) (m : MethodId) (args : Array Value) (below : List Frame) (meth : Method) (c : Code) (A : Nat → Prop) (ls : Array Slot), Fx D tys Ev p s m args meth c cc maxL y.cls A → meth.sig.returnType = ret → lv_has ls maxL (lv_args 0 av) → St D ad n sh A s σ s.heap [] →
      W p l e rm s m args below meth c s.heap [] 0 0 (MQ below (va_Qv Qp (PosW D tys ad n sh A) A) args s 0 0 A) (F0 m 0 ls [])) : MetV D tys ad n sh Ev l y (.code y cc maxL ret :: gT) rm av σ Qp := by
  intro sz
  refine Met.ofW (cc := cc) (maxL := maxL) (ret := ret) hy rfl ?_
  intro p e s m args below meth c s₁ B hml hv
  obtain ⟨rfl, hsz, hP, hK, hD0, hE⟩ := hv
  have hts0 := atoms_spec (ws := Cond.code y cc maxL ret :: gT) B.pre
  subst hsz
  have hD := hD0.self (sz := s.heap.size)
  rw [lg_entry_eq]
  exact body p e s m _ below meth c _ _ ⟨B.exec, B.bytes, hml, findClass_of_methodNamed B.named, fun w h => hts0 w (List.mem_cons_of_mem _ h), B.notSynchronized, hK, hE, fun q h => Or.inr h⟩ B.returns (lv_entry av hlen) ⟨hP, hD, va_S.rf⟩
-- ends
theorem o_iret {Qp : Int32 → Sg → Prop} (X : Fx D tys Ev p s m args meth c cc nL own A) (S : St D ad n sh A s σ H locs) (hr : meth.sig.returnType = some .int) {v : Int32} (h : Qp v σ) (hdg : decode cc pc = .ok (.ireturn, 1)) : W p l e R s m args below meth c H locs 0 0 (MQ below (va_Qi Qp (PosW D tys ad n sh A) A) args s 0 0 A) (F0 m pc ls [.int v]) :=
  W.iret X.1 X.2.1 hr (fun t ht hW => ⟨⟨v, σ, rfl, h, by rw [ht]; exact S.1, va_K.moved hW.alike X.2.2.2.2.2.2.1, S.2.1⟩, S.2.2.F ht⟩) S.2.2.2.2 hdg X.2.2.2.2.2.1
theorem o_zret {Qp : Int32 → Sg → Prop} (X : Fx D tys Ev p s m args meth c cc nL own A) (S : St D ad n sh A s σ H locs) (hr : meth.sig.returnType = some .boolean) {v : Int32} (hv : bok v) (h : Qp v σ) (hdg : decode cc pc = .ok (.ireturn, 1)) : W p l e R s m args below meth c H locs 0 0 (MQ below (va_Qi Qp (PosW D tys ad n sh A) A) args s 0 0 A) (F0 m pc ls [.int v]) :=
  W.zret X.1 X.2.1 hr hv (fun t ht hW => ⟨⟨v, σ, rfl, h, by rw [ht]; exact S.1, va_K.moved hW.alike X.2.2.2.2.2.2.1, S.2.1⟩, S.2.2.F ht⟩) S.2.2.2.2 hdg X.2.2.2.2.2.1
theorem o_lret {Qp : Int64 → Sg → Prop} (X : Fx D tys Ev p s m args meth c cc nL own A) (S : St D ad n sh A s σ H locs) (hr : meth.sig.returnType = some .long) {v : Int64} (h : Qp v σ) (hdg : decode cc pc = .ok (.lreturn, 1)) : W p l e R s m args below meth c H locs 0 0 (MQ below (va_Ql Qp (PosW D tys ad n sh A) A) args s 0 0 A) (F0 m pc ls [.long v]) :=
  W.lret X.1 X.2.1 hr (fun t ht hW => ⟨⟨v, σ, rfl, h, by rw [ht]; exact S.1, va_K.moved hW.alike X.2.2.2.2.2.2.1, S.2.1⟩, S.2.2.F ht⟩) S.2.2.2.2 hdg X.2.2.2.2.2.1
theorem o_vret {Qp : Sg → Prop} (X : Fx D tys Ev p s m args meth c cc nL own A) (S : St D ad n sh A s σ H locs) (hr : meth.sig.returnType = none) (h : Qp σ) (hdg : decode cc pc = .ok (.return_, 1)) : W p l e R s m args below meth c H locs 0 0 (MQ below (va_Qv Qp (PosW D tys ad n sh A) A) args s 0 0 A) (F0 m pc ls []) :=
  W.vret X.1 X.2.1 hr (fun t ht hW => ⟨⟨σ, rfl, h, by rw [ht]; exact S.1, va_K.moved hW.alike X.2.2.2.2.2.2.1, S.2.1⟩, S.2.2.F ht⟩) S.2.2.2.2 hdg X.2.2.2.2.2.1
-- fields
theorem o_get (X : Fx D tys Ev p s m args meth c cc nL own A) (S : St D ad n sh A s σ H locs) {C : String} {T : u_T} {N ci index : Nat} {fs : List Value} {v : Value} (j k : Nat) (hj : j < n) (hs : sh j (σ j) = .inr (ci, fs)) (hc : vwCl[ci]? = some (C, T, N)) (hin : ∀ w ∈ u_ws C T N, w ∈ gT) (hk : k < N) (hl : Cond.fieldLink own index (T k).1 (T k).2.1 (T k).2.2.1 ∈ gT) (hv : fs[k]? = some v) (hdg : decode cc pc = .ok (.getfield index, 3))
    (kk : W p l e R s m args below meth c H locs 0 0 Q (F0 m (pc + 3) ls (v :: rest))) : W p l e R s m args below meth c H locs 0 0 Q (F0 m pc ls (.ref (ad j) :: rest)) :=
  va_get (D := D) (ws := wS ad n sh σ) X.1 X.2.1 X.2.2.2.2.1 hin X.2.2.2.1 X.2.2.2.2.2.2.1 S.1 j ((wS_at hj).trans (by rw [hs])) hc k hk (X.2.2.2.2.1 _ hl) (fun _ h => h) hv hdg kk
theorem o_puti (X : Fx D tys Ev p s m args meth c cc nL own A) (S : St D ad n sh A s σ H locs) {C : String} {T : u_T} {N ci index : Nat} {fs : (Nat → Int32) → List Value} {x : Int32} {ty : FieldType} {ty0 : Nat → FieldType} (j k : Nat) (hj : j < n) (hs : ∀ c, sh j c = .inr (ci, fs c)) (hset : ∀ (c : Nat → Int32) (x : Int32), (fs c).set k (.int x) = fs (upd c k x)) (hc : vwCl[ci]? = some (C, T, N)) (hin : ∀ w ∈ u_ws C T N, w ∈ gT) (hty : ∀ k, k < N → parseFieldDescriptor (T k).2.2.1 = some (ty0 k)) (hnm : ∀ a, a < N → ∀ b, b < N → a ≠ b → (T a).2.1 ≠ (T b).2.1) (hk : k < N) (hl : Cond.fieldLink own index (T k).1 (T k).2.1 (T k).2.2.1 ∈ gT) (hfin : (T k).2.2.2 = false) (hd : ty0 k = ty) (hn : narrow ty (.int x) = .int x) (hfit : fits ty (.int x) = true) (hlen : ∀ c, k < (fs c).length) (hdg : decode cc pc = .ok (.putfield index, 3))
    (kk : ∀ (σ' : Sg) (H1 : Heap) (locs1 : List Loc), σ' = sto σ j k x → St D ad n sh A s σ' H1 locs1 → W p l e R s m args below meth c H1 locs1 0 0 Q (F0 m (pc + 3) ls rest)) : W p l e R s m args below meth c H locs 0 0 Q (F0 m pc ls (.int x :: .ref (ad j) :: rest)) := by
  refine va_put (D := D) (ws := wS ad n sh σ) (fs := fs (σ j)) (ty := ty) X.1 X.2.1 X.2.2.2.2.1 hin ty0 hty hnm X.2.2.2.1 X.2.2.2.2.2.2.1 S.1 S.2.1 S.2.2 j ((wS_at hj).trans (by rw [hs])) hc k hk (X.2.2.2.2.1 _ hl) (fun _ h => h) hfin (by rw [← hd]; exact hty k hk) hn hfit (hlen _) hdg (fun H1 locs1 hP hD hS => ?_)
  have e0 : (Sum.inr (ci, (fs (σ j)).set k (.int x)) : va_E) = sh j (upd (σ j) k x) := by rw [hset, hs]
  rw [e0, wS_set hj] at hP hD
  exact kk _ H1 locs1 rfl ⟨hP, hD, hS⟩
/-- a field that holds a reference that moves: its place's number stands in σ -/
theorem o_putr (X : Fx D tys Ev p s m args meth c cc nL own A) (S : St D ad n sh A s σ H locs) {C : String} {T : u_T} {N ci index : Nat} {fs : (Nat → Int32) → List Value} {x : Int32} {r : Nat} {ty : FieldType} {ty0 : Nat → FieldType} (j k : Nat) (hj : j < n) (hs : ∀ c, sh j c = .inr (ci, fs c)) (hset : (fs (σ j)).set k (.ref (ad r)) = fs (upd (σ j) k x)) (hc : vwCl[ci]? = some (C, T, N)) (hin : ∀ w ∈ u_ws C T N, w ∈ gT) (hty : ∀ k, k < N → parseFieldDescriptor (T k).2.2.1 = some (ty0 k)) (hnm : ∀ a, a < N → ∀ b, b < N → a ≠ b → (T a).2.1 ≠ (T b).2.1) (hk : k < N) (hl : Cond.fieldLink own index (T k).1 (T k).2.1 (T k).2.2.1 ∈ gT) (hfin : (T k).2.2.2 = false) (hd : ty0 k = ty) (hn : narrow ty (.ref (ad r)) = .ref (ad r)) (hfit : fits ty (.ref (ad r)) = true) (hlen : ∀ c, k < (fs c).length) (hdg : decode cc pc = .ok (.putfield index, 3))
    (kk : ∀ (σ' : Sg) (H1 : Heap) (locs1 : List Loc), σ' = sto σ j k x → St D ad n sh A s σ' H1 locs1 → W p l e R s m args below meth c H1 locs1 0 0 Q (F0 m (pc + 3) ls rest)) : W p l e R s m args below meth c H locs 0 0 Q (F0 m pc ls (.ref (ad r) :: .ref (ad j) :: rest)) := by
  refine va_put (D := D) (ws := wS ad n sh σ) (fs := fs (σ j)) (ty := ty) X.1 X.2.1 X.2.2.2.2.1 hin ty0 hty hnm X.2.2.2.1 X.2.2.2.2.2.2.1 S.1 S.2.1 S.2.2 j ((wS_at hj).trans (by rw [hs])) hc k hk (X.2.2.2.2.1 _ hl) (fun _ h => h) hfin (by rw [← hd]; exact hty k hk) hn hfit (hlen _) hdg (fun H1 locs1 hP hD hS => ?_)
  have e0 : (Sum.inr (ci, (fs (σ j)).set k (.ref (ad r))) : va_E) = sh j (upd (σ j) k x) := by rw [hset, hs]
  rw [e0, wS_set hj] at hP hD
  exact kk _ H1 locs1 rfl ⟨hP, hD, hS⟩
-- arrays
theorem o_iald (X : Fx D tys Ev p s m args meth c cc nL own A) (S : St D ad n sh A s σ H locs) {cA : ClassId} {len : Nat} {i : Int32} (j t0 : Nat) (hj : j < n) (hs : ∀ c, sh j c = .inl (cA, len, .inl c)) (ht : tys[t0]? = some (cA, .int)) (hin : vp_in i len) (hdg : decode cc pc = .ok (.iaload, 1))
    (kk : W p l e R s m args below meth c H locs 0 0 Q (F0 m (pc + 1) ls (.int (σ j i.toNatClampNeg) :: rest))) : W p l e R s m args below meth c H locs 0 0 Q (F0 m pc ls (.int i :: .ref (ad j) :: rest)) :=
  va_iald (D := D) (ws := wS ad n sh σ) X.1 X.2.1 X.2.2.2.2.2.2.1 S.1 j t0 ((wS_at hj).trans (by rw [hs])) ht hin hdg kk
theorem o_zald (X : Fx D tys Ev p s m args meth c cc nL own A) (S : St D ad n sh A s σ H locs) {cA : ClassId} {len : Nat} {i : Int32} (j t0 : Nat) (hj : j < n) (hs : ∀ c, sh j c = .inl (cA, len, .inl c)) (ht : tys[t0]? = some (cA, .boolean)) (hin : vp_in i len) (hdg : decode cc pc = .ok (.baload, 1))
    (kk : W p l e R s m args below meth c H locs 0 0 Q (F0 m (pc + 1) ls (.int (σ j i.toNatClampNeg) :: rest))) : W p l e R s m args below meth c H locs 0 0 Q (F0 m pc ls (.int i :: .ref (ad j) :: rest)) :=
  va_zald (D := D) (ws := wS ad n sh σ) X.1 X.2.1 X.2.2.2.2.2.2.1 S.1 j t0 ((wS_at hj).trans (by rw [hs])) ht hin hdg kk
theorem o_iast (X : Fx D tys Ev p s m args meth c cc nL own A) (S : St D ad n sh A s σ H locs) {cA : ClassId} {len : Nat} {i x : Int32} (j t0 : Nat) (hj : j < n) (hs : ∀ c, sh j c = .inl (cA, len, .inl c)) (ht : tys[t0]? = some (cA, .int)) (hin : vp_in i len) (hdg : decode cc pc = .ok (.iastore, 1))
    (kk : ∀ (σ' : Sg) (H1 : Heap) (locs1 : List Loc), σ' = sto σ j i.toNatClampNeg x → St D ad n sh A s σ' H1 locs1 → W p l e R s m args below meth c H1 locs1 0 0 Q (F0 m (pc + 1) ls rest)) : W p l e R s m args below meth c H locs 0 0 Q (F0 m pc ls (.int x :: .int i :: .ref (ad j) :: rest)) := by
  refine va_iast (D := D) (ws := wS ad n sh σ) X.1 X.2.1 X.2.2.2.2.2.2.1 S.1 S.2.1 S.2.2 j t0 ((wS_at hj).trans (by rw [hs])) ht hin hdg (fun H1 locs1 hP hD hS => ?_)
  rw [← hs, wS_set hj] at hP hD
  exact kk _ H1 locs1 rfl ⟨hP, hD, hS⟩
theorem o_zast (X : Fx D tys Ev p s m args meth c cc nL own A) (S : St D ad n sh A s σ H locs) {cA : ClassId} {len : Nat} {i x : Int32} (j t0 : Nat) (hj : j < n) (hs : ∀ c, sh j c = .inl (cA, len, .inl c)) (ht : tys[t0]? = some (cA, .boolean)) (hin : vp_in i len) (hdg : decode cc pc = .ok (.bastore, 1))
    (kk : ∀ (σ' : Sg) (H1 : Heap) (locs1 : List Loc), σ' = sto σ j i.toNatClampNeg (vp_nar .boolean x) → St D ad n sh A s σ' H1 locs1 → W p l e R s m args below meth c H1 locs1 0 0 Q (F0 m (pc + 1) ls rest)) : W p l e R s m args below meth c H locs 0 0 Q (F0 m pc ls (.int x :: .int i :: .ref (ad j) :: rest)) := by
  refine va_zast (D := D) (ws := wS ad n sh σ) X.1 X.2.1 X.2.2.2.2.2.2.1 S.1 S.2.1 S.2.2 j t0 ((wS_at hj).trans (by rw [hs])) ht hin hdg (fun H1 locs1 hP hD hS => ?_)
  rw [← hs, wS_set hj] at hP hD
  exact kk _ H1 locs1 rfl ⟨hP, hD, hS⟩
theorem o_alen (X : Fx D tys Ev p s m args meth c cc nL own A) (S : St D ad n sh A s σ H locs) {cA : ClassId} {x : vp_A} {ty : FieldType} {v : Int32} (j t0 : Nat) (hj : j < n) (hs : sh j (σ j) = .inl (cA, x)) (ht : tys[t0]? = some (cA, ty)) (hv : Int32.ofNat x.1 = v) (hdg : decode cc pc = .ok (.arraylength, 1))
    (kk : W p l e R s m args below meth c H locs 0 0 Q (F0 m (pc + 1) ls (.int v :: rest))) : W p l e R s m args below meth c H locs 0 0 Q (F0 m pc ls (.ref (ad j) :: rest)) :=
  va_alen (D := D) (ws := wS ad n sh σ) X.1 X.2.1 X.2.2.2.2.2.2.1 S.1 j t0 ((wS_at hj).trans (by rw [hs])) ht hv hdg kk
theorem o_rald (X : Fx D tys Ev p s m args meth c cc nL own A) (S : St D ad n sh A s σ H locs) {cA : ClassId} {C : String} {f : Nat → Option Nat} {len r : Nat} {i : Int32} (j t0 : Nat) (hj : j < n) (hs : sh j (σ j) = .inl (cA, len, .inr (.inr (.inr (.inr f))))) (ht : tys[t0]? = some (cA, .object C)) (hin : vp_in i len) (hf : f i.toNatClampNeg = some (ad r)) (hdg : decode cc pc = .ok (.aaload, 1))
    (kk : W p l e R s m args below meth c H locs 0 0 Q (F0 m (pc + 1) ls (.ref (ad r) :: rest))) : W p l e R s m args below meth c H locs 0 0 Q (F0 m pc ls (.int i :: .ref (ad j) :: rest)) :=
  va_aldq (D := D) (ws := wS ad n sh σ) X.1 X.2.1 X.2.2.2.2.2.2.1 S.1 j t0 ((wS_at hj).trans (by rw [hs])) ht hin hdg (by rw [hf]; exact kk)
-- calls
theorem o_back {A1 : Nat → Prop} {t : State} {H1 : Heap} {locs1 : List Loc} {σ' : Sg} (S : St D ad n sh A s σ H locs) (ht : t.heap = H1) (hB : PosW D tys ad n sh A1 σ' t) (hS1 : va_S A s.heap H1 locs1) : St D ad n sh A s σ' H1 locs1 := ⟨ht ▸ hB.1, wS_D S.2.1, hS1⟩
theorem o_callVi (hE : EvOk Ev) (X : Fx D tys Ev p s m args meth c cc nL own A) (S : St D ad n sh A s σ H locs) {y : MethodName} {bytes : ByteArray} {maxL ci N index k j : Nat} {ret : Option FieldType} {rm : Room} {As st : List Value} {C : String} {T : u_T} {fs : List Value} {Qx : Int32 → Sg → Prop}
    (hM : MetI D tys ad n sh Ev l y (.code y bytes maxL ret :: gT) rm (.ref (ad j) :: As) σ Qx) (hj : j < n) (hs : sh j (σ j) = .inr (ci, fs)) (hc : vwCl[ci]? = some (C, T, N)) (kc : Cond.code y bytes maxL ret ∈ gT) (kl : Cond.methodLink own index y ∈ gT) (ki : Cond.instanceMethod y ∈ gT) (ks : Cond.selects C y y ∈ gT) (kn : Cond.initialized C ∈ gT)
    (hd : y.cls = C ∧ y.cls ≠ "java/lang/invoke/MethodHandle" ∧ y.cls ≠ "java/lang/invoke/VarHandle" ∧ (parseMethodDescriptor y.desc).map (fun d => d.parameters.length) = some k) (hrm : rm.cells = 0 ∧ rm.slots = 0) (hR : rm.frames + 1 ≤ R.frames ∧ 8 + (maxL + 11) + rm.locals ≤ R.locals) (hn : As.length = k) (hsz : ls.size = nL) (hst : st = As.reverse ++ .ref (ad j) :: rest) (hW : (rest.map fun v => v.category).sum ≤ 8) (hdg : decode cc pc = .ok (.invokevirtual index, 3))
    (kk : ∀ (r : Int32) (σ' : Sg) (H1 : Heap) (locs1 : List Loc), Qx r σ' → St D ad n sh A s σ' H1 locs1 → W p l e R s m args below meth c H1 locs1 0 0 Q (F0 m (pc + 3) ls (.int r :: rest))) : W p l e R s m args below meth c H locs 0 0 Q (F0 m pc ls st) := by
  subst hst
  have hF := S.free X.2.2.2.2.2.2.2.2
  have hG : GoodIn gT (wsV own index C y (Cond.code y bytes maxL ret :: gT)) := fun w h => by
    have h1 : w ∈ gT := (List.mem_append.mp h).elim (fun h => by rcases List.mem_cons.mp h with rfl | h; exact kl; rcases List.mem_cons.mp h with rfl | h; exact ki; rcases List.mem_cons.mp h with rfl | h; exact ks; rcases List.mem_cons.mp h with rfl | h; exact kn; cases h) (fun h => (List.mem_cons.mp h).elim (fun e => e ▸ kc) id)
    exact ⟨h1, good_of_word (gT_good h1)⟩
  refine va_calli (A0 := A) (va_runV (As := As) (rest := rest) (nL := nL) ⟨X.1, X.2.1, X.2.2.1, X.2.2.2.1, X.2.2.2.2.1⟩ (hM H.size) (cwV k X.2.2.2.2.1 hG rfl hrm.1 hrm.2 hd hR) ⟨pre_blind hE, va_recv X.2.2.2.2.2.2.1 S.1 hc ((wS_at hj).trans (by rw [hs])), fun U hU hW => ⟨rfl, pre_at hE X.2.2.2.2.2.2.1 X.2.2.2.2.2.2.2.1 X.2.2.2.2.2.2.2.2 S U hU hW⟩⟩ rfl hn hsz rfl (by show 2 * 0 + _ ≤ 8; rw [Nat.mul_zero, Nat.zero_add]; exact hW) hdg ⟨Nat.zero_le _, Nat.zero_le _⟩) S.2.2 (fun q _ h => hF q h) hF (fun r u t H1 locs1 ht hvm hw hB hz1 hk1 hS1 => ?_)
  exact kk r u H1 locs1 hw (o_back S ht hB hS1)
theorem o_callVl (hE : EvOk Ev) (X : Fx D tys Ev p s m args meth c cc nL own A) (S : St D ad n sh A s σ H locs) {y : MethodName} {bytes : ByteArray} {maxL ci N index k j : Nat} {ret : Option FieldType} {rm : Room} {As st : List Value} {C : String} {T : u_T} {fs : List Value} {Qx : Int64 → Sg → Prop}
    (hM : MetL D tys ad n sh Ev l y (.code y bytes maxL ret :: gT) rm (.ref (ad j) :: As) σ Qx) (hj : j < n) (hs : sh j (σ j) = .inr (ci, fs)) (hc : vwCl[ci]? = some (C, T, N)) (kc : Cond.code y bytes maxL ret ∈ gT) (kl : Cond.methodLink own index y ∈ gT) (ki : Cond.instanceMethod y ∈ gT) (ks : Cond.selects C y y ∈ gT) (kn : Cond.initialized C ∈ gT)
    (hd : y.cls = C ∧ y.cls ≠ "java/lang/invoke/MethodHandle" ∧ y.cls ≠ "java/lang/invoke/VarHandle" ∧ (parseMethodDescriptor y.desc).map (fun d => d.parameters.length) = some k) (hrm : rm.cells = 0 ∧ rm.slots = 0) (hR : rm.frames + 1 ≤ R.frames ∧ 8 + (maxL + 11) + rm.locals ≤ R.locals) (hn : As.length = k) (hsz : ls.size = nL) (hst : st = As.reverse ++ .ref (ad j) :: rest) (hW : (rest.map fun v => v.category).sum ≤ 8) (hdg : decode cc pc = .ok (.invokevirtual index, 3))
    (kk : ∀ (r : Int64) (σ' : Sg) (H1 : Heap) (locs1 : List Loc), Qx r σ' → St D ad n sh A s σ' H1 locs1 → W p l e R s m args below meth c H1 locs1 0 0 Q (F0 m (pc + 3) ls (.long r :: rest))) : W p l e R s m args below meth c H locs 0 0 Q (F0 m pc ls st) := by
  subst hst
  have hF := S.free X.2.2.2.2.2.2.2.2
  have hG : GoodIn gT (wsV own index C y (Cond.code y bytes maxL ret :: gT)) := fun w h => by
    have h1 : w ∈ gT := (List.mem_append.mp h).elim (fun h => by rcases List.mem_cons.mp h with rfl | h; exact kl; rcases List.mem_cons.mp h with rfl | h; exact ki; rcases List.mem_cons.mp h with rfl | h; exact ks; rcases List.mem_cons.mp h with rfl | h; exact kn; cases h) (fun h => (List.mem_cons.mp h).elim (fun e => e ▸ kc) id)
    exact ⟨h1, good_of_word (gT_good h1)⟩
  refine va_calll (A0 := A) (va_runV (As := As) (rest := rest) (nL := nL) ⟨X.1, X.2.1, X.2.2.1, X.2.2.2.1, X.2.2.2.2.1⟩ (hM H.size) (cwV k X.2.2.2.2.1 hG rfl hrm.1 hrm.2 hd hR) ⟨pre_blind hE, va_recv X.2.2.2.2.2.2.1 S.1 hc ((wS_at hj).trans (by rw [hs])), fun U hU hW => ⟨rfl, pre_at hE X.2.2.2.2.2.2.1 X.2.2.2.2.2.2.2.1 X.2.2.2.2.2.2.2.2 S U hU hW⟩⟩ rfl hn hsz rfl (by show 2 * 0 + _ ≤ 8; rw [Nat.mul_zero, Nat.zero_add]; exact hW) hdg ⟨Nat.zero_le _, Nat.zero_le _⟩) S.2.2 (fun q _ h => hF q h) hF (fun r u t H1 locs1 ht hvm hw hB hz1 hk1 hS1 => ?_)
  exact kk r u H1 locs1 hw (o_back S ht hB hS1)
theorem o_callVv (hE : EvOk Ev) (X : Fx D tys Ev p s m args meth c cc nL own A) (S : St D ad n sh A s σ H locs) {y : MethodName} {bytes : ByteArray} {maxL ci N index k j : Nat} {ret : Option FieldType} {rm : Room} {As st : List Value} {C : String} {T : u_T} {fs : List Value} {Qx : Sg → Prop}
    (hM : MetV D tys ad n sh Ev l y (.code y bytes maxL ret :: gT) rm (.ref (ad j) :: As) σ Qx) (hj : j < n) (hs : sh j (σ j) = .inr (ci, fs)) (hc : vwCl[ci]? = some (C, T, N)) (kc : Cond.code y bytes maxL ret ∈ gT) (kl : Cond.methodLink own index y ∈ gT) (ki : Cond.instanceMethod y ∈ gT) (ks : Cond.selects C y y ∈ gT) (kn : Cond.initialized C ∈ gT)
    (hd : y.cls = C ∧ y.cls ≠ "java/lang/invoke/MethodHandle" ∧ y.cls ≠ "java/lang/invoke/VarHandle" ∧ (parseMethodDescriptor y.desc).map (fun d => d.parameters.length) = some k) (hrm : rm.cells = 0 ∧ rm.slots = 0) (hR : rm.frames + 1 ≤ R.frames ∧ 8 + (maxL + 11) + rm.locals ≤ R.locals) (hn : As.length = k) (hsz : ls.size = nL) (hst : st = As.reverse ++ .ref (ad j) :: rest) (hW : (rest.map fun v => v.category).sum ≤ 8) (hdg : decode cc pc = .ok (.invokevirtual index, 3))
    (kk : ∀ (σ' : Sg) (H1 : Heap) (locs1 : List Loc), Qx σ' → St D ad n sh A s σ' H1 locs1 → W p l e R s m args below meth c H1 locs1 0 0 Q (F0 m (pc + 3) ls rest)) : W p l e R s m args below meth c H locs 0 0 Q (F0 m pc ls st) := by
  subst hst
  have hF := S.free X.2.2.2.2.2.2.2.2
  have hG : GoodIn gT (wsV own index C y (Cond.code y bytes maxL ret :: gT)) := fun w h => by
    have h1 : w ∈ gT := (List.mem_append.mp h).elim (fun h => by rcases List.mem_cons.mp h with rfl | h; exact kl; rcases List.mem_cons.mp h with rfl | h; exact ki; rcases List.mem_cons.mp h with rfl | h; exact ks; rcases List.mem_cons.mp h with rfl | h; exact kn; cases h) (fun h => (List.mem_cons.mp h).elim (fun e => e ▸ kc) id)
    exact ⟨h1, good_of_word (gT_good h1)⟩
  refine va_callv (A0 := A) (va_runV (As := As) (rest := rest) (nL := nL) ⟨X.1, X.2.1, X.2.2.1, X.2.2.2.1, X.2.2.2.2.1⟩ (hM H.size) (cwV k X.2.2.2.2.1 hG rfl hrm.1 hrm.2 hd hR) ⟨pre_blind hE, va_recv X.2.2.2.2.2.2.1 S.1 hc ((wS_at hj).trans (by rw [hs])), fun U hU hW => ⟨rfl, pre_at hE X.2.2.2.2.2.2.1 X.2.2.2.2.2.2.2.1 X.2.2.2.2.2.2.2.2 S U hU hW⟩⟩ rfl hn hsz rfl (by show 2 * 0 + _ ≤ 8; rw [Nat.mul_zero, Nat.zero_add]; exact hW) hdg ⟨Nat.zero_le _, Nat.zero_le _⟩) S.2.2 (fun q _ h => hF q h) hF (fun u t H1 locs1 ht hvm hw hB hz1 hk1 hS1 => ?_)
  exact kk u H1 locs1 hw (o_back S ht hB hS1)
theorem gS_good {own : String} {index : Nat} {y : MethodName} {bytes : ByteArray} {maxL : Nat} {ret : Option FieldType} (kc : Cond.code y bytes maxL ret ∈ gT) (kl : Cond.methodLink own index y ∈ gT) (kt : Cond.static y ∈ gT) (kn : Cond.initialized y.cls ∈ gT) : GoodIn gT (va_wsS own index y (Cond.code y bytes maxL ret :: gT)) := fun w h => by
  have h1 : w ∈ gT := (List.mem_append.mp h).elim (fun h => by rcases List.mem_cons.mp h with rfl | h; exact kl; rcases List.mem_cons.mp h with rfl | h; exact kt; rcases List.mem_cons.mp h with rfl | h; exact kn; cases h) (fun h => (List.mem_cons.mp h).elim (fun e => e ▸ kc) id)
  exact ⟨h1, good_of_word (gT_good h1)⟩
theorem o_callSi (hE : EvOk Ev) (X : Fx D tys Ev p s m args meth c cc nL own A) (S : St D ad n sh A s σ H locs) {y : MethodName} {bytes : ByteArray} {maxL index k : Nat} {ret : Option FieldType} {rm : Room} {As st : List Value} {Qx : Int32 → Sg → Prop}
    (hM : MetI D tys ad n sh Ev l y (.code y bytes maxL ret :: gT) rm As σ Qx) (kc : Cond.code y bytes maxL ret ∈ gT) (kl : Cond.methodLink own index y ∈ gT) (kt : Cond.static y ∈ gT) (kn : Cond.initialized y.cls ∈ gT)
    (hd : y.cls ≠ "java/lang/invoke/MethodHandle" ∧ y.cls ≠ "java/lang/invoke/VarHandle" ∧ (parseMethodDescriptor y.desc).map (fun d => d.parameters.length) = some k) (hrm : rm.cells = 0 ∧ rm.slots = 0) (hR : rm.frames + 1 ≤ R.frames ∧ 8 + (maxL + 11) + rm.locals ≤ R.locals) (hn : As.length = k) (hsz : ls.size = nL) (hst : st = As.reverse ++ rest) (hW : (rest.map fun v => v.category).sum ≤ 8) (hdg : decode cc pc = .ok (.invokestatic index, 3))
    (kk : ∀ (r : Int32) (σ' : Sg) (H1 : Heap) (locs1 : List Loc), Qx r σ' → St D ad n sh A s σ' H1 locs1 → W p l e R s m args below meth c H1 locs1 0 0 Q (F0 m (pc + 3) ls (.int r :: rest))) : W p l e R s m args below meth c H locs 0 0 Q (F0 m pc ls st) := by
  subst hst
  have hF := S.free X.2.2.2.2.2.2.2.2
  refine va_calli (A0 := A) (va_runS (As := As) (rest := rest) (nL := nL) ⟨X.1, X.2.1, X.2.2.1, X.2.2.2.1, X.2.2.2.2.1⟩ (hM H.size) (va_cwS k X.2.2.2.2.1 (gS_good kc kl kt kn) rfl hrm.1 hrm.2 hd hR) ⟨pre_blind hE, fun U hU hW => ⟨rfl, pre_at hE X.2.2.2.2.2.2.1 X.2.2.2.2.2.2.2.1 X.2.2.2.2.2.2.2.2 S U hU hW⟩⟩ rfl hn hsz rfl (by show 2 * 0 + _ ≤ 8; rw [Nat.mul_zero, Nat.zero_add]; exact hW) hdg ⟨Nat.zero_le _, Nat.zero_le _⟩) S.2.2 (fun q _ h => hF q h) hF (fun r u t H1 locs1 ht hvm hw hB hz1 hk1 hS1 => ?_)
  exact kk r u H1 locs1 hw (o_back S ht hB hS1)
theorem o_callSl (hE : EvOk Ev) (X : Fx D tys Ev p s m args meth c cc nL own A) (S : St D ad n sh A s σ H locs) {y : MethodName} {bytes : ByteArray} {maxL index k : Nat} {ret : Option FieldType} {rm : Room} {As st : List Value} {Qx : Int64 → Sg → Prop}
    (hM : MetL D tys ad n sh Ev l y (.code y bytes maxL ret :: gT) rm As σ Qx) (kc : Cond.code y bytes maxL ret ∈ gT) (kl : Cond.methodLink own index y ∈ gT) (kt : Cond.static y ∈ gT) (kn : Cond.initialized y.cls ∈ gT)
    (hd : y.cls ≠ "java/lang/invoke/MethodHandle" ∧ y.cls ≠ "java/lang/invoke/VarHandle" ∧ (parseMethodDescriptor y.desc).map (fun d => d.parameters.length) = some k) (hrm : rm.cells = 0 ∧ rm.slots = 0) (hR : rm.frames + 1 ≤ R.frames ∧ 8 + (maxL + 11) + rm.locals ≤ R.locals) (hn : As.length = k) (hsz : ls.size = nL) (hst : st = As.reverse ++ rest) (hW : (rest.map fun v => v.category).sum ≤ 8) (hdg : decode cc pc = .ok (.invokestatic index, 3))
    (kk : ∀ (r : Int64) (σ' : Sg) (H1 : Heap) (locs1 : List Loc), Qx r σ' → St D ad n sh A s σ' H1 locs1 → W p l e R s m args below meth c H1 locs1 0 0 Q (F0 m (pc + 3) ls (.long r :: rest))) : W p l e R s m args below meth c H locs 0 0 Q (F0 m pc ls st) := by
  subst hst
  have hF := S.free X.2.2.2.2.2.2.2.2
  refine va_calll (A0 := A) (va_runS (As := As) (rest := rest) (nL := nL) ⟨X.1, X.2.1, X.2.2.1, X.2.2.2.1, X.2.2.2.2.1⟩ (hM H.size) (va_cwS k X.2.2.2.2.1 (gS_good kc kl kt kn) rfl hrm.1 hrm.2 hd hR) ⟨pre_blind hE, fun U hU hW => ⟨rfl, pre_at hE X.2.2.2.2.2.2.1 X.2.2.2.2.2.2.2.1 X.2.2.2.2.2.2.2.2 S U hU hW⟩⟩ rfl hn hsz rfl (by show 2 * 0 + _ ≤ 8; rw [Nat.mul_zero, Nat.zero_add]; exact hW) hdg ⟨Nat.zero_le _, Nat.zero_le _⟩) S.2.2 (fun q _ h => hF q h) hF (fun r u t H1 locs1 ht hvm hw hB hz1 hk1 hS1 => ?_)
  exact kk r u H1 locs1 hw (o_back S ht hB hS1)
theorem o_callSv (hE : EvOk Ev) (X : Fx D tys Ev p s m args meth c cc nL own A) (S : St D ad n sh A s σ H locs) {y : MethodName} {bytes : ByteArray} {maxL index k : Nat} {ret : Option FieldType} {rm : Room} {As st : List Value} {Qx : Sg → Prop}
    (hM : MetV D tys ad n sh Ev l y (.code y bytes maxL ret :: gT) rm As σ Qx) (kc : Cond.code y bytes maxL ret ∈ gT) (kl : Cond.methodLink own index y ∈ gT) (kt : Cond.static y ∈ gT) (kn : Cond.initialized y.cls ∈ gT)
    (hd : y.cls ≠ "java/lang/invoke/MethodHandle" ∧ y.cls ≠ "java/lang/invoke/VarHandle" ∧ (parseMethodDescriptor y.desc).map (fun d => d.parameters.length) = some k) (hrm : rm.cells = 0 ∧ rm.slots = 0) (hR : rm.frames + 1 ≤ R.frames ∧ 8 + (maxL + 11) + rm.locals ≤ R.locals) (hn : As.length = k) (hsz : ls.size = nL) (hst : st = As.reverse ++ rest) (hW : (rest.map fun v => v.category).sum ≤ 8) (hdg : decode cc pc = .ok (.invokestatic index, 3))
    (kk : ∀ (σ' : Sg) (H1 : Heap) (locs1 : List Loc), Qx σ' → St D ad n sh A s σ' H1 locs1 → W p l e R s m args below meth c H1 locs1 0 0 Q (F0 m (pc + 3) ls rest)) : W p l e R s m args below meth c H locs 0 0 Q (F0 m pc ls st) := by
  subst hst
  have hF := S.free X.2.2.2.2.2.2.2.2
  refine va_callv (A0 := A) (va_runS (As := As) (rest := rest) (nL := nL) ⟨X.1, X.2.1, X.2.2.1, X.2.2.2.1, X.2.2.2.2.1⟩ (hM H.size) (va_cwS k X.2.2.2.2.1 (gS_good kc kl kt kn) rfl hrm.1 hrm.2 hd hR) ⟨pre_blind hE, fun U hU hW => ⟨rfl, pre_at hE X.2.2.2.2.2.2.1 X.2.2.2.2.2.2.2.1 X.2.2.2.2.2.2.2.2 S U hU hW⟩⟩ rfl hn hsz rfl (by show 2 * 0 + _ ≤ 8; rw [Nat.mul_zero, Nat.zero_add]; exact hW) hdg ⟨Nat.zero_le _, Nat.zero_le _⟩) S.2.2 (fun q _ h => hF q h) hF (fun u t H1 locs1 ht hvm hw hB hz1 hk1 hS1 => ?_)
  exact kk u H1 locs1 hw (o_back S ht hB hS1)
/-- a nest mate's private static method -/
theorem o_callNi (hE : EvOk Ev) (X : Fx D tys Ev p s m args meth c cc nL own A) (S : St D ad n sh A s σ H locs) {y : MethodName} {bytes : ByteArray} {maxL index k : Nat} {host : String} {ret : Option FieldType} {rm : Room} {As st : List Value} {Qx : Int32 → Sg → Prop}
    (hM : MetI D tys ad n sh Ev l y (.code y bytes maxL ret :: gT) rm As σ Qx) (kc : Cond.code y bytes maxL ret ∈ gT) (kl : va_Nw (.methodLinkNest own index y host) s) (kt : Cond.static y ∈ gT) (kn : Cond.initialized y.cls ∈ gT)
    (hd : y.cls ≠ "java/lang/invoke/MethodHandle" ∧ y.cls ≠ "java/lang/invoke/VarHandle" ∧ (parseMethodDescriptor y.desc).map (fun d => d.parameters.length) = some k) (hrm : rm.cells = 0 ∧ rm.slots = 0) (hR : rm.frames + 1 ≤ R.frames ∧ 8 + (maxL + 11) + rm.locals ≤ R.locals) (hn : As.length = k) (hsz : ls.size = nL) (hst : st = As.reverse ++ rest) (hW : (rest.map fun v => v.category).sum ≤ 8) (hdg : decode cc pc = .ok (.invokestatic index, 3))
    (kk : ∀ (r : Int32) (σ' : Sg) (H1 : Heap) (locs1 : List Loc), Qx r σ' → St D ad n sh A s σ' H1 locs1 → W p l e R s m args below meth c H1 locs1 0 0 Q (F0 m (pc + 3) ls (.int r :: rest))) : W p l e R s m args below meth c H locs 0 0 Q (F0 m pc ls st) := by
  subst hst
  have hF := S.free X.2.2.2.2.2.2.2.2
  refine va_calli (A0 := A) (va_runSN (As := As) (rest := rest) (nL := nL) ⟨X.1, X.2.1, X.2.2.1, X.2.2.2.1, X.2.2.2.2.1⟩ (hM H.size) ⟨va_cnB k X.2.2.2.2.1 (gT_goodIn (fun _ h => h) kc) rfl hrm.1 hrm.2 kl (X.2.2.2.2.1 _ kn) hd hR, X.2.2.2.2.1 _ kt, trivial⟩ ⟨pre_blind hE, fun U hU hW => ⟨rfl, pre_at hE X.2.2.2.2.2.2.1 X.2.2.2.2.2.2.2.1 X.2.2.2.2.2.2.2.2 S U hU hW⟩⟩ rfl hn hsz rfl (by show 2 * 0 + _ ≤ 8; rw [Nat.mul_zero, Nat.zero_add]; exact hW) hdg ⟨Nat.zero_le _, Nat.zero_le _⟩) S.2.2 (fun q _ h => hF q h) hF (fun r u t H1 locs1 ht hvm hw hB hz1 hk1 hS1 => ?_)
  exact kk r u H1 locs1 hw (o_back S ht hB hS1)
end OP
