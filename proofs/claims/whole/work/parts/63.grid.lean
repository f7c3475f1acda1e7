/-! six rows of ten ints made by one instruction: the row that the kit's worlds haven't got -/
theorem arrV_ext {cA : ClassId} {n : Nat} {f g : Nat → Value} (h : ∀ j, j < n → f j = g j) : arrV cA n f = arrV cA n g := by
  unfold arrV
  congr 1
  apply Array.ext
  · simp
  · intro i h1 h2
    simp at h1
    simp [h i h1]
/-- the outer array when i rows hang in it; a row -/
def mgO (cA : ClassId) (h i : Nat) : Cell := arrV cA 6 (fun j => if j < i then .ref (h + 1 + j) else .null)
def mgI (cI : ClassId) : Cell := arrV cI 10 (fun _ => .int 0)
theorem mgO_0 (cA : ClassId) (h : Nat) : mgO cA h 0 = arrV cA 6 (fun _ => .null) := arrV_ext (fun j _ => if_neg (Nat.not_lt_zero j))
theorem mgO_6 (cA : ClassId) (h : Nat) : mgO cA h 6 = arrV cA 6 (fun j => .ref (h + 1 + j)) := arrV_ext (fun _ hj => if_pos hj)
theorem mgO_up (cA : ClassId) (h i : Nat) : (mgO cA h i).setSlot i (.ref (h + 1 + i)) = mgO cA h (i + 1) := by
  unfold mgO
  rw [arrV_store]
  refine arrV_ext (fun j _ => ?_)
  unfold updV
  by_cases e : j = i
  · subst e
    simp
  · by_cases q : j < i
    · simp [e, q, Nat.lt_succ_of_lt q]
    · simp [e, q, show ¬ j < i + 1 by omega]
/-- the state when i rows are made, and all that is to be known of it -/
def mgS (T : State) (cA cI : ClassId) : Nat → State
  | 0 => T.pushCell (mgO cA T.heap.size 0)
  | i + 1 => ((mgS T cA cI i).pushCell (mgI cI)).setCell T.heap.size (mgO cA T.heap.size (i + 1))
def mgF (T U : State) (cA cI : ClassId) (i : Nat) : Prop :=
  U.vm = T.vm ∧ U.heap.size = T.heap.size + 1 + i ∧ U.slotsUsed = T.slotsUsed + (6 + 10 * i) ∧ (∀ q : Nat, q < T.heap.size → U.heap[q]? = T.heap[q]?) ∧ U.heap[T.heap.size]? = some (mgO cA T.heap.size i) ∧ ∀ j : Nat, j < i → U.heap[T.heap.size + 1 + j]? = some (mgI cI)
theorem mgS_F (T : State) (cA cI : ClassId) (i : Nat) : mgF T (mgS T cA cI i) cA cI i := by
  induction i with
  | zero => exact ⟨rfl, by simp [mgS], by simp [mgS, mgO, arrV_size], fun q hq => State.heap_pushCell_of_lt _ _ hq, by simp [mgS], fun j hj => absurd hj (Nat.not_lt_zero j)⟩
  | succ i ih =>
    obtain ⟨kv, kz, kn, ko, kt, kr⟩ := ih
    have away : ∀ q : Nat, q ≠ T.heap.size → (mgS T cA cI (i + 1)).heap[q]? = ((mgS T cA cI i).pushCell (mgI cI)).heap[q]? := fun q hq => State.heap_setCell_other (Ne.symm hq)
    have elder : ∀ q : Nat, q < T.heap.size + 1 + i → q ≠ T.heap.size → (mgS T cA cI (i + 1)).heap[q]? = (mgS T cA cI i).heap[q]? := fun q h1 h2 => (away q h2).trans (State.heap_pushCell_of_lt _ _ (by rw [kz]; exact h1))
    have outer : ((mgS T cA cI i).pushCell (mgI cI)).heap[T.heap.size]? = some (mgO cA T.heap.size i) := (State.heap_pushCell_of_lt _ _ (show T.heap.size < (mgS T cA cI i).heap.size by rw [kz]; omega)).trans kt
    refine ⟨by simp [mgS, kv], ?_, ?_, fun q hq => (elder q (by omega) (by omega)).trans (ko q hq), State.heap_setCell_self outer, fun j hj => ?_⟩
    · simp [mgS, State.setCell, kz]
      omega
    · simp [mgS, kn, mgI, arrV_size]
      omega
    · by_cases e : j = i
      · subst e
        rw [away _ (by omega), ← kz]
        exact State.heap_pushCell_size _ _
      · exact (elder _ (by omega) (by omega)).trans (kr j (by omega))
theorem mgS_top (T : State) (f : JFrame) (cA cI : ClassId) (i : Nat) : mgS (T.setTop f) cA cI i = (mgS T cA cI i).setTop f := by
  induction i with
  | zero => rfl
  | succ i ih => rw [mgS, ih, State.heap_setTop, State.pushCell_setTop, State.setCell_setTop, mgS]
section MG
variable {E : CtlPost} {e : Env} {s : State}
theorem mg_new {d : Bool} {acts : List Action} {c comp : ClassId} {k : Class} {ty : FieldType} {N : Nat} {v : Value} (hk : s.vm.classes[c]? = some k) (hkind : k.kind = .array comp ty) (hv : fits ty v = true ∧ v.isDefault = true) (h1 : ¬ N > e.platform.arrayLengthLimit) (h2 : ¬ N * componentBytes ty > e.platform.maxHeapBytes)
    (hr : s.heap.size < e.platform.maxCells ∧ s.slotsUsed + N ≤ e.platform.maxSlots) {Q : Addr → Pre} (hq : Q s.heap.size d acts (s.pushCell (arrV c N (fun _ => v)))) : wp (Jvm.newArray c N v) Q E e d acts s := by
  have quiet : allocActs (Array.replicate N v) s.heap.size acts = acts := by
    unfold allocActs
    refine if_pos ?_
    rw [Array.all_eq_true]
    intro i hi
    simp [hv.2]
  rw [← arrV_new] at hq
  have fit : ∀ (i : Nat) (w : Value), (Array.replicate N v)[i]? = some w → s.fitsSlot c .none i w = true := fun i w hw => by
    have e1 : w = v := by
      rw [Array.getElem?_replicate] at hw
      by_cases q : i < N
      · rw [if_pos q] at hw; exact (Option.some.inj hw).symm
      · rw [if_neg q] at hw; cases hw
    rw [e1]
    simp [State.fitsSlot, State.slotType?, hk, hkind, hv.1]
  simp only [Jvm.newArray, Jvm.arrayFits, wp_bind', wp_pure', W.ask, W.ite, W.theClass, W.alloc, W.stop, hk, hkind, h1, h2, if_false, Option.some.injEq, exists_eq_left', Array.size_replicate, quiet]
  exact (if_neg (by omega)).mpr ⟨hr.1, hr.2, fit, hq⟩
/-- the rows one behind another, by what is left of them -/
theorem mg_rows (cA cI : ClassId) (f : Nat → PUnit → Sem (ForInStep PUnit)) (hf : ∀ i : Nat, i < 6 → ∀ (d : Bool) (acts : List Action) (Q : ForInStep PUnit → Pre), (∀ (d' : Bool) (acts' : List Action), Q (.yield PUnit.unit) d' acts' (mgS s cA cI (i + 1))) → wp (f i PUnit.unit) Q E e d acts (mgS s cA cI i)) {Q : PUnit → Pre} (hq : ∀ (d : Bool) (acts : List Action), Q PUnit.unit d acts (mgS s cA cI 6)) :
    ∀ (n i : Nat) (d : Bool) (acts : List Action), i + n = 6 → wp (forIn (List.range' i n 1) PUnit.unit f) Q E e d acts (mgS s cA cI i)
  | 0, i, d, acts, h => by
    obtain rfl : i = 6 := by omega
    simp only [List.range'_zero, List.forIn_nil, wp_pure']
    exact hq d acts
  | n + 1, i, d, acts, h => by
    rw [List.range'_succ]
    simp only [List.forIn_cons, wp_bind']
    exact hf i (by omega) d acts _ (fun d' acts' => mg_rows cA cI f hf hq n (i + 1) d' acts' (by omega))
theorem mg_make {d : Bool} {acts : List Action} {cA cI cc : ClassId} {kA kI : Class} (hA : s.vm.classes[cA]? = some kA) (hAk : kA.kind = .array cI (.array .int)) (hI : s.vm.classes[cI]? = some kI) (hIk : kI.kind = .array cc .int) (hl : 10 ≤ e.platform.arrayLengthLimit) (hh : 40 ≤ e.platform.maxHeapBytes)
    (hc : s.heap.size + 7 ≤ e.platform.maxCells) (hs : s.slotsUsed + 66 ≤ e.platform.maxSlots) {Q : Addr → Pre} (hq : ∀ (d' : Bool) (acts' : List Action), Q s.heap.size d' acts' (mgS s cA cI 6)) : wp (multianewarray.make cA [6, 10]) Q E e d acts s := by
  have e6 : (6 : Int32).toNatClampNeg = 6 := by decide
  have e10 : (10 : Int32).toNatClampNeg = 10 := by decide
  have n6 : ¬ (6 : Int32) < 0 := by decide
  have n10 : ¬ (10 : Int32) < 0 := by decide
  have none10 : (([10] : List Int32).find? (· < 0)) = none := by simp
  rw [multianewarray.make]
  simp only [wp_bind', wp_pure', W.ite, W.theClass, n6, if_false, hA, hAk, e6, Option.some.injEq, exists_eq_left']
  refine mg_new hA hAk ⟨rfl, rfl⟩ (by omega) (by show ¬ 6 * 4 > _; omega) ⟨by omega, by omega⟩ ?_
  rw [← mgO_0 cA s.heap.size]
  show wp _ _ E e d acts (mgS s cA cI 0)
  simp only [none10]
  rw [ite_self, wp_bind', Std.Legacy.Range.forIn_eq_forIn_range', show ([:6] : Std.Legacy.Range).size = 6 by simp [Std.Legacy.Range.size]]
  refine mg_rows cA cI _ (fun i hi d acts Q' next => ?_) (fun d acts => by simp only [wp_pure']; exact hq d acts) 6 0 d acts rfl
  obtain ⟨kv, kz, kn, ko, kt, kr⟩ := mgS_F s cA cI i
  have hI' : (mgS s cA cI i).vm.classes[cI]? = some kI := by rw [kv]; exact hI
  simp only [wp_bind']
  rw [multianewarray.make]
  simp only [wp_bind', wp_pure', W.ite, W.theClass, n10, if_false, hI', hIk, e10, Option.some.injEq, exists_eq_left']
  refine mg_new hI' hIk ⟨rfl, rfl⟩ (by omega) (by show ¬ 10 * 4 > _; omega) ⟨by rw [kz]; omega, by rw [kn]; omega⟩ ?_
  have there : ((mgS s cA cI i).pushCell (mgI cI)).heap[s.heap.size]? = some (mgO cA s.heap.size i) := (State.heap_pushCell_of_lt _ _ (show s.heap.size < (mgS s cA cI i).heap.size by rw [kz]; omega)).trans kt
  simp only [wp_bind', wp_pure', W.writeLoc]
  refine ⟨mgO cA s.heap.size i, there, by simp [mgO, arrV], by unfold mgO; rw [arrV_size]; exact hi, ?_, ?_⟩
  · simp [State.fitsSlot, State.slotType?, mgO, arrV, kv, hA, hAk]
    try rfl
  · rw [kz, mgO_up]
    exact next _ _
end MG
section MGW
variable {p : Program} {l : Launch} {e : Env} {R : Room} {s : State} {m : MethodId} {args : Array Value} {below : List Frame} {meth : Method} {c : Code} {H : Heap} {locs : List Loc} {cells slots : Nat} {Q : State → Prop}
theorem mg_stand {T : State} (X : Stand p l e R s m args below meth c T locs cells slots) (cA cI : ClassId) (i : Nat) : Stand p l e R s m args below meth c (mgS T cA cI i) (locs ++ (List.range i).map fun j => ⟨T.heap.size, j⟩) (cells + 1 + i) (slots + 6 + 10 * i) := by
  induction i with
  | zero =>
    have h := X.pushed (mgO cA T.heap.size 0)
    rw [show (mgO cA T.heap.size 0).slots.size = 6 from arrV_size _ _ _] at h
    rw [List.range_zero, List.map_nil, List.append_nil]
    exact h
  | succ i ih =>
    obtain ⟨kv, kz, kn, ko, kt, kr⟩ := mgS_F T cA cI i
    have there : ((mgS T cA cI i).pushCell (mgI cI)).heap[T.heap.size]? = some (mgO cA T.heap.size i) := (State.heap_pushCell_of_lt _ _ (show T.heap.size < (mgS T cA cI i).heap.size by rw [kz]; omega)).trans kt
    have h := (ih.pushed (mgI cI)).stored there i (.ref (T.heap.size + 1 + i))
    rw [mgO_up, show (mgI cI).slots.size = 10 from arrV_size _ _ _] at h
    rw [List.range_succ, List.map_append, ← List.append_assoc, show slots + 6 + 10 * (i + 1) = slots + 6 + 10 * i + 10 by omega]
    exact h
theorem mg_row {cc : ByteArray} (hexec : p.tables.exec = Jvm.exec) (hb : c.code = cc) {own : String} {index : Nat} (hown : s.vm.findClass own = some m.cls) (hclink : (Cond.classLink own index "[[I").before args s = true) (hover : (Cond.arrayOver (.array .int)).before args s = true) (harr : (Cond.arrayClass .int).before args s = true)
    {pc : Nat} {ls : Array Slot} {rest : List Value} (hdg : decode cc pc = .ok (.multianewarray index 2, 4)) (hcells : cells + 7 ≤ R.cells) (hslots : slots + 66 ≤ R.slots)
    (kk : ∀ (H1 : Heap) (cA cI : ClassId), s.vm.findClass "[[I" = some cA → s.vm.findClass "[I" = some cI → H1.size = H.size + 7 → (∀ q : Nat, q < H.size → H1[q]? = H[q]?) → H1[H.size]? = some (mgO cA H.size 6) → (∀ j : Nat, j < 6 → H1[H.size + 1 + j]? = some (mgI cI)) →
      W p l e R s m args below meth c H1 (locs ++ (List.range 6).map fun j => ⟨H.size, j⟩) (cells + 7) (slots + 66) Q (F0 m (pc + 4) ls (.ref H.size :: rest))) : W p l e R s m args below meth c H locs cells slots Q (F0 m pc ls (.int 10 :: .int 6 :: rest)) := by
  intro T hT X
  subst hT
  subst hb
  obtain ⟨cI, cA, kA, nameI, -, hkA, kindA, nameA⟩ := arrayOverA_spec hover
  obtain ⟨c1, kI, cc, nameI', hkI, kindI⟩ := Cond.arrayClass_spec harr
  obtain rfl : c1 = cI := Option.some.inj (nameI'.symm.trans nameI)
  obtain ⟨c0, nameA', link⟩ := Cond.classLink_spec hown hclink e.platform (by rw [X.admits.platform])
  obtain rfl : c0 = cA := Option.some.inj (nameA'.symm.trans nameA)
  obtain ⟨gives, warm, -⟩ := State.classEntry (e := e) X.warmed link
  generalize T.vm.noted m.cls index (.cls c0) = V at gives warm
  obtain ⟨kA1, hkA1, eA⟩ := warm.alike.2.2 _ _ hkA
  obtain ⟨kI1, hkI1, eI⟩ := warm.alike.2.2 _ _ hkI
  obtain ⟨r1, r2⟩ := X.roomAbove hcells hslots
  have Y := mg_stand (X.noted warm) c0 c1 6
  obtain ⟨kv, kz, kn, ko, kt, kr⟩ := mgS_F (T.setVm V) c0 c1 6
  obtain ⟨t, a1, b1⟩ := kk (mgS (T.setVm V) c0 c1 6).heap c0 c1 nameA nameI kz ko kt kr (mgS (T.setVm V) c0 c1 6) rfl Y
  refine ⟨t, ?_, b1⟩
  jvm_step X.here [hexec, hdg]
  simp only [multianewarray.sem, wp_bind', W.resolveClassAt_links (State.method?_setTop (F0 m pc ls (.int 10 :: .int 6 :: rest)) X.here.top) gives]
  rw [W.popN, if_neg (by decide)]
  refine ⟨_, State.topJava?_setTop' (s := T.setVm V) (F0 m pc ls (.int 10 :: .int 6 :: rest)) X.here.top, [.int 6, .int 10], rest, rfl, rfl, ?_⟩
  simp only [List.mapM_cons, List.mapM_nil, wp_bind', wp_pure']
  refine mg_make (kA := kA1) (kI := kI1) (cI := c1) (cc := cc) hkA1 (by rw [eA]; exact kindA) hkI1 (by rw [eI]; exact kindI) (by rw [Launch.admits_arrayLengthLimit X.admits]; omega) (by rw [Launch.admits_maxHeapBytes X.admits]; omega) (by exact r1) (by exact r2) (fun d' acts' => ?_)
  have same : ((T.setTop (F0 m pc ls (.int 10 :: .int 6 :: rest))).setVm V).setTop (F0 m pc ls rest) = (T.setVm V).setTop (F0 m pc ls rest) := by
    show ((T.setVm V).setTop _).setTop _ = _
    exact State.setTop_setTop ..
  rw [show ({ (F0 m pc ls (.int 10 :: .int 6 :: rest)) with stack := rest } : JFrame) = F0 m pc ls rest from rfl, same, mgS_top]
  simp only [wp_bind', W.mark, W.pushRef, State.topJava?_setTop' _ Y.here.top, Option.some.injEq, exists_eq_left', State.setTop_setTop, State.heap_setTop]
  intro acts
  simp [jvm, Y.here.top]
  exact a1
end MGW
