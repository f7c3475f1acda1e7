/-! a new grid of six rows of ten ints: the row for 'multianewarray' -/
def mgO (cA : ClassId) (h : Nat) : Nat → Cell
  | 0 => { cls := cA, slots := Array.replicate 6 .null, vm := .none }
  | i + 1 => (mgO cA h i).setSlot i (.ref (h + 1 + i))
def mgI (cI : ClassId) : Cell := { cls := cI, slots := Array.replicate 10 (.int 0), vm := .none }
def mgS (T : State) (cA cI : ClassId) : Nat → State
  | 0 => T.pushCell (mgO cA T.heap.size 0)
  | i + 1 => ((mgS T cA cI i).pushCell (mgI cI)).setCell T.heap.size (mgO cA T.heap.size (i + 1))
theorem mgO_is (cA : ClassId) (h : Nat) : ∀ i, (mgO cA h i).cls = cA ∧ (mgO cA h i).vm = .none ∧ (mgO cA h i).slots.size = 6
  | 0 => ⟨rfl, rfl, by simp [mgO]⟩
  | i + 1 => by
    obtain ⟨a, b, d⟩ := mgO_is cA h i
    exact ⟨by simp [mgO, Cell.setSlot, a], by simp [mgO, Cell.setSlot, b], by simp [mgO, Cell.setSlot, d]⟩
theorem mgS_is (T : State) (cA cI : ClassId) : ∀ i, (mgS T cA cI i).heap.size = T.heap.size + 1 + i ∧ (mgS T cA cI i).heap[T.heap.size]? = some (mgO cA T.heap.size i) ∧ (mgS T cA cI i).vm = T.vm ∧ (mgS T cA cI i).slotsUsed = T.slotsUsed + 6 + i * 10
  | 0 => ⟨by simp [mgS], by simp [mgS], rfl, by simp [mgS, mgO]⟩
  | i + 1 => by
    obtain ⟨a, b, d, u⟩ := mgS_is T cA cI i
    have hlt : T.heap.size < (mgS T cA cI i).heap.size := by omega
    have hb' : ((mgS T cA cI i).pushCell (mgI cI)).heap[T.heap.size]? = some (mgO cA T.heap.size i) := by rw [State.heap_pushCell_of_lt (h := hlt)]; exact b
    refine ⟨?_, State.heap_setCell_self hb', by simp [mgS, d], ?_⟩
    · simp [mgS, State.setCell, a]; omega
    · simp [mgS, u, mgI, Nat.succ_mul]; omega
theorem mgS_top (T : State) (f : JFrame) (cA cI : ClassId) : ∀ i, mgS (T.setTop f) cA cI i = (mgS T cA cI i).setTop f
  | 0 => rfl
  | i + 1 => by simp only [mgS, mgS_top T f cA cI i, State.heap_setTop, State.pushCell_setTop, State.setCell_setTop]
theorem mgS_old (T : State) (cA cI : ClassId) {a : Nat} (ha : a < T.heap.size) : ∀ i, (mgS T cA cI i).heap[a]? = T.heap[a]?
  | 0 => State.heap_pushCell_of_lt _ _ ha
  | i + 1 => by
    have f1 := (mgS_is T cA cI i).1
    have hlt : a < (mgS T cA cI i).heap.size := Nat.lt_of_lt_of_le ha (by rw [f1]; omega)
    show (((mgS T cA cI i).pushCell (mgI cI)).setCell T.heap.size _).heap[a]? = _
    rw [State.heap_setCell_other (Nat.ne_of_gt ha), State.heap_pushCell_of_lt (h := hlt)]
    exact mgS_old T cA cI ha i
theorem mgS_in (T : State) (cA cI : ClassId) : ∀ i j, j < i → (mgS T cA cI i).heap[T.heap.size + 1 + j]? = some (mgI cI)
  | 0, _, h => absurd h (Nat.not_lt_zero _)
  | i + 1, j, h => by
    have f1 := (mgS_is T cA cI i).1
    show (((mgS T cA cI i).pushCell (mgI cI)).setCell T.heap.size _).heap[T.heap.size + 1 + j]? = _
    rw [State.heap_setCell_other (show T.heap.size ≠ T.heap.size + 1 + j by omega)]
    rcases Nat.lt_or_ge j i with hj | hj
    · have hlt : T.heap.size + 1 + j < (mgS T cA cI i).heap.size := by rw [f1]; omega
      rw [State.heap_pushCell_of_lt (h := hlt)]
      exact mgS_in T cA cI i j hj
    · have e : j = i := by omega
      subst e
      rw [← f1]
      exact State.heap_pushCell_size _ _
section MG
variable {E : CtlPost} {e : Env} {d : Bool} {acts : List Action} {s : State}
theorem mg_new {c comp : ClassId} {k : Class} {type : FieldType} {len : Nat} {init : Value} (hk : s.vm.classes[c]? = some k) (hkind : k.kind = .array comp type)
    (hlimit : ¬ len > e.platform.arrayLengthLimit) (hheap : ¬ len * componentBytes type > e.platform.maxHeapBytes) (hfit : fits type init = true) (hdef : init.isDefault = true) {Q : Addr → Pre}
    (h1 : s.heap.size < e.platform.maxCells) (h2 : s.slotsUsed + len ≤ e.platform.maxSlots)
    (hq : Q s.heap.size d acts (s.pushCell { cls := c, slots := Array.replicate len init, vm := .none })) : wp (Jvm.newArray c len init) Q E e d acts s := by
  have hfits : ∀ i v, (Array.replicate len init)[i]? = some v → s.fitsSlot c .none i v = true := by
    intro i v hv
    simp only [Array.getElem?_replicate] at hv
    split at hv
    · cases hv; simp [State.fitsSlot, State.slotType?, hk, hkind, hfit]
    · cases hv
  have hda : allocActs (Array.replicate len init) s.heap.size acts = acts := by
    have hall : ((Array.replicate len init).all (·.isDefault)) = true := by
      rw [Array.all_replicate]; split <;> simp [hdef]
    unfold allocActs; rw [if_pos hall]
  simp only [Jvm.newArray, Jvm.arrayFits, wp_bind', W.ask, W.ite, hlimit, if_false, wp_pure', W.theClass, hk, hkind, hheap, W.alloc, W.stop, Option.some.injEq, exists_eq_left', Array.size_replicate, hda]
  rw [if_neg (by omega)]
  exact ⟨h1, h2, hfits, hq⟩
theorem mg_make {c comp cc : ClassId} {k kc : Class} (hk : s.vm.classes[c]? = some k) (hkind : k.kind = .array comp (.array .int)) (hkc : s.vm.classes[comp]? = some kc) (hkindc : kc.kind = .array cc .int)
    (hl : ¬ 10 > e.platform.arrayLengthLimit) (hh : ¬ 40 > e.platform.maxHeapBytes) (hc : s.heap.size + 7 ≤ e.platform.maxCells) (hs : s.slotsUsed + 66 ≤ e.platform.maxSlots)
    {Q : Addr → Pre} (hq : ∀ d' acts', Q s.heap.size d' acts' (mgS s c comp 6)) : wp (multianewarray.make c [6, 10]) Q E e d acts s := by
  have h6 : ¬ (6 : Int32) < 0 := by decide
  have h10 : ¬ (10 : Int32) < 0 := by decide
  have e6 : (6 : Int32).toNatClampNeg = 6 := by decide
  have e10 : (10 : Int32).toNatClampNeg = 10 := by decide
  have hfind : (([10] : List Int32).find? (· < 0)) = none := by simp
  rw [multianewarray.make]
  simp only [wp_bind', W.ite, h6, if_false, wp_pure', W.theClass, hk, hkind, Option.some.injEq, exists_eq_left', e6]
  refine mg_new hk hkind (by omega) (by show ¬ 6 * 4 > _; omega) rfl rfl (by omega) (by omega) ?_
  simp only [hfind]
  rw [ite_self, wp_bind', Std.Legacy.Range.forIn_eq_forIn_range']
  have hsz : ([:6] : Std.Legacy.Range).size = 6 := by simp [Std.Legacy.Range.size]
  rw [hsz]
  show wp (forIn (List.range' 0 6 1) PUnit.unit _) _ E e d acts _
  refine wp_forIn_inv (fun rest s' => ∃ i, i ≤ 6 ∧ rest = List.range' i (6 - i) ∧ s' = mgS s c comp i) _ _ ⟨0, Nat.zero_le _, rfl, rfl⟩ ?_ ?_
  · rintro x rest s' d' acts' Q' ⟨i, hi, hlr, rfl⟩ hnext
    have hlt : i < 6 := by
      rcases Nat.lt_or_ge i 6 with h | h
      · exact h
      · rw [show 6 - i = 0 from by omega] at hlr; simp at hlr
    obtain ⟨rfl, hrest⟩ : x = i ∧ rest = List.range' (i + 1) (6 - (i + 1)) := by
      rw [show 6 - i = (6 - (i + 1)) + 1 from by omega, List.range'_succ] at hlr
      exact ⟨(List.cons.inj hlr).1, (List.cons.inj hlr).2⟩
    obtain ⟨f1, f2, f3, f4⟩ := mgS_is s c comp x
    obtain ⟨o1, o2, o3⟩ := mgO_is c s.heap.size x
    simp only [wp_bind']
    rw [multianewarray.make]
    simp only [wp_bind', W.ite, h10, if_false, wp_pure', W.theClass, f3, hkc, hkindc, Option.some.injEq, exists_eq_left', e10]
    refine mg_new (by rw [f3]; exact hkc) hkindc hl (by show ¬ 10 * 4 > _; omega) rfl rfl (by rw [f1]; omega) (by rw [f4]; omega) ?_
    have hlt0 : s.heap.size < (mgS s c comp x).heap.size := by rw [f1]; omega
    simp only [wp_bind', W.writeLoc, wp_pure']
    refine ⟨mgO c s.heap.size x, by rw [State.heap_pushCell_of_lt (h := hlt0)]; exact f2, by rw [o2]; simp, by rw [o3]; exact hlt, ?_, hnext _ _ _ ⟨x + 1, hlt, hrest, ?_⟩⟩
    · rw [o1, o2]
      simp [State.fitsSlot, State.slotType?, f3, hk, hkind]
      try rfl
    · rw [f1]; rfl
  · rintro s' d' acts' ⟨i, hi, hlr, rfl⟩
    have hiN : i = 6 := by
      rcases Nat.lt_or_ge i 6 with h | h
      · rw [show 6 - i = (6 - (i + 1)) + 1 from by omega, List.range'_succ] at hlr; cases hlr
      · omega
    subst hiN
    simp only [wp_pure']
    exact hq _ _
end MG
section MGW
variable {p : Program} {l : Launch} {e : Env} {R : Room} {s : State} {m : MethodId} {args : Array Value} {below : List Frame} {meth : Method} {c : Code} {H : Heap} {locs : List Loc} {cells slots : Nat} {Q : State → Prop}
theorem mg_stand {T : State} (X : Stand p l e R s m args below meth c T locs cells slots) (cA cI : ClassId) : ∀ i, Stand p l e R s m args below meth c (mgS T cA cI i) (locs ++ (List.range i).map fun j => ⟨T.heap.size, j⟩) (cells + 1 + i) (slots + 6 + i * 10)
  | 0 => by
    have h := X.pushed (mgO cA T.heap.size 0)
    rw [(mgO_is cA T.heap.size 0).2.2] at h
    simpa [mgS] using h
  | i + 1 => by
    have Xi := mg_stand X cA cI i
    obtain ⟨f1, f2, f3, f4⟩ := mgS_is T cA cI i
    have hlt0 : T.heap.size < (mgS T cA cI i).heap.size := by rw [f1]; omega
    have hcell : ((mgS T cA cI i).pushCell (mgI cI)).heap[T.heap.size]? = some (mgO cA T.heap.size i) := by rw [State.heap_pushCell_of_lt (h := hlt0)]; exact f2
    have h := (Xi.pushed (mgI cI)).stored hcell i (.ref (T.heap.size + 1 + i))
    have e1 : (mgI cI).slots.size = 10 := by simp [mgI]
    rw [e1] at h
    have e2 : (locs ++ (List.range (i + 1)).map fun j => (⟨T.heap.size, j⟩ : Loc)) = (locs ++ (List.range i).map fun j => (⟨T.heap.size, j⟩ : Loc)) ++ [⟨T.heap.size, i⟩] := by simp [List.range_succ, List.append_assoc]
    have e3 : slots + 6 + (i + 1) * 10 = slots + 6 + i * 10 + 10 := by omega
    rw [e2, e3]
    exact h
theorem mg_row {cc : ByteArray} (hexec : p.tables.exec = Jvm.exec) (hb : c.code = cc) {own : String} {index : Nat} (hown : s.vm.findClass own = some m.cls) (hclink : (Cond.classLink own index "[[I").before args s = true) (hover : (Cond.arrayOver (.array .int)).before args s = true) (harr : (Cond.arrayClass .int).before args s = true)
    {pc : Nat} {ls : Array Slot} {rest : List Value} (hdg : decode cc pc = .ok (.multianewarray index 2, 4)) (hcells : cells + 7 ≤ R.cells) (hslots : slots + 66 ≤ R.slots)
    (kk : ∀ (H1 : Heap) (cA cI : ClassId), s.vm.findClass "[[I" = some cA → s.vm.findClass "[I" = some cI → H1.size = H.size + 7 → (∀ q : Nat, q < H.size → H1[q]? = H[q]?) → H1[H.size]? = some (mgO cA H.size 6) → (∀ j : Nat, j < 6 → H1[H.size + 1 + j]? = some (mgI cI)) →
      W p l e R s m args below meth c H1 (locs ++ (List.range 6).map fun j => ⟨H.size, j⟩) (cells + 7) (slots + 66) Q (F0 m (pc + 4) ls (.ref H.size :: rest))) : W p l e R s m args below meth c H locs cells slots Q (F0 m pc ls (.int 10 :: .int 6 :: rest)) := by
  intro T hT X
  subst hT; subst hb
  have hpl : e.platform.magicAccessors = ({} : Platform).magicAccessors := by rw [X.admits.platform]
  obtain ⟨comp, cA, kA, hcomp, -, hkA, hkindA, hnameA⟩ := arrayOverA_spec hover
  obtain ⟨comp', kC, cc, hcomp', hkC, hkindC⟩ := Cond.arrayClass_spec harr
  have ecomp : comp' = comp := Option.some.inj (hcomp'.symm.trans hcomp)
  subst ecomp
  obtain ⟨c0, hfc0, hcl⟩ := Cond.classLink_spec hown hclink e.platform hpl
  have ec0 : c0 = cA := Option.some.inj (hfc0.symm.trans hnameA)
  subst ec0
  obtain ⟨hg₁, hwarm₁, hready₁⟩ := State.classEntry (e := e) X.warmed hcl
  generalize T.vm.noted m.cls index (.cls c0) = vm₁ at hg₁ hwarm₁ hready₁
  have hal : s.vm.Alike vm₁ := hwarm₁.alike
  obtain ⟨kA₁, hkA₁, heA⟩ := hal.2.2 _ _ hkA
  obtain ⟨kC₁, hkC₁, heC⟩ := hal.2.2 _ _ hkC
  have hkindA₁ : kA₁.kind = .array comp' (.array .int) := by rw [heA]; exact hkindA
  have hkindC₁ : kC₁.kind = .array cc .int := by rw [heC]; exact hkindC
  have X₁ := X.noted hwarm₁
  obtain ⟨hr1, hr2⟩ := X.roomAbove hcells hslots
  have XF := mg_stand X₁ c0 comp' 6
  obtain ⟨f1, f2, f3, f4⟩ := mgS_is (T.setVm vm₁) c0 comp' 6
  obtain ⟨t, a1, b1⟩ := kk (mgS (T.setVm vm₁) c0 comp' 6).heap c0 comp' hnameA hcomp f1 (fun q hq => mgS_old (T.setVm vm₁) c0 comp' hq 6) f2 (fun j hj => mgS_in (T.setVm vm₁) c0 comp' 6 j hj) (mgS (T.setVm vm₁) c0 comp' 6) rfl XF
  refine ⟨t, ?_, b1⟩
  have hl : ¬ 10 > e.platform.arrayLengthLimit := by rw [Launch.admits_arrayLengthLimit X.admits]; omega
  have hh : ¬ 40 > e.platform.maxHeapBytes := by rw [Launch.admits_maxHeapBytes X.admits]; omega
  jvm_step X.here [hexec, hdg]
  simp only [multianewarray.sem, wp_bind', W.resolveClassAt_links (State.method?_setTop (F0 m pc ls (.int 10 :: .int 6 :: rest)) X.here.top) hg₁]
  rw [W.popN, if_neg (by decide)]
  refine ⟨F0 m pc ls (.int 10 :: .int 6 :: rest), State.topJava?_setTop' (s := T.setVm vm₁) _ X.here.top, [.int 6, .int 10], rest, rfl, rfl, ?_⟩
  simp only [List.mapM_cons, List.mapM_nil, wp_bind', wp_pure']
  refine mg_make (k := kA₁) (kc := kC₁) (comp := comp') (cc := cc) hkA₁ hkindA₁ hkC₁ hkindC₁ hl hh (by show T.heap.size + 7 ≤ _; omega) (by show T.slotsUsed + 66 ≤ _; omega) (fun d' acts' => ?_)
  have eS : ((T.setTop (F0 m pc ls (.int 10 :: .int 6 :: rest))).setVm vm₁).setTop (F0 m pc ls rest) = (T.setVm vm₁).setTop (F0 m pc ls rest) := by
    show ((T.setVm vm₁).setTop _).setTop _ = _
    rw [State.setTop_setTop]
  rw [show ({ (F0 m pc ls (.int 10 :: .int 6 :: rest)) with stack := rest } : JFrame) = F0 m pc ls rest from rfl, eS, mgS_top]
  simp only [wp_bind', W.mark, W.pushRef, State.topJava?_setTop' _ XF.here.top, Option.some.injEq, exists_eq_left', State.setTop_setTop, State.heap_setTop]
  intro acts
  simp [jvm, XF.here.top]
  exact a1
end MGW
