/-! the law: the class and the reference side by side; printed by wip/whole/gen_law.py -/
def St2 (D : va_G) (cy : Nat → ClassId) (aB aM : Nat → Nat) (A : Nat → Prop) (s : State) (σ τ : Sg) (H : Heap) (locs : List Loc) : Prop :=
  va_P D vwCl (wS aB 75 (shB cy aB) σ) H ∧ va_P D vwCl (wS aM 34 (shM cy aM) τ) H ∧ va_D A (wS aB 75 (shB cy aB) σ) ∧ va_D A (wS aM 34 (shM cy aM) τ) ∧ (∀ i j, i < 75 → j < 34 → aB i ≠ aM j) ∧ va_S A s.heap H locs
theorem St2_keep {D : va_G} {ad ad' : Nat → Nat} {n n' : Nat} {sh sh' : Shp} {σ τ : Sg} {H H1 : Heap} (hP : va_P D vwCl (wS ad' n' sh' τ) H) (hap : ∀ i j, i < n → j < n' → ad i ≠ ad' j) (hk : ∀ q : Nat, q < H.size → ¬ va_A (wS ad n sh σ) H.size q → H1[q]? = H[q]?) : va_P D vwCl (wS ad' n' sh' τ) H1 := by
  intro k x hx
  obtain ⟨hj, rfl⟩ := wS_inv hx
  have hl := (hP k _ hx).lt
  refine (hP k _ hx).kept (hk _ hl (fun h => ?_))
  rcases h with ⟨i, ee, h⟩ | h
  · obtain ⟨hi, h2⟩ := wS_inv h
    exact hap i k hi hj (congrArg Prod.fst h2).symm
  · exact absurd h (Nat.not_le.mpr hl)
section LAWC
variable {p : Program} {l : Launch} {e : Env} {R : Room} {s : State} {m : MethodId} {args : Array Value} {below : List Frame} {meth : Method} {c : Code} {H : Heap} {locs : List Loc} {cells slots : Nat} {Q : State → Prop}
variable {D : va_G} {cy : Nat → ClassId} {aB aM z : Nat → Nat} {A : Nat → Prop} {σ τ : Sg} {cc : ByteArray} {nL : Nat} {own : String} {pc : Nat} {ls : Array Slot} {rest : List Value}
theorem l2_Bl (X : Fx D (tyB cy) (EvB z) p s m args meth c cc nL own A) (S : St2 D cy aB aM A s σ τ H locs) {y : MethodName} {bytes : ByteArray} {maxL index k : Nat} {ret : Option FieldType} {rm : Room} {As st : List Value} {Qx : Int64 → Sg → Prop}
    (hM : MLB D cy aB z l y (.code y bytes maxL ret :: gT) rm (.ref (aB 0) :: As) σ Qx) (kc : Cond.code y bytes maxL ret ∈ gT) (kl : Cond.methodLink own index y ∈ gT) (ki : Cond.instanceMethod y ∈ gT) (ks : Cond.selects "BackBay" y y ∈ gT) (kn : Cond.initialized "BackBay" ∈ gT)
    (hd : y.cls = "BackBay" ∧ y.cls ≠ "java/lang/invoke/MethodHandle" ∧ y.cls ≠ "java/lang/invoke/VarHandle" ∧ (parseMethodDescriptor y.desc).map (fun d => d.parameters.length) = some k) (hrm : rm.cells = 0 ∧ rm.slots = 0) (hR : rm.frames + 1 ≤ R.frames ∧ 8 + (maxL + 11) + rm.locals ≤ R.locals) (hRc : cells ≤ R.cells ∧ slots ≤ R.slots) (hn : As.length = k) (hsz : ls.size = nL) (hst : st = As.reverse ++ .ref (aB 0) :: rest) (hW : (rest.map fun v => v.category).sum ≤ 8) (hdg : decode cc pc = .ok (.invokevirtual index, 3))
    (kk : ∀ (r : Int64) (u : Sg) (H1 : Heap) (locs1 : List Loc), Qx r u → St2 D cy aB aM A s u τ H1 locs1 → W p l e R s m args below meth c H1 locs1 cells slots Q (F0 m (pc + 3) ls (.long r :: rest))) : W p l e R s m args below meth c H locs cells slots Q (F0 m pc ls st) := by
  subst hst
  have S0 : St D aB 75 (shB cy aB) A s σ H locs := ⟨S.1, S.2.2.1, S.2.2.2.2.2⟩
  have hF := S0.free X.2.2.2.2.2.2.2.2
  have hG : GoodIn gT (wsV own index "BackBay" y (Cond.code y bytes maxL ret :: gT)) := fun w h => by
    have h1 : w ∈ gT := (List.mem_append.mp h).elim (fun h => by rcases List.mem_cons.mp h with rfl | h; exact kl; rcases List.mem_cons.mp h with rfl | h; exact ki; rcases List.mem_cons.mp h with rfl | h; exact ks; rcases List.mem_cons.mp h with rfl | h; exact kn; cases h) (fun h => (List.mem_cons.mp h).elim (fun e => e ▸ kc) id)
    exact ⟨h1, good_of_word (gT_good h1)⟩
  refine va_calll (A0 := A) (va_runV (As := As) (rest := rest) (nL := nL) ⟨X.1, X.2.1, X.2.2.1, X.2.2.2.1, X.2.2.2.2.1⟩ (hM H.size) (cwV k X.2.2.2.2.1 hG rfl hrm.1 hrm.2 hd hR) ⟨pre_blind (EvB_ok z), va_recv (ci := 11) (q0 := 0) X.2.2.2.2.2.2.1 S0.1 rfl (wS_at (by decide)), fun U hU hW => ⟨rfl, pre_at (EvB_ok z) X.2.2.2.2.2.2.1 X.2.2.2.2.2.2.2.1 X.2.2.2.2.2.2.2.2 S0 U hU hW⟩⟩ rfl hn hsz rfl (by show 2 * 0 + _ ≤ 8; rw [Nat.mul_zero, Nat.zero_add]; exact hW) hdg ⟨by omega, by omega⟩) S0.2.2 (fun q _ h => hF q h) hF (fun r u t H1 locs1 ht hvm hw hB hz1 hk1 hS1 => ?_)
  have b := o_back S0 ht hB hS1
  exact kk r u H1 locs1 hw ⟨b.1, St2_keep S.2.1 S.2.2.2.2.1 hk1, b.2.1, S.2.2.2.1, S.2.2.2.2.1, hS1⟩
theorem l2_Bi (X : Fx D (tyB cy) (EvB z) p s m args meth c cc nL own A) (S : St2 D cy aB aM A s σ τ H locs) {y : MethodName} {bytes : ByteArray} {maxL index k : Nat} {ret : Option FieldType} {rm : Room} {As st : List Value} {Qx : Int32 → Sg → Prop}
    (hM : MIB D cy aB z l y (.code y bytes maxL ret :: gT) rm (.ref (aB 0) :: As) σ Qx) (kc : Cond.code y bytes maxL ret ∈ gT) (kl : Cond.methodLink own index y ∈ gT) (ki : Cond.instanceMethod y ∈ gT) (ks : Cond.selects "BackBay" y y ∈ gT) (kn : Cond.initialized "BackBay" ∈ gT)
    (hd : y.cls = "BackBay" ∧ y.cls ≠ "java/lang/invoke/MethodHandle" ∧ y.cls ≠ "java/lang/invoke/VarHandle" ∧ (parseMethodDescriptor y.desc).map (fun d => d.parameters.length) = some k) (hrm : rm.cells = 0 ∧ rm.slots = 0) (hR : rm.frames + 1 ≤ R.frames ∧ 8 + (maxL + 11) + rm.locals ≤ R.locals) (hRc : cells ≤ R.cells ∧ slots ≤ R.slots) (hn : As.length = k) (hsz : ls.size = nL) (hst : st = As.reverse ++ .ref (aB 0) :: rest) (hW : (rest.map fun v => v.category).sum ≤ 8) (hdg : decode cc pc = .ok (.invokevirtual index, 3))
    (kk : ∀ (r : Int32) (u : Sg) (H1 : Heap) (locs1 : List Loc), Qx r u → St2 D cy aB aM A s u τ H1 locs1 → W p l e R s m args below meth c H1 locs1 cells slots Q (F0 m (pc + 3) ls (.int r :: rest))) : W p l e R s m args below meth c H locs cells slots Q (F0 m pc ls st) := by
  subst hst
  have S0 : St D aB 75 (shB cy aB) A s σ H locs := ⟨S.1, S.2.2.1, S.2.2.2.2.2⟩
  have hF := S0.free X.2.2.2.2.2.2.2.2
  have hG : GoodIn gT (wsV own index "BackBay" y (Cond.code y bytes maxL ret :: gT)) := fun w h => by
    have h1 : w ∈ gT := (List.mem_append.mp h).elim (fun h => by rcases List.mem_cons.mp h with rfl | h; exact kl; rcases List.mem_cons.mp h with rfl | h; exact ki; rcases List.mem_cons.mp h with rfl | h; exact ks; rcases List.mem_cons.mp h with rfl | h; exact kn; cases h) (fun h => (List.mem_cons.mp h).elim (fun e => e ▸ kc) id)
    exact ⟨h1, good_of_word (gT_good h1)⟩
  refine va_calli (A0 := A) (va_runV (As := As) (rest := rest) (nL := nL) ⟨X.1, X.2.1, X.2.2.1, X.2.2.2.1, X.2.2.2.2.1⟩ (hM H.size) (cwV k X.2.2.2.2.1 hG rfl hrm.1 hrm.2 hd hR) ⟨pre_blind (EvB_ok z), va_recv (ci := 11) (q0 := 0) X.2.2.2.2.2.2.1 S0.1 rfl (wS_at (by decide)), fun U hU hW => ⟨rfl, pre_at (EvB_ok z) X.2.2.2.2.2.2.1 X.2.2.2.2.2.2.2.1 X.2.2.2.2.2.2.2.2 S0 U hU hW⟩⟩ rfl hn hsz rfl (by show 2 * 0 + _ ≤ 8; rw [Nat.mul_zero, Nat.zero_add]; exact hW) hdg ⟨by omega, by omega⟩) S0.2.2 (fun q _ h => hF q h) hF (fun r u t H1 locs1 ht hvm hw hB hz1 hk1 hS1 => ?_)
  have b := o_back S0 ht hB hS1
  exact kk r u H1 locs1 hw ⟨b.1, St2_keep S.2.1 S.2.2.2.2.1 hk1, b.2.1, S.2.2.2.1, S.2.2.2.2.1, hS1⟩
theorem l2_Ml (X : Fx D (tyM cy) EvM p s m args meth c cc nL own A) (S : St2 D cy aB aM A s σ τ H locs) {y : MethodName} {bytes : ByteArray} {maxL index k : Nat} {ret : Option FieldType} {rm : Room} {As st : List Value} {Qx : Int64 → Sg → Prop}
    (hM : MLM D cy aM l y (.code y bytes maxL ret :: gT) rm (.ref (aM 0) :: As) τ Qx) (kc : Cond.code y bytes maxL ret ∈ gT) (kl : Cond.methodLink own index y ∈ gT) (ki : Cond.instanceMethod y ∈ gT) (ks : Cond.selects "BackBayModel" y y ∈ gT) (kn : Cond.initialized "BackBayModel" ∈ gT)
    (hd : y.cls = "BackBayModel" ∧ y.cls ≠ "java/lang/invoke/MethodHandle" ∧ y.cls ≠ "java/lang/invoke/VarHandle" ∧ (parseMethodDescriptor y.desc).map (fun d => d.parameters.length) = some k) (hrm : rm.cells = 0 ∧ rm.slots = 0) (hR : rm.frames + 1 ≤ R.frames ∧ 8 + (maxL + 11) + rm.locals ≤ R.locals) (hRc : cells ≤ R.cells ∧ slots ≤ R.slots) (hn : As.length = k) (hsz : ls.size = nL) (hst : st = As.reverse ++ .ref (aM 0) :: rest) (hW : (rest.map fun v => v.category).sum ≤ 8) (hdg : decode cc pc = .ok (.invokevirtual index, 3))
    (kk : ∀ (r : Int64) (u : Sg) (H1 : Heap) (locs1 : List Loc), Qx r u → St2 D cy aB aM A s σ u H1 locs1 → W p l e R s m args below meth c H1 locs1 cells slots Q (F0 m (pc + 3) ls (.long r :: rest))) : W p l e R s m args below meth c H locs cells slots Q (F0 m pc ls st) := by
  subst hst
  have S0 : St D aM 34 (shM cy aM) A s τ H locs := ⟨S.2.1, S.2.2.2.1, S.2.2.2.2.2⟩
  have hF := S0.free X.2.2.2.2.2.2.2.2
  have hG : GoodIn gT (wsV own index "BackBayModel" y (Cond.code y bytes maxL ret :: gT)) := fun w h => by
    have h1 : w ∈ gT := (List.mem_append.mp h).elim (fun h => by rcases List.mem_cons.mp h with rfl | h; exact kl; rcases List.mem_cons.mp h with rfl | h; exact ki; rcases List.mem_cons.mp h with rfl | h; exact ks; rcases List.mem_cons.mp h with rfl | h; exact kn; cases h) (fun h => (List.mem_cons.mp h).elim (fun e => e ▸ kc) id)
    exact ⟨h1, good_of_word (gT_good h1)⟩
  refine va_calll (A0 := A) (va_runV (As := As) (rest := rest) (nL := nL) ⟨X.1, X.2.1, X.2.2.1, X.2.2.2.1, X.2.2.2.2.1⟩ (hM H.size) (cwV k X.2.2.2.2.1 hG rfl hrm.1 hrm.2 hd hR) ⟨pre_blind EvM_ok, va_recv (ci := 12) (q0 := 0) X.2.2.2.2.2.2.1 S0.1 rfl (wS_at (by decide)), fun U hU hW => ⟨rfl, pre_at EvM_ok X.2.2.2.2.2.2.1 X.2.2.2.2.2.2.2.1 X.2.2.2.2.2.2.2.2 S0 U hU hW⟩⟩ rfl hn hsz rfl (by show 2 * 0 + _ ≤ 8; rw [Nat.mul_zero, Nat.zero_add]; exact hW) hdg ⟨by omega, by omega⟩) S0.2.2 (fun q _ h => hF q h) hF (fun r u t H1 locs1 ht hvm hw hB hz1 hk1 hS1 => ?_)
  have b := o_back S0 ht hB hS1
  exact kk r u H1 locs1 hw ⟨St2_keep S.1 (fun i j hi hj q => S.2.2.2.2.1 j i hj hi q.symm) hk1, b.1, S.2.2.1, b.2.1, S.2.2.2.2.1, hS1⟩
theorem l2_Mi (X : Fx D (tyM cy) EvM p s m args meth c cc nL own A) (S : St2 D cy aB aM A s σ τ H locs) {y : MethodName} {bytes : ByteArray} {maxL index k : Nat} {ret : Option FieldType} {rm : Room} {As st : List Value} {Qx : Int32 → Sg → Prop}
    (hM : MIM D cy aM l y (.code y bytes maxL ret :: gT) rm (.ref (aM 0) :: As) τ Qx) (kc : Cond.code y bytes maxL ret ∈ gT) (kl : Cond.methodLink own index y ∈ gT) (ki : Cond.instanceMethod y ∈ gT) (ks : Cond.selects "BackBayModel" y y ∈ gT) (kn : Cond.initialized "BackBayModel" ∈ gT)
    (hd : y.cls = "BackBayModel" ∧ y.cls ≠ "java/lang/invoke/MethodHandle" ∧ y.cls ≠ "java/lang/invoke/VarHandle" ∧ (parseMethodDescriptor y.desc).map (fun d => d.parameters.length) = some k) (hrm : rm.cells = 0 ∧ rm.slots = 0) (hR : rm.frames + 1 ≤ R.frames ∧ 8 + (maxL + 11) + rm.locals ≤ R.locals) (hRc : cells ≤ R.cells ∧ slots ≤ R.slots) (hn : As.length = k) (hsz : ls.size = nL) (hst : st = As.reverse ++ .ref (aM 0) :: rest) (hW : (rest.map fun v => v.category).sum ≤ 8) (hdg : decode cc pc = .ok (.invokevirtual index, 3))
    (kk : ∀ (r : Int32) (u : Sg) (H1 : Heap) (locs1 : List Loc), Qx r u → St2 D cy aB aM A s σ u H1 locs1 → W p l e R s m args below meth c H1 locs1 cells slots Q (F0 m (pc + 3) ls (.int r :: rest))) : W p l e R s m args below meth c H locs cells slots Q (F0 m pc ls st) := by
  subst hst
  have S0 : St D aM 34 (shM cy aM) A s τ H locs := ⟨S.2.1, S.2.2.2.1, S.2.2.2.2.2⟩
  have hF := S0.free X.2.2.2.2.2.2.2.2
  have hG : GoodIn gT (wsV own index "BackBayModel" y (Cond.code y bytes maxL ret :: gT)) := fun w h => by
    have h1 : w ∈ gT := (List.mem_append.mp h).elim (fun h => by rcases List.mem_cons.mp h with rfl | h; exact kl; rcases List.mem_cons.mp h with rfl | h; exact ki; rcases List.mem_cons.mp h with rfl | h; exact ks; rcases List.mem_cons.mp h with rfl | h; exact kn; cases h) (fun h => (List.mem_cons.mp h).elim (fun e => e ▸ kc) id)
    exact ⟨h1, good_of_word (gT_good h1)⟩
  refine va_calli (A0 := A) (va_runV (As := As) (rest := rest) (nL := nL) ⟨X.1, X.2.1, X.2.2.1, X.2.2.2.1, X.2.2.2.2.1⟩ (hM H.size) (cwV k X.2.2.2.2.1 hG rfl hrm.1 hrm.2 hd hR) ⟨pre_blind EvM_ok, va_recv (ci := 12) (q0 := 0) X.2.2.2.2.2.2.1 S0.1 rfl (wS_at (by decide)), fun U hU hW => ⟨rfl, pre_at EvM_ok X.2.2.2.2.2.2.1 X.2.2.2.2.2.2.2.1 X.2.2.2.2.2.2.2.2 S0 U hU hW⟩⟩ rfl hn hsz rfl (by show 2 * 0 + _ ≤ 8; rw [Nat.mul_zero, Nat.zero_add]; exact hW) hdg ⟨by omega, by omega⟩) S0.2.2 (fun q _ h => hF q h) hF (fun r u t H1 locs1 ht hvm hw hB hz1 hk1 hS1 => ?_)
  have b := o_back S0 ht hB hS1
  exact kk r u H1 locs1 hw ⟨St2_keep S.1 (fun i j hi hj q => S.2.2.2.2.1 j i hj hi q.symm) hk1, b.1, S.2.2.1, b.2.1, S.2.2.2.2.1, hS1⟩
end LAWC
