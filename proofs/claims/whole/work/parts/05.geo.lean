/-! THE TWO WORLDS: the class (75 cells) and the reference (34 cells); printed by wip/whole/gen_geo.py -/
def tblB (cy : Nat → ClassId) (ad : Nat → Nat) : List ((Nat → Int32) → va_E) := [
  fun c => .inr (11, [.ref (ad 1), .int (c 1), .ref (ad 2), .ref (ad (c 3).toNatClampNeg), .ref (ad (c 4).toNatClampNeg), .ref (ad 4), .ref (ad 8), .ref (ad 14), .ref (ad 36), .ref (ad 38), .ref (ad 40), .ref (ad 45), .ref (ad 48), .ref (ad 57)]),
  fun _ => .inl (cy 2, 8, .inr (.inr (.inr (.inr (fun i => some (ad (59 + 2 * i))))))),
  fun c => .inr (10, [.int (c 0), .ref (ad 3), .int (c 2), .int (c 3), .int (c 4), .int (c 5), .int (c 6), .int (c 7)]),
  fun c => .inl (cy 0, 300, .inl c),
  fun c => .inr (1, [.int (c 0), .ref (ad 5), .ref (ad 6), .ref (ad 7)]),
  fun c => .inl (cy 0, 10, .inl c),
  fun c => .inl (cy 0, 10, .inl c),
  fun c => .inl (cy 0, 2, .inl c),
  fun c => .inr (4, [.int (c 0), .ref (ad 9), .ref (ad 10), .ref (ad 11), .ref (ad 12), .ref (ad 13)]),
  fun c => .inl (cy 1, 12, .inl c),
  fun c => .inl (cy 0, 12, .inl c),
  fun c => .inl (cy 0, 12, .inl c),
  fun c => .inl (cy 0, 12, .inl c),
  fun c => .inl (cy 0, 12, .inl c),
  fun c => .inr (3, [.ref (ad 15), .ref (ad 16), .ref (ad 17), .ref (ad 18), .ref (ad 19)]),
  fun c => .inl (cy 0, 60, .inl c),
  fun c => .inl (cy 0, 60, .inl c),
  fun c => .inl (cy 1, 60, .inl c),
  fun c => .inl (cy 0, 4, .inl c),
  fun c => .inl (cy 0, 4, .inl c),
  fun c => .inr (8, [.int (c 0), .int (c 1), .ref (ad 21), .ref (ad 22), .ref (ad 23), .ref (ad 24), .ref (ad 25), .ref (ad 26), .ref (ad 27)]),
  fun c => .inl (cy 0, 4, .inl c),
  fun c => .inl (cy 0, 60, .inl c),
  fun c => .inl (cy 0, 60, .inl c),
  fun c => .inl (cy 0, 60, .inl c),
  fun c => .inl (cy 0, 60, .inl c),
  fun c => .inl (cy 0, 60, .inl c),
  fun c => .inl (cy 0, 60, .inl c),
  fun c => .inr (8, [.int (c 0), .int (c 1), .ref (ad 29), .ref (ad 30), .ref (ad 31), .ref (ad 32), .ref (ad 33), .ref (ad 34), .ref (ad 35)]),
  fun c => .inl (cy 0, 4, .inl c),
  fun c => .inl (cy 0, 60, .inl c),
  fun c => .inl (cy 0, 60, .inl c),
  fun c => .inl (cy 0, 60, .inl c),
  fun c => .inl (cy 0, 60, .inl c),
  fun c => .inl (cy 0, 60, .inl c),
  fun c => .inl (cy 0, 60, .inl c),
  fun c => .inr (2, [.ref (ad 14), .ref (ad 4), .ref (ad 37), .int (c 3)]),
  fun c => .inl (cy 0, 1210, .inl c),
  fun c => .inr (2, [.ref (ad 14), .ref (ad 4), .ref (ad 39), .int (c 3)]),
  fun c => .inl (cy 0, 1210, .inl c),
  fun c => .inr (7, [.ref (ad 41), .ref (ad 42), .ref (ad 43), .ref (ad 44)]),
  fun c => .inl (cy 0, 10, .inl c),
  fun c => .inl (cy 0, 10, .inl c),
  fun c => .inl (cy 0, 2, .inl c),
  fun c => .inl (cy 0, 10, .inl c),
  fun c => .inr (5, [.ref (ad 46), .ref (ad 47), .int (c 2)]),
  fun c => .inl (cy 0, 287, .inl c),
  fun c => .inl (cy 0, 287, .inl c),
  fun c => .inr (9, [.int (c 0), .ref (ad 49), .ref (ad 50)]),
  fun c => .inl (cy 0, 6, .inl c),
  fun _ => .inl (cy 3, 6, .inr (.inr (.inr (.inr (fun i => some (ad (51 + i))))))),
  fun c => .inl (cy 0, 10, .inl c),
  fun c => .inl (cy 0, 10, .inl c),
  fun c => .inl (cy 0, 10, .inl c),
  fun c => .inl (cy 0, 10, .inl c),
  fun c => .inl (cy 0, 10, .inl c),
  fun c => .inl (cy 0, 10, .inl c),
  fun c => .inr (0, [.ref (ad 58), .int (c 1)]),
  fun c => .inl (cy 0, 16, .inl c),
  fun c => .inr (6, [.ref (ad 60), .int (c 1), .int (c 2), .int (c 3)]),
  fun c => .inl (cy 0, 20, .inl c),
  fun c => .inr (6, [.ref (ad 62), .int (c 1), .int (c 2), .int (c 3)]),
  fun c => .inl (cy 0, 20, .inl c),
  fun c => .inr (6, [.ref (ad 64), .int (c 1), .int (c 2), .int (c 3)]),
  fun c => .inl (cy 0, 20, .inl c),
  fun c => .inr (6, [.ref (ad 66), .int (c 1), .int (c 2), .int (c 3)]),
  fun c => .inl (cy 0, 20, .inl c),
  fun c => .inr (6, [.ref (ad 68), .int (c 1), .int (c 2), .int (c 3)]),
  fun c => .inl (cy 0, 20, .inl c),
  fun c => .inr (6, [.ref (ad 70), .int (c 1), .int (c 2), .int (c 3)]),
  fun c => .inl (cy 0, 20, .inl c),
  fun c => .inr (6, [.ref (ad 72), .int (c 1), .int (c 2), .int (c 3)]),
  fun c => .inl (cy 0, 20, .inl c),
  fun c => .inr (6, [.ref (ad 74), .int (c 1), .int (c 2), .int (c 3)]),
  fun c => .inl (cy 0, 20, .inl c)]
def shB (cy : Nat → ClassId) (ad : Nat → Nat) : Shp := fun j => (tblB cy ad).getD j (fun _ => .inr (0, []))
def tblM (cy : Nat → ClassId) (ad : Nat → Nat) : List ((Nat → Int32) → va_E) := [
  fun c => .inr (12, [.int (c 0), .ref (ad 1), .ref (ad 2), .ref (ad 3), .ref (ad 4), .int (c 5), .int (c 6), .int (c 7), .ref (ad 5), .ref (ad 6), .ref (ad 7), .ref (ad 8), .int (c 12), .int (c 13), .int (c 14), .int (c 15), .ref (ad 9), .int (c 17), .int (c 18), .int (c 19), .ref (ad 10), .ref (ad 11), .ref (ad 12), .ref (ad 13), .ref (ad 14), .ref (ad 15), .ref (ad 16), .int (c 27), .int (c 28), .ref (ad 17), .ref (ad 18), .ref (ad 19), .ref (ad 20), .ref (ad 21), .ref (ad 22), .ref (ad 23), .ref (ad 24), .ref (ad 25), .ref (ad 26), .ref (ad 27), .ref (ad 28), .ref (ad 29), .int (c 42), .ref (ad 30), .ref (ad 31), .ref (ad 32), .ref (ad 33), .int (c 47)]),
  fun c => .inl (cy 0, 8, .inl c),
  fun c => .inl (cy 0, 8, .inl c),
  fun c => .inl (cy 0, 160, .inl c),
  fun c => .inl (cy 0, 300, .inl c),
  fun c => .inl (cy 0, 8, .inl c),
  fun c => .inl (cy 0, 120, .inl c),
  fun c => .inl (cy 0, 120, .inl c),
  fun c => .inl (cy 0, 120, .inl c),
  fun c => .inl (cy 0, 8, .inl c),
  fun c => .inl (cy 0, 10, .inl c),
  fun c => .inl (cy 0, 10, .inl c),
  fun c => .inl (cy 0, 2, .inl c),
  fun c => .inl (cy 0, 1220, .inl c),
  fun c => .inl (cy 0, 60, .inl c),
  fun c => .inl (cy 1, 60, .inl c),
  fun c => .inl (cy 0, 60, .inl c),
  fun c => .inl (cy 0, 12, .inl c),
  fun c => .inl (cy 0, 12, .inl c),
  fun c => .inl (cy 0, 12, .inl c),
  fun c => .inl (cy 0, 12, .inl c),
  fun c => .inl (cy 1, 12, .inl c),
  fun c => .inl (cy 0, 10, .inl c),
  fun c => .inl (cy 0, 10, .inl c),
  fun c => .inl (cy 0, 10, .inl c),
  fun c => .inl (cy 0, 2, .inl c),
  fun c => .inl (cy 0, 287, .inl c),
  fun c => .inl (cy 0, 287, .inl c),
  fun c => .inl (cy 1, 10, .inl c),
  fun c => .inl (cy 0, 10, .inl c),
  fun c => .inl (cy 0, 60, .inl c),
  fun c => .inl (cy 0, 6, .inl c),
  fun c => .inl (cy 0, 210, .inl c),
  fun c => .inl (cy 0, 16, .inl c)]
def shM (cy : Nat → ClassId) (ad : Nat → Nat) : Shp := fun j => (tblM cy ad).getD j (fun _ => .inr (0, []))
abbrev tyB (cy : Nat → ClassId) : List (ClassId × FieldType) := [(cy 0, .int), (cy 1, .boolean), (cy 2, .object "BackBay$Row"), (cy 3, .array .int)]
abbrev tyM (cy : Nat → ClassId) : List (ClassId × FieldType) := [(cy 0, .int), (cy 1, .boolean)]
def tabP (j : Nat) : Int32 := ([0, 0, 0, 0, 0, 2, 2, 2, 2, 2, 4] : List Int32).getD j 0
def tabK (j : Nat) : Int32 := ([2, 2, 2, 2, 1, 3, 3, 3, 4, 4, 5] : List Int32).getD j 0
def tabA (j : Nat) : Int32 := ([-1000000, 0, 1, 0, 3, 0] : List Int32).getD j 0
def strL : List Nat := [4, 3, 3, 2]
def strB : List (List Int32) := [[99, 101, 108, 108], [109, 105, 110], [109, 97, 120], [105, 102]]
def isSten (T : Nat) : Prop := T = 20 ∨ T = 28
def isCou (T : Nat) : Prop := T = 36 ∨ T = 38
def isRow (r : Nat) : Prop := ∃ k : Nat, k < 8 ∧ r = 59 + 2 * k
def isStr (a : Nat) : Prop := a = 6 ∨ ∃ k : Nat, k < 6 ∧ a = 51 + k
theorem isSten_lt {T : Nat} (h : isSten T) (k : Nat) (hk : k < 8) : T + k < 75 := by rcases h with rfl | rfl <;> omega
theorem isCou_lt {T : Nat} (h : isCou T) (k : Nat) (hk : k < 2) : T + k < 75 := by rcases h with rfl | rfl <;> omega
theorem isRow_lt {T : Nat} (h : isRow T) (k : Nat) (hk : k < 2) : T + k < 75 := by obtain ⟨q, hq, rfl⟩ := h; omega
theorem isStr_lt {a : Nat} (h : isStr a) : a < 75 := by rcases h with rfl | ⟨q, hq, rfl⟩ <;> omega
theorem isRow_of {i : Int32} (h : vp_in i 8) : isRow (59 + 2 * i.toNatClampNeg) := ⟨_, Nat.not_le.mp fun q => h (Or.inr q), rfl⟩
theorem isStr_of {i : Int32} (h : vp_in i 6) : isStr (51 + i.toNatClampNeg) := Or.inr ⟨_, Nat.not_le.mp fun q => h (Or.inr q), rfl⟩
theorem isStr_6 : isStr 6 := Or.inl rfl
theorem isCou_36 : isCou 36 := Or.inl rfl
theorem isCou_38 : isCou 38 := Or.inr rfl
section GEO
variable {cy : Nat → ClassId} {ad : Nat → Nat}
theorem shS0 {T : Nat} (h : isSten T) : ∀ c, shB cy ad T c = .inr (8, [.int (c 0), .int (c 1), .ref (ad (T + 1)), .ref (ad (T + 2)), .ref (ad (T + 3)), .ref (ad (T + 4)), .ref (ad (T + 5)), .ref (ad (T + 6)), .ref (ad (T + 7))]) := by rcases h with rfl | rfl <;> intro c <;> rfl
theorem shS1 {T : Nat} (h : isSten T) : ∀ c, shB cy ad (T + 1) c = .inl (cy 0, 4, .inl c) := by rcases h with rfl | rfl <;> intro c <;> rfl
theorem shS2 {T : Nat} (h : isSten T) : ∀ c, shB cy ad (T + 2) c = .inl (cy 0, 60, .inl c) := by rcases h with rfl | rfl <;> intro c <;> rfl
theorem shS3 {T : Nat} (h : isSten T) : ∀ c, shB cy ad (T + 3) c = .inl (cy 0, 60, .inl c) := by rcases h with rfl | rfl <;> intro c <;> rfl
theorem shS4 {T : Nat} (h : isSten T) : ∀ c, shB cy ad (T + 4) c = .inl (cy 0, 60, .inl c) := by rcases h with rfl | rfl <;> intro c <;> rfl
theorem shS5 {T : Nat} (h : isSten T) : ∀ c, shB cy ad (T + 5) c = .inl (cy 0, 60, .inl c) := by rcases h with rfl | rfl <;> intro c <;> rfl
theorem shS6 {T : Nat} (h : isSten T) : ∀ c, shB cy ad (T + 6) c = .inl (cy 0, 60, .inl c) := by rcases h with rfl | rfl <;> intro c <;> rfl
theorem shS7 {T : Nat} (h : isSten T) : ∀ c, shB cy ad (T + 7) c = .inl (cy 0, 60, .inl c) := by rcases h with rfl | rfl <;> intro c <;> rfl
theorem shC0 {T : Nat} (h : isCou T) : ∀ c, shB cy ad T c = .inr (2, [.ref (ad 14), .ref (ad 4), .ref (ad (T + 1)), .int (c 3)]) := by rcases h with rfl | rfl <;> intro c <;> rfl
theorem shC1 {T : Nat} (h : isCou T) : ∀ c, shB cy ad (T + 1) c = .inl (cy 0, 1210, .inl c) := by rcases h with rfl | rfl <;> intro c <;> rfl
theorem shR0 {T : Nat} (h : isRow T) : ∀ c, shB cy ad T c = .inr (6, [.ref (ad (T + 1)), .int (c 1), .int (c 2), .int (c 3)]) := by
  obtain ⟨k, hk, rfl⟩ := h
  intro c
  match k, hk with
  | 0, _ => rfl
  | 1, _ => rfl
  | 2, _ => rfl
  | 3, _ => rfl
  | 4, _ => rfl
  | 5, _ => rfl
  | 6, _ => rfl
  | 7, _ => rfl
theorem shR1 {T : Nat} (h : isRow T) : ∀ c, shB cy ad (T + 1) c = .inl (cy 0, 20, .inl c) := by
  obtain ⟨k, hk, rfl⟩ := h
  intro c
  match k, hk with
  | 0, _ => rfl
  | 1, _ => rfl
  | 2, _ => rfl
  | 3, _ => rfl
  | 4, _ => rfl
  | 5, _ => rfl
  | 6, _ => rfl
  | 7, _ => rfl
theorem shT {a : Nat} (h : isStr a) : ∀ c, shB cy ad a c = .inl (cy 0, 10, .inl c) := by
  rcases h with rfl | ⟨k, hk, rfl⟩
  · exact fun _ => rfl
  · intro c
    match k, hk with
    | 0, _ => rfl
    | 1, _ => rfl
    | 2, _ => rfl
    | 3, _ => rfl
    | 4, _ => rfl
    | 5, _ => rfl
end GEO
def EvN (U : State) : Prop := va_Nw (.methodLinkNest "BackBay" 17 ⟨"BackBay$Tape", "<init>", "()V"⟩ "BackBay") U ∧ va_Nw (.methodLinkNest "BackBay" 24 ⟨"BackBay$Stencils", "<init>", "()V"⟩ "BackBay") U ∧ va_Nw (.methodLinkNest "BackBay" 41 ⟨"BackBay$Gauges", "<init>", "()V"⟩ "BackBay") U ∧ va_Nw (.methodLinkNest "BackBay" 48 ⟨"BackBay$Desk", "<init>", "()V"⟩ "BackBay") U ∧ va_Nw (.methodLinkNest "BackBay" 67 ⟨"BackBay$Slopes", "<init>", "()V"⟩ "BackBay") U ∧ va_Nw (.methodLinkNest "BackBay" 74 ⟨"BackBay$Redoing", "<init>", "()V"⟩ "BackBay") U ∧ va_Nw (.methodLinkNest "BackBay" 81 ⟨"BackBay$Strippings", "<init>", "()V"⟩ "BackBay") U ∧ va_Nw (.methodLinkNest "BackBay" 88 ⟨"BackBay$Asks", "<init>", "()V"⟩ "BackBay") U ∧ va_Nw (.methodLinkNest "BackBay" 93 ⟨"BackBay$Row", "<init>", "()V"⟩ "BackBay") U ∧ va_Nw (.methodLinkNest "BackBay$Tape" 78 ⟨"BackBay", "isWithin", "(III)Z"⟩ "BackBay") U ∧ va_Nw (.methodLinkNest "BackBay$Bay" 35 ⟨"BackBay", "isWithin", "(III)Z"⟩ "BackBay") U ∧ va_Nw (.methodLinkNest "BackBay$Strippings" 36 ⟨"BackBay", "isWithin", "(III)Z"⟩ "BackBay") U ∧ va_Nw (.methodLinkNest "BackBay$Stencils" 40 ⟨"BackBay", "isWithin", "(III)Z"⟩ "BackBay") U ∧ va_Nw (.fieldLinkNest "BackBay$Tape" 55 "BackBay" "PARTS" "[I" "BackBay") U ∧ va_Nw (.fieldLinkNest "BackBay$Stencils" 44 "BackBay" "KINDS" "[I" "BackBay") U
def EvS (z : Nat → Nat) (U : State) : Prop := vk_R "BackBay$Tape" 98 "cell" (z 3) U ∧ vk_R "BackBay$Tape" 104 "min" (z 4) U ∧ vk_R "BackBay$Tape" 106 "max" (z 5) U ∧ vk_R "BackBay$Tape" 108 "if" (z 6) U
def zSI (z : Nat → Nat) : Option Nat := if z 11 = 0 then none else some (z 12)
/-- the class's surroundings: three static arrays, four texts, the links of its nest, the statics that String's own code reads -/
def EvB (z : Nat → Nat) : Evp := fun A U H =>
  (va_Z "BackBay" "PARTS" "[I" (.ref (z 0)) A U H ∧ va_T .int (z 0) 11 (fun j => .int (tabP j)) A U H) ∧ (va_Z "BackBay" "KINDS" "[I" (.ref (z 1)) A U H ∧ va_T .int (z 1) 11 (fun j => .int (tabK j)) A U H) ∧ (va_Z "BackBay" "KIND_ABOVE" "[I" (.ref (z 2)) A U H ∧ va_T .int (z 2) 6 (fun j => .int (tabA j)) A U H) ∧
  vk_S 4 strL strB (fun i => z (3 + i)) (fun i => z (7 + i)) A U H ∧ (va_Z "java/lang/String" "COMPACT_STRINGS" "Z" (.int 1) A U H ∧ va_Z "jdk/internal/util/Preconditions" "SIOOBE_FORMATTER" "Ljava/util/function/BiFunction;" (va_rf (zSI z)) A U H) ∧ EvS z U ∧ EvN U
theorem EvN_same {u U : State} (h : u.vm = U.vm) (hN : EvN u) : EvN U := ⟨va_Nw.same rfl h hN.1, va_Nw.same rfl h hN.2.1, va_Nw.same rfl h hN.2.2.1, va_Nw.same rfl h hN.2.2.2.1, va_Nw.same rfl h hN.2.2.2.2.1, va_Nw.same rfl h hN.2.2.2.2.2.1, va_Nw.same rfl h hN.2.2.2.2.2.2.1, va_Nw.same rfl h hN.2.2.2.2.2.2.2.1, va_Nw.same rfl h hN.2.2.2.2.2.2.2.2.1, va_Nw.same rfl h hN.2.2.2.2.2.2.2.2.2.1, va_Nw.same rfl h hN.2.2.2.2.2.2.2.2.2.2.1, va_Nw.same rfl h hN.2.2.2.2.2.2.2.2.2.2.2.1, va_Nw.same rfl h hN.2.2.2.2.2.2.2.2.2.2.2.2.1, va_Nw.same rfl h hN.2.2.2.2.2.2.2.2.2.2.2.2.2.1, va_Nw.same rfl h hN.2.2.2.2.2.2.2.2.2.2.2.2.2.2⟩
theorem EvN_warm {u U : State} (h : u.WarmedH U.vm) (hN : EvN u) : EvN U := ⟨va_Nw.warmM h hN.1, va_Nw.warmM h hN.2.1, va_Nw.warmM h hN.2.2.1, va_Nw.warmM h hN.2.2.2.1, va_Nw.warmM h hN.2.2.2.2.1, va_Nw.warmM h hN.2.2.2.2.2.1, va_Nw.warmM h hN.2.2.2.2.2.2.1, va_Nw.warmM h hN.2.2.2.2.2.2.2.1, va_Nw.warmM h hN.2.2.2.2.2.2.2.2.1, va_Nw.warmM h hN.2.2.2.2.2.2.2.2.2.1, va_Nw.warmM h hN.2.2.2.2.2.2.2.2.2.2.1, va_Nw.warmM h hN.2.2.2.2.2.2.2.2.2.2.2.1, va_Nw.warmM h hN.2.2.2.2.2.2.2.2.2.2.2.2.1, va_Nw.warmF h hN.2.2.2.2.2.2.2.2.2.2.2.2.2.1, va_Nw.warmF h hN.2.2.2.2.2.2.2.2.2.2.2.2.2.2⟩
theorem EvS_same {z : Nat → Nat} {u U : State} (h : u.vm = U.vm) (hN : EvS z u) : EvS z U := ⟨vk_R.same h.symm hN.1, vk_R.same h.symm hN.2.1, vk_R.same h.symm hN.2.2.1, vk_R.same h.symm hN.2.2.2⟩
theorem EvS_warm {z : Nat → Nat} {u U : State} (h : u.WarmedH U.vm) (hN : EvS z u) : EvS z U := ⟨vk_R.warm h hN.1, vk_R.warm h hN.2.1, vk_R.warm h hN.2.2.1, vk_R.warm h hN.2.2.2⟩
theorem EvB_ok (z : Nat → Nat) : EvOk (EvB z) := by
  refine ⟨fun A s H H1 h hq => ?_, fun A B s H h hAB => ?_, fun A s U H hW h => ?_, fun A s U H hv h => ?_⟩
  · obtain ⟨⟨a1, a2⟩, ⟨b1, b2⟩, ⟨c1, c2⟩, d, ⟨f, f2⟩, g, k⟩ := h
    exact ⟨⟨a1.kept hq, a2.kept hq⟩, ⟨b1.kept hq, b2.kept hq⟩, ⟨c1.kept hq, c2.kept hq⟩, d.kept hq, ⟨f.kept hq, f2.kept hq⟩, g, k⟩
  · obtain ⟨⟨a1, a2⟩, ⟨b1, b2⟩, ⟨c1, c2⟩, d, ⟨f, f2⟩, g, k⟩ := h
    exact ⟨⟨a1.narrow hAB, a2.narrow hAB⟩, ⟨b1.narrow hAB, b2.narrow hAB⟩, ⟨c1.narrow hAB, c2.narrow hAB⟩, d.narrow hAB, ⟨f.narrow hAB, f2.narrow hAB⟩, g, k⟩
  · obtain ⟨⟨a1, a2⟩, ⟨b1, b2⟩, ⟨c1, c2⟩, d, ⟨f, f2⟩, g, k⟩ := h
    have hvm := hW.alike
    exact ⟨⟨a1.moved hvm, a2.moved hvm⟩, ⟨b1.moved hvm, b2.moved hvm⟩, ⟨c1.moved hvm, c2.moved hvm⟩, d.moved hvm, ⟨f.moved hvm, f2.moved hvm⟩, EvS_warm hW g, EvN_warm hW k⟩
  · obtain ⟨⟨a1, a2⟩, ⟨b1, b2⟩, ⟨c1, c2⟩, d, ⟨f, f2⟩, g, k⟩ := h
    have hvm : s.vm.Alike U.vm := by rw [hv]; exact Vm.Alike.refl _
    exact ⟨⟨a1.moved hvm, a2.moved hvm⟩, ⟨b1.moved hvm, b2.moved hvm⟩, ⟨c1.moved hvm, c2.moved hvm⟩, d.moved hvm, ⟨f.moved hvm, f2.moved hvm⟩, EvS_same hv g, EvN_same hv k⟩
def EvM : Evp := fun _ _ _ => True
theorem EvM_ok : EvOk EvM := ⟨fun _ _ _ _ _ _ => trivial, fun _ _ _ _ _ _ => trivial, fun _ _ _ _ _ _ => trivial, fun _ _ _ _ _ _ => trivial⟩
abbrev MIB (D : va_G) (cy : Nat → ClassId) (ad z : Nat → Nat) := MetI D (tyB cy) ad 75 (shB cy ad) (EvB z)
abbrev MLB (D : va_G) (cy : Nat → ClassId) (ad z : Nat → Nat) := MetL D (tyB cy) ad 75 (shB cy ad) (EvB z)
abbrev MVB (D : va_G) (cy : Nat → ClassId) (ad z : Nat → Nat) := MetV D (tyB cy) ad 75 (shB cy ad) (EvB z)
abbrev MIM (D : va_G) (cy : Nat → ClassId) (ad : Nat → Nat) := MetI D (tyM cy) ad 34 (shM cy ad) EvM
abbrev MLM (D : va_G) (cy : Nat → ClassId) (ad : Nat → Nat) := MetL D (tyM cy) ad 34 (shM cy ad) EvM
abbrev MVM (D : va_G) (cy : Nat → ClassId) (ad : Nat → Nat) := MetV D (tyM cy) ad 34 (shM cy ad) EvM
