/-! the law from its entry; printed by wip/whole/gen_start.py -/
theorem st_eq {args : Array Value} {s : State} {tm : Term} {z : Int32} (h : (Cond.eq tm (.int z)).before args s = true) : tm.eval args s none [] s = some (.int z) := by
  cases hv : tm.eval args s none [] s with
  | none => simp [Cond.before, Cond.holds, Cond.value, hv] at h
  | some w =>
    have hz : (Term.int z).eval args s none [] s = some (.int z) := rfl
    simp only [Cond.before, Cond.holds, Cond.value, hv, hz] at h
    cases w <;> simp_all
def lwN : Jvm.Cond := Jvm.Cond.and given_1 narrow_1
theorem st_EvN {b : Nat} {s : State} (hts : ∀ w ∈ lw_tbl, w.before #[Value.ref b] s = true) : EvN s := ⟨va_Nw.of rfl (hts (.methodLinkNest "BackBay" 17 ⟨"BackBay$Tape", "<init>", "()V"⟩ "BackBay") (by decide +kernel)), va_Nw.of rfl (hts (.methodLinkNest "BackBay" 24 ⟨"BackBay$Stencils", "<init>", "()V"⟩ "BackBay") (by decide +kernel)), va_Nw.of rfl (hts (.methodLinkNest "BackBay" 41 ⟨"BackBay$Gauges", "<init>", "()V"⟩ "BackBay") (by decide +kernel)), va_Nw.of rfl (hts (.methodLinkNest "BackBay" 48 ⟨"BackBay$Desk", "<init>", "()V"⟩ "BackBay") (by decide +kernel)), va_Nw.of rfl (hts (.methodLinkNest "BackBay" 67 ⟨"BackBay$Slopes", "<init>", "()V"⟩ "BackBay") (by decide +kernel)), va_Nw.of rfl (hts (.methodLinkNest "BackBay" 74 ⟨"BackBay$Redoing", "<init>", "()V"⟩ "BackBay") (by decide +kernel)), va_Nw.of rfl (hts (.methodLinkNest "BackBay" 81 ⟨"BackBay$Strippings", "<init>", "()V"⟩ "BackBay") (by decide +kernel)), va_Nw.of rfl (hts (.methodLinkNest "BackBay" 88 ⟨"BackBay$Asks", "<init>", "()V"⟩ "BackBay") (by decide +kernel)), va_Nw.of rfl (hts (.methodLinkNest "BackBay" 93 ⟨"BackBay$Row", "<init>", "()V"⟩ "BackBay") (by decide +kernel)), va_Nw.of rfl (hts (.methodLinkNest "BackBay$Tape" 78 ⟨"BackBay", "isWithin", "(III)Z"⟩ "BackBay") (by decide +kernel)), va_Nw.of rfl (hts (.methodLinkNest "BackBay$Bay" 35 ⟨"BackBay", "isWithin", "(III)Z"⟩ "BackBay") (by decide +kernel)), va_Nw.of rfl (hts (.methodLinkNest "BackBay$Strippings" 36 ⟨"BackBay", "isWithin", "(III)Z"⟩ "BackBay") (by decide +kernel)), va_Nw.of rfl (hts (.methodLinkNest "BackBay$Stencils" 40 ⟨"BackBay", "isWithin", "(III)Z"⟩ "BackBay") (by decide +kernel)), va_Nw.of rfl (hts (.fieldLinkNest "BackBay$Tape" 55 "BackBay" "PARTS" "[I" "BackBay") (by decide +kernel)), va_Nw.of rfl (hts (.fieldLinkNest "BackBay$Stencils" 44 "BackBay" "KINDS" "[I" "BackBay") (by decide +kernel))⟩
theorem st_K {b : Nat} {s : State} (hts : ∀ w ∈ lw_tbl, w.before #[Value.ref b] s = true) : ∃ (D : va_G) (cy : Nat → ClassId), va_K D vwCl (tyB cy) s := by
  have htg : ∀ w ∈ gT, w.before #[Value.ref b] s = true := fun w h => hts w (gT_in h)
  obtain ⟨c0, i0, hK0⟩ := u_known (C := RX0) (T := TX0) (N := 2) (n := 2) htg in_0 (htg _ k_283)
  obtain ⟨c1, i1, hK1⟩ := u_known (C := RX1) (T := TX1) (N := 4) (n := 4) htg in_1 (htg _ k_114)
  obtain ⟨c2, i2, hK2⟩ := u_known (C := RX2) (T := TX2) (N := 4) (n := 4) htg in_2 (htg _ k_202)
  obtain ⟨c3, i3, hK3⟩ := u_known (C := RX3) (T := TX3) (N := 5) (n := 5) htg in_3 (htg _ k_179)
  obtain ⟨c4, i4, hK4⟩ := u_known (C := RX4) (T := TX4) (N := 6) (n := 6) htg in_4 (htg _ k_151)
  obtain ⟨c5, i5, hK5⟩ := u_known (C := RX5) (T := TX5) (N := 3) (n := 3) htg in_5 (htg _ k_244)
  obtain ⟨c6, i6, hK6⟩ := u_known (C := RX6) (T := TX6) (N := 4) (n := 4) htg in_6 (htg _ k_297)
  obtain ⟨c7, i7, hK7⟩ := u_known (C := RX7) (T := TX7) (N := 4) (n := 4) htg in_7 (htg _ k_222)
  obtain ⟨c8, i8, hK8⟩ := u_known (C := RX8) (T := TX8) (N := 9) (n := 9) htg in_8 (htg _ k_67)
  obtain ⟨c9, i9, hK9⟩ := u_known (C := RX9) (T := TX9) (N := 3) (n := 3) htg in_9 (htg _ k_262)
  obtain ⟨c10, i10, hK10⟩ := u_known (C := RX10) (T := TX10) (N := 8) (n := 8) htg in_10 (htg _ k_32)
  obtain ⟨c11, i11, hK11⟩ := u_known (C := RX11) (T := TX11) (N := 14) (n := 14) htg in_11 (htg _ k_22)
  obtain ⟨c12, i12, hK12⟩ := u_known (C := RX12) (T := TX12) (N := 48) (n := 48) htg in_12 (htg _ k_862)
  obtain ⟨a0, kA0, cc0, hn0, hk0, hkind0⟩ := Cond.arrayClass_spec (htg _ k_65)
  obtain ⟨a1, kA1, cc1, hn1, hk1, hkind1⟩ := Cond.arrayClass_spec (htg _ k_177)
  obtain ⟨cp2, a2, kA2, hc2, -, hk2, hkind2, hn2⟩ := Cond.arrayOver_spec (hts (.arrayOver (.object "BackBay$Row")) (by decide +kernel))
  obtain ⟨cp3, a3, kA3, hc3, -, hk3, hkind3, hn3⟩ := arrayOverA_spec (hts (.arrayOver (.array .int)) (by decide +kernel))
  refine ⟨(fun k => ([c0, c1, c2, c3, c4, c5, c6, c7, c8, c9, c10, c11, c12] : List ClassId).getD k c0, fun k => ([i0, i1, i2, i3, i4, i5, i6, i7, i8, i9, i10, i11, i12] : List (Nat → Nat)).getD k i0), fun k => ([a0, a1, a2, a3] : List ClassId).getD k a0, fun k q hq => ?_, fun k q hq => ?_⟩
  · have hk : k < 13 := (List.getElem?_eq_some_iff.mp hq).1
    rcases (show k = 0 ∨ k = 1 ∨ k = 2 ∨ k = 3 ∨ k = 4 ∨ k = 5 ∨ k = 6 ∨ k = 7 ∨ k = 8 ∨ k = 9 ∨ k = 10 ∨ k = 11 ∨ k = 12 by omega) with rfl | rfl | rfl | rfl | rfl | rfl | rfl | rfl | rfl | rfl | rfl | rfl | rfl
    · cases (show some (RX0, TX0, 2) = some q from hq); exact hK0
    · cases (show some (RX1, TX1, 4) = some q from hq); exact hK1
    · cases (show some (RX2, TX2, 4) = some q from hq); exact hK2
    · cases (show some (RX3, TX3, 5) = some q from hq); exact hK3
    · cases (show some (RX4, TX4, 6) = some q from hq); exact hK4
    · cases (show some (RX5, TX5, 3) = some q from hq); exact hK5
    · cases (show some (RX6, TX6, 4) = some q from hq); exact hK6
    · cases (show some (RX7, TX7, 4) = some q from hq); exact hK7
    · cases (show some (RX8, TX8, 9) = some q from hq); exact hK8
    · cases (show some (RX9, TX9, 3) = some q from hq); exact hK9
    · cases (show some (RX10, TX10, 8) = some q from hq); exact hK10
    · cases (show some (RX11, TX11, 14) = some q from hq); exact hK11
    · cases (show some (RX12, TX12, 48) = some q from hq); exact hK12
  · have hk : k < 4 := (List.getElem?_eq_some_iff.mp hq).1
    rcases (show k = 0 ∨ k = 1 ∨ k = 2 ∨ k = 3 by omega) with rfl | rfl | rfl | rfl
    · cases (show some (a0, FieldType.int) = some q from hq); exact ⟨fun n z => ⟨fun k h => (by cases h), kA0, hk0, cc0, hkind0⟩, hn0⟩
    · cases (show some (a1, FieldType.boolean) = some q from hq); exact ⟨fun n z => ⟨fun k h => (by cases h), kA1, hk1, cc1, hkind1⟩, hn1⟩
    · cases (show some (a2, FieldType.object "BackBay$Row") = some q from hq); exact ⟨fun n z => ⟨fun k h => (by cases h), kA2, hk2, cp2, hkind2⟩, kA2, cp2, hk2, hkind2, hc2, hn2⟩
    · cases (show some (a3, FieldType.array .int) = some q from hq); exact ⟨fun n z => ⟨fun k h => (by cases h), kA3, hk3, cp3, hkind3⟩, hn3⟩
set_option maxHeartbeats 4000000 in
set_option maxRecDepth 100000 in
theorem st_EvB {b : Nat} {s : State} (hts : ∀ w ∈ lw_tbl, w.before #[Value.ref b] s = true) (hgv : (Jvm.Cond.and given_1 narrow_1).before #[Value.ref b] s = true) : ∃ z : Nat → Nat, EvB z (fun q : Nat => s.heap.size ≤ q) s s.heap := by
  have hA : ∀ a : Nat, a < s.heap.size → ¬ (fun q : Nat => s.heap.size ≤ q) a := fun a h => Nat.not_le.mpr h
  have hs := flat_of_before _ hgv
  obtain ⟨t0, ht0, hT0⟩ := va_Tof (A := fun q : Nat => s.heap.size ≤ q) (tm := .static "BackBay" "PARTS" "[I") (ty := .int) (N := 11) (f := fun j => .int (tabP j)) (by decide) (hs (.arrayOf (.static "BackBay" "PARTS" "[I") .int) (by decide +kernel)) (st_eq (hs (.eq (.length (.static "BackBay" "PARTS" "[I")) (.int (Int32.ofNat 11))) (by decide +kernel))) (fun j hj => by
    rcases (show j = 0 ∨ j = 1 ∨ j = 2 ∨ j = 3 ∨ j = 4 ∨ j = 5 ∨ j = 6 ∨ j = 7 ∨ j = 8 ∨ j = 9 ∨ j = 10 by omega) with rfl | rfl | rfl | rfl | rfl | rfl | rfl | rfl | rfl | rfl | rfl <;> exact st_eq (hs _ (by decide +kernel))) hA
  have hZ0 := va_Zof (A := fun q : Nat => s.heap.size ≤ q) (hts (.laysStatic "BackBay" "PARTS" "[I") (by decide +kernel)) (hts (.initialized "BackBay") (by decide +kernel)) ht0 hA
  obtain ⟨t1, ht1, hT1⟩ := va_Tof (A := fun q : Nat => s.heap.size ≤ q) (tm := .static "BackBay" "KINDS" "[I") (ty := .int) (N := 11) (f := fun j => .int (tabK j)) (by decide) (hs (.arrayOf (.static "BackBay" "KINDS" "[I") .int) (by decide +kernel)) (st_eq (hs (.eq (.length (.static "BackBay" "KINDS" "[I")) (.int (Int32.ofNat 11))) (by decide +kernel))) (fun j hj => by
    rcases (show j = 0 ∨ j = 1 ∨ j = 2 ∨ j = 3 ∨ j = 4 ∨ j = 5 ∨ j = 6 ∨ j = 7 ∨ j = 8 ∨ j = 9 ∨ j = 10 by omega) with rfl | rfl | rfl | rfl | rfl | rfl | rfl | rfl | rfl | rfl | rfl <;> exact st_eq (hs _ (by decide +kernel))) hA
  have hZ1 := va_Zof (A := fun q : Nat => s.heap.size ≤ q) (hts (.laysStatic "BackBay" "KINDS" "[I") (by decide +kernel)) (hts (.initialized "BackBay") (by decide +kernel)) ht1 hA
  obtain ⟨t2, ht2, hT2⟩ := va_Tof (A := fun q : Nat => s.heap.size ≤ q) (tm := .static "BackBay" "KIND_ABOVE" "[I") (ty := .int) (N := 6) (f := fun j => .int (tabA j)) (by decide) (hs (.arrayOf (.static "BackBay" "KIND_ABOVE" "[I") .int) (by decide +kernel)) (st_eq (hs (.eq (.length (.static "BackBay" "KIND_ABOVE" "[I")) (.int (Int32.ofNat 6))) (by decide +kernel))) (fun j hj => by
    rcases (show j = 0 ∨ j = 1 ∨ j = 2 ∨ j = 3 ∨ j = 4 ∨ j = 5 by omega) with rfl | rfl | rfl | rfl | rfl | rfl <;> exact st_eq (hs _ (by decide +kernel))) hA
  have hZ2 := va_Zof (A := fun q : Nat => s.heap.size ≤ q) (hts (.laysStatic "BackBay" "KIND_ABOVE" "[I") (by decide +kernel)) (hts (.initialized "BackBay") (by decide +kernel)) ht2 hA
  obtain ⟨aK, aV, hSt, hEvl⟩ := vk_Sof (A := fun q : Nat => s.heap.size ≤ q) (args := #[Value.ref b]) (s := s) (N := 4) (tm := fun i => .string "BackBay$Tape" (([98, 104, 106, 108] : List Nat).getD i 0)) (len := strL) (byt := strB)
    (fun i hi => by rcases (show i = 0 ∨ i = 1 ∨ i = 2 ∨ i = 3 by omega) with rfl | rfl | rfl | rfl <;> decide) (fun i hi => by rcases (show i = 0 ∨ i = 1 ∨ i = 2 ∨ i = 3 by omega) with rfl | rfl | rfl | rfl <;> exact hs _ (by decide +kernel)) (fun i hi => by rcases (show i = 0 ∨ i = 1 ∨ i = 2 ∨ i = 3 by omega) with rfl | rfl | rfl | rfl <;> exact hs _ (by decide +kernel)) (fun i hi => by rcases (show i = 0 ∨ i = 1 ∨ i = 2 ∨ i = 3 by omega) with rfl | rfl | rfl | rfl <;> exact hs _ (by decide +kernel)) (fun i hi => by rcases (show i = 0 ∨ i = 1 ∨ i = 2 ∨ i = 3 by omega) with rfl | rfl | rfl | rfl <;> exact hs _ (by decide +kernel))
    (fun i hi j hj => by
      rcases (show i = 0 ∨ i = 1 ∨ i = 2 ∨ i = 3 by omega) with rfl | rfl | rfl | rfl
      · have hj : j < 4 := hj
        rcases (show j = 0 ∨ j = 1 ∨ j = 2 ∨ j = 3 by omega) with rfl | rfl | rfl | rfl <;> exact hs _ (by decide +kernel)
      · have hj : j < 3 := hj
        rcases (show j = 0 ∨ j = 1 ∨ j = 2 by omega) with rfl | rfl | rfl <;> exact hs _ (by decide +kernel)
      · have hj : j < 3 := hj
        rcases (show j = 0 ∨ j = 1 ∨ j = 2 by omega) with rfl | rfl | rfl <;> exact hs _ (by decide +kernel)
      · have hj : j < 2 := hj
        rcases (show j = 0 ∨ j = 1 by omega) with rfl | rfl <;> exact hs _ (by decide +kernel))
    (fun i j hi hj hij => by
      rcases (show i = 0 ∨ i = 1 ∨ i = 2 ∨ i = 3 by omega) with rfl | rfl | rfl | rfl <;> rcases (show j = 0 ∨ j = 1 ∨ j = 2 ∨ j = 3 by omega) with rfl | rfl | rfl | rfl <;> first | exact absurd rfl hij | exact Or.inl (hs _ (by decide +kernel)) | exact Or.inr (hs _ (by decide +kernel))) hA
  obtain ⟨x1, x2, hZq⟩ : ∃ x1 x2 : Nat, va_Z "jdk/internal/util/Preconditions" "SIOOBE_FORMATTER" "Ljava/util/function/BiFunction;" (va_rf (if x1 = 0 then none else some x2)) (fun q : Nat => s.heap.size ≤ q) s s.heap := by
    rcases va_Zqof (A := fun q : Nat => s.heap.size ≤ q) (hts (.laysStatic "jdk/internal/util/Preconditions" "SIOOBE_FORMATTER" "Ljava/util/function/BiFunction;") (by decide +kernel)) (hts (.initialized "jdk/internal/util/Preconditions") (by decide +kernel)) (hs (.isRef (.static "jdk/internal/util/Preconditions" "SIOOBE_FORMATTER" "Ljava/util/function/BiFunction;")) (by decide +kernel)) hA with h | ⟨t, h⟩
    · exact ⟨0, 0, h⟩
    · exact ⟨1, t, h⟩
  have hZc := va_Zof (A := fun q : Nat => s.heap.size ≤ q) (hts (.laysStatic "java/lang/String" "COMPACT_STRINGS" "Z") (by decide +kernel)) (hts (.initialized "java/lang/String") (by decide +kernel)) (va_eqi (z := 1) (hs _ (by decide +kernel))) hA
  refine ⟨fun j => ([t0, t1, t2, aK 0, aK 1, aK 2, aK 3, aV 0, aV 1, aV 2, aV 3, x1, x2] : List Nat).getD j 0, ⟨hZ0, hT0⟩, ⟨hZ1, hT1⟩, ⟨hZ2, hT2⟩, ⟨fun i hi => ?_, fun i j hi hj q => ?_⟩, ⟨hZc, hZq⟩, ⟨vk_R.of (hts (.stringRef "BackBay$Tape" 98 "cell") (by decide +kernel)) (hEvl 0 (by decide)), vk_R.of (hts (.stringRef "BackBay$Tape" 104 "min") (by decide +kernel)) (hEvl 1 (by decide)), vk_R.of (hts (.stringRef "BackBay$Tape" 106 "max") (by decide +kernel)) (hEvl 2 (by decide)), vk_R.of (hts (.stringRef "BackBay$Tape" 108 "if") (by decide +kernel)) (hEvl 3 (by decide))⟩, st_EvN hts⟩
  · rcases (show i = 0 ∨ i = 1 ∨ i = 2 ∨ i = 3 by omega) with rfl | rfl | rfl | rfl
    · exact hSt.1 0 (by decide)
    · exact hSt.1 1 (by decide)
    · exact hSt.1 2 (by decide)
    · exact hSt.1 3 (by decide)
  · refine hSt.2 i j hi hj ?_
    rcases (show i = 0 ∨ i = 1 ∨ i = 2 ∨ i = 3 by omega) with rfl | rfl | rfl | rfl <;> rcases (show j = 0 ∨ j = 1 ∨ j = 2 ∨ j = 3 by omega) with rfl | rfl | rfl | rfl <;> exact q
theorem st_two {D : va_G} {cy : Nat → ClassId} {u v : Nat → Nat} {A : Nat → Prop} {s : State} {σ τ : Sg} {H : Heap} {locs : List Loc} (hP : va_P D vwCl (wS u 75 (shB cy u) σ ++ wS v 34 (shM cy v) τ) H) (hD : va_D A (wS u 75 (shB cy u) σ ++ wS v 34 (shM cy v) τ)) (hS : va_S A s.heap H locs) : St2 D cy u v A s σ τ H locs := by
  refine ⟨fun k x h => hP k x (ci_left h), fun k x h => hP _ x (ci_right h), ⟨fun i j a b h1 h2 e => hD.1 i j a b (ci_left h1) (ci_left h2) e, fun k x h => hD.2 k x (ci_left h)⟩, ⟨fun i j a b h1 h2 e => ?_, fun k x h => hD.2 _ x (ci_right h)⟩, fun i j hi hj q => ?_, hS⟩
  · have := hD.1 _ _ a b (ci_right h1) (ci_right h2) e
    omega
  · have := hD.1 _ _ _ _ (ci_left (wS_at (ad := u) (sh := shB cy u) (σ := σ) hi)) (ci_right (wS_at (ad := v) (sh := shM cy v) (σ := τ) hj)) q
    rw [wS_len] at this
    omega
set_option maxHeartbeats 4000000 in
set_option maxRecDepth 100000 in
/-- YOUR PART: from the entry, for every script of at most 3072 ints, the law comes to its end with true -/
theorem whole_start {p : Program} {e : Env} {s : State} {m : MethodId} {below : List Frame} {meth : Method} {c : Code} (l : Launch) {b L : Nat} {xs : Nat → Int32} (hL : L ≤ 3072) (C0 : lw_At p s m meth c b L xs) : W p l e room_1 s m #[Value.ref b] below meth c s.heap [] 0 0 (lw_Z below #[Value.ref b] s) (entryFrame m ([Value.ref b] : List Value).toArray 4) := by
  obtain ⟨hx, hb, hr, hml, hown, hts, hX, hbl, hlocks, hgv⟩ := C0
  have hA : ∀ q : Nat, s.heap.size ≤ q → (fun q : Nat => s.heap.size ≤ q) q := fun _ h => h
  have htg : ∀ w ∈ gT, w.before #[Value.ref b] s = true := fun w h => hts w (gT_in h)
  have hown : s.vm.findClass "BackBayLaw" = some m.cls := hown
  obtain ⟨D, cy, hK⟩ := st_K hts
  obtain ⟨z, hE⟩ := st_EvB hts hgv
  have XB : Fx D (tyB cy) (EvB z) p s m #[Value.ref b] meth c cL_law 4 "BackBayLaw" (fun q : Nat => s.heap.size ≤ q) := ⟨hx, hb, hml, hown, htg, hlocks, hK, hE, hA⟩
  have XM : Fx D (tyM cy) EvM p s m #[Value.ref b] meth c cL_law 4 "BackBayLaw" (fun q : Nat => s.heap.size ≤ q) := ⟨hx, hb, hml, hown, htg, hlocks, ⟨hK.1, fun k q h => hK.2 k q (show (tyM cy ++ [(cy 2, FieldType.object "BackBay$Row"), (cy 3, FieldType.array .int)])[k]? = some q from ci_left h)⟩, trivial, hA⟩
  have X : Fx D (tyB cy) EvC p s m #[Value.ref b] meth c cL_law 4 "BackBayLaw" (fun q : Nat => s.heap.size ≤ q) := ⟨hx, hb, hml, hown, htg, hlocks, hK, ⟨st_EvN hts, va_AO.of (hts (.arrayOver (.object "BackBay$Row")) (by decide +kernel)), over_moved (Vm.Alike.refl s.vm) (hts (.arrayOver (.array .int)) (by decide +kernel))⟩, hA⟩
  have hS : va_S (fun q : Nat => s.heap.size ≤ q) s.heap s.heap [] := va_S.rf
  have hP : va_P D vwCl [] s.heap := fun k q h => by simp at h
  have hD : va_D (fun q : Nat => s.heap.size ≤ q) [] := ⟨fun i j p q h => by simp at h, fun k q h => by simp at h⟩
  have hl := lv_entry ([.ref b]) (n := 4) (Nat.le_of_ble_eq_true rfl)
  rw [lg_entry_eq]
  generalize (lg_sl ([.ref b]) ++ List.replicate (4 - (lg_sl ([.ref b])).length) Slot.unset).toArray = ls at hl ⊢
  have hl : lv_has ls 4 [(0, .ref b)] := hl
  refine va_new (ci := 11) (fs := [.null, .int 0, .null, .null, .null, .null, .null, .null, .null, .null, .null, .null, .null, .null]) (C := RX11) (T := TX11) (N := 14) hx hb htg in_11 tyX11 tyX11_ok hown (htg _ k_21) (htg _ k_22) (htg _ k_1) hK hP hD hS hA rfl (by decide +kernel) (Nat.le_of_ble_eq_true rfl) (Nat.le_of_ble_eq_true rfl) dL_law_0 (fun q0 H hP hD hS => ?_)
  refine lv_dup hx hb dL_law_3 rfl ?_
  refine ci_callI (ws := []) (k := 0) (rest := [.ref q0]) X (iX11 l q0) hP hD hS k_25 k_23 k_24 k_1 ⟨rfl, by decide, by decide, by decide +kernel⟩ ⟨Nat.le_of_ble_eq_true rfl, Nat.le_of_ble_eq_true rfl⟩ ⟨Nat.le_of_ble_eq_true rfl, Nat.le_of_ble_eq_true rfl⟩ rfl hl.1 rfl (Nat.le_of_ble_eq_true rfl) dL_law_4 (fun u H locs hu hP hD hS => ?_)
  have hP : va_P D vwCl (wS u 75 (shB cy u) sB0) H := hP
  have hD : va_D (fun q : Nat => s.heap.size ≤ q) (wS u 75 (shB cy u) sB0) := hD
  refine lv_astore_n (lv' := [(1, .ref q0), (0, .ref b)]) hx hb dL_law_7 rfl hl (by decide) rfl (fun ls hl => ?_)
  refine va_new (ci := 12) (fs := [.int 0, .null, .null, .null, .null, .int 0, .int 0, .int 0, .null, .null, .null, .null, .int 0, .int 0, .int 0, .int 0, .null, .int 0, .int 0, .int 0, .null, .null, .null, .null, .null, .null, .null, .int 0, .int 0, .null, .null, .null, .null, .null, .null, .null, .null, .null, .null, .null, .null, .null, .int 0, .null, .null, .null, .null, .int 0]) (C := RX12) (T := TX12) (N := 48) hx hb htg in_12 tyX12 tyX12_ok hown (htg _ k_861) (htg _ k_862) (htg _ k_14) hK hP hD hS hA rfl (by decide +kernel) (Nat.le_of_ble_eq_true rfl) (Nat.le_of_ble_eq_true rfl) dL_law_8 (fun q1 H hP hD hS => ?_)
  refine lv_dup hx hb dL_law_11 rfl ?_
  refine ci_callI (ws := wS u 75 (shB cy u) sB0) (k := 0) (rest := [.ref q1]) X (iX12 l q1) hP hD hS k_865 k_863 k_864 k_14 ⟨rfl, by decide, by decide, by decide +kernel⟩ ⟨Nat.le_of_ble_eq_true rfl, Nat.le_of_ble_eq_true rfl⟩ ⟨Nat.le_of_ble_eq_true rfl, Nat.le_of_ble_eq_true rfl⟩ rfl hl.1 rfl (Nat.le_of_ble_eq_true rfl) dL_law_12 (fun v H locs hv hP hD hS => ?_)
  have S2 : St2 D cy u v (fun q : Nat => s.heap.size ≤ q) s sB0 sM0 H locs := st_two hP hD hS
  refine lv_astore_n (lv' := [(2, .ref q1), (1, .ref q0), (0, .ref b)]) hx hb dL_law_15 rfl hl (by decide) rfl (fun ls hl => ?_)
  refine lv_iconst (v := 0) hx hb dL_law_16 (by decide) ?_
  refine lv_istore_n (lv' := [(3, .int 0), (2, .ref q1), (1, .ref q0), (0, .ref b)]) hx hb dL_law_17 rfl hl (by decide) rfl (fun ls hl => ?_)
  rw [← show u 0 = q0 from hu, ← show v 0 = q1 from hv] at hl
  exact law_loop hL ⟨XB, XM, hX, hbl⟩ hr ⟨Nat.le_of_ble_eq_true rfl, Nat.le_of_ble_eq_true rfl⟩ (L + 1) 0 0 (Nat.zero_le L) (by omega) nI_0.symm sB0 sM0 H locs Inv0 S2 ls (lv_sub hl [3, 2, 1, 0] rfl)
