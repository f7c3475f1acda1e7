/-! going back over one stencil for one cell: the canonical slopes; the class's desk -/
def gstep (op sz : Nat → Nat) (V G : Nat → Int32) (i : Nat) : Nat → Int32 :=
  if op i ≤ 4 then G
  else if op i = 5 then upd (upd G (i + 1) (G (i + 1) + G i)) (s2 sz i) (upd G (i + 1) (G (i + 1) + G i) (s2 sz i) + G i)
  else if op i = 6 then upd (upd G (i + 1) (G (i + 1) + G i)) (s2 sz i) (upd G (i + 1) (G (i + 1) + G i) (s2 sz i) + -(G i))
  else if op i = 7 then upd (upd G (i + 1) (G (i + 1) + G i * V (s2 sz i))) (s2 sz i) (upd G (i + 1) (G (i + 1) + G i * V (s2 sz i)) (s2 sz i) + G i * V (i + 1))
  else upd G (tkN op sz V i) (G (tkN op sz V i) + G i)
def zstep (op : Nat → Nat) (G z : Nat → Int32) (i : Nat) : Nat → Int32 := if op i ≤ 3 then upd z (op i) (z (op i) + G i) else z
def zgo (op sz : Nat → Nat) (V : Nat → Int32) : Nat → Nat → (Nat → Int32) → (Nat → Int32) → (Nat → Int32)
  | 0, _, _, z => z
  | d + 1, i, G, z => zgo op sz V d (i + 1) (gstep op sz V G i) (zstep op G z i)
theorem upd_c {f f' : Nat → Int32} {p q : Nat} {v v' : Int32} (h : f q = f' q) (hv : v = v') : upd f p v q = upd f' p v' q := by
  by_cases c : q = p
  · subst c; rw [pk_us, pk_us]; exact hv
  · rw [pk_un c, pk_un c]; exact h
theorem gstep_congr {op sz : Nat → Nat} {V V' G G' : Nat → Int32} {e i : Nat} (hk : Kid op sz e i) (hV : ∀ q, i < q → q < e → V q = V' q) (hG : ∀ q, i ≤ q → q < e → G q = G' q) : ∀ q, i + 1 ≤ q → q < e → gstep op sz V G i q = gstep op sz V' G' i q := by
  intro q h1 h2
  have g0 := hG i (Nat.le_refl _) hk.2.1
  have gq := hG q (by omega) h2
  unfold gstep
  by_cases c4 : op i ≤ 4
  · rw [if_pos c4, if_pos c4]; exact gq
  rw [if_neg c4, if_neg c4]
  have a := hk.2.2.2.1 (by omega)
  have t := tkN_rng (V := V) hk (by omega)
  have ga := hG (i + 1) (by omega) a.1
  have gb := hG (s2 sz i) (by omega) a.2.2
  have gt := hG _ (by omega) t.2
  have va := hV (i + 1) (by omega) a.1
  have vb := hV (s2 sz i) (by omega) a.2.2
  have te := tkN_congr hk (by omega) hV
  by_cases c5 : op i = 5
  · rw [if_pos c5, if_pos c5]
    have e1 : G (i + 1) + G i = G' (i + 1) + G' i := by rw [ga, g0]
    exact upd_c (upd_c gq e1) (by rw [upd_c gb e1, g0])
  rw [if_neg c5, if_neg c5]
  by_cases c6 : op i = 6
  · rw [if_pos c6, if_pos c6]
    have e1 : G (i + 1) + G i = G' (i + 1) + G' i := by rw [ga, g0]
    exact upd_c (upd_c gq e1) (by rw [upd_c gb e1, g0])
  rw [if_neg c6, if_neg c6]
  by_cases c7 : op i = 7
  · rw [if_pos c7, if_pos c7]
    have e1 : G (i + 1) + G i * V (s2 sz i) = G' (i + 1) + G' i * V' (s2 sz i) := by rw [ga, g0, vb]
    exact upd_c (upd_c gq e1) (by rw [upd_c gb e1, g0, va])
  rw [if_neg c7, if_neg c7, ← te]
  exact upd_c gq (by rw [gt, g0])
theorem zstep_congr {op : Nat → Nat} {G G' z z' : Nat → Int32} {i : Nat} (hG : G i = G' i) (hz : ∀ q, q ≤ 3 → z q = z' q) : ∀ q, q ≤ 3 → zstep op G z i q = zstep op G' z' i q := by
  intro q hq
  unfold zstep
  by_cases c : op i ≤ 3
  · rw [if_pos c, if_pos c]
    exact upd_c (hz q hq) (by rw [hz _ c, hG])
  · rw [if_neg c, if_neg c]; exact hz q hq
theorem zgo_congr {op sz : Nat → Nat} {V V' : Nat → Int32} {b e : Nat} (hk : ∀ i, b ≤ i → i < e → Kid op sz e i) (hV : ∀ q, b ≤ q → q < e → V q = V' q) : ∀ (d i : Nat) (G G' z z' : Nat → Int32), b ≤ i → i + d = e → (∀ q, i ≤ q → q < e → G q = G' q) → (∀ q, q ≤ 3 → z q = z' q) → ∀ q, q ≤ 3 → zgo op sz V d i G z q = zgo op sz V' d i G' z' q
  | 0, i, G, G', z, z', hb, hi, hG, hz => hz
  | d + 1, i, G, G', z, z', hb, hi, hG, hz => by
    unfold zgo
    exact zgo_congr hk hV d (i + 1) _ _ _ _ (by omega) (by omega) (gstep_congr (hk i hb (by omega)) (fun q q1 q2 => hV q (by omega) q2) hG) (zstep_congr (hG i (Nat.le_refl _) (by omega)) hz)
theorem i32_0add0 : (0 : Int32) + 0 = 0 := by decide
theorem i32_0neg : (0 : Int32) + -(0) = 0 := by decide
theorem i32_0mul (x : Int32) : (0 : Int32) + 0 * x = 0 := by rw [Int32.zero_mul]; decide
theorem gstep_zero {op sz : Nat → Nat} {V G : Nat → Int32} {e i : Nat} (hk : Kid op sz e i) (hG : ∀ q, i ≤ q → q < e → G q = 0) : ∀ q, i + 1 ≤ q → q < e → gstep op sz V G i q = 0 := by
  intro q h1 h2
  have z : ∀ (f : Nat → Int32) (p : Nat) (v : Int32), f q = 0 → v = 0 → upd f p v q = 0 := fun f p v hf hv => by
    by_cases c : q = p
    · subst c; rw [pk_us]; exact hv
    · rw [pk_un c]; exact hf
  have z2 : ∀ (f : Nat → Int32) (p r : Nat) (v : Int32), f r = 0 → v = 0 → upd f p v r = 0 := fun f p r v hf hv => by
    by_cases c : r = p
    · subst c; rw [pk_us]; exact hv
    · rw [pk_un c]; exact hf
  have g0 := hG i (Nat.le_refl _) hk.2.1
  have gq := hG q (by omega) h2
  unfold gstep
  by_cases c4 : op i ≤ 4
  · rw [if_pos c4]; exact gq
  rw [if_neg c4, g0]
  have a := hk.2.2.2.1 (by omega)
  have t := tkN_rng (V := V) hk (by omega)
  have ga := hG (i + 1) (by omega) a.1
  have gb := hG (s2 sz i) (by omega) a.2.2
  have gt := hG _ (by omega) t.2
  by_cases c5 : op i = 5
  · rw [if_pos c5, ga]
    exact z _ _ _ (z _ _ _ gq i32_0add0) (by rw [z2 _ _ _ _ gb i32_0add0]; exact i32_0add0)
  rw [if_neg c5]
  by_cases c6 : op i = 6
  · rw [if_pos c6, ga]
    exact z _ _ _ (z _ _ _ gq i32_0add0) (by rw [z2 _ _ _ _ gb i32_0add0]; exact i32_0neg)
  rw [if_neg c6]
  by_cases c7 : op i = 7
  · rw [if_pos c7, ga]
    exact z _ _ _ (z _ _ _ gq (i32_0mul _)) (by rw [z2 _ _ _ _ gb (i32_0mul _)]; exact i32_0mul _)
  rw [if_neg c7, gt]
  exact z _ _ _ gq i32_0add0
theorem zgo_zero {op sz : Nat → Nat} {V : Nat → Int32} {b e : Nat} (hk : ∀ i, b ≤ i → i < e → Kid op sz e i) : ∀ (d i : Nat) (G z : Nat → Int32), b ≤ i → i + d = e → (∀ q, i ≤ q → q < e → G q = 0) → ∀ q, zgo op sz V d i G z q = z q
  | 0, i, G, z, hb, hi, hG, q => rfl
  | d + 1, i, G, z, hb, hi, hG, q => by
    unfold zgo
    rw [zgo_zero hk d (i + 1) _ _ (by omega) (by omega) (gstep_zero (hk i hb (by omega)) hG) q]
    unfold zstep
    rw [hG i (Nat.le_refl _) (by omega)]
    by_cases c : op i ≤ 3
    · rw [if_pos c]
      exact congrFun (upd_id (i32_add0 _).symm) q
    · rw [if_neg c]
/-- the slopes that a stencil's nodes begin with -/
def gi (b e : Nat) (s : Int32) (old : Nat → Int32) : Nat → Int32 := fun j => if b ≤ j ∧ j < e then (if j = b then s else 0) else old j
theorem gi_in {b e : Nat} {s : Int32} {old old' : Nat → Int32} {q : Nat} (h1 : b ≤ q) (h2 : q < e) : gi b e s old q = gi b e s old' q := by
  have c : b ≤ q ∧ q < e := ⟨h1, h2⟩
  unfold gi
  rw [if_pos c, if_pos c]
def zr (b e : Nat) (old : Nat → Int32) : Nat → Int32 := fun j => if b ≤ j ∧ j < e then 0 else old j
theorem zr_0 (b : Nat) (old : Nat → Int32) : zr b b old = old := by
  funext j
  unfold zr
  rw [if_neg (by omega)]
theorem zr_succ {b i : Nat} (old : Nat → Int32) (h : b ≤ i) : upd (zr b i old) i 0 = zr b (i + 1) old := by
  funext j
  by_cases e : j = i
  · subst e
    rw [pk_us]
    unfold zr
    exact (if_pos ⟨h, Nat.lt_succ_self j⟩).symm
  · rw [pk_un e]
    unfold zr
    by_cases c : b ≤ j ∧ j < i
    · exact (if_pos c).trans (if_pos ⟨c.1, by omega⟩).symm
    · exact (if_neg c).trans (if_neg (by omega)).symm
theorem zr_gi {b e : Nat} {s : Int32} (old : Nat → Int32) (h : b < e) : upd (zr b e old) b s = gi b e s old := by
  funext j
  by_cases c : j = b
  · subst c
    rw [pk_us]
    unfold gi
    rw [if_pos ⟨Nat.le_refl _, h⟩, if_pos rfl]
  · rw [pk_un c]
    unfold zr gi
    by_cases d : b ≤ j ∧ j < e
    · rw [if_pos d, if_pos d, if_neg c]
    · rw [if_neg d, if_neg d]
-- the class
theorem p_handD {σ : Sg} {T e i : Nat} {op : Nat → Nat} {nu : Nat → Int32} {sz : Nat → Nat} {Q : Sg → Prop} (hT : isSten T) (hN : NdB σ T op nu sz i) (hk : Kid op sz e i) (hQ : ∀ σ', (∀ j, j ≠ 16 → j ≠ 19 → σ' j = σ j) → σ' 16 = gstep op sz (σ 15) (σ 16) i → σ' 19 = zstep op (σ 16) (σ 19) i → Q σ') : wX3_handDown T (nI i) σ Q := by
  have e60 := hk.2.2.1
  have hie := hk.2.1
  have ho := hk.1
  have i1 : vp_in (nI i) 60 := vp_in_nI (by omega) (by decide)
  have oe : ∀ c : Nat, c ≤ 10 → (nI (op i) = nI c ↔ op i = c) := fun c hc => oeq hk.1 hc
  unfold gstep zstep at hQ
  have tk : 8 ≤ op i → wX3_handDown_b166 T (nI i) (σ 16 i) σ Q := by
    intro h8
    unfold wX3_handDown_b166 wX3_handDown_b195
    refine p_taken hN hk h8 ?_
    have t := tkN_rng (V := σ 15) hk (by omega)
    rw [nI_clamp (by omega)]
    refine ⟨vp_in_nI (by omega) (by decide), vp_in_nI (by omega) (by decide), fun σ18 e18 => hQ σ18 (fun j q1 q2 => by rw [e18, sto_ne _ _ _ q1]) ?_ ?_⟩
    · rw [if_neg (by omega), if_neg (by omega), if_neg (by omega), if_neg (by omega), e18, sto_same]
    · rw [if_neg (by omega), e18, sto_ne _ _ _ (by decide)]
  unfold wX3_handDown
  rw [nI_clamp (by omega), hN.1, nI_1]
  refine ⟨i1, fun x3 e3 => ⟨i1, fun x4 e4 x5 e5 => ⟨i1, fun x6 e6 => ?_⟩⟩⟩
  subst e3 e4 e5
  refine ⟨fun z => ?_, fun z4 => ⟨fun z => ?_, fun z5 => ⟨fun z => ?_, fun z6 => ⟨fun z => ?_, fun z7 => ⟨fun z => tk (by have := (oe 8 (by decide)).mp z; omega), fun z8 => ⟨fun z => tk (by have := (oe 9 (by decide)).mp z; omega), fun z9 => ⟨fun z => tk (by have := (oe 10 (by decide)).mp z; omega), fun z10 => ?_⟩⟩⟩⟩⟩⟩⟩
  · have c := (oe 4 (by decide)).mp z
    unfold wX3_handDown_b195
    exact hQ σ (fun _ _ _ => rfl) (by rw [if_pos (by omega)]) (by rw [if_neg (by omega)])
  · have c := (oe 5 (by decide)).mp z
    have a := hk.2.2.2.1 (by omega)
    rw [hN.2.2.1 (by omega)] at e6
    subst e6
    rw [nI_clamp (by omega), nI_clamp (by omega)]
    unfold wX3_handDown_b195
    refine ⟨vp_in_nI (by omega) (by decide), vp_in_nI (by omega) (by decide), fun σ7 e7 => ⟨vp_in_nI (by omega) (by decide), vp_in_nI (by omega) (by decide), fun σ8 e8 => hQ σ8 (fun j q1 q2 => by rw [e8, sto_ne _ _ _ q1, e7, sto_ne _ _ _ q1]) ?_ ?_⟩⟩
    · rw [if_neg (by omega), if_pos c, e8, sto_same, e7, sto_same]
    · rw [if_neg (by omega), e8, sto_ne _ _ _ (by decide), e7, sto_ne _ _ _ (by decide)]
  · have c := (oe 6 (by decide)).mp z
    have a := hk.2.2.2.1 (by omega)
    rw [hN.2.2.1 (by omega)] at e6
    subst e6
    rw [nI_clamp (by omega), nI_clamp (by omega)]
    unfold wX3_handDown_b195
    refine ⟨vp_in_nI (by omega) (by decide), vp_in_nI (by omega) (by decide), fun σ7 e7 => ⟨vp_in_nI (by omega) (by decide), vp_in_nI (by omega) (by decide), fun σ8 e8 => hQ σ8 (fun j q1 q2 => by rw [e8, sto_ne _ _ _ q1, e7, sto_ne _ _ _ q1]) ?_ ?_⟩⟩
    · rw [if_neg (by omega), if_neg (by omega), if_pos c, e8, sto_same, e7, sto_same, Int32.sub_eq_add_neg]
    · rw [if_neg (by omega), e8, sto_ne _ _ _ (by decide), e7, sto_ne _ _ _ (by decide)]
  · have c := (oe 7 (by decide)).mp z
    have a := hk.2.2.2.1 (by omega)
    rw [hN.2.2.1 (by omega)] at e6
    subst e6
    rw [nI_clamp (by omega), nI_clamp (by omega)]
    unfold wX3_handDown_b195
    refine ⟨vp_in_nI (by omega) (by decide), vp_in_nI (by omega) (by decide), vp_in_nI (by omega) (by decide), fun σ7 e7 => ⟨vp_in_nI (by omega) (by decide), vp_in_nI (by omega) (by decide), vp_in_nI (by omega) (by decide), fun σ8 e8 => hQ σ8 (fun j q1 q2 => by rw [e8, sto_ne _ _ _ q1, e7, sto_ne _ _ _ q1]) ?_ ?_⟩⟩
    · rw [if_neg (by omega), if_neg (by omega), if_neg (by omega), if_pos c, e8, sto_same, e7, sto_same, sto_ne _ _ _ (by decide)]
    · rw [if_neg (by omega), e8, sto_ne _ _ _ (by decide), e7, sto_ne _ _ _ (by decide)]
  · have c : op i ≤ 3 := by
      have a4 : op i ≠ 4 := fun q => z4 ((oe 4 (by decide)).mpr q)
      have a5 : op i ≠ 5 := fun q => z5 ((oe 5 (by decide)).mpr q)
      have a6 : op i ≠ 6 := fun q => z6 ((oe 6 (by decide)).mpr q)
      have a7 : op i ≠ 7 := fun q => z7 ((oe 7 (by decide)).mpr q)
      have a8 : op i ≠ 8 := fun q => z8 ((oe 8 (by decide)).mpr q)
      have a9 : op i ≠ 9 := fun q => z9 ((oe 9 (by decide)).mpr q)
      have a10 : op i ≠ 10 := fun q => z10 ((oe 10 (by decide)).mpr q)
      omega
    rw [nI_clamp (by omega)]
    unfold wX3_handDown_b195
    refine ⟨vp_in_nI (by omega) (by decide), vp_in_nI (by omega) (by decide), fun σ21 e21 => hQ σ21 (fun j q1 q2 => by rw [e21, sto_ne _ _ _ q2]) ?_ ?_⟩
    · rw [if_pos (by omega), e21, sto_ne _ _ _ (by decide)]
    · rw [if_pos c, e21, sto_same]
theorem p_gb63 {σ0 : Sg} {T b e : Nat} {op : Nat → Nat} {nu : Nat → Int32} {sz : Nat → Nat} (hT : isSten T) (he : e ≤ 60) (hN : ∀ i, b ≤ i → i < e → NdB σ0 T op nu sz i) (hk : ∀ i, b ≤ i → i < e → Kid op sz e i) {K Q : Sg → Prop} :
    ∀ (d i : Nat) (σ : Sg), b ≤ i → i + d = e → (∀ j, j ≠ 16 → j ≠ 19 → σ j = σ0 j) → (∀ σ', (∀ j, j ≠ 16 → j ≠ 19 → σ' j = σ0 j) → σ' 19 = zgo op sz (σ0 15) d i (σ 16) (σ 19) → K σ') → wX3_goBack_L63 T (nI e) K Q (d + 1) (nI i) σ
  | 0, i, σ, hbi, hi, h, hK => by
    unfold wX3_goBack_L63
    have e : i = e := by omega
    subst e
    exact ⟨fun _ => hK σ h rfl, fun z => absurd (nI_le (Nat.le_refl _) (by omega)) z⟩
  | d + 1, i, σ, hbi, hi, h, hK => by
    unfold wX3_goBack_L63
    refine ⟨fun z => absurd z (nI_ge (by omega) (by omega)), fun _ => ?_⟩
    refine p_handD hT (NdB_fr hT (fun j q1 q2 => h j (by omega) (by omega)) (hN i hbi (by omega))) (hk i hbi (by omega)) (fun σ12 f12 v16 v19 x6 e6 => ?_)
    rw [nI_1] at e6
    subst e6
    refine p_gb63 hT he hN hk d (i + 1) σ12 (by omega) (by omega) (fun j q1 q2 => by rw [f12 j q1 q2]; exact h j q1 q2) (fun σ' f' v' => hK σ' f' ?_)
    rw [v', v16, v19, h 15 (by decide) (by decide)]
    rfl
theorem p_gb30 {σ0 : Sg} {T b e : Nat} {x3 x4 : Int32} {old : Nat → Int32} (he : e ≤ 60) {K Q : Sg → Prop} (hK : ∀ σ, (∀ j, j ≠ 16 → σ j = σ0 j) → σ 16 = zr b e old → K σ) : ∀ (d i : Nat) (σ : Sg), b ≤ i → i + d = e → (∀ j, j ≠ 16 → σ j = σ0 j) → σ 16 = zr b i old → wX3_goBack_L30 T x3 x4 (nI e) K Q (d + 1) (nI i) σ
  | 0, i, σ, hbi, hi, h, hf => by
    unfold wX3_goBack_L30
    have e : i = e := by omega
    subst e
    exact ⟨fun _ => hK σ h hf, fun z => absurd (nI_le (Nat.le_refl _) (by omega)) z⟩
  | d + 1, i, σ, hbi, hi, h, hf => by
    unfold wX3_goBack_L30
    rw [nI_clamp (by omega)]
    refine ⟨fun z => absurd z (nI_ge (by omega) (by omega)), fun _ => ⟨vp_in_nI (by omega) (by decide), fun σ4 e4 x2 e2 => ?_⟩⟩
    rw [nI_1] at e2
    subst e2
    exact p_gb30 he hK d (i + 1) σ4 (by omega) (by omega) (fun j hj => by rw [e4, sto_ne _ _ _ hj]; exact h j hj) (by rw [e4, sto_same, hf, zr_succ old hbi])
theorem p_gbD {σ : Sg} {T ns nn k : Nat} {bg op : Nat → Nat} {nu : Nat → Int32} {sz : Nat → Nat} {s : Int32} {Q : Sg → Prop} (hT : isSten T) (hX : TX ns nn bg op sz) (hB : TB σ T ns nn bg op nu sz) (hk : k < ns) (hQ : ∀ σ', (∀ j, j ≠ 16 → j ≠ 19 → σ' j = σ j) → (∀ q, q ≤ 3 → σ' 19 q = zgo op sz (σ 15) (bg (k + 1) - bg k) (bg k) (gi (bg k) (bg (k + 1)) s (fun _ => 0)) (fun _ => 0) q) → Q σ') : wX3_goBack T (nI k) s σ Q := by
  have hns := hX.1
  have h60 := hX.2.1
  have hen := TX_end hX hk
  have hlt := hX.2.2.2.2.1 k hk
  have hb : 20 ≤ T ∧ T < 29 := by rcases hT with rfl | rfl <;> omega
  unfold wX3_goBack
  refine p_fill (by decide) ?_
  rw [fil_ne (j' := T + 1) _ _ _ _ (by omega), nI_1, nI_clamp (by omega), nI_clamp (by omega), hB.2.2.1 k (by omega), hB.2.2.1 (k + 1) (by omega)]
  refine ⟨vp_in_nI (by omega) (by decide), fun x4 e4 => ⟨vp_in_nI (by omega) (by decide), fun x5 e5 => ⟨bg (k + 1) - bg k + 1, ?_⟩⟩⟩
  subst e4 e5
  refine p_gb30 (σ0 := fil σ 19 0 4 0) (b := bg k) (e := bg (k + 1)) (old := σ 16) (by omega) (fun σ8 f8 v8 => ?_) (bg (k + 1) - bg k) (bg k) _ (Nat.le_refl _) (by omega) (fun _ _ => rfl) ?_
  · rw [nI_clamp (by omega)]
    refine ⟨vp_in_nI (by omega) (by decide), fun σ9 e9 => ⟨bg (k + 1) - bg k + 1, ?_⟩⟩
    have f9 : ∀ j, j ≠ 16 → j ≠ 19 → σ9 j = σ j := fun j q1 q2 => by rw [e9, sto_ne _ _ _ q1, f8 j q1, fil_ne _ _ _ _ q2]
    have v16 : σ9 16 = gi (bg k) (bg (k + 1)) s (σ 16) := by rw [e9, sto_same, v8, zr_gi _ hlt]
    have v19 : ∀ q, q ≤ 3 → σ9 19 q = 0 := fun q hq => by
      rw [e9, sto_ne _ _ _ (by decide), f8 19 (by decide), fil_same, if_pos (by omega)]
    refine p_gb63 (σ0 := σ) (b := bg k) (nu := nu) hT (by omega) (fun i a b => TB_nd hB (by omega)) (fun i a b => TX_kid hX hk a b) (bg (k + 1) - bg k) (bg k) σ9 (Nat.le_refl _) (by omega) f9 (fun σ' f' v' => hQ σ' f' ?_)
    intro q hq
    rw [v', v16]
    exact zgo_congr (fun i a b => TX_kid hX hk a b) (fun _ _ _ => rfl) _ _ _ _ _ _ (Nat.le_refl _) (by omega) (fun r a b => gi_in a b) v19 q hq
  · rw [fil_ne _ _ _ _ (by decide), zr_0]
