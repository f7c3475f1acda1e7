/-! move -/
def ab (x : Int32) : Int64 := if 0 < x.toInt64 then x.toInt64 else -(x.toInt64)
theorem ab_toInt (x : Int32) : (ab x).toInt = if 0 < x.toInt then x.toInt else -x.toInt := by
  have hr := fb_rng x
  have e0 : (0 : Int64).toInt = 0 := by decide
  have c : (0 : Int64) < x.toInt64 ↔ 0 < x.toInt := by rw [fa_lt64, Int32.toInt_toInt64, e0]
  unfold ab
  by_cases h : 0 < x.toInt
  · rw [if_pos (c.mpr h), if_pos h, Int32.toInt_toInt64]
  · rw [if_neg (fun w => h (c.mp w)), if_neg h, Int64.toInt_neg, Int32.toInt_toInt64, fb_bmodL (by omega) (by omega)]
theorem ab_zero : ab 0 = 0 := by decide
theorem ab_nonneg (x : Int32) : (0 : Int64) ≤ ab x := by
  have e0 : (0 : Int64).toInt = 0 := by decide
  rw [fa_le64, ab_toInt, e0]
  split <;> omega
theorem ab_pos {x : Int32} (h : x ≠ 0) : ¬ ab x ≤ 0 := by
  have e0 : (0 : Int64).toInt = 0 := by decide
  have hx : x.toInt ≠ 0 := fun w => h ((fa_eq x 0).mpr w)
  rw [fa_le64, ab_toInt, e0]
  split <;> omega
theorem ab_ge {x : Int32} (h : 0 ≤ x) : x.toInt64 = ab x := (dAB_ge ((fa_wide_le 0 x).mpr h)).symm
theorem ab_lt {x : Int32} (h : ¬ 0 ≤ x) : -(x.toInt64) = ab x := (dAB_lt (fun w => h ((fa_wide_le 0 x).mp w))).symm
def sB (f : Nat → Int32) : Nat → Int64 × Int32
  | 0 => (0, -1000000)
  | c + 1 => if ab (f c) ≤ (sB f c).1 then sB f c else (ab (f c), nI c)
theorem sB_congr {f f' : Nat → Int32} : ∀ c, (∀ i, i < c → f i = f' i) → sB f c = sB f' c
  | 0, _ => rfl
  | c + 1, h => by
    unfold sB
    rw [sB_congr c (fun i hi => h i (by omega)), h c (by omega)]
theorem sB_inv (f : Nat → Int32) : ∀ c, ((sB f c).1 = 0 ∧ (sB f c).2 = -1000000 ∧ ∀ i, i < c → f i = 0) ∨ ∃ b, b < c ∧ (sB f c).2 = nI b ∧ (sB f c).1 = ab (f b) ∧ f b ≠ 0
  | 0 => Or.inl ⟨rfl, rfl, fun i hi => by omega⟩
  | c + 1 => by
    unfold sB
    by_cases h : ab (f c) ≤ (sB f c).1
    · rw [if_pos h]
      rcases sB_inv f c with ⟨a1, a2, a3⟩ | ⟨b, hb, a1, a2, a3⟩
      · refine Or.inl ⟨a1, a2, fun i hi => ?_⟩
        by_cases e : i = c
        · subst e
          rw [a1] at h
          exact Classical.byContradiction (fun w => ab_pos w h)
        · exact a3 i (by omega)
      · exact Or.inr ⟨b, by omega, a1, a2, a3⟩
    · rw [if_neg h]
      refine Or.inr ⟨c, by omega, rfl, rfl, fun w => h ?_⟩
      rw [w, ab_zero]
      rcases sB_inv f c with ⟨a1, a2, a3⟩ | ⟨b, hb, a1, a2, a3⟩
      · rw [a1]; decide
      · rw [a2]; exact ab_nonneg _
theorem p_steB {σ : Sg} {n : Nat} {K Q : Int32 → Sg → Prop} (hn : n ≤ 10) (hK : K (sB (σ 41) n).2 σ) : ∀ (d c : Nat), c + d = n → wX7_steepestStrips_L9 (nI n) K Q (d + 1) (sB (σ 41) c).1 (sB (σ 41) c).2 (nI c) σ
  | 0, c, hc => by
    unfold wX7_steepestStrips_L9
    have e : c = n := by omega
    rw [e]
    exact ⟨fun _ => hK, fun z => absurd (nI_le (Nat.le_refl _) (by omega)) z⟩
  | d + 1, c, hc => by
    have ih := p_steB (Q := Q) hn hK d (c + 1) (by omega)
    unfold wX7_steepestStrips_L9 wX7_steepestStrips_b42
    rw [nI_clamp (by omega)]
    refine ⟨fun z => absurd z (nI_ge (by omega) (by omega)), fun _ => ⟨vp_in_nI (by omega) (by decide), fun x6 e6 => ?_⟩⟩
    have e6' : x6 = ab (σ 41 c) := e6
    rw [e6', lg_cmp_le, nI_1]
    unfold sB at ih
    refine ⟨fun z x5 e5 => ?_, fun z x5 e5 => ?_⟩
    · rw [if_pos z] at ih; rw [e5]; exact ih
    · rw [if_neg z] at ih; rw [e5]; exact ih
theorem p_steB' {σ : Sg} {n : Nat} {Q : Int32 → Sg → Prop} (hn : n ≤ 10) (hQ : Q (sB (σ 41) n).2 σ) : wX7_steepestStrips (nI n) σ Q := by
  unfold wX7_steepestStrips
  exact ⟨_, p_steB (K := fun x σ => Q x σ) (Q := Q) hn hQ n 0 (by omega)⟩
theorem p_isGr {x y : Int32} {τ : Sg} {Q : Int32 → Sg → Prop} (h1 : ¬ ab x ≤ ab y → Q 1 τ) (h0 : ab x ≤ ab y → Q 0 τ) : wX12_isGreater x y τ Q := by
  have fin : ∀ a b : Int64, a = ab x → b = ab y → wX12_isGreater_b25 a b τ Q := by
    intro a b ea eb
    unfold wX12_isGreater_b25 wX12_isGreater_b39
    rw [ea, eb, lg_cmp_le]
    exact ⟨fun z => ⟨bok0, h0 z⟩, fun z => ⟨bok1, h1 z⟩⟩
  unfold wX12_isGreater wX12_isGreater_b12
  exact ⟨fun z => ⟨fun w => fin _ _ (ab_ge z) (ab_ge w), fun w => fin _ _ (ab_ge z) (ab_lt w)⟩, fun z => ⟨fun w => fin _ _ (ab_lt z) (ab_ge w), fun w => fin _ _ (ab_lt z) (ab_lt w)⟩⟩
/-- the slopes not tried yet -/
def fT (τ : Sg) : Nat → Int32 := fun c => if τ 28 c = 0 then τ 29 c else 0
theorem p_steM {τ : Sg} {n : Nat} {K Q : Int32 → Sg → Prop} (h19 : τ 0 19 = nI n) (hn : n ≤ 10) (hK : K (sB (fT τ) n).2 τ) : ∀ (d c : Nat), c + d = n → wX12_steepest_L6 K Q (d + 1) (sB (fT τ) c).2 (nI c) τ
  | 0, c, hc => by
    unfold wX12_steepest_L6
    have e : c = n := by omega
    rw [e, h19]
    exact ⟨fun _ => hK, fun z => absurd (nI_le (Nat.le_refl _) (by omega)) z⟩
  | d + 1, c, hc => by
    have ih := p_steM (Q := Q) h19 hn hK d (c + 1) (by omega)
    have ic : vp_in (nI c) 10 := vp_in_nI (by omega) (by decide)
    unfold wX12_steepest_L6 wX12_steepest_b57 wX12_steepest_b59
    rw [h19, nI_clamp (by omega), nI_1]
    have stay : fT τ c = 0 → wX12_steepest_L6 K Q (d + 1) (sB (fT τ) c).2 (nI (c + 1)) τ := by
      intro h0
      unfold sB at ih
      rw [h0, ab_zero, if_pos ?_] at ih
      · exact ih
      · rcases sB_inv (fT τ) c with ⟨a1, a2, a3⟩ | ⟨b, hb, a1, a2, a3⟩
        · rw [a1]; decide
        · rw [a2]; exact ab_nonneg _
    refine ⟨fun z => absurd z (nI_ge (by omega) (by omega)), fun _ => ⟨ic, fun z => ⟨ic, fun w x2 e2 => ?_, fun w => ?_⟩, fun z x2 e2 => ?_⟩⟩
    · rw [e2]; exact stay (by unfold fT; rw [if_pos z]; exact w)
    · have ef : fT τ c = τ 29 c := by unfold fT; rw [if_pos z]
      unfold sB at ih
      rw [ef] at ih
      rcases sB_inv (fT τ) c with ⟨a1, a2, a3⟩ | ⟨b, hb, a1, a2, a3⟩
      · refine ⟨fun _ x2 e2 => ?_, fun y => absurd a2 y⟩
        rw [a1, if_neg (ab_pos w)] at ih
        rw [e2]; exact ih
      · have eb : τ 29 b = fT τ b := by
          unfold fT at a3 ⊢
          by_cases q : τ 28 b = 0
          · rw [if_pos q]
          · rw [if_neg q] at a3; exact absurd rfl a3
        rw [a1]
        refine ⟨fun y => absurd y (nI_nNone (by omega)), fun _ => ⟨ic, vp_in_nI (by omega) (by decide), ?_⟩⟩
        rw [nI_clamp (by omega), eb]
        rw [a2] at ih
        refine p_isGr (fun y => ⟨fun v => absurd v one_ne, fun _ x2 e2 => ?_⟩) (fun y => ⟨fun _ x2 e2 => ?_, fun v => absurd rfl v⟩)
        · rw [if_neg y] at ih; rw [e2]; exact ih
        · rw [if_pos y, a1] at ih; rw [e2]; exact ih
    · rw [e2]; exact stay (by unfold fT; rw [if_neg z])
theorem p_steM' {τ : Sg} {n : Nat} {f : Nat → Int32} {Q : Int32 → Sg → Prop} (h19 : τ 0 19 = nI n) (hn : n ≤ 10) (hf : ∀ c, c < n → fT τ c = f c) (hQ : Q (sB f n).2 τ) : wX12_steepest τ Q := by
  unfold wX12_steepest
  rw [← sB_congr n hf] at hQ
  exact ⟨_, p_steM (K := fun x σ => Q x σ) (Q := Q) h19 hn hQ n 0 (by omega)⟩
/-- how many have a slope -/
def cnt (f : Nat → Int32) : Nat → Nat
  | 0 => 0
  | c + 1 => cnt f c + (if f c = 0 then 0 else 1)
theorem cnt_le (f : Nat → Int32) : ∀ c, cnt f c ≤ c
  | 0 => Nat.le_refl _
  | c + 1 => by
    have := cnt_le f c
    unfold cnt
    split <;> omega
theorem cnt_upd_out (f : Nat → Int32) {b : Nat} : ∀ c, c ≤ b → cnt (upd f b 0) c = cnt f c
  | 0, _ => rfl
  | c + 1, h => by
    unfold cnt
    rw [cnt_upd_out f c (by omega), pk_un (show c ≠ b by omega)]
theorem cnt_upd (f : Nat → Int32) {b : Nat} (hb : f b ≠ 0) : ∀ c, b < c → cnt (upd f b 0) c + 1 = cnt f c
  | 0, h => by omega
  | c + 1, h => by
    unfold cnt
    by_cases e : c = b
    · subst e
      rw [cnt_upd_out f c (Nat.le_refl _), pk_us, if_pos rfl, if_neg hb]
    · have := cnt_upd f hb c (by omega)
      rw [pk_un e]
      omega
theorem cnt_zero {f : Nat → Int32} : ∀ c, cnt f c = 0 → ∀ i, i < c → f i = 0
  | 0, _, i, hi => by omega
  | c + 1, h, i, hi => by
    unfold cnt at h
    by_cases e : i = c
    · subst e
      exact Classical.byContradiction (fun w => by rw [if_neg w] at h; omega)
    · exact cnt_zero c (by omega) i (by omega)
noncomputable def mvR (W : (Nat → Int32) → Int32) (sp : Nat → Int32) (n : Nat) : Nat → (Nat → Int32) → Int32 × Int32
  | 0, _ => (-1000000, 0)
  | t + 1, f => if (sB f n).2 = -1000000 then (-1000000, 0) else @ite _ (hp W sp (sB f n).2.toNatClampNeg (if f (sB f n).2.toNatClampNeg ≤ 0 then 1 else -1)) (Classical.propDecidable _) ((sB f n).2, if f (sB f n).2.toNatClampNeg ≤ 0 then 1 else -1) (mvR W sp n t (upd f (sB f n).2.toNatClampNeg 0))
theorem mvR_end {W : (Nat → Int32) → Int32} {sp : Nat → Int32} {n : Nat} {f : Nat → Int32} (h : (sB f n).2 = -1000000) : ∀ t, mvR W sp n t f = (-1000000, 0)
  | 0 => rfl
  | t + 1 => by unfold mvR; rw [if_pos h]
theorem mvR_yes {W : (Nat → Int32) → Int32} {sp : Nat → Int32} {n t b : Nat} {f : Nat → Int32} (hb : b < 10) (h : (sB f n).2 = nI b) (hy : hp W sp b (if f b ≤ 0 then 1 else -1)) : mvR W sp n (t + 1) f = (nI b, if f b ≤ 0 then 1 else -1) := by
  unfold mvR
  rw [h, if_neg (nI_nNone (by omega)), nI_clamp (by omega), if_pos hy]
theorem mvR_no {W : (Nat → Int32) → Int32} {sp : Nat → Int32} {n t b : Nat} {f : Nat → Int32} (hb : b < 10) (h : (sB f n).2 = nI b) (hy : ¬ hp W sp b (if f b ≤ 0 then 1 else -1)) : mvR W sp n (t + 1) f = mvR W sp n t (upd f b 0) := by
  show (if (sB f n).2 = -1000000 then (-1000000, 0) else @ite _ (hp W sp (sB f n).2.toNatClampNeg (if f (sB f n).2.toNatClampNeg ≤ 0 then 1 else -1)) (Classical.propDecidable _) ((sB f n).2, if f (sB f n).2.toNatClampNeg ≤ 0 then 1 else -1) (mvR W sp n t (upd f (sB f n).2.toNatClampNeg 0))) = _
  rw [h, if_neg (nI_nNone (by omega)), nI_clamp (by omega), if_neg hy]
theorem mvR_congr {W W' : (Nat → Int32) → Int32} {sp sp' : Nat → Int32} {n : Nat} (hn : n ≤ 10) (hh : ∀ c h, c < n → (hp W sp c h ↔ hp W' sp' c h)) : ∀ t f, mvR W sp n t f = mvR W' sp' n t f
  | 0, f => rfl
  | t + 1, f => by
    rcases sB_inv f n with ⟨a1, a2, a3⟩ | ⟨b, hb, a1, a2, a3⟩
    · rw [mvR_end a2, mvR_end a2]
    · by_cases c : hp W sp b (if f b ≤ 0 then 1 else -1)
      · rw [mvR_yes (by omega) a1 c, mvR_yes (by omega) a1 ((hh b _ hb).mp c)]
      · rw [mvR_no (by omega) a1 c, mvR_no (by omega) a1 (fun w => c ((hh b _ hb).mpr w)), mvR_congr hn hh t]
theorem ite_le {f : Int32} {A : Int32 → Prop} (h : A (if f ≤ 0 then 1 else -1)) : (f ≤ 0 → A 1) ∧ (¬ f ≤ 0 → A (-1)) :=
  ⟨fun z => by rw [if_pos z] at h; exact h, fun z => by rw [if_neg z] at h; exact h⟩
theorem p_helps2 {σ : Sg} {T ns nn : Nat} {bg op : Nat → Nat} {nu : Nat → Int32} {sz : Nat → Nat} {n g c : Nat} {ou : Nat → Int32} {ce gs : Nat → Nat} {wt wa : Nat → Int32} {h now : Int32} {Q : Int32 → Sg → Prop} (hC : CB σ T ns nn bg op nu sz n g ou ce gs wt wa) (hc : c < 10) (hnow : now = wv ns bg op nu sz (σ 5) (σ 7) (σ 6) n g ou ce gs wt wa) (h1 : ∀ σ', (∀ j, j ≠ 15 → j ≠ 18 → j ≠ 36 → j ≠ 37 → σ' j = σ j) → hp (fun sp => wv ns bg op nu sz (σ 5) (σ 7) sp n g ou ce gs wt wa) (σ 6) c h → Q 1 σ') (h0 : ∀ σ', (∀ j, j ≠ 15 → j ≠ 18 → j ≠ 36 → j ≠ 37 → σ' j = σ j) → ¬ hp (fun sp => wv ns bg op nu sz (σ 5) (σ 7) sp n g ou ce gs wt wa) (σ 6) c h → Q 0 σ') : wX11_helps (nI c) h now σ Q := by
  unfold wX11_helps wX11_helps_b34 wX11_helps_b35
  rw [nI_clamp (by omega), p_isWithin, ite10]
  refine ⟨vp_in_nI hc (by decide), fun z => ⟨bok0, h0 σ (fun _ _ _ _ _ => rfl) (fun w => z w.1)⟩, fun z => p_wishW hC hc (fun σ5 f5 h5 => ?_)⟩
  have z' := Classical.not_not.mp z
  rw [hnow]
  refine ⟨fun y => ⟨bok0, h0 σ5 f5 (fun w => ?_)⟩, fun y => ⟨bok1, h1 σ5 f5 ⟨z', i32_nle.mp y⟩⟩⟩
  exact (i32_nle.mpr w.2) y
/-- the class's tries: none helps, or the first that helps, its strips moved -/
theorem p_mvB {σ0 : Sg} {T ns nn : Nat} {bg op : Nat → Nat} {nu : Nat → Int32} {sz : Nat → Nat} {n g : Nat} {ou : Nat → Int32} {ce gs : Nat → Nat} {wt wa : Nat → Int32} {now : Int32} {K1 K2 : Sg → Prop} {K3 : Int32 → Int32 → Sg → Prop} {Q : Int32 → Sg → Prop} (hC : CB σ0 T ns nn bg op nu sz n g ou ce gs wt wa) (hnow : now = wv ns bg op nu sz (σ0 5) (σ0 7) (σ0 6) n g ou ce gs wt wa) (R : Int32 × Int32)
    (h1 : ∀ σ, SameB σ σ0 → R.1 = -1000000 → K1 σ) (h2 : ∀ σ, SameB σ σ0 → R.1 = -1000000 → K2 σ) (h3 : ∀ σ b h, b < n → SameB σ σ0 → R = (nI b, h) → K3 (nI b) h σ) :
    ∀ (d t : Nat) (f : Nat → Int32) (σ : Sg), t + d = n → SameB σ σ0 → (∀ c, c < n → σ 41 c = f c) → R = mvR (fun sp => wv ns bg op nu sz (σ0 5) (σ0 7) sp n g ou ce gs wt wa) (σ0 6) n d f → wX11_move_L30 now K1 K2 K3 Q (d + 1) (nI t) σ
  | 0, t, f, σ, ht, h, hf, hR => by
    have hn := hC.2.2.2.2.2.1
    unfold wX11_move_L30
    have e : t = n := by omega
    rw [(CB_same h hC).2.2.2.2.2.2.1, e]
    exact ⟨fun _ => h1 σ h (by rw [hR]; rfl), fun z => absurd (nI_le (Nat.le_refl _) (by omega)) z⟩
  | d + 1, t, f, σ, ht, h, hf, hR => by
    have hn := hC.2.2.2.2.2.1
    have r5 : σ 5 = σ0 5 := h 5 (by unfold scrB; omega)
    have r6 : σ 6 = σ0 6 := h 6 (by unfold scrB; omega)
    have r7 : σ 7 = σ0 7 := h 7 (by unfold scrB; omega)
    unfold wX11_move_L30
    rw [(CB_same h hC).2.2.2.2.2.2.1]
    refine ⟨fun z => absurd z (nI_ge (by omega) (by omega)), fun _ => p_steB' hn ?_⟩
    rw [sB_congr n hf]
    rcases sB_inv f n with ⟨a1, a2, a3⟩ | ⟨b, hb, a1, a2, a3⟩
    · rw [a2]
      exact ⟨fun _ => h2 σ h (by rw [hR, mvR_end a2]), fun z => absurd rfl z⟩
    · rw [a1]
      refine ⟨fun z => absurd z (nI_nNone (by omega)), fun _ => ⟨vp_in_nI (by omega) (by decide), ?_⟩⟩
      rw [nI_clamp (by omega), hf b hb]
      refine ite_le (A := fun y0 => wX11_move_b82 now (nI t) (nI b) y0 σ K1 K2 K3 (wX11_move_L30 now K1 K2 K3 Q (d + 1)) Q) ?_
      unfold wX11_move_b82
      refine p_helps2 (CB_same h hC) (by omega) (by rw [r5, r6, r7]; exact hnow) (fun σ12 f12 y => ⟨fun w => absurd w one_ne, fun _ => ?_⟩) (fun σ12 f12 y => ⟨fun _ => ?_, fun w => absurd rfl w⟩)
      · rw [r5, r6, r7] at y
        have s12 : SameB σ12 σ := sB_of (fun j q1 q2 q3 q4 q5 => f12 j q1 q3 q4 q5)
        exact h3 σ12 b _ hb (SameB_trans s12 h) (by rw [hR, mvR_yes (by omega) a1 y])
      · rw [r5, r6, r7] at y
        have s12 : SameB σ12 σ := sB_of (fun j q1 q2 q3 q4 q5 => f12 j q1 q3 q4 q5)
        rw [nI_clamp (by omega)]
        refine ⟨vp_in_nI (by omega) (by decide), fun σ14 e14 x2 e2 => ?_⟩
        rw [e2, nI_1]
        refine p_mvB hC hnow R h1 h2 h3 d (t + 1) (upd f b 0) σ14 (by omega) (fun j hj => ?_) (fun c hc => ?_) (by rw [hR, mvR_no (by omega) a1 y])
        · rw [e14, sto_ne _ _ _ (by unfold scrB at hj; omega)]; exact (SameB_trans s12 h) j hj
        · rw [e14, sto_same, f12 41 (by decide) (by decide) (by decide) (by decide)]
          exact upd_c (hf c hc) rfl
theorem p_tryM2 {τ : Sg} {ns nn : Nat} {bg op : Nat → Nat} {nu : Nat → Int32} {sz : Nat → Nat} {n g c : Nat} {ou : Nat → Int32} {ce gs : Nat → Nat} {wt wa : Nat → Int32} {h : Int32} {Q : Int32 → Sg → Prop} (hC : CM τ ns nn bg op nu sz n g ou ce gs wt wa) (hQ : ∀ τ', (∀ j, j ≠ 0 → j ≠ 11 → j ≠ 13 → j ≠ 14 → j ≠ 15 → τ' j = τ j) → (∀ k, k ≠ 27 → τ' 0 k = τ 0 k) → τ' 11 = upd (τ 11) c (τ 11 c + h) → Q (wv ns bg op nu sz (τ 10) (τ 12) (upd (τ 11) c (τ 11 c + h)) n g ou ce gs wt wa) τ') : wX12_wishNow (sto τ 11 c (τ 11 c + h)) Q := by
  have k6 : ∀ j, j ≠ 11 → sto τ 11 c (τ 11 c + h) j = τ j := fun j hj => sto_ne _ _ _ hj
  refine p_wishM (CM_fr (fun j q1 q2 q3 q4 q5 => k6 j q3) (fun k hk => by rw [k6 0 (by decide)]) hC) (fun τ8 g8 g80 => ?_)
  have hQ' := hQ τ8 (fun j q0 q1 q2 q3 q4 => by rw [g8 j q0 q2 q3 q4, k6 j q1]) (fun k hk => by rw [g80 k hk, k6 0 (by decide)]) (by rw [g8 11 (by decide) (by decide) (by decide) (by decide), sto_same])
  rw [k6 10 (by decide), k6 12 (by decide), sto_same]
  exact hQ'
/-- the reference's tries -/
theorem p_mvM {τ0 : Sg} {ns nn : Nat} {bg op : Nat → Nat} {nu : Nat → Int32} {sz : Nat → Nat} {n g : Nat} {ou : Nat → Int32} {ce gs : Nat → Nat} {wt wa : Nat → Int32} {now : Int32} {K1 : Sg → Prop} {K3 : Int32 → Sg → Prop} {Q : Int32 → Sg → Prop} (hC : CM τ0 ns nn bg op nu sz n g ou ce gs wt wa) (hnow : now = wv ns bg op nu sz (τ0 10) (τ0 12) (τ0 11) n g ou ce gs wt wa) (R : Int32 × Int32)
    (h1 : ∀ τ, SameM τ τ0 → R.1 = -1000000 → K1 τ) (h3 : ∀ τ b h, b < n → SameM τ (sto τ0 11 b (τ0 11 b + h)) → R = (nI b, h) → K3 (nI b) τ) :
    ∀ (t : Nat) (f : Nat → Int32) (τ : Sg), cnt f n ≤ t → SameM τ τ0 → (∀ c, c < n → fT τ c = f c) → R = mvR (fun sp => wv ns bg op nu sz (τ0 10) (τ0 12) sp n g ou ce gs wt wa) (τ0 11) n t f → wX12_move_L47 now K1 K3 Q (t + 1) (sB f n).2 τ
  | t, f, τ, ht, h, hf, hR => by
    have hn := hC.2.2.2.1
    rcases sB_inv f n with ⟨a1, a2, a3⟩ | ⟨b, hb, a1, a2, a3⟩
    · unfold wX12_move_L47
      rw [a2]
      exact ⟨fun _ => h1 τ h (by rw [hR, mvR_end a2]), fun z => absurd rfl z⟩
    · match t, ht, hR with
      | 0, ht, hR => exact absurd (cnt_zero n (by omega) b hb) a3
      | t + 1, ht, hR =>
        have hcu := cnt_upd f a3 n hb
        have ib : vp_in (nI b) 10 := vp_in_nI (by omega) (by decide)
        have eb : τ 29 b = f b := by
          rw [← hf b hb] at a3 ⊢
          unfold fT at a3 ⊢
          by_cases q : τ 28 b = 0
          · rw [if_pos q]
          · rw [if_neg q] at a3; exact absurd rfl a3
        unfold wX12_move_L47
        rw [a1, nI_clamp (by omega), nar1]
        refine ⟨fun z => absurd z (nI_nNone (by omega)), fun _ => ⟨ib, fun τ13 e13 => ⟨ib, ?_⟩⟩⟩
        have f13 : ∀ j, j ≠ 28 → τ13 j = τ j := fun j hj => by rw [e13, sto_ne _ _ _ hj]
        have s13 : SameM τ13 τ0 := ⟨fun j q1 q2 => by rw [f13 j (by unfold scrM at q2; omega)]; exact h.1 j q1 q2, fun k hk => by rw [f13 0 (by decide)]; exact h.2 k hk⟩
        have t13 : ∀ c, c < n → fT τ13 c = upd f b 0 c := fun c hc => by
          unfold fT
          rw [f13 29 (by decide), e13]
          by_cases q : c = b
          · subst q; rw [sto_at, pk_us, if_neg one_ne]
          · rw [sto_off _ _ _ q, pk_un q, ← hf c hc]; rfl
        have q10 : τ13 10 = τ0 10 := s13.1 10 (by decide) (by unfold scrM; omega)
        have q11 : τ13 11 = τ0 11 := s13.1 11 (by decide) (by unfold scrM; omega)
        have q12 : τ13 12 = τ0 12 := s13.1 12 (by decide) (by unfold scrM; omega)
        have hC13 := CM_same s13 hC
        have nxt : ∀ τ2, SameM τ2 τ0 → (∀ c, c < n → fT τ2 c = upd f b 0 c) → ¬ hp (fun sp => wv ns bg op nu sz (τ0 10) (τ0 12) sp n g ou ce gs wt wa) (τ0 11) b (if f b ≤ 0 then 1 else -1) → wX12_move_b123 now τ2 K1 K3 (wX12_move_L47 now K1 K3 Q (t + 1)) Q := by
          intro τ2 s2 t2 hno
          unfold wX12_move_b123
          refine p_steM' (CM_same s2 hC).2.2.2.2.1 hn t2 ?_
          exact p_mvM hC hnow R h1 h3 t (upd f b 0) τ2 (by omega) s2 t2 (by rw [hR, mvR_no (by omega) a1 hno])
        rw [f13 29 (by decide), eb]
        refine ite_le (A := fun y0 => wX12_move_b75 now (nI b) y0 τ13 K1 K3 (wX12_move_L47 now K1 K3 Q (t + 1)) Q) ?_
        unfold wX12_move_b75
        rw [nI_clamp (by omega), p_within, ite10]
        refine ⟨ib, fun z => nxt τ13 s13 t13 (fun w => z (by rw [q11]; exact w.1)), fun z => ⟨ib, ib, fun τ20 e20 => ?_⟩⟩
        have z' := Classical.not_not.mp z
        rw [e20]
        refine p_tryM2 hC13 (fun τ' g' g0' v' => ?_)
        rw [q11] at z' v'
        rw [q10, q11, q12, hnow]
        have s' : ∀ j, j ≠ 0 → j ≠ 11 → ¬ scrM j → τ' j = τ0 j := fun j q0 q1 q2 => by
          rw [g' j q0 q1 (by unfold scrM at q2; omega) (by unfold scrM at q2; omega) (by unfold scrM at q2; omega)]
          exact s13.1 j q0 q2
        have s0' : ∀ k, ¬ scrI k → τ' 0 k = τ0 0 k := fun k hk => by rw [g0' k (by unfold scrI at hk; omega)]; exact s13.2 k hk
        refine ⟨fun y => ⟨ib, ib, fun τ24 e24 => ?_⟩, fun y => ?_⟩
        · have v24 : τ24 11 = τ0 11 := by rw [e24, sto_same, v', upd_back]
          have g24 : ∀ j, j ≠ 11 → τ24 j = τ' j := fun j hj => by rw [e24, sto_ne _ _ _ hj]
          rw [← hnow]
          refine nxt τ24 ⟨fun j q0 q2 => ?_, fun k hk => ?_⟩ (fun c hc => ?_) (fun w => (i32_nle.mpr w.2) y)
          · by_cases c11 : j = 11
            · rw [c11]; exact v24
            · rw [g24 j c11]; exact s' j q0 c11 q2
          · rw [g24 0 (by decide)]; exact s0' k hk
          · rw [← t13 c hc]
            unfold fT
            rw [g24 28 (by decide), g24 29 (by decide), g' 28 (by decide) (by decide) (by decide) (by decide) (by decide), g' 29 (by decide) (by decide) (by decide) (by decide) (by decide)]
        · refine h3 τ' b _ hb ⟨fun j q1 q2 => ?_, fun k hk => ?_⟩ (by rw [hR, mvR_yes (by omega) a1 ⟨z', i32_nle.mp y⟩])
          · by_cases c11 : j = 11
            · rw [c11, v', sto_same]
            · rw [sto_ne _ _ _ c11]; exact s' j q1 c11 q2
          · rw [sto_ne _ _ _ (by decide)]; exact s0' k hk
theorem p_mv6 {τ0 : Sg} {K : Sg → Prop} {Q : Int32 → Sg → Prop} (hK : ∀ τ, (∀ j, j ≠ 28 → j ≠ 29 → τ j = τ0 j) → (∀ i, i < 10 → τ 29 i = τ0 22 i ∧ τ 28 i = 0) → K τ) :
    ∀ (d i : Nat) (τ : Sg), i + d = 10 → (∀ j, j ≠ 28 → j ≠ 29 → τ j = τ0 j) → (∀ q, q < i → τ 29 q = τ0 22 q ∧ τ 28 q = 0) → wX12_move_L6 K Q (d + 1) (nI i) τ
  | 0, i, τ, hi, h1, h2 => by
    unfold wX12_move_L6
    have e : i = 10 := by omega
    subst e
    exact ⟨fun _ => hK τ h1 h2, fun z => absurd (nI_le (a := 10) (Nat.le_refl _) (by decide)) z⟩
  | d + 1, i, τ, hi, h1, h2 => by
    unfold wX12_move_L6
    rw [nI_clamp (by omega), nar0]
    refine ⟨fun z => absurd z (nI_ge (b := 10) (by omega) (by decide)), fun _ => ⟨vp_in_nI (by omega) (by decide), vp_in_nI (by omega) (by decide), fun τ3 e3 => ⟨vp_in_nI (by omega) (by decide), fun τ4 e4 x2 e2 => ?_⟩⟩⟩
    rw [nI_1] at e2
    subst e2
    refine p_mv6 hK d (i + 1) τ4 (by omega) (fun j q1 q2 => by rw [e4, sto_ne _ _ _ q1, e3, sto_ne _ _ _ q2]; exact h1 j q1 q2) (fun q hq => ?_)
    rw [e4, sto_ne (j' := 29) _ _ _ (by decide), e3]
    by_cases hic : q = i
    · subst hic; rw [sto_at, sto_at, h1 22 (by decide) (by decide)]; exact ⟨rfl, rfl⟩
    · rw [sto_off _ _ _ hic, sto_off _ _ _ hic, sto_ne (j' := 28) _ _ _ (by decide)]; exact h2 q (by omega)
theorem Inv_strip1 {σ τ : Sg} {b : Nat} (h : Int32) (hb : b < 10) (hI : Inv σ τ) : Inv (sto σ 6 b (σ 6 b + h)) (sto τ 11 b (τ 11 b + h)) := by
  obtain ⟨⟨n, hn1, hn2, b1, b2⟩, b3, b4, b5⟩ := hI.2.2.2.2.1
  refine Inv_bay (σ := σ) (τ := τ) (fun j h => sto_ne _ _ _ (by omega)) (fun j h1 h2 h3 h4 => sto_ne _ _ _ (by omega)) (fun k h => by rw [sto_ne _ _ _ (by omega)]) ?_ hI
  refine ⟨⟨n, hn1, hn2, by rw [sto_ne _ _ _ (by omega)]; exact b1, by rw [sto_ne _ _ _ (by omega)]; exact b2⟩, fun i hi => ?_, fun i hi => ?_, fun i hi => ?_⟩
  · rw [sto_ne _ _ _ (by omega), sto_ne _ _ _ (by omega)]; exact b3 i hi
  · by_cases e : i = b
    · subst e; rw [sto_at, sto_at, b4 i hi]
    · rw [sto_off _ _ _ e, sto_off _ _ _ e]; exact b4 i hi
  · rw [sto_ne _ _ _ (by omega), sto_ne _ _ _ (by omega)]; exact b5 i hi
theorem E_move {σ τ : Sg} (hI : Inv σ τ) : wX11_move σ (fun r σ' => wX12_move τ (fun r' τ' => r = r' ∧ Inv σ' τ')) := by
  obtain ⟨T, ns, nn, bg, op, nu, sz, n, g, ou, ce, gs, wt, wa, hB, hM⟩ := Inv_C hI
  obtain ⟨a1, a2, a3, a4, a5, a6, a7, a8⟩ := id hB
  obtain ⟨-, b3, b4, b5⟩ := hI.2.2.2.2.1
  have hFP := FP_congr (ns := ns) (bg := bg) (op := op) (nu := nu) (sz := sz) (g := g) (ou := ou) (ce := ce) (gs := gs) (wt := wt) (wa := wa) (st := σ 5) (ed := σ 7) (sp := σ 6) (st' := τ 10) (ed' := τ 12) (sp' := τ 11) (n := n) (fun i hi => b3 i (by omega)) b5 (fun i hi => b4 i (by omega))
  have hW : ∀ s s', (∀ i, i < n → s i = s' i) → wv ns bg op nu sz (σ 5) (σ 7) s n g ou ce gs wt wa = wv ns bg op nu sz (τ 10) (τ 12) s' n g ou ce gs wt wa := fun s s' hs => wv_congr (fun i hi => b3 i (by omega)) b5 hs
  have hh : ∀ c h, c < n → (hp (fun sp => wv ns bg op nu sz (σ 5) (σ 7) sp n g ou ce gs wt wa) (σ 6) c h ↔ hp (fun sp => wv ns bg op nu sz (τ 10) (τ 12) sp n g ou ce gs wt wa) (τ 11) c h) := fun c h hc => hp_congr (n := n) hW (fun i hi => b4 i (by omega)) hc
  -- the reference, whatever the class has answered
  have ref : ∀ (Z : Int32 → Sg → Prop), (∀ τ', SameM τ' τ → (mvR (fun sp => wv ns bg op nu sz (τ 10) (τ 12) sp n g ou ce gs wt wa) (τ 11) n n (FP ns bg op nu sz (τ 10) (τ 12) (τ 11) n g ou ce gs wt wa 0)).1 = -1000000 → Z (-1000000) τ') → (∀ τ' b h, b < n → SameM τ' (sto τ 11 b (τ 11 b + h)) → mvR (fun sp => wv ns bg op nu sz (τ 10) (τ 12) sp n g ou ce gs wt wa) (τ 11) n n (FP ns bg op nu sz (τ 10) (τ 12) (τ 11) n g ou ce gs wt wa 0) = (nI b, h) → Z (nI b) τ') → wX12_move τ Z := by
    intro Z z1 z2
    unfold wX12_move
    refine p_find hM (fun τ2 t2 hA2 => ⟨11, ?_⟩)
    refine p_mv6 (τ0 := τ2) (fun τ7 f7 v7 => ?_) 10 0 τ2 (by omega) (fun _ _ _ => rfl) (fun q hq => by omega)
    have s7 : SameM τ7 τ := SameM_trans ⟨fun j q0 q2 => f7 j (by unfold scrM at q2; omega) (by unfold scrM at q2; omega), fun k hk => by rw [f7 0 (by decide) (by decide)]⟩ t2
    refine p_wishM (CM_same s7 hM) (fun τ9 g9 g90 => ?_)
    have s9 : SameM τ9 τ := SameM_trans (sM_of g9 g90) s7
    have q10 : τ7 10 = τ 10 := s7.1 10 (by decide) (by unfold scrM; omega)
    have q11 : τ7 11 = τ 11 := s7.1 11 (by decide) (by unfold scrM; omega)
    have q12 : τ7 12 = τ 12 := s7.1 12 (by decide) (by unfold scrM; omega)
    have t9 : ∀ c, c < n → fT τ9 c = FP ns bg op nu sz (τ 10) (τ 12) (τ 11) n g ou ce gs wt wa 0 c := fun c hc => by
      unfold fT
      rw [g9 28 (by decide) (by decide) (by decide) (by decide), g9 29 (by decide) (by decide) (by decide) (by decide), (v7 c (by omega)).2, if_pos rfl, (v7 c (by omega)).1]
      exact hA2.1 c (by omega)
    refine p_steM' (CM_same s9 hM).2.2.2.2.1 a6 t9 ⟨n + 1, ?_⟩
    exact p_mvM hM (by rw [q10, q11, q12]) _ z1 z2 n _ τ9 (cnt_le _ n) s9 t9 rfl
  unfold wX11_move
  refine p_wishB hB (fun σ2 f2 h2 T3 e3 => ?_)
  have s2 : SameB σ2 σ := sB_of (fun j q1 q2 q3 q4 q5 => f2 j q1 q3 q4 q5)
  have hB2 := CB_same s2 hB
  have r5 : σ2 5 = σ 5 := f2 5 (by decide) (by decide) (by decide) (by decide)
  have r6 : σ2 6 = σ 6 := f2 6 (by decide) (by decide) (by decide) (by decide)
  have r7 : σ2 7 = σ 7 := f2 7 (by decide) (by decide) (by decide) (by decide)
  rw [hB2.2.1, Sten_clamp a1] at e3
  rw [e3]
  refine ⟨a1, p_goBack hB2 (by rw [r6]; exact h2) (fun σ5 f5 hA5 => ⟨n + 1, ?_⟩)⟩
  rw [r5, r6, r7, hFP] at hA5
  have s5 : SameB σ5 σ := SameB_trans (sB_frG f5) s2
  refine p_mvB (σ0 := σ) hB rfl (mvR (fun sp => wv ns bg op nu sz (τ 10) (τ 12) sp n g ou ce gs wt wa) (τ 11) n n (FP ns bg op nu sz (τ 10) (τ 12) (τ 11) n g ou ce gs wt wa 0)) (fun σ16 s16 hN => ?_) (fun σ16 s16 hN => ?_) (fun σ20 b h hb s20 hE => ?_) n 0 (FP ns bg op nu sz (τ 10) (τ 12) (τ 11) n g ou ce gs wt wa 0) σ5 (by omega) s5 (fun c hc => hA5.1 c (by omega)) (mvR_congr a6 hh n _).symm
  · refine ref _ (fun τ' t' _ => ⟨rfl, Inv_fr s16 t' hI⟩) (fun τ' b h hb t' hE => ?_)
    rw [hE] at hN
    exact absurd hN (nI_nNone (by omega))
  · refine ref _ (fun τ' t' _ => ⟨rfl, Inv_fr s16 t' hI⟩) (fun τ' b h hb t' hE => ?_)
    rw [hE] at hN
    exact absurd hN (nI_nNone (by omega))
  · have ib : vp_in (nI b) 10 := vp_in_nI (by omega) (by decide)
    rw [nI_clamp (by omega)]
    refine ⟨ib, ib, fun σ21 e21 => ref _ (fun τ' t' hN => ?_) (fun τ' b' h' hb' t' hE' => ?_)⟩
    · rw [hE] at hN
      exact absurd hN (nI_nNone (by omega))
    · rw [hE] at hE'
      have e1 : b = b' := (nI_eq (by omega) (by omega)).mp (congrArg Prod.fst hE')
      have e2 : h = h' := congrArg Prod.snd hE'
      subst e1 e2
      refine ⟨rfl, Inv_fr (fun j hj => ?_) t' (Inv_strip1 h (by omega) hI)⟩
      have q6 : σ20 6 = σ 6 := s20 6 (by unfold scrB; omega)
      rw [e21]
      by_cases c6 : j = 6
      · rw [c6, sto_same, sto_same, q6]
      · rw [sto_ne _ _ _ c6, sto_ne _ _ _ c6]; exact s20 j hj
