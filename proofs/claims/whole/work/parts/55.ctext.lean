/-! the class reads stencils, a text -/
def RepT (σ : Sg) (T : Nat) (t : TS) : Prop := σ T 0 = nI t.1 ∧ σ T 1 = nI t.2.2.2.1 ∧ (∀ k, k ≤ t.1 → σ (T + 1) k = nI (t.2.1 k)) ∧ CL σ T t.2.2.2.2.1 t.2.2.2.2.2.1 t.2.2.2.2.2.2 0 t.2.2.2.1
def FrT (σ' σ : Sg) (T : Nat) : Prop := (∀ j, j ≠ 2 → ¬ (T ≤ j ∧ j ≤ T + 7) → σ' j = σ j) ∧ σ' 2 0 = σ 2 0 ∧ σ' (T + 1) 0 = σ (T + 1) 0
theorem FrT_trans {a b c : Sg} {T : Nat} (h : FrT a b T) (h' : FrT b c T) : FrT a c T := ⟨fun j q1 q2 => (h.1 j q1 q2).trans (h'.1 j q1 q2), h.2.1.trans h'.2.1, h.2.2.trans h'.2.2⟩
theorem FrT_K {σ' σ : Sg} {T n : Nat} (h : KpR σ' σ T n) : FrT σ' σ T := ⟨h.1.1, h.1.2.1, by rw [h.1.2.2.2]⟩
theorem OkT_find {L : Nat} {t : TS} (h : OkT L t) {i : Nat} : ∀ m, m ≤ t.1 → i < t.2.1 m → ∃ k, k < m ∧ t.2.1 k ≤ i ∧ i < t.2.1 (k + 1)
  | 0, hm, hi => by rw [h.2.2.1] at hi; omega
  | m + 1, hm, hi => by
    by_cases c : i < t.2.1 m
    · obtain ⟨k, k1, k2, k3⟩ := OkT_find h m (by omega) c
      exact ⟨k, by omega, k2, k3⟩
    · exact ⟨m, by omega, by omega, hi⟩
theorem OkT_WF {L : Nat} {t : TS} (h : OkT L t) : WFn t.2.2.2.2.1 t.2.2.2.2.2.2 0 t.2.2.2.1 := by
  intro i _ hi
  rw [← h.2.2.2.1] at hi ⊢
  obtain ⟨k, k1, k2, k3⟩ := OkT_find h t.1 (Nat.le_refl _) hi
  obtain ⟨a1, a2, a3⟩ := h.2.2.2.2.2.2.2 k k1 i k2 k3
  have := OkT_mono h t.1 (Nat.le_refl _) (k + 1) (by omega)
  exact ⟨a1, by omega, a3⟩
theorem tkC_le (ta : Nat → Int32) (L p : Nat) : tkC ta L p ≤ 14 := by
  unfold tkC nmC ltC sgC
  repeat' split
  all_goals decide
theorem p_readS {ta : Nat → Int32} {L T : Nat} {σ : Sg} {t : TS} {Q : Int32 → Sg → Prop} (hT : isSten T) (hL : L ≤ 300) (ho : OkT L t) (h0 : σ 2 0 = nI L) (h3 : σ 3 = ta) (hLA : LA σ ta L t.2.2.1) (hR : RepT σ T t)
    (hQ0 : ∀ σ' c pl, rdS ta L t = .inl (c, pl) → FrT σ' σ T → σ' 2 6 = nI c → σ' 2 7 = nI pl → Q 0 σ')
    (hQ1 : ∀ σ' t', rdS ta L t = .inr t' → OkT L t' → t'.1 = t.1 + 1 → FrT σ' σ T → σ' 2 6 = σ 2 6 → LA σ' ta L t'.2.2.1 → RepT σ' T t' → Q 1 σ') : wX10_readStencil T σ Q := by
  have hb : 20 ≤ T ∧ T < 29 := by rcases hT with rfl | rfl <;> omega
  obtain ⟨la1, la2, la3, la4⟩ := hLA
  obtain ⟨r0, r1, r2, r3⟩ := hR
  have hns := ho.1
  have hnn : t.2.2.2.1 ≤ 60 := by have := ho.2.2.2.2.1; omega
  have c14 := tkC_le ta L t.2.2.1
  have e11 : nI (tkC ta L t.2.2.1) = 11 ↔ tkC ta L t.2.2.1 = 11 := nI_eq (b := 11) (by omega) (by decide)
  have lt3 : nI t.1 < 3 ↔ t.1 < 3 := nI_ltI (b := 3) (by omega) (by decide)
  have fl : ∀ (c : Nat), rdS ta L t = .inl (c, tkB ta L t.2.2.1) → wX10_fail (nI c) σ (fun r_17 σ_18 => (bok r_17 ∧ Q r_17 σ_18)) := fun c hc => p_fail la2 (fun σ' f' f0 v6 v7 => ⟨bok0, hQ0 σ' c _ hc (FrT_K (n := 0) (KpR_2 hb.1 f' f0)) v6 v7⟩)
  unfold wX10_readStencil
  rw [la1, r0]
  refine ⟨fun z => ⟨fun z2 => ?_, fun z2 => fl 3 (rdS_3 (e11.mp z) (by have : ¬ t.1 < 3 := fun q => z2 (lt3.mpr q); omega))⟩, fun z => fl 1 (rdS_1 (fun w => z (e11.mpr w)))⟩
  have z' := e11.mp z
  have z2' := lt3.mp z2
  have hE := tkE_rng (ta := ta) ho.2.1
  refine p_adv h0 hL h3 la3 hE.2 (fun σ4 f4 g4 b1 b2 b3 b4 => ?_)
  have hS := OkT_S ho hE.2
  have b60 : t.2.1 t.1 + 20 ≤ 60 := by have := ho.2.2.2.1; have := ho.2.2.2.2.1; omega
  have hH : RdH ta L T (t.2.1 t.1) t.1 σ4 (tkE ta L t.2.2.1, t.2.2.2) := ⟨hS, by rw [g4 0 (by decide) (by decide) (by decide) (by decide)]; exact h0, by rw [f4 3 (by decide)]; exact h3, by rw [f4 T (by omega)]; exact r0, by rw [f4 (T + 1) (by omega)]; exact r2 t.1 (Nat.le_refl _), ⟨b1, b2, b3, b4⟩, by rw [f4 T (by omega)]; exact r1⟩
  have k4 : FrT σ4 σ T := ⟨fun j q1 _ => f4 j q1, g4 0 (by decide) (by decide) (by decide) (by decide), by rw [f4 (T + 1) (by omega)]⟩
  refine p_readN hT hL z2' b60 8 1 σ4 (tkE ta L t.2.2.1, t.2.2.2) _ (by decide) (by decide) hH ⟨fun σ' c pl hR' hK v6 v7 => ⟨fun _ => hQ0 σ' c pl (rdS_f z' (by omega) hR') (FrT_trans (FrT_K hK) k4) v6 v7, fun w => absurd rfl w⟩, fun σ' s' hR' hK v6 hLA' v1 hCL => ⟨fun w => absurd w one_ne, fun _ => ?_⟩⟩
  obtain ⟨l1, l2, l3, l4⟩ := id hLA'
  have c14' := tkC_le ta L s'.1
  have e12 : nI (tkC ta L s'.1) = 12 ↔ tkC ta L s'.1 = 12 := nI_eq (b := 12) (by omega) (by decide)
  rw [l1]
  obtain ⟨o', x', lt', -⟩ := rdN_ok 8 1 _ _ hS hR'
  have hE' := tkE_rng (ta := ta) o'.1
  refine ⟨fun y => ?_, fun y => p_fail (c := 1) l2 (fun σ2 f' f0 w6 w7 => ⟨bok0, hQ0 σ2 1 _ (rdS_e z' (by omega) hR' (fun w => y (e12.mpr w))) (FrT_trans (FrT_K (n := 0) (KpR_2 hb.1 f' f0)) (FrT_trans (FrT_K hK) k4)) w6 w7⟩)⟩
  have y' := e12.mp y
  have okt := rdS_ok ho (by omega) hE.2 hR' hE'.2
  unfold wX8_closeStencil
  intro σ1 e1
  have s0 : σ' T 0 = nI t.1 := by rw [hK.1.2.2.1, f4 T (by omega)]; exact r0
  have g10 : σ1 T 0 = nI (t.1 + 1) := by rw [e1, sto_at, s0, nI_1]
  rw [g10, nI_clamp (by omega)]
  refine ⟨vp_in_nI (by omega) (by decide), fun σ2 e2 => ?_⟩
  have f2 : ∀ j, j ≠ T → j ≠ T + 1 → σ2 j = σ' j := fun j q1 q2 => by rw [e2, sto_ne _ _ _ q2, e1, sto_ne _ _ _ q1]
  have k3 : σ' 3 = ta := by rw [hK.1.1 3 (by decide) (by omega), f4 3 (by decide)]; exact h3
  have k0 : σ' 2 0 = nI L := by rw [hK.1.2.1, g4 0 (by decide) (by decide) (by decide) (by decide)]; exact h0
  refine p_adv (ta := ta) (by rw [f2 2 (by omega) (by omega)]; exact k0) hL (by rw [f2 3 (by omega) (by omega)]; exact k3) (by rw [f2 2 (by omega) (by omega)]; exact l3) hE'.2 (fun σ12 f12 g12 a1 a2 a3 a4 => ?_)
  have bgk : σ' (T + 1) = σ (T + 1) := by rw [hK.1.2.2.2, f4 (T + 1) (by omega)]
  refine hQ1 σ12 _ (rdS_s z' (by omega) hR' y') okt rfl ⟨fun j q1 q2 => by rw [f12 j q1, f2 j (by omega) (by omega), hK.1.1 j q1 q2]; exact f4 j q1, by rw [g12 0 (by decide) (by decide) (by decide) (by decide), f2 2 (by omega) (by omega), hK.1.2.1, g4 0 (by decide) (by decide) (by decide) (by decide)], ?_⟩ ?_ ⟨a1, a2, a3, a4⟩ ⟨?_, ?_, fun k hk => ?_, ?_⟩
  · rw [f12 (T + 1) (by omega), e2, sto_off _ _ _ (by omega), e1, sto_ne _ _ _ (by omega), bgk]
  · rw [g12 6 (by decide) (by decide) (by decide) (by decide), f2 2 (by omega) (by omega), v6, g4 6 (by decide) (by decide) (by decide) (by decide)]
  · rw [f12 T (by omega), e2, sto_ne _ _ _ (by omega)]; exact g10
  · rw [f12 T (by omega), e2, sto_ne _ _ _ (by omega), e1, sto_off _ _ _ (by decide)]; exact v1
  · have hk' : k ≤ t.1 + 1 := hk
    show σ12 (T + 1) k = nI (updN t.2.1 (t.1 + 1) s'.2.1 k)
    rw [f12 (T + 1) (by omega), e2]
    by_cases c : k = t.1 + 1
    · rw [c, sto_at, updN_s, e1, sto_off _ _ _ (by decide)]; exact v1
    · rw [sto_off _ _ _ c, updN_n c, e1, sto_ne _ _ _ (by omega), bgk]; exact r2 k (by omega)
  · have hσ : ∀ q, 2 ≤ q → q ≤ 7 → σ12 (T + q) = σ' (T + q) := fun q q1 q2 => by rw [f12 (T + q) (by omega), f2 (T + q) (by omega) (by omega)]
    have h12 : CL σ12 T s'.2.2.1 s'.2.2.2.1 s'.2.2.2.2 t.2.2.2.1 s'.2.1 := by
      unfold CL
      rw [hσ 2 (by decide) (by decide), hσ 3 (by decide) (by decide), hσ 4 (by decide) (by decide), hσ 5 (by decide) (by decide), hσ 6 (by decide) (by decide), hσ 7 (by decide) (by decide)]
      exact hCL
    refine CL_two (CL_fr ho.2.2.2.2.2.1 (OkT_WF ho) (fun i _ q => (x'.2.1 i q).1) (fun i _ q => (x'.2.1 i q).2.1) (fun i _ q => (x'.2.1 i q).2.2) (fun q q1 q2 i _ hi => ?_) r3) h12
    rw [hσ q q1 q2, hK.2 q q1 q2 i hi, f4 (T + q) (by omega)]
theorem rdT_e {ta : Nat → Int32} {L f : Nat} {t : TS} (h : tkC ta L t.2.2.1 = 13 ∧ 0 < t.1) : rdT ta L (f + 1) t = .inr t := by
  unfold rdT; rw [if_pos h]
theorem rdT_f {ta : Nat → Int32} {L f : Nat} {t : TS} {e : Nat × Nat} (h : ¬ (tkC ta L t.2.2.1 = 13 ∧ 0 < t.1)) (h2 : rdS ta L t = .inl e) : rdT ta L (f + 1) t = .inl e := by
  unfold rdT; rw [if_neg h, h2]
theorem rdT_s {ta : Nat → Int32} {L f : Nat} {t t' : TS} (h : ¬ (tkC ta L t.2.2.1 = 13 ∧ 0 < t.1)) (h2 : rdS ta L t = .inr t') : rdT ta L (f + 1) t = rdT ta L f t' := by
  show (if tkC ta L t.2.2.1 = 13 ∧ 0 < t.1 then _ else match rdS ta L t with | Sum.inl e => (Sum.inl e : (Nat × Nat) ⊕ TS) | Sum.inr t' => rdT ta L f t') = _
  rw [if_neg h, h2]
/-- what reading a text owes -/
def RdX (L T : Nat) (R : (Nat × Nat) ⊕ TS) (σ : Sg) (K0 K1 : Sg → Prop) : Prop :=
  (∀ σ' c pl, R = .inl (c, pl) → FrT σ' σ T → σ' 2 6 = nI c → σ' 2 7 = nI pl → K0 σ') ∧
  (∀ σ' t', R = .inr t' → OkT L t' → FrT σ' σ T → σ' 2 6 = σ 2 6 → RepT σ' T t' → K1 σ')
theorem p_rt21 {ta : Nat → Int32} {L T : Nat} {K Q : Int32 → Sg → Prop} (hT : isSten T) (hL : L ≤ 300) : ∀ (d m : Nat) (σ : Sg) (t : TS), m + d = 3 → t.1 = m + 1 → OkT L t → σ 2 0 = nI L → σ 3 = ta → LA σ ta L t.2.2.1 → RepT σ T t → RdX L T (rdT ta L (d + 1) t) σ (K 0) (K 1) → wX10_readText_L21 T K Q (d + 2) 1 (nI m) σ
  | 0, m, σ, t, hm, hn, ho, h0, h3, hLA, hR, hX => by have := ho.1; omega
  | d + 1, m, σ, t, hm, hn, ho, h0, h3, hLA, hR, hX => by
    have hb : 20 ≤ T ∧ T < 29 := by rcases hT with rfl | rfl <;> omega
    have c14 := tkC_le ta L t.2.2.1
    have e13 : nI (tkC ta L t.2.2.1) = 13 ↔ tkC ta L t.2.2.1 = 13 := nI_eq (b := 13) (by omega) (by decide)
    unfold wX10_readText_L21
    rw [hLA.1]
    refine ⟨fun z => absurd z (nI_ge (b := 3) (by omega) (by decide)), fun _ => ⟨fun w => absurd w one_ne, fun _ => ⟨fun z => hX.2 σ t (rdT_e ⟨e13.mp z, by omega⟩) ho ⟨fun _ _ _ => rfl, rfl, rfl⟩ rfl hR, fun z => ?_⟩⟩⟩
    have z' : ¬ (tkC ta L t.2.2.1 = 13 ∧ 0 < t.1) := fun w => z (e13.mpr w.1)
    refine p_readS hT hL ho h0 h3 hLA hR (fun σ' c pl hS hF v6 v7 x3 e3 => ?_) (fun σ' t' hS ho' hn' hF v6 hLA' hR' x3 e3 => ?_)
    · unfold wX10_readText_L21
      have := hX.1 σ' c pl (rdT_f z' hS) hF v6 v7
      exact ⟨fun _ => this, fun _ => ⟨fun _ => this, fun w => absurd rfl w⟩⟩
    · rw [e3, nI_1]
      rw [rdT_s z' hS] at hX
      exact p_rt21 hT hL d (m + 1) σ' t' (by omega) (by omega) ho' (by rw [hF.2.1]; exact h0) (by rw [hF.1 3 (by decide) (by omega)]; exact h3) hLA' hR' ⟨fun σ2 c pl hS2 hF2 w6 w7 => hX.1 σ2 c pl hS2 (FrT_trans hF2 hF) w6 w7, fun σ2 t2 hS2 ho2 hF2 w6 hR2 => hX.2 σ2 t2 hS2 ho2 (FrT_trans hF2 hF) (w6.trans v6) hR2⟩
def t00 : TS := (0, fun _ => 0, 0, 0, fun _ => 0, fun _ => 0, fun _ => 1)
theorem t00_ok (L : Nat) : OkT L t00 := ⟨by decide, Nat.zero_le _, rfl, rfl, by decide, fun _ => Nat.le_refl _, fun k hk => absurd hk (Nat.not_lt_zero _), fun k hk => absurd hk (Nat.not_lt_zero _)⟩
theorem p_readT {ta : Nat → Int32} {L T : Nat} {σ : Sg} {Q : Int32 → Sg → Prop} (hT : isSten T) (hL : L ≤ 300) (h0 : σ 2 0 = nI L) (h3 : σ 3 = ta) (hz : σ (T + 1) 0 = 0) (hX : RdX L T (rdT ta L 5 t00) σ (Q 0) (Q 1)) : wX10_readText T σ Q := by
  have hb : 20 ≤ T ∧ T < 29 := by rcases hT with rfl | rfl <;> omega
  unfold wX10_readText wX8_clear wX10_readText_b51
  intro σ1 e1 σ2 e2 σ3 e3
  have f3 : ∀ j, j ≠ 2 → j ≠ T → σ3 j = σ j := fun j q1 q2 => by rw [e3, sto_ne _ _ _ q1, e2, sto_ne _ _ _ q2, e1, sto_ne _ _ _ q2]
  have g3 : ∀ k, k ≠ 4 → σ3 2 k = σ 2 k := fun k hk => by rw [e3, sto_off _ _ _ hk, e2, sto_ne _ _ _ (by omega), e1, sto_ne _ _ _ (by omega)]
  refine p_adv (ta := ta) (p := 0) (by rw [g3 0 (by decide)]; exact h0) hL (by rw [f3 3 (by decide) (by omega)]; exact h3) (by rw [e3, sto_at]; rfl) (Nat.zero_le _) (fun σ5 f5 g5 a1 a2 a3 a4 => ?_)
  have k5 : FrT σ5 σ T := ⟨fun j q1 q2 => by rw [f5 j q1]; exact f3 j q1 (by omega), by rw [g5 0 (by decide) (by decide) (by decide) (by decide)]; exact g3 0 (by decide), by rw [f5 (T + 1) (by omega), f3 (T + 1) (by omega) (by omega)]⟩
  have v56 : σ5 2 6 = σ 2 6 := by rw [g5 6 (by decide) (by decide) (by decide) (by decide)]; exact g3 6 (by decide)
  have r5 : RepT σ5 T t00 := by
    refine ⟨?_, ?_, fun k hk => ?_, fun i _ hi => absurd hi (Nat.not_lt_zero _)⟩
    · rw [f5 T (by omega), e3, sto_ne _ _ _ (by omega), e2, sto_off _ _ _ (by decide), e1, sto_at]; rfl
    · rw [f5 T (by omega), e3, sto_ne _ _ _ (by omega), e2, sto_at]; rfl
    · have hk' : k ≤ 0 := hk
      rw [Nat.le_zero.mp hk', k5.2.2, hz]; rfl
  have ne : ¬ (tkC ta L t00.2.2.1 = 13 ∧ 0 < t00.1) := fun w => absurd w.2 (by decide)
  refine p_readS (ta := ta) hT hL (t00_ok L) (by rw [k5.2.1]; exact h0) (by rw [k5.1 3 (by decide) (by omega)]; exact h3) ⟨a1, a2, a3, a4⟩ r5 (fun σ' c pl hS hF v6 v7 => ⟨1, ?_⟩) (fun σ' t' hS ho' hn' hF v6 hLA' hR' => ⟨5, ?_⟩)
  · unfold wX10_readText_L21
    have := hX.1 σ' c pl (rdT_f ne hS) (FrT_trans hF k5) v6 v7
    exact ⟨fun _ => ⟨bok0, this⟩, fun _ => ⟨fun _ => ⟨bok0, this⟩, fun w => absurd rfl w⟩⟩
  · rw [rdT_s ne hS] at hX
    exact p_rt21 (ta := ta) (K := fun x σ => bok x ∧ Q x σ) hT hL 3 0 σ' t' (by decide) hn' ho' (by rw [hF.2.1, k5.2.1]; exact h0) (by rw [hF.1 3 (by decide) (by omega), k5.1 3 (by decide) (by omega)]; exact h3) hLA' hR' ⟨fun σ2 c pl hS2 hF2 w6 w7 => ⟨bok0, hX.1 σ2 c pl hS2 (FrT_trans hF2 (FrT_trans hF k5)) w6 w7⟩, fun σ2 t2 hS2 ho2 hF2 w6 hR2 => ⟨bok1, hX.2 σ2 t2 hS2 ho2 (FrT_trans hF2 (FrT_trans hF k5)) (w6.trans (v6.trans v56)) hR2⟩⟩
