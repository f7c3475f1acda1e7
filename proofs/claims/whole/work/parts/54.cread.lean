/-! the class reads a text -/
def LA (σ : Sg) (ta : Nat → Int32) (L p : Nat) : Prop := σ 2 2 = nI (tkC ta L p) ∧ σ 2 3 = nI (tkB ta L p) ∧ σ 2 4 = nI (tkE ta L p) ∧ (tkC ta L p = 4 → σ 2 5 = tkV ta L p)
def CL (σ : Sg) (T : Nat) (op : Nat → Nat) (nu : Nat → Int32) (sz : Nat → Nat) (a e : Nat) : Prop := ∀ i, a ≤ i → i < e → σ (T + 2) i = nI (op i) ∧ (op i = 4 → σ (T + 3) i = nu i) ∧ σ (T + 4) i = nI (sz i) ∧ (5 ≤ op i → σ (T + 5) i = nI (s2 sz i)) ∧ (op i = 10 → σ (T + 6) i = nI (s3 sz i) ∧ σ (T + 7) i = nI (s4 sz i))
def FrR (σ' σ : Sg) (T : Nat) : Prop := (∀ j, j ≠ 2 → ¬ (T ≤ j ∧ j ≤ T + 7) → σ' j = σ j) ∧ σ' 2 0 = σ 2 0 ∧ σ' T 0 = σ T 0 ∧ σ' (T + 1) = σ (T + 1)
def KpR (σ' σ : Sg) (T n : Nat) : Prop := FrR σ' σ T ∧ ∀ q, 2 ≤ q → q ≤ 7 → ∀ i, i < n → σ' (T + q) i = σ (T + q) i
theorem KpR_refl (σ : Sg) (T n : Nat) : KpR σ σ T n := ⟨⟨fun _ _ _ => rfl, rfl, rfl, rfl⟩, fun _ _ _ _ _ => rfl⟩
theorem KpR_trans {a b c : Sg} {T n m : Nat} (h : KpR a b T m) (h' : KpR b c T n) (hn : n ≤ m) : KpR a c T n :=
  ⟨⟨fun j q1 q2 => (h.1.1 j q1 q2).trans (h'.1.1 j q1 q2), h.1.2.1.trans h'.1.2.1, h.1.2.2.1.trans h'.1.2.2.1, h.1.2.2.2.trans h'.1.2.2.2⟩, fun q q1 q2 i hi => (h.2 q q1 q2 i (by omega)).trans (h'.2 q q1 q2 i hi)⟩
theorem CL_fr {σ σ' : Sg} {T : Nat} {op op' : Nat → Nat} {nu nu' : Nat → Int32} {sz sz' : Nat → Nat} {a e : Nat} (h1 : ∀ j, 1 ≤ sz j) (hW : WFn op sz a e) (hop : ∀ i, a ≤ i → i < e → op' i = op i) (hnu : ∀ i, a ≤ i → i < e → nu' i = nu i) (hsz : ∀ i, a ≤ i → i < e → sz' i = sz i) (hσ : ∀ q, 2 ≤ q → q ≤ 7 → ∀ i, a ≤ i → i < e → σ' (T + q) i = σ (T + q) i) (h : CL σ T op nu sz a e) : CL σ' T op' nu' sz' a e := by
  intro i hi he
  have k := WFn_kid h1 hW hi he
  obtain ⟨c1, c2, c3, c4, c5⟩ := h i hi he
  rw [hσ 2 (by decide) (by decide) i hi he, hσ 3 (by decide) (by decide) i hi he, hσ 4 (by decide) (by decide) i hi he, hσ 5 (by decide) (by decide) i hi he, hσ 6 (by decide) (by decide) i hi he, hσ 7 (by decide) (by decide) i hi he, hop i hi he, hnu i hi he, hsz i hi he]
  have e2 : 5 ≤ op i → s2 sz' i = s2 sz i := fun q => by unfold s2; rw [hsz (i + 1) (by omega) (k.1 q).1]
  have l2 : i < s2 sz i := by unfold s2; omega
  have e3 : op i = 10 → s3 sz' i = s3 sz i := fun q => by unfold s3; rw [e2 (by omega), hsz (s2 sz i) (by omega) (k.1 (by omega)).2]
  have l3 : i < s3 sz i := by unfold s3; omega
  have e4 : op i = 10 → s4 sz' i = s4 sz i := fun q => by unfold s4; rw [e3 q, hsz (s3 sz i) (by omega) (k.2 q).1]
  exact ⟨c1, c2, c3, fun q => by rw [e2 q]; exact c4 q, fun q => by rw [e3 q, e4 q]; exact c5 q⟩
theorem CL_two {σ : Sg} {T : Nat} {op : Nat → Nat} {nu : Nat → Int32} {sz : Nat → Nat} {a b e : Nat} (h : CL σ T op nu sz a b) (h' : CL σ T op nu sz b e) : CL σ T op nu sz a e := fun i hi he => by
  by_cases c : i < b
  · exact h i hi c
  · exact h' i (by omega) he
theorem p_addN {σ : Sg} {T a : Nat} {x1 x2 : Int32} {Q : Int32 → Sg → Prop} (h1 : σ T 1 = nI a) (ha : a < 60) (hQ : ∀ σ', KpR σ' σ T a → σ' 2 = σ 2 → σ' T 1 = nI (a + 1) → σ' (T + 2) a = x1 → σ' (T + 3) a = x2 → Q (nI a) σ') (hT : 20 ≤ T) : wX8_addNode T x1 x2 σ Q := by
  unfold wX8_addNode
  rw [h1, nI_clamp (by omega)]
  have ia : vp_in (nI a) 60 := vp_in_nI ha (by decide)
  refine ⟨ia, fun σ1 e1 => ?_⟩
  have f1 : σ1 T 1 = nI a := by rw [e1, sto_ne _ _ _ (by omega)]; exact h1
  rw [f1, nI_clamp (by omega)]
  refine ⟨ia, fun σ2 e2 σ3 e3 => ?_⟩
  have f2 : σ2 T 1 = nI a := by rw [e2, sto_ne _ _ _ (by omega)]; exact f1
  have f3 : σ3 T 1 = nI (a + 1) := by rw [e3, sto_at, f2, nI_1]
  rw [f3, nI_sub1]
  have g : ∀ j, j ≠ T → j ≠ T + 2 → j ≠ T + 3 → σ3 j = σ j := fun j q1 q2 q3 => by rw [e3, sto_ne _ _ _ q1, e2, sto_ne _ _ _ q3, e1, sto_ne _ _ _ q2]
  refine hQ σ3 ⟨⟨fun j q1 q2 => g j (by omega) (by omega) (by omega), by rw [g 2 (by omega) (by omega) (by omega)], ?_, g (T + 1) (by omega) (by omega) (by omega)⟩, fun q q1 q2 i hi => ?_⟩ (g 2 (by omega) (by omega) (by omega)) f3 ?_ ?_
  · rw [e3, sto_off _ _ _ (by decide), e2, sto_ne _ _ _ (by omega), e1, sto_ne _ _ _ (by omega)]
  · rw [e3, sto_ne _ _ _ (by omega), e2]
    by_cases c3 : q = 3
    · subst c3; rw [sto_off _ _ _ (by omega), e1, sto_ne _ _ _ (by omega)]
    · rw [sto_ne _ _ _ (by omega), e1]
      by_cases c2 : q = 2
      · subst c2; rw [sto_off _ _ _ (by omega)]
      · rw [sto_ne _ _ _ (by omega)]
  · rw [e3, sto_ne _ _ _ (by omega), e2, sto_ne _ _ _ (by omega), e1, sto_at]
  · rw [e3, sto_ne _ _ _ (by omega), e2, sto_at]
theorem p_close {σ : Sg} {T a e : Nat} {op : Nat → Nat} {nu : Nat → Int32} {sz : Nat → Nat} {Q : Sg → Prop} (hT : 20 ≤ T) (h1 : σ T 1 = nI e) (hae : a < e) (he : e ≤ 60) (hop : σ (T + 2) a = nI (op a)) (ho : op a ≤ 10) (hnu : op a = 4 → σ (T + 3) a = nu a) (hsz1 : ∀ j, 1 ≤ sz j) (hC : CL σ T op nu sz (a + 1) e) (hW : WFn op sz (a + 1) e) (hk : (5 ≤ op a → a + 1 < e ∧ s2 sz a < e) ∧ (op a = 10 → s3 sz a < e ∧ s4 sz a < e))
    (hQ : ∀ σ', KpR σ' σ T a → σ' 2 = σ 2 → σ' T 1 = σ T 1 → CL σ' T op nu (updN sz a (e - a)) a e → Q σ') : wX8_closeNode T (nI a) σ Q := by
  have ia : vp_in (nI a) 60 := vp_in_nI (by omega) (by decide)
  have l5 : nI (op a) < 5 ↔ op a < 5 := nI_ltI (b := 5) (by omega) (by decide)
  have l10 : nI (op a) = 10 ↔ op a = 10 := nI_eq (b := 10) (by omega) (by decide)
  -- at the end: what stands at a
  have fin : ∀ σ' : Sg, (∀ j, ¬ (T + 4 ≤ j ∧ j ≤ T + 7) → σ' j = σ j) → (∀ q, 4 ≤ q → q ≤ 7 → ∀ i, i ≠ a → σ' (T + q) i = σ (T + q) i) → σ' (T + 4) a = nI (e - a) → (5 ≤ op a → σ' (T + 5) a = nI (s2 sz a)) → (op a = 10 → σ' (T + 6) a = nI (s3 sz a) ∧ σ' (T + 7) a = nI (s4 sz a)) → Q σ' := by
    intro σ' f g v4 v5 v67
    have gq : ∀ q, 2 ≤ q → q ≤ 7 → ∀ i, i ≠ a → σ' (T + q) i = σ (T + q) i := fun q q1 q2 i hi => by
      by_cases c : 4 ≤ q
      · exact g q c q2 i hi
      · rw [f (T + q) (by omega)]
    refine hQ σ' ⟨⟨fun j q1 q2 => f j (by omega), by rw [f 2 (by omega)], by rw [f T (by omega)], f (T + 1) (by omega)⟩, fun q q1 q2 i hi => gq q q1 q2 i (by omega)⟩ (f 2 (by omega)) (by rw [f T (by omega)]) (fun i hi he' => ?_)
    by_cases c : i = a
    · subst c
      have e2 : s2 (updN sz i (e - i)) i = s2 sz i := by unfold s2; rw [updN_n (by omega)]
      have p2 : i < s2 sz i := by unfold s2; omega
      have e3 : s3 (updN sz i (e - i)) i = s3 sz i := by unfold s3; rw [e2, updN_n (by omega)]
      have p3 : i < s3 sz i := by unfold s3; omega
      have e4 : s4 (updN sz i (e - i)) i = s4 sz i := by unfold s4; rw [e3, updN_n (by omega)]
      rw [updN_s, e2, e3, e4, f (T + 2) (by omega), f (T + 3) (by omega)]
      exact ⟨hop, hnu, v4, v5, v67⟩
    · exact CL_fr hsz1 hW (fun _ _ _ => rfl) (fun _ _ _ => rfl) (fun j q1 q2 => updN_n (by omega)) (fun q q1 q2 j q3 q4 => gq q q1 q2 j (by omega)) hC i (by omega) he'
  unfold wX8_closeNode
  rw [h1, pk_sub (by omega), nI_clamp (by omega), nI_1]
  refine ⟨ia, fun σ1 e1 => ⟨ia, ?_⟩⟩
  have f1 : ∀ j, j ≠ T + 4 → σ1 j = σ j := fun j hj => by rw [e1, sto_ne _ _ _ hj]
  have v1 : σ1 (T + 4) a = nI (e - a) := by rw [e1, sto_at]
  have o1 : ∀ i, i ≠ a → σ1 (T + 4) i = σ (T + 4) i := fun i hi => by rw [e1, sto_off _ _ _ hi]
  rw [f1 (T + 2) (by omega), hop]
  refine ⟨fun z => ?_, fun z => ?_⟩
  · have z' := l5.mp z
    unfold wX8_closeNode_b35 wX8_closeNode_b78
    rw [nI_clamp (by omega), f1 (T + 2) (by omega), hop]
    refine ⟨ia, fun w => absurd (l10.mp w) (by omega), fun _ => fin σ1 (fun j hj => f1 j (by omega)) (fun q q1 q2 i hi => ?_) v1 (fun w => by omega) (fun w => by omega)⟩
    by_cases c4 : q = 4
    · subst c4; exact o1 i hi
    · rw [f1 (T + q) (by omega)]
  · have z' : 5 ≤ op a := by
      have : ¬ op a < 5 := fun q => z (l5.mpr q)
      omega
    have hk1 := hk.1 z'
    have p2 : a < s2 sz a := by unfold s2; omega
    unfold wX8_behind
    rw [nI_clamp (by omega), o1 (a + 1) (by omega), (hC (a + 1) (Nat.le_refl _) hk1.1).2.2.1, nI_add]
    show vp_in (nI (a + 1)) 60 ∧ (vp_in (nI a) 60 ∧ ∀ σ_12, σ_12 = sto σ1 (T + 5) a (nI (s2 sz a)) → wX8_closeNode_b35 T (nI a) σ_12 Q)
    refine ⟨vp_in_nI (by omega) (by decide), ia, fun σ12 e12 => ?_⟩
    have f12 : ∀ j, j ≠ T + 5 → σ12 j = σ1 j := fun j hj => by rw [e12, sto_ne _ _ _ hj]
    have v12 : σ12 (T + 5) a = nI (s2 sz a) := by rw [e12, sto_at]
    unfold wX8_closeNode_b35 wX8_closeNode_b78 wX8_behind
    rw [nI_clamp (by omega), f12 (T + 2) (by omega), f1 (T + 2) (by omega), hop, v12]
    refine ⟨ia, fun w => ?_, fun w => fin σ12 (fun j hj => by rw [f12 j (by omega)]; exact f1 j (by omega)) (fun q q1 q2 i hi => ?_) (by rw [f12 (T + 4) (by omega)]; exact v1) (fun _ => v12) (fun q => absurd (l10.mpr q) w)⟩
    · have w' := l10.mp w
      have hk2 := hk.2 w'
      have p3 : s2 sz a < s3 sz a := by unfold s3; have := hsz1 (s2 sz a); omega
      rw [nI_clamp (by omega), f12 (T + 4) (by omega), o1 (s2 sz a) (by omega), (hC (s2 sz a) (by omega) hk1.2).2.2.1, nI_add]
      show vp_in (nI a) 60 ∧ (vp_in (nI (s2 sz a)) 60 ∧ (vp_in (nI a) 60 ∧ ∀ σ_6, σ_6 = sto σ12 (T + 6) a (nI (s3 sz a)) → _))
      refine ⟨ia, vp_in_nI (by omega) (by decide), ia, fun σ6 e6 => ?_⟩
      have f6 : ∀ j, j ≠ T + 6 → σ6 j = σ12 j := fun j hj => by rw [e6, sto_ne _ _ _ hj]
      have v6 : σ6 (T + 6) a = nI (s3 sz a) := by rw [e6, sto_at]
      rw [v6, nI_clamp (by omega), f6 (T + 4) (by omega), f12 (T + 4) (by omega), o1 (s3 sz a) (by omega), (hC (s3 sz a) (by omega) hk2.1).2.2.1, nI_add]
      refine ⟨ia, vp_in_nI (by omega) (by decide), ia, fun σ9 e9 => ?_⟩
      have f9 : ∀ j, j ≠ T + 7 → σ9 j = σ6 j := fun j hj => by rw [e9, sto_ne _ _ _ hj]
      refine fin σ9 (fun j hj => by rw [f9 j (by omega), f6 j (by omega), f12 j (by omega)]; exact f1 j (by omega)) (fun q q1 q2 i hi => ?_) (by rw [f9 (T + 4) (by omega), f6 (T + 4) (by omega), f12 (T + 4) (by omega)]; exact v1) (fun _ => by rw [f9 (T + 5) (by omega), f6 (T + 5) (by omega)]; exact v12) (fun _ => ⟨by rw [f9 (T + 6) (by omega)]; exact v6, by rw [e9, sto_at]; rfl⟩)
      by_cases c7 : q = 7
      · subst c7; rw [e9, sto_off _ _ _ hi, f6 (T + 7) (by omega), f12 (T + 7) (by omega), f1 (T + 7) (by omega)]
      rw [f9 (T + q) (by omega)]
      by_cases c6 : q = 6
      · subst c6; rw [e6, sto_off _ _ _ hi, f12 (T + 6) (by omega), f1 (T + 6) (by omega)]
      rw [f6 (T + q) (by omega)]
      by_cases c5 : q = 5
      · subst c5; rw [e12, sto_off _ _ _ hi, f1 (T + 5) (by omega)]
      rw [f12 (T + q) (by omega), show q = 4 by omega]
      exact o1 i hi
    · by_cases c5 : q = 5
      · subst c5; rw [e12, sto_off _ _ _ hi, f1 (T + 5) (by omega)]
      rw [f12 (T + q) (by omega)]
      by_cases c4 : q = 4
      · subst c4; exact o1 i hi
      · rw [f1 (T + q) (by omega)]
theorem tabP_prt : ∀ c : Fin 11, tabP c.val = nI (prt c.val) := by decide +kernel
/-- what reading a node owes: a fault, or the node read -/
def RdQ (ta : Nat → Int32) (L T : Nat) (R : PR) (σ : Sg) (n : Nat) (K0 K1 : Sg → Prop) : Prop :=
  (∀ σ' c pl, R = .inl (c, pl) → KpR σ' σ T n → σ' 2 6 = nI c → σ' 2 7 = nI pl → K0 σ') ∧
  (∀ σ' s', R = .inr s' → KpR σ' σ T n → σ' 2 6 = σ 2 6 → LA σ' ta L s'.1 → σ' T 1 = nI s'.2.1 → CL σ' T s'.2.2.1 s'.2.2.2.1 s'.2.2.2.2 n s'.2.1 → K1 σ')
def RdH (ta : Nat → Int32) (L T b0 st : Nat) (σ : Sg) (s : PS) : Prop := OkS L b0 s ∧ σ 2 0 = nI L ∧ σ 3 = ta ∧ σ T 0 = nI st ∧ σ (T + 1) st = nI b0 ∧ LA σ ta L s.1 ∧ σ T 1 = nI s.2.1
theorem p_rdK {ta : Nat → Int32} {L T b0 st dep : Nat} {g : PS → PR} {rc : Int32 → Sg → (Int32 → Sg → Prop) → Prop} (hT : isSten T) (hg : ∀ s s', OkS L b0 s → g s = .inr s' → OkS L b0 s' ∧ Ext s s' ∧ s.2.1 < s'.2.1 ∧ s.2.1 + s'.2.2.2.2 s.2.1 = s'.2.1) (ih : ∀ (σ : Sg) (s : PS) (Q : Int32 → Sg → Prop), RdH ta L T b0 st σ s → RdQ ta L T (g s) σ s.2.1 (Q 0) (Q 1) → rc (nI (dep + 1)) σ Q) {x4 : Int32} {K1 K0 : Sg → Prop} {Q : Int32 → Sg → Prop} {N : Nat} (hN : N ≤ 4) : ∀ (d m : Nat) (σ : Sg) (s : PS), m + d = N → RdH ta L T b0 st σ s → RdQ ta L T (rdK g d s) σ s.2.1 K0 K1 → wX10_readNode_L66 T rc (nI dep) (nI N) x4 K1 K0 Q (d + 1) (nI m) σ
  | 0, m, σ, s, hm, hH, hQ => by
    unfold wX10_readNode_L66
    have e : m = N := by omega
    rw [e]
    exact ⟨fun _ => hQ.2 σ s rfl (KpR_refl _ _ _) rfl hH.2.2.2.2.2.1 hH.2.2.2.2.2.2 (fun i a b => by omega), fun z => absurd (nI_le (Nat.le_refl _) (by omega)) z⟩
  | d + 1, m, σ, s, hm, hH, hQ => by
    have hb : 20 ≤ T ∧ T < 29 := by rcases hT with rfl | rfl <;> omega
    unfold wX10_readNode_L66
    rw [nI_1]
    refine ⟨fun z => absurd z (nI_ge (by omega) (by omega)), fun _ => ih σ s _ hH ⟨fun σ' c pl hR hK v6 v7 => ⟨fun _ => hQ.1 σ' c pl (rdK_f hR) hK v6 v7, fun w => absurd rfl w⟩, fun σ' s' hR hK v6 hLA v1 hCL => ⟨fun w => absurd w one_ne, fun _ x5 e5 => ?_⟩⟩⟩
    rw [e5, nI_1]
    obtain ⟨o1, x1, l1, -⟩ := hg s s' hH.1 hR
    rw [rdK_s hR] at hQ
    have hH' : RdH ta L T b0 st σ' s' := ⟨o1, by rw [hK.1.2.1]; exact hH.2.1, by rw [hK.1.1 3 (by decide) (by omega)]; exact hH.2.2.1, by rw [hK.1.2.2.1]; exact hH.2.2.2.1, by rw [hK.1.2.2.2]; exact hH.2.2.2.2.1, hLA, v1⟩
    refine p_rdK hT hg ih hN d (m + 1) σ' s' (by omega) hH' ⟨fun σ2 c pl hR2 hK2 w6 w7 => hQ.1 σ2 c pl hR2 (KpR_trans hK2 hK (by omega)) w6 w7, fun σ2 s2 hR2 hK2 w6 w2 w3 w4 => hQ.2 σ2 s2 hR2 (KpR_trans hK2 hK (by omega)) (w6.trans v6) w2 w3 ?_⟩
    obtain ⟨o2, x2, -⟩ := rdK_ok hg d s' s2 o1 hR2
    refine CL_two (CL_fr o1.2.2.2 x1.2.2 (fun i _ q => (x2.2.1 i q).1) (fun i _ q => (x2.2.1 i q).2.1) (fun i _ q => (x2.2.1 i q).2.2) (fun q q1 q2 i _ hi => hK2.2 q q1 q2 i hi) hCL) w4
theorem p_fail {σ : Sg} {c b : Nat} {Q : Int32 → Sg → Prop} (hb : σ 2 3 = nI b) (hQ : ∀ σ', (∀ j, j ≠ 2 → σ' j = σ j) → σ' 2 0 = σ 2 0 → σ' 2 6 = nI c → σ' 2 7 = nI b → Q 0 σ') : wX10_fail (nI c) σ Q := by
  unfold wX10_fail
  intro σ1 e1 σ2 e2
  refine hQ σ2 (fun j hj => by rw [e2, sto_ne _ _ _ hj, e1, sto_ne _ _ _ hj]) (by rw [e2, sto_off _ _ _ (by decide), e1, sto_off _ _ _ (by decide)]) (by rw [e2, sto_off _ _ _ (by decide), e1, sto_at]) ?_
  rw [e2, sto_at, e1, sto_off _ _ _ (by decide)]; exact hb
theorem KpR_2 {σ σ' : Sg} {T n : Nat} (hT : 20 ≤ T) (h : ∀ j, j ≠ 2 → σ' j = σ j) (h0 : σ' 2 0 = σ 2 0) : KpR σ' σ T n := ⟨⟨fun j q1 _ => h j q1, h0, by rw [h T (by omega)], h (T + 1) (by omega)⟩, fun q _ _ i _ => by rw [h (T + q) (by omega)]⟩
theorem p_readN {ta : Nat → Int32} {L T b0 st : Nat} (hT : isSten T) (hL : L ≤ 300) (hst : st < 3) (hb0 : b0 + 20 ≤ 60) : ∀ (f dep : Nat) (σ : Sg) (s : PS) (Q : Int32 → Sg → Prop), dep ≤ 7 → f + dep = 9 → RdH ta L T b0 st σ s → RdQ ta L T (rdN ta L b0 f dep s) σ s.2.1 (Q 0) (Q 1) → wX10_readNode T f (nI dep) σ Q
  | 0, dep, σ, s, Q, hd, hf, hH, hQ => by omega
  | f + 1, dep, σ, s, Q, hd, hf, hH, hQ => by
    have hb : 20 ≤ T ∧ T < 29 := by rcases hT with rfl | rfl <;> omega
    obtain ⟨o, h0, h3, hT0, hb1, hLA, h1⟩ := id hH
    obtain ⟨la1, la2, la3, la4⟩ := hLA
    have c14 : tkC ta L s.1 ≤ 14 := by
      unfold tkC nmC ltC sgC
      repeat' split
      all_goals decide
    show wX10_readNode_body T (wX10_readNode T f) (nI dep) σ Q
    unfold wX10_readNode_body wX10_readNode_b30
    rw [la1]
    have le10 : nI (tkC ta L s.1) ≤ 10 ↔ tkC ta L s.1 ≤ 10 := nI_leI (b := 10) (by omega) (by decide)
    have lt6 : (6 : Int32) < nI dep ↔ 6 < dep := nI_ltI (a := 6) (by decide) (by omega)
    have fail3 : (6 < dep ∨ 20 ≤ s.2.1 - b0) → tkC ta L s.1 ≤ 10 → wX10_fail 3 σ (fun r_3 σ_4 => (bok r_3 ∧ Q r_3 σ_4)) := fun w w' => p_fail (c := 3) la2 (fun σ' f' f0 v6 v7 => ⟨bok0, hQ.1 σ' 3 _ (rdN_3 (by omega) w) (KpR_2 hb.1 f' f0) v6 v7⟩)
    refine ⟨fun z => ⟨fun w => fail3 (Or.inl (lt6.mp w)) (le10.mp z), fun w => ?_⟩, fun z => ?_⟩
    · have z' := le10.mp z
      have w' : ¬ 6 < dep := fun q => w (lt6.mpr q)
      unfold wX8_nodesOfOpen
      rw [hT0, nI_clamp (by omega), h1, hb1, pk_sub o.2.1]
      have lt20 : nI (s.2.1 - b0) < 20 ↔ s.2.1 - b0 < 20 := nI_ltI (b := 20) (by have := o.2.2.1; omega) (by decide)
      refine ⟨vp_in_nI (by omega) (by decide), fun y => ?_, fun y => fail3 (Or.inr (by have : ¬ s.2.1 - b0 < 20 := fun q => y (lt20.mpr q); omega)) z'⟩
      have y' := lt20.mp y
      rw [la1, nI_clamp (by omega)]
      refine ⟨vp_in_nI (by omega) (by decide), fun x3 e3 => ?_⟩
      rw [tabP_prt ⟨tkC ta L s.1, by omega⟩] at e3
      have e3' : x3 = nI (prt (tkC ta L s.1)) := e3
      rw [e3']
      refine p_addN h1 (by have := o.2.2.1; omega) (fun σ10 k10 c10 n10 op10 nu10 => ?_) hb.1
      have h10 : σ10 2 0 = nI L := by rw [c10]; exact h0
      have h310 : σ10 3 = ta := by rw [k10.1.1 3 (by decide) (by omega)]; exact h3
      have hpL := o.1
      have hE := tkE_rng (ta := ta) hpL
      refine p_adv h10 hL h310 (by rw [c10]; exact la3) hE.2 (fun σ12 f12 g12 a1 a2 a3 a4 => ⟨prt (tkC ta L s.1) + 1, ?_⟩)
      have k12 : KpR σ12 σ10 T s.2.1 := KpR_2 hb.1 f12 (g12 0 (by decide) (by decide) (by decide) (by decide))
      have k12' := KpR_trans k12 k10 (Nat.le_refl _)
      have o1 : OkS L b0 (nxS ta L s) := nxS_ok o (by omega)
      have hH12 : RdH ta L T b0 st σ12 (nxS ta L s) := ⟨o1, by rw [k12'.1.2.1]; exact h0, by rw [k12'.1.1 3 (by decide) (by omega)]; exact h3, by rw [k12'.1.2.2.1]; exact hT0, by rw [k12'.1.2.2.2]; exact hb1, ⟨a1, a2, a3, a4⟩, by rw [f12 T (by omega)]; exact n10⟩
      have hprt : prt (tkC ta L s.1) ≤ 4 := by unfold prt; split; omega; split <;> omega
      have v6_12 : σ12 2 6 = σ 2 6 := by rw [g12 6 (by decide) (by decide) (by decide) (by decide), c10]
      have hL66 := p_rdK (ta := ta) (L := L) (b0 := b0) (st := st) (dep := dep) (g := rdN ta L b0 f (dep + 1)) (rc := wX10_readNode T f) (x4 := nI s.2.1) (Q := Q) (K1 := fun σ_18 => (wX8_closeNode T (nI s.2.1) σ_18 (fun σ_20 => Q 1 σ_20))) (K0 := fun σ_21 => Q 0 σ_21) hT (fun a b ha hb => rdN_ok f (dep + 1) a b ha hb) (fun σ2 s2 Q2 hH2 hQ2 => p_readN hT hL hst hb0 f (dep + 1) σ2 s2 Q2 (by omega) (by omega) hH2 hQ2) hprt (prt (tkC ta L s.1)) 0 σ12 (nxS ta L s) (by omega) hH12 ⟨fun σ' c pl hR hK v6 v7 => ?_, fun σ' s' hR hK v6 hLA v1 hCL => ?_⟩
      · exact hL66
      · exact hQ.1 σ' c pl (rdN_f (by omega) (by omega) hR) (KpR_trans hK k12' (Nat.le_succ _)) v6 v7
      · obtain ⟨o2, x2, c2⟩ := rdK_ok (fun a b ha hb => rdN_ok f (dep + 1) a b ha hb) _ _ _ o1 hR
        have hcl := cl_ok o (by omega) (by omega) o2 x2 c2
        have opa : s'.2.2.1 s.2.1 = tkC ta L s.1 := ((x2.2.1 s.2.1 (Nat.lt_succ_self _)).1).trans updN_s
        have nua : s'.2.2.2.1 s.2.1 = tkV ta L s.1 := ((x2.2.1 s.2.1 (Nat.lt_succ_self _)).2.1).trans pk_us
        have kid := WFn_kid hcl.1.2.2.2 hcl.2.1.2.2 (Nat.le_refl _) hcl.2.2.1
        have l' : s.2.1 < s'.2.1 := hcl.2.2.1
        have kid' : (5 ≤ s'.2.2.1 s.2.1 → s.2.1 + 1 < s'.2.1 ∧ s2 s'.2.2.2.2 s.2.1 < s'.2.1) ∧ (s'.2.2.1 s.2.1 = 10 → s3 s'.2.2.2.2 s.2.1 < s'.2.1 ∧ s4 s'.2.2.2.2 s.2.1 < s'.2.1) := by
          have e2 : s2 (updN s'.2.2.2.2 s.2.1 (s'.2.1 - s.2.1)) s.2.1 = s2 s'.2.2.2.2 s.2.1 := by unfold s2; rw [updN_n (by omega)]
          have p2 : s.2.1 < s2 s'.2.2.2.2 s.2.1 := by unfold s2; omega
          have e3 : s3 (updN s'.2.2.2.2 s.2.1 (s'.2.1 - s.2.1)) s.2.1 = s3 s'.2.2.2.2 s.2.1 := by unfold s3; rw [e2, updN_n (by omega)]
          have p3 : s.2.1 < s3 s'.2.2.2.2 s.2.1 := by unfold s3; omega
          have e4 : s4 (updN s'.2.2.2.2 s.2.1 (s'.2.1 - s.2.1)) s.2.1 = s4 s'.2.2.2.2 s.2.1 := by unfold s4; rw [e3, updN_n (by omega)]
          refine ⟨fun q => ⟨(kid.1 q).1, ?_⟩, fun q => ⟨?_, ?_⟩⟩
          · rw [← e2]; exact (kid.1 q).2
          · rw [← e3]; exact (kid.2 q).1
          · rw [← e4]; exact (kid.2 q).2
        have at2 : σ' (T + 2) s.2.1 = nI (s'.2.2.1 s.2.1) := by rw [hK.2 2 (by decide) (by decide) s.2.1 (Nat.lt_succ_self _), f12 (T + 2) (by omega), op10, opa]
        have at3 : s'.2.2.1 s.2.1 = 4 → σ' (T + 3) s.2.1 = s'.2.2.2.1 s.2.1 := fun q => by
          rw [hK.2 3 (by decide) (by decide) s.2.1 (Nat.lt_succ_self _), f12 (T + 3) (by omega), nu10, nua]
          exact la4 (by rw [← opa]; exact q)
        refine p_close hb.1 v1 l' (by have := o2.2.2.1; omega) at2 (by omega) at3 o2.2.2.2 hCL x2.2.2 kid' (fun σ20 k20 c20 n20 hC20 => ?_)
        refine hQ.2 σ20 (clS s.2.1 s') (rdN_s (by omega) (by omega) hR) (KpR_trans k20 (KpR_trans hK k12' (Nat.le_succ _)) (Nat.le_refl _)) (by rw [c20, v6]; exact v6_12) ?_ (by rw [n20]; exact v1) hC20
        unfold LA at hLA ⊢
        rw [c20]
        exact hLA
    · have z' : 10 < tkC ta L s.1 := by
        have : ¬ tkC ta L s.1 ≤ 10 := fun q => z (le10.mpr q)
        omega
      exact p_fail (c := 1) la2 (fun σ' f' f0 v6 v7 => ⟨bok0, hQ.1 σ' 1 _ (rdN_1 z') (KpR_2 hb.1 f' f0) v6 v7⟩)
