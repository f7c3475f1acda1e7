/-! kind, as -/
theorem tabK_kd : ∀ o : Fin 11, tabK o.val = nI (kdOf o.val) := by decide +kernel
theorem kd_rng : ∀ o : Fin 11, 1 ≤ kdOf o.val ∧ kdOf o.val ≤ 5 := by decide +kernel
/-- the stencil that holds a node -/
theorem TX_in {ns nn : Nat} {bg op sz : Nat → Nat} (h : TX ns nn bg op sz) {i : Nat} (hi : i < nn) : ∃ k, k < ns ∧ bg k ≤ i ∧ i < bg (k + 1) := by
  obtain ⟨-, -, h0, hn, -, -⟩ := h
  have key : ∀ m, m ≤ ns → i < bg m → ∃ k, k < ns ∧ bg k ≤ i ∧ i < bg (k + 1) := by
    intro m
    induction m with
    | zero => intro _ q; omega
    | succ m ih =>
      intro hm q
      by_cases c : i < bg m
      · exact ih (by omega) c
      · exact ⟨m, by omega, by omega, q⟩
  exact key ns (Nat.le_refl _) (by omega)
theorem TX_op {ns nn : Nat} {bg op sz : Nat → Nat} (h : TX ns nn bg op sz) {i : Nat} (hi : i < nn) : op i ≤ 10 ∧ 1 ≤ sz i ∧ i + sz i ≤ nn := by
  obtain ⟨k, hk, h1, h2⟩ := TX_in h hi
  obtain ⟨a1, a2, a3, a4, a5, a6⟩ := h
  have := a6 k hk i h1 h2
  have mono : ∀ m, m ≤ ns → ∀ q, q ≤ m → bg q ≤ bg m := by
    intro m
    induction m with
    | zero => intro _ q hq; rw [Nat.le_zero.mp hq]; exact Nat.le_refl _
    | succ m ih =>
      intro hm q hq
      have := a5 m (by omega)
      by_cases c : q = m + 1
      · rw [c]; exact Nat.le_refl _
      · have := ih (by omega) q (by omega); omega
  have m2 := mono ns (Nat.le_refl _) (k + 1) (by omega)
  exact ⟨this.1, this.2.1, by omega⟩
theorem p_hasN (T : Nat) (x : Int32) (σ : Sg) (Q : Int32 → Sg → Prop) : wX8_has T x σ Q ↔ Q (if 0 ≤ x ∧ x ≤ σ T 1 - 1 then 1 else 0) σ := by
  unfold wX8_has; rw [p_isWithin]; simp only [bok_ite, true_and]
theorem p_isNode (x : Int32) (σ : Sg) (Q : Int32 → Sg → Prop) : wX12_isNode x σ Q ↔ Q (if 0 ≤ x ∧ x ≤ σ 0 7 - 1 then 1 else 0) σ := by
  unfold wX12_isNode; rw [p_within]; simp only [bok_ite, true_and]
theorem sten_clamp {T : Nat} (h : isSten T) : (nI T).toNatClampNeg = T := by rcases h with rfl | rfl <;> decide
theorem p_kindOf {σ : Sg} {T ns nn : Nat} {bg op : Nat → Nat} {nu : Nat → Int32} {sz : Nat → Nat} (hX : TX ns nn bg op sz) (hB : TB σ T ns nn bg op nu sz) {i : Nat} (hi : i < nn) (Q : Int32 → Sg → Prop) : wX8_kindOf T (nI i) σ Q ↔ Q (nI (kdOf (op i))) σ := by
  have h60 := hX.2.1
  have ho := (TX_op hX hi).1
  unfold wX8_kindOf
  rw [nI_clamp (by omega), (hB.2.2.2 i hi).1, nI_clamp (by omega), tabK_kd ⟨op i, by omega⟩]
  have h1 : vp_in (nI i) 60 := vp_in_nI (by omega) (by decide)
  have h2 : vp_in (nI (op i)) 11 := vp_in_nI (by omega) (by decide)
  simp only [h1, h2, true_and]
theorem E_kind (x1 : Int32) {σ τ : Sg} (hI : Inv σ τ) : wX11_kind x1 σ (fun r σ' => wX12_kind x1 τ (fun r' τ' => r = r' ∧ Inv σ' τ')) := by
  obtain ⟨T, ns, nn, bg, op, nu, sz, t1, t2, t3, t4, t5, hX, hB, hM⟩ := hI.2.2.2.1
  unfold wX11_kind wX12_kind wX11_kind_b26 wX12_kind_b22
  simp only [forall_eq, t2, sten_clamp t1, t1, true_and, p_hasN, p_isNode, p_refused, ite10, hB.2.1, hM.2.1]
  have h60 := hX.2.1
  by_cases c1 : 0 ≤ x1 ∧ x1 ≤ nI nn - 1
  case neg =>
    simp only [c1, not_false_eq_true, true_implies, not_true_eq_false, false_implies, and_true]
    exact ⟨by decide, hI⟩
  simp only [c1, not_false_eq_true, true_implies, not_true_eq_false, false_implies, and_true, true_and]
  obtain ⟨i, hi, rfl⟩ := rng0 (by omega) c1
  rw [p_kindOf hX hB hi, nI_clamp (by omega), (hM.2.2.2 i hi).1]
  exact ⟨vp_in_nI (by omega) (by decide), rfl, hI⟩
def isK (k w : Nat) : Prop := w = 0 ∨ k = w ∨ (k = 2 ∧ w = 1) ∨ (k = 4 ∧ w = 3)
def kAb (k : Nat) : Nat := if k = 2 then 1 else if k = 4 then 3 else 0
theorem tabA_ab : ∀ k : Fin 6, 1 ≤ k.val → tabA k.val = nI (kAb k.val) := by decide +kernel
theorem nI_nNone {k : Nat} (h : k < 2 ^ 31) : ¬ nI k = (-1000000) := fun q => nI_pos h (by rw [q]; decide)
theorem p_kindStep {σ : Sg} {w k u n : Nat} {K1 K2 : Sg → Prop} {Q : Int32 → Sg → Prop} (hw : w ≤ 5) (hk1 : 1 ≤ k) (hk : k ≤ 5) (hu : u < 6) (h1 : k = w → K2 σ) (h2 : k ≠ w → wX11_isKind_L4 (nI w) K1 K2 Q n (nI (kAb k)) (nI (u + 1)) σ) : wX11_isKind_L4 (nI w) K1 K2 Q (n + 1) (nI k) (nI u) σ := by
  unfold wX11_isKind_L4
  refine ⟨fun q => absurd q (nI_ge (b := 6) hu (by decide)), fun _ => ⟨fun q => absurd q (nI_nNone (by omega)), fun _ => ⟨fun q => h1 ((nI_eq (by omega) (by omega)).mp q), fun q => ⟨vp_in_nI (by omega) (by decide), ?_⟩⟩⟩⟩
  intro x2 e2 x3 e3
  rw [nI_clamp (by omega), tabA_ab ⟨k, by omega⟩ hk1] at e2
  rw [nI_1] at e3
  subst e2 e3
  exact h2 (fun z => q (by rw [z]))
theorem p_kindEnd {σ : Sg} {w u n : Nat} {K1 K2 : Sg → Prop} {Q : Int32 → Sg → Prop} (hw : w ≤ 5) (hu : u < 6) (h1 : 0 = w → K2 σ) (h2 : w ≠ 0 → K1 σ) : wX11_isKind_L4 (nI w) K1 K2 Q (n + 2) (nI 0) (nI u) σ := by
  unfold wX11_isKind_L4
  refine ⟨fun q => absurd q (nI_ge (b := 6) hu (by decide)), fun _ => ⟨fun q => absurd q (nI_nNone (by omega)), fun _ => ⟨fun q => h1 ((nI_eq (by omega) (by omega)).mp q), fun q => ⟨vp_in_nI (by omega) (by decide), ?_⟩⟩⟩⟩
  intro x2 e2 x3 e3
  have e4 : x2 = (-1000000) := e2.trans (by decide)
  unfold wX11_isKind_L4
  have hK : K1 σ := h2 (fun z => q (by rw [z]))
  exact ⟨fun _ => hK, fun _ => ⟨fun _ => hK, fun z => absurd e4 z⟩⟩
theorem p_isKindB {σ : Sg} {w k : Nat} {Q : Int32 → Sg → Prop} (hw : w ≤ 5) (hk1 : 1 ≤ k) (hk : k ≤ 5) (h1 : isK k w → Q 1 σ) (h2 : ¬ isK k w → Q 0 σ) : wX11_isKind (nI k) (nI w) σ Q := by
  unfold wX11_isKind wX11_isKind_b37
  refine ⟨5, ?_⟩
  rw [← nI_0]
  have hc : k = 1 ∨ k = 2 ∨ k = 3 ∨ k = 4 ∨ k = 5 := by omega
  have fin : ∀ u : Nat, u < 6 → (k ≠ w) → (kAb k = 0 ∨ kAb k ≠ w) → ∀ n, wX11_isKind_L4 (nI w) (fun σ_6 => Q 0 σ_6) (fun σ_7 => Q 1 σ_7) Q (n + 2) (nI 0) (nI u) σ := by
    intro u hu a b n
    refine p_kindEnd hw hu (fun z => h1 (Or.inl z.symm)) (fun z => h2 ?_)
    rintro (y | y | ⟨y1, y2⟩ | ⟨y1, y2⟩)
    · exact z y
    · exact a y
    · subst y1; subst y2; rcases b with b | b
      · exact absurd b (by decide)
      · exact b rfl
    · subst y1; subst y2; rcases b with b | b
      · exact absurd b (by decide)
      · exact b rfl
  refine p_kindStep (n := 4) hw hk1 hk (by decide) (fun z => h1 (Or.inr (Or.inl z))) (fun z => ?_)
  by_cases ca : kAb k = 0
  · rw [ca]
    exact fin 1 (by decide) z (Or.inl ca) 2
  · have hab : (k = 2 ∧ kAb k = 1) ∨ (k = 4 ∧ kAb k = 3) := by
      rcases hc with rfl | rfl | rfl | rfl | rfl
      · exact absurd rfl ca
      · exact Or.inl ⟨rfl, rfl⟩
      · exact absurd rfl ca
      · exact Or.inr ⟨rfl, rfl⟩
      · exact absurd rfl ca
    refine p_kindStep (n := 3) hw (by omega) (by omega) (by decide) (fun y => h1 ?_) (fun y => ?_)
    · rcases hab with ⟨a, b⟩ | ⟨a, b⟩
      · exact Or.inr (Or.inr (Or.inl ⟨a, by omega⟩))
      · exact Or.inr (Or.inr (Or.inr ⟨a, by omega⟩))
    · have e0 : kAb (kAb k) = 0 := by rcases hab with ⟨a, b⟩ | ⟨a, b⟩ <;> rw [b] <;> rfl
      rw [e0]
      exact fin 2 (by decide) z (Or.inr y) 1
theorem p_isKindM {τ : Sg} {w k : Nat} {Q : Int32 → Sg → Prop} (hw : w ≤ 5) (hk1 : 1 ≤ k) (hk : k ≤ 5) (h1 : isK k w → Q 1 τ) (h2 : ¬ isK k w → Q 0 τ) : wX12_isKind (nI k) (nI w) τ Q := by
  have z0 : ∀ a b : Nat, a ≤ 5 → b ≤ 5 → (nI a = nI b ↔ a = b) := fun a b h1 h2 => nI_eq (by omega) (by omega)
  unfold wX12_isKind wX12_isKind_b29 wX12_isKind_b19 wX12_isKind_b33 wX12_isKind_b34
  have y1 : isK k w → bok 1 ∧ Q 1 τ := fun q => ⟨bok1, h1 q⟩
  have y2 : ¬ isK k w → bok 0 ∧ Q 0 τ := fun q => ⟨bok0, h2 q⟩
  refine ⟨fun q => y1 (Or.inl ((z0 w 0 hw (by decide)).mp q)), fun q0 => ⟨fun q => y1 (Or.inr (Or.inl ((z0 k w hk hw).mp q))), fun q1 => ⟨fun q2 => ⟨fun q3 => y1 ?_, fun q3 => ⟨fun q4 => ⟨fun q5 => y1 ?_, fun q5 => y2 ?_⟩, fun q4 => y2 ?_⟩⟩, fun q2 => ⟨fun q4 => ⟨fun q5 => y1 ?_, fun q5 => y2 ?_⟩, fun q4 => y2 ?_⟩⟩⟩⟩
  · exact Or.inr (Or.inr (Or.inl ⟨(z0 k 2 hk (by decide)).mp q2, (z0 w 1 hw (by decide)).mp q3⟩))
  · exact Or.inr (Or.inr (Or.inr ⟨(z0 k 4 hk (by decide)).mp q4, (z0 w 3 hw (by decide)).mp q5⟩))
  · rintro (y | y | ⟨_, y⟩ | ⟨_, y⟩)
    · exact q0 (by rw [y]; rfl)
    · exact q1 (by rw [y])
    · exact q3 (by rw [y]; rfl)
    · exact q5 (by rw [y]; rfl)
  · rintro (y | y | ⟨_, y⟩ | ⟨y, _⟩)
    · exact q0 (by rw [y]; rfl)
    · exact q1 (by rw [y])
    · exact q3 (by rw [y]; rfl)
    · exact q4 (by rw [y]; rfl)
  · exact Or.inr (Or.inr (Or.inr ⟨(z0 k 4 hk (by decide)).mp q4, (z0 w 3 hw (by decide)).mp q5⟩))
  · rintro (y | y | ⟨y, _⟩ | ⟨_, y⟩)
    · exact q0 (by rw [y]; rfl)
    · exact q1 (by rw [y])
    · exact q2 (by rw [y]; rfl)
    · exact q5 (by rw [y]; rfl)
  · rintro (y | y | ⟨y, _⟩ | ⟨y, _⟩)
    · exact q0 (by rw [y]; rfl)
    · exact q1 (by rw [y])
    · exact q2 (by rw [y]; rfl)
    · exact q4 (by rw [y]; rfl)
theorem E_as (x1 x2 : Int32) {σ τ : Sg} (hI : Inv σ τ) : wX11_as x1 x2 σ (fun r σ' => wX12_as x1 x2 τ (fun r' τ' => r = r' ∧ Inv σ' τ')) := by
  obtain ⟨T, ns, nn, bg, op, nu, sz, t1, t2, t3, t4, t5, hX, hB, hM⟩ := hI.2.2.2.1
  unfold wX11_as wX12_as wX11_as_b20 wX12_as_b17
  simp only [forall_eq, t2, sten_clamp t1, t1, true_and, p_hasN, p_isNode, p_isWithin, p_within, p_refused, p_found, p_foundNothing, p_finds, ite10, hB.2.1, hM.2.1]
  have h60 := hX.2.1
  by_cases c1 : 0 ≤ x1 ∧ x1 ≤ nI nn - 1
  case neg =>
    simp only [c1, not_false_eq_true, true_implies, not_true_eq_false, false_implies, and_true]
    exact ⟨by decide, hI⟩
  by_cases c2 : 0 ≤ x2 ∧ x2 ≤ 5
  case neg =>
    simp only [c1, c2, not_false_eq_true, true_implies, not_true_eq_false, false_implies, and_true, true_and]
    exact ⟨by decide, hI⟩
  simp only [c1, c2, not_false_eq_true, true_implies, not_true_eq_false, false_implies, and_true, true_and]
  obtain ⟨i, hi, rfl⟩ := rng0 (by omega) c1
  obtain ⟨w, hw, rfl⟩ := x_le 5 (by decide) c2
  have ho := (TX_op hX hi).1
  have hkd := kd_rng ⟨op i, by omega⟩
  have hin60 : vp_in (nI i) 60 := vp_in_nI (by omega) (by decide)
  have hin120 : vp_in (nI i) 120 := vp_in_nI (by omega) (by decide)
  rw [p_kindOf hX hB hi, nI_clamp (by omega), (hM.2.2.2 i hi).1]
  refine p_isKindB hw hkd.1 hkd.2 (fun q => ?_) (fun q => ?_)
  · refine ⟨fun z => absurd z one_ne, fun _ => ?_⟩
    rw [t2, sten_clamp t1]
    refine ⟨t1, hin60, hin120, p_isKindM hw hkd.1 hkd.2 (fun _ => ?_) (fun z => absurd q z)⟩
    refine ⟨fun z => absurd z one_ne, fun _ => ⟨hin120, ?_, Inv_st 0 hI⟩⟩
    rw [(hB.2.2.2 i hi).2.2.1, sto_ne _ _ _ (by decide), (hM.2.2.2 i hi).2.2]
  · refine ⟨fun _ => ⟨hin120, p_isKindM hw hkd.1 hkd.2 (fun z => absurd z q) (fun _ => ?_)⟩, fun z => absurd rfl z⟩
    exact ⟨fun _ => Inv_st 3 hI, fun z => absurd rfl z⟩
/-! ask: the trace as a list -/
def TRB (σ0 σ : Sg) (L : List Int32) : Prop := σ 57 1 = nI L.length ∧ (∀ i, i < L.length → σ 58 i = L.getD i 0) ∧ ∀ j, j ≠ 57 → j ≠ 58 → σ j = σ0 j
def TRM (τ0 τ : Sg) (L : List Int32) : Prop := τ 0 47 = nI L.length ∧ (∀ i, i < L.length → τ 33 i = L.getD i 0) ∧ (∀ j, j ≠ 0 → j ≠ 33 → τ j = τ0 j) ∧ ∀ k, k ≠ 47 → τ 0 k = τ0 0 k
theorem getD_snoc (L : List Int32) (v : Int32) {i : Nat} (h : i < L.length) : (L ++ [v]).getD i 0 = L.getD i 0 := by
  simp [List.getD, List.getElem?_append_left h]
theorem getD_last (L : List Int32) (v : Int32) : (L ++ [v]).getD L.length 0 = v := by
  simp [List.getD]
theorem p_bgB {σ0 σ : Sg} {L : List Int32} {v : Int32} {Q : Sg → Prop} (h : TRB σ0 σ L) (hL : L.length < 16) (k : ∀ σ', TRB σ0 σ' (L ++ [v]) → Q σ') : wX0_begin v σ Q := by
  unfold wX0_begin wX0_begin_b29
  rw [h.1, nI_clamp (by omega)]
  refine ⟨fun q => absurd q (nI_ge (b := 16) hL (by decide)), fun _ => ⟨vp_in_nI hL (by decide), fun σ2 e2 σ3 e3 => k σ3 ?_⟩⟩
  have f : σ2 57 = σ 57 := by rw [e2, sto_ne _ _ _ (by decide)]
  rw [f, h.1, nI_1] at e3
  subst e3 e2
  refine ⟨?_, fun i hi => ?_, fun j h1 h2 => ?_⟩
  · rw [sto_at, List.length_append]; rfl
  · rw [sto_ne _ _ _ (by decide)]
    rw [List.length_append] at hi
    have hi : i < L.length + 1 := hi
    by_cases e : i = L.length
    · subst e; rw [sto_at, getD_last]
    · rw [sto_off _ _ _ e, getD_snoc _ _ (by omega)]; exact h.2.1 i (by omega)
  · rw [sto_ne _ _ _ h1, sto_ne _ _ _ h2]; exact h.2.2 j h1 h2
theorem p_bgM {τ0 τ : Sg} {L : List Int32} {v : Int32} {Q : Sg → Prop} (h : TRM τ0 τ L) (hL : L.length < 16) (k : ∀ τ', TRM τ0 τ' (L ++ [v]) → Q τ') : wX12_begins v τ Q := by
  unfold wX12_begins wX12_begins_b29
  rw [h.1, nI_clamp (by omega)]
  refine ⟨fun q => absurd q (nI_ge (b := 16) hL (by decide)), fun _ => ⟨vp_in_nI hL (by decide), fun σ2 e2 σ3 e3 => k σ3 ?_⟩⟩
  have f : σ2 0 = τ 0 := by rw [e2, sto_ne _ _ _ (by decide)]
  rw [f, h.1, nI_1] at e3
  subst e3 e2
  refine ⟨?_, fun i hi => ?_, fun j h1 h2 => ?_, fun q h1 => ?_⟩
  · rw [sto_at, List.length_append]; rfl
  · rw [sto_ne _ _ _ (by decide)]
    rw [List.length_append] at hi
    have hi : i < L.length + 1 := hi
    by_cases e : i = L.length
    · subst e; rw [sto_at, getD_last]
    · rw [sto_off _ _ _ e, getD_snoc _ _ (by omega)]; exact h.2.1 i (by omega)
  · rw [sto_ne _ _ _ h1, sto_ne _ _ _ h2]; exact h.2.2.1 j h1 h2
  · rw [sto_off _ _ _ h1, sto_ne _ _ _ (by decide)]; exact h.2.2.2 q h1
/-- MARK of a node of kind k, and its bodies -/
def mkV (k i s : Nat) : Nat := if k = 1 then i + 100 else if k = 2 then 2 * (i + 100) else if k = 4 then i + s else i
def mkL (k : Nat) : List Int32 := if k = 1 then [21, 20] else if k = 2 then [22, 21, 20] else if k = 4 then [23, 20] else [20]
def mkN (k : Nat) : Nat := if k = 1 then 2 else if k = 2 then 3 else if k = 4 then 2 else 1
def NodeB (σ0 : Sg) (T i k s : Nat) : Prop := isSten T ∧ i < 60 ∧ s ≤ 60 ∧ (∃ o, o ≤ 10 ∧ σ0 (T + 2) i = nI o ∧ kdOf o = k) ∧ σ0 (T + 4) i = nI s
def NodeM (τ0 : Sg) (i k s : Nat) : Prop := i < 60 ∧ s ≤ 60 ∧ τ0 6 i = nI k ∧ τ0 8 i = nI s
theorem p_kindT {σ0 σ : Sg} {L : List Int32} {T i k s : Nat} {Q : Int32 → Sg → Prop} (hN : NodeB σ0 T i k s) (h : TRB σ0 σ L) (hQ : Q (nI k) σ) : wX8_kindOf T (nI i) σ Q := by
  obtain ⟨t1, hi, hs, ⟨o, ho, n1, n2⟩, n3⟩ := hN
  have hT : T < 29 := by rcases t1 with rfl | rfl <;> omega
  unfold wX8_kindOf
  rw [h.2.2 (T + 2) (by omega) (by omega), nI_clamp (by omega), n1, nI_clamp (by omega), tabK_kd ⟨o, by omega⟩]
  exact ⟨vp_in_nI hi (by decide), vp_in_nI (by omega) (by decide), by rw [n2]; exact hQ⟩
theorem p_sizeT {σ0 σ : Sg} {L : List Int32} {T i k s : Nat} {Q : Int32 → Sg → Prop} (hN : NodeB σ0 T i k s) (h : TRB σ0 σ L) (hL : L.length < 16) (hQ : ∀ σ', TRB σ0 σ' (L ++ [10]) → Q (nI s) σ') : wX0_sizeLent T (nI i) σ Q := by
  obtain ⟨t1, hi, hs, n1, n3⟩ := hN
  have hT : T < 29 := by rcases t1 with rfl | rfl <;> omega
  unfold wX0_sizeLent
  refine p_bgB h hL (fun σ' h' => ⟨vp_in_nI hi (by decide), ?_⟩)
  rw [h'.2.2 (T + 4) (by omega) (by omega), nI_clamp (by omega), n3]
  exact hQ σ' h'
theorem lit100 (i : Nat) : nI i + 100 = nI (i + 100) := nI_add i 100
theorem lit2m (i : Nat) : 2 * nI i = nI (2 * i) := pk_mul 2 i
theorem p_markB {σ0 σ : Sg} {L : List Int32} {T i k s : Nat} {Q : Int32 → Sg → Prop} (hk : 1 ≤ k ∧ k ≤ 5) (hN : NodeB σ0 T i k s) (h : TRB σ0 σ L) (hL : L.length < 13) (hQ : ∀ σ', TRB σ0 σ' (L ++ mkL k) → Q (nI (mkV k i s)) σ') : wX0_mark T (nI i) σ Q := by
  have hN0 := hN
  obtain ⟨t1, hi, hs, n1, n3⟩ := hN
  have hT : T < 29 := by rcases t1 with rfl | rfl <;> omega
  have zz : ∀ b : Nat, b ≤ 5 → (nI k = nI b ↔ k = b) := fun b h2 => nI_eq (by omega) (by omega)
  unfold wX0_mark wX0_mark_b55
  refine p_kindT hN0 h ?_
  unfold wX0_markOfLeaf wX0_markOfSeen wX0_markOfChosen wX0_markOfLeaf wX0_markLent
  have two : ∀ a b : Int32, (L ++ [a]) ++ [b] = L ++ [a, b] := fun a b => by simp
  have thr : ∀ a b c : Int32, ((L ++ [a]) ++ [b]) ++ [c] = L ++ [a, b, c] := fun a b c => by simp
  refine ⟨fun q => ?_, fun q1 => ⟨fun q => ?_, fun q2 => ⟨fun q => ?_, fun q3 => ⟨fun q => ?_, fun q4 => ?_⟩⟩⟩⟩
  · have e := (zz 1 (by decide)).mp q
    subst e
    refine p_bgB h (by omega) (fun a ha => p_bgB ha (by simp; omega) (fun b hb => ?_))
    show Q (nI i + 100) b
    rw [lit100]
    exact hQ b (by rw [two] at hb; exact hb)
  · have e := (zz 2 (by decide)).mp q
    subst e
    refine p_bgB h (by omega) (fun a ha => p_bgB ha (by simp; omega) (fun b hb => p_bgB hb (by simp; omega) (fun d hd => ?_)))
    show Q (2 * (nI i + 100)) d
    rw [lit100, lit2m]
    exact hQ d (by rw [thr] at hd; exact hd)
  · have e := (zz 3 (by decide)).mp q
    subst e
    exact p_bgB h (by omega) (fun a ha => hQ a ha)
  · have e := (zz 4 (by decide)).mp q
    subst e
    refine p_bgB h (by omega) (fun a ha => p_bgB ha (by simp; omega) (fun b hb => ⟨vp_in_nI hi (by decide), ?_⟩))
    rw [hb.2.2 (T + 4) (by omega) (by omega), nI_clamp (by omega), n3, nI_add]
    exact hQ b (by rw [two] at hb; exact hb)
  · have e : k = 5 := by
      have a1 : k ≠ 1 := fun z => q1 (by rw [z]; rfl)
      have a2 : k ≠ 2 := fun z => q2 (by rw [z]; rfl)
      have a3 : k ≠ 3 := fun z => q3 (by rw [z]; rfl)
      have a4 : k ≠ 4 := fun z => q4 (by rw [z]; rfl)
      omega
    subst e
    exact p_bgB h (by omega) (fun a ha => hQ a ha)
theorem p_markM {τ0 τ : Sg} {L : List Int32} {i k s : Nat} {Q : Int64 → Sg → Prop} (hk : 1 ≤ k ∧ k ≤ 5) (hN : NodeM τ0 i k s) (h : TRM τ0 τ L) (hL : L.length < 13) (hQ : ∀ τ', TRM τ0 τ' (L ++ mkL k) → Q (lN (mkV k i s)) τ') : wX12_markOf (nI i) τ Q := by
  obtain ⟨hi, hs, n1, n3⟩ := hN
  have zz : ∀ b : Nat, b ≤ 5 → (nI k = nI b ↔ k = b) := fun b h2 => nI_eq (by omega) (by omega)
  have hin : vp_in (nI i) 120 := vp_in_nI (by omega) (by decide)
  have l100 : lN i + 100 = lN (i + 100) := lN_add i 100
  have l2 : ∀ a : Nat, 2 * lN a = lN (2 * a) := fun a => lN_mul 2 a
  unfold wX12_markOf wX12_markOf_b107
  rw [nI_clamp (by omega), h.2.2.1 6 (by decide) (by decide), n1, nI_l (by omega)]
  have two : ∀ a b : Int32, (L ++ [a]) ++ [b] = L ++ [a, b] := fun a b => by simp
  have thr : ∀ a b c : Int32, ((L ++ [a]) ++ [b]) ++ [c] = L ++ [a, b, c] := fun a b c => by simp
  refine ⟨hin, fun q => ?_, fun q1 => ⟨fun q => ?_, fun q2 => ⟨fun q => ?_, fun q3 => ⟨fun q => ?_, fun q4 => ?_⟩⟩⟩⟩
  · have e := (zz 1 (by decide)).mp q
    subst e
    refine p_bgM h (by omega) (fun a ha => p_bgM ha (by simp; omega) (fun b hb => ?_))
    rw [l100]
    exact hQ b (by rw [two] at hb; exact hb)
  · have e := (zz 2 (by decide)).mp q
    subst e
    refine p_bgM h (by omega) (fun a ha => p_bgM ha (by simp; omega) (fun b hb => p_bgM hb (by simp; omega) (fun d hd => ?_)))
    rw [l100, l2]
    exact hQ d (by rw [thr] at hd; exact hd)
  · have e := (zz 3 (by decide)).mp q
    subst e
    exact p_bgM h (by omega) (fun a ha => hQ a ha)
  · have e := (zz 4 (by decide)).mp q
    subst e
    refine p_bgM h (by omega) (fun a ha => p_bgM ha (by simp; omega) (fun b hb => ⟨hin, ?_⟩))
    rw [hb.2.2.1 8 (by decide) (by decide), n3, nI_l (by omega), lN_add]
    exact hQ b (by rw [two] at hb; exact hb)
  · have e : k = 5 := by
      have a1 : k ≠ 1 := fun z => q1 (by rw [z]; rfl)
      have a2 : k ≠ 2 := fun z => q2 (by rw [z]; rfl)
      have a3 : k ≠ 3 := fun z => q3 (by rw [z]; rfl)
      have a4 : k ≠ 4 := fun z => q4 (by rw [z]; rfl)
      omega
    subst e
    exact p_bgM h (by omega) (fun a ha => hQ a ha)
