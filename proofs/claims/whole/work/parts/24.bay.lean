/-! bay, strip, edge, gauge, out, fault, trace -/
theorem rng0 {x : Int32} {n : Nat} (hn : n < 2 ^ 31) (h : 0 ≤ x ∧ x ≤ nI n - 1) : ∃ i, i < n ∧ x = nI i := by
  have e3 := toInt_nI_sub (n := n) (x := 1) hn (by rw [o_toInt]; omega)
  have h1 := (fa_le _ _).mp h.1
  have h2 := (fa_le _ _).mp h.2
  rw [e3, o_toInt] at h2
  rw [z_toInt] at h1
  obtain ⟨j, hj, rfl⟩ := nI_ofInt h1
  exact ⟨j, by omega, rfl⟩
theorem p_hasB (x : Int32) (σ : Sg) (Q : Int32 → Sg → Prop) : wX1_has x σ Q ↔ Q (if 0 ≤ x ∧ x ≤ σ 4 0 - 1 then 1 else 0) σ := by
  unfold wX1_has; rw [p_isWithin]; simp only [bok_ite, true_and]
theorem p_isCell (x : Int32) (σ : Sg) (Q : Int32 → Sg → Prop) : wX12_isCell x σ Q ↔ Q (if 0 ≤ x ∧ x ≤ σ 0 19 - 1 then 1 else 0) σ := by
  unfold wX12_isCell; rw [p_within]; simp only [bok_ite, true_and]
theorem E_strip (x1 x2 : Int32) {σ τ : Sg} (hI : Inv σ τ) : wX11_strip x1 x2 σ (fun r σ' => wX12_strip x1 x2 τ (fun r' τ' => r = r' ∧ Inv σ' τ')) := by
  obtain ⟨⟨n, hn1, hn2, b1, b2⟩, b3, b4, b5⟩ := hI.2.2.2.2.1
  unfold wX11_strip wX12_strip wX11_strip_b21 wX12_strip_b18
  simp only [p_hasB, p_isCell, p_isWithin, p_within, p_refused, ite10, b1, b2]
  by_cases c1 : 0 ≤ x1 ∧ x1 ≤ nI n - 1
  case neg =>
    simp only [c1, not_false_eq_true, true_implies, not_true_eq_false, false_implies, and_true]
    exact ⟨by decide, hI⟩
  by_cases c2 : 0 ≤ x2 ∧ x2 ≤ 9
  case neg =>
    simp only [c1, c2, not_false_eq_true, true_implies, not_true_eq_false, false_implies, and_true, true_and]
    exact ⟨by decide, hI⟩
  simp only [c1, c2, not_false_eq_true, true_implies, not_true_eq_false, false_implies, and_true, true_and]
  obtain ⟨k, hk, rfl⟩ := rng0 (by omega) c1
  have hin : vp_in (nI k) 10 := vp_in_nI (by omega) (by decide)
  rw [nI_clamp (by omega)]
  simp only [hin, true_and, forall_eq]
  refine ⟨by rw [b4 k (by omega)], ?_⟩
  refine Inv_bay (σ := σ) (τ := τ) (fun j h => sto_ne _ _ _ (by omega)) (fun j h1 h2 h3 h4 => sto_ne _ _ _ (by omega)) (fun k h => by rw [sto_ne _ _ _ (by omega)]) ?_ hI
  refine ⟨⟨n, hn1, hn2, by rw [sto_ne _ _ _ (by omega)]; exact b1, by rw [sto_ne _ _ _ (by omega)]; exact b2⟩, fun i hi => ?_, fun i hi => ?_, fun i hi => ?_⟩
  · rw [sto_ne _ _ _ (by omega), sto_ne _ _ _ (by omega)]; exact b3 i hi
  · by_cases e : i = k
    · subst e; rw [sto_at, sto_at]
    · rw [sto_off _ _ _ e, sto_off _ _ _ e]; exact b4 i hi
  · rw [sto_ne _ _ _ (by omega), sto_ne _ _ _ (by omega)]; exact b5 i hi
theorem E_edge (x1 x2 : Int32) {σ τ : Sg} (hI : Inv σ τ) : wX11_edge x1 x2 σ (fun r σ' => wX12_edge x1 x2 τ (fun r' τ' => r = r' ∧ Inv σ' τ')) := by
  obtain ⟨⟨n, hn1, hn2, b1, b2⟩, b3, b4, b5⟩ := hI.2.2.2.2.1
  unfold wX11_edge wX12_edge
  simp only [p_isWithin, p_within, p_refused, ite10]
  by_cases c1 : 0 ≤ x1 ∧ x1 ≤ 1
  case neg =>
    simp only [c1, not_false_eq_true, true_implies, not_true_eq_false, false_implies, and_true]
    exact ⟨by decide, hI⟩
  simp only [c1, not_false_eq_true, true_implies, not_true_eq_false, false_implies, and_true, true_and]
  obtain ⟨k, hk, rfl⟩ := x_le 1 (by decide) c1
  have hin : vp_in (nI k) 2 := vp_in_nI (by omega) (by decide)
  rw [nI_clamp (by omega)]
  simp only [hin, true_and, forall_eq]
  refine ⟨by rw [b5 k (by omega)], ?_⟩
  refine Inv_bay (σ := σ) (τ := τ) (fun j h => sto_ne _ _ _ (by omega)) (fun j h1 h2 h3 h4 => sto_ne _ _ _ (by omega)) (fun k h => by rw [sto_ne _ _ _ (by omega)]) ?_ hI
  refine ⟨⟨n, hn1, hn2, by rw [sto_ne _ _ _ (by omega)]; exact b1, by rw [sto_ne _ _ _ (by omega)]; exact b2⟩, fun i hi => ?_, fun i hi => ?_, fun i hi => ?_⟩
  · rw [sto_ne _ _ _ (by omega), sto_ne _ _ _ (by omega)]; exact b3 i hi
  · rw [sto_ne _ _ _ (by omega), sto_ne _ _ _ (by omega)]; exact b4 i hi
  · by_cases e : i = k
    · subst e; rw [sto_at, sto_at]
    · rw [sto_off _ _ _ e, sto_off _ _ _ e]; exact b5 i hi
theorem sto_fil (σ : Sg) {j j' : Nat} (a b i : Nat) (v x : Int32) (h : j' ≠ j) : sto (fil σ j a b v) j' i x = fil (sto σ j' i x) j a b v := by
  funext q
  by_cases e : q = j'
  · subst e
    rw [fil_ne _ _ _ _ h, sto_same, sto_same, fil_ne _ _ _ _ h]
  · rw [sto_ne _ _ _ e]
    by_cases e2 : q = j
    · subst e2
      funext k
      rw [fil_same, fil_same, sto_ne _ _ _ e]
    · rw [fil_ne _ _ _ _ e2, fil_ne _ _ _ _ e2, sto_ne _ _ _ e]
theorem p_bayL {x2 : Int32} {K : Sg → Prop} {Q : Int64 → Sg → Prop} (τ : Sg) (hK : K (fil (fil τ 10 0 10 0) 11 0 10 1)) : ∀ (d i : Nat), i + d = 10 → wX12_bay_L27 x2 K Q (d + 1) (nI i) (fil (fil τ 10 0 i 0) 11 0 i 1)
  | 0, i, hi => by
    unfold wX12_bay_L27
    have e : i = 10 := by omega
    subst e
    exact ⟨fun _ => hK, fun q => absurd (nI_le (a := 10) (Nat.le_refl _) (by decide)) q⟩
  | d + 1, i, hi => by
    unfold wX12_bay_L27
    refine ⟨fun q => absurd q (nI_ge (b := 10) (by omega) (by decide)), fun _ => ?_⟩
    have hin : vp_in (nI i) 10 := vp_in_nI (by omega) (by decide)
    refine ⟨hin, fun σ7 e7 => ⟨hin, fun σ8 e8 x3 e3 => ?_⟩⟩
    rw [nI_clamp (by omega)] at e7 e8
    rw [sto_fil _ _ _ _ _ _ (by decide), fil_succ _ _ _ _ _ (by omega)] at e7
    subst e7
    rw [fil_succ _ _ _ _ _ (by omega)] at e8
    rw [nI_1] at e3
    subst e8 e3
    exact p_bayL τ hK d (i + 1) (by omega)
theorem p_bayX {x2 : Int32} {K : Sg → Prop} {Q : Int64 → Sg → Prop} {τ : Sg} (hK : K (fil (fil τ 10 0 10 0) 11 0 10 1)) : ∃ nf, wX12_bay_L27 x2 K Q nf 0 τ := ⟨11, by
  have h := p_bayL (x2 := x2) (Q := Q) τ hK 10 0 (by omega)
  rw [fil_0, fil_0, nI_0] at h
  exact h⟩
theorem E_bay (x1 : Int32) {σ τ : Sg} (hI : Inv σ τ) : wX11_bay x1 σ (fun r σ' => wX12_bay x1 τ (fun r' τ' => r = r' ∧ Inv σ' τ')) := by
  obtain ⟨⟨n, hn1, hn2, b1, b2⟩, b3, b4, b5⟩ := hI.2.2.2.2.1
  unfold wX11_bay wX12_bay wX1_begin
  simp only [p_isWithin, p_within, p_refused, ite10]
  by_cases c1 : 2 ≤ x1 ∧ x1 ≤ 10
  case neg =>
    simp only [c1, not_false_eq_true, true_implies, not_true_eq_false, false_implies, and_true]
    exact ⟨by decide, hI⟩
  simp only [c1, not_false_eq_true, true_implies, not_true_eq_false, false_implies, and_true, true_and, forall_eq]
  have c2 : 0 ≤ x1 := Int32.le_trans (by decide) c1.1
  obtain ⟨k, hk, rfl⟩ := x_le 10 (by decide) ⟨c2, c1.2⟩
  have hk2 : 2 ≤ k := (nI_leI (a := 2) (by decide) (by omega)).mp c1.1
  refine p_fill (by decide) (p_fill (by decide) ?_)
  refine p_bayX ?_
  refine ⟨by rw [b1, b2], ?_⟩
  refine Inv_bay (σ := σ) (τ := τ) (fun j h => ?_) (fun j h1 h2 h3 h4 => ?_) (fun k h => ?_) ?_ hI
  · rw [fil_ne _ _ _ _ (by omega), fil_ne _ _ _ _ (by omega), sto_ne _ _ _ (by omega)]
  · rw [fil_ne _ _ _ _ (by omega), fil_ne _ _ _ _ (by omega), sto_ne _ _ _ (by omega)]
  · rw [fil_ne _ _ _ _ (by omega), fil_ne _ _ _ _ (by omega), sto_off _ _ _ h]
  refine ⟨⟨k, hk2, hk, ?_, ?_⟩, fun i hi => ?_, fun i hi => ?_, fun i hi => ?_⟩
  · rw [fil_ne _ _ _ _ (by omega), fil_ne _ _ _ _ (by omega), sto_at]
  · rw [fil_ne _ _ _ _ (by omega), fil_ne _ _ _ _ (by omega), sto_at]
  · rw [fil_ne _ _ _ _ (by omega), fil_same, fil_ne _ _ _ _ (by omega), fil_same, if_pos (by omega), if_pos (by omega)]
  · rw [fil_same, fil_same, if_pos (by omega), if_pos (by omega)]
  · rw [fil_ne _ _ _ _ (by omega), fil_ne _ _ _ _ (by omega), sto_ne _ _ _ (by omega), fil_ne _ _ _ _ (by omega), fil_ne _ _ _ _ (by omega), sto_ne _ _ _ (by omega)]
    exact b5 i hi
theorem E_fault {σ τ : Sg} (hI : Inv σ τ) : wX11_fault σ (fun r σ' => wX12_fault τ (fun r' τ' => r = r' ∧ Inv σ' τ')) := by
  unfold wX11_fault wX12_fault
  exact ⟨hI.2.2.1.2.2, hI⟩
theorem E_trace (x1 : Int32) {σ τ : Sg} (hI : Inv σ τ) : wX11_trace x1 σ (fun r σ' => wX12_trace x1 τ (fun r' τ' => r = r' ∧ Inv σ' τ')) := by
  obtain ⟨n, hn, a1, a2, a3⟩ := hI.2.2.2.2.2.2.2.1
  unfold wX11_trace wX12_trace wX11_trace_b31 wX12_trace_b21 wX12_trace_b24
  simp only [p_isWithin, ite10, a1, a2]
  have e3 := toInt_nI_sub (n := n) (x := 1) (by omega) (by rw [o_toInt]; omega)
  rw [o_toInt] at e3
  have hnn := nI_toInt (n := n) (by omega)
  by_cases c1 : 0 ≤ x1 ∧ x1 ≤ nI n - 1
  · obtain ⟨k, hk, rfl⟩ := rng0 (by omega) c1
    have hin : vp_in (nI k) 16 := vp_in_nI (by omega) (by decide)
    have q1 : ¬ nI k < 0 := nI_pos (by omega)
    have q2 : ¬ nI n ≤ nI k := nI_ge hk (by omega)
    simp only [c1, q1, q2, hin, not_false_eq_true, true_implies, not_true_eq_false, false_implies, and_true, true_and]
    rw [nI_clamp (by omega)]
    exact ⟨a3 k hk, hI⟩
  · simp only [c1, not_false_eq_true, true_implies, not_true_eq_false, false_implies, and_true, true_and]
    refine ⟨fun _ => hI, fun q1 => ⟨fun _ => hI, fun q2 => ?_⟩⟩
    exfalso
    apply c1
    rw [fa_lt, z_toInt] at q1
    rw [fa_le, hnn] at q2
    rw [fa_le, fa_le, e3, z_toInt]
    omega
theorem nar0 : vp_nar .boolean 0 = 0 := rfl
theorem nar1 : vp_nar .boolean 1 = 1 := rfl
theorem E_gauge (x1 x2 x3 x4 : Int32) {σ τ : Sg} (hI : Inv σ τ) : wX11_gauge x1 x2 x3 x4 σ (fun r σ' => wX12_gauge x1 x2 x3 x4 τ (fun r' τ' => r = r' ∧ Inv σ' τ')) := by
  obtain ⟨n, hn, g1, g2, g3, g4, g5⟩ := hI.2.2.2.2.2.1
  unfold wX11_gauge wX12_gauge wX11_gauge_b31 wX12_gauge_b31 wX4_add
  simp only [p_isWithin, p_within, p_refused, ite10]
  by_cases c1 : 0 ≤ x1 ∧ x1 ≤ 9
  case neg =>
    simp only [c1, not_false_eq_true, true_implies, not_true_eq_false, false_implies, and_true]
    exact ⟨by decide, hI⟩
  by_cases c2 : 0 ≤ x2 ∧ x2 ≤ 20
  case neg =>
    simp only [c1, c2, not_false_eq_true, true_implies, not_true_eq_false, false_implies, and_true, true_and]
    exact ⟨by decide, hI⟩
  by_cases c3 : -9 ≤ x3 ∧ x3 ≤ 9
  case neg =>
    simp only [c1, c2, c3, not_false_eq_true, true_implies, not_true_eq_false, false_implies, and_true, true_and]
    exact ⟨by decide, hI⟩
  simp only [c1, c2, c3, not_false_eq_true, true_implies, not_true_eq_false, false_implies, and_true, true_and, g1, g2]
  by_cases c4 : n = 12
  · have q1 : ¬ nI n < 12 := nI_nlt (b := 12) (by omega) (by omega)
    have q2 : nI n = 12 := (nI_eq (b := 12) (by omega) (by decide)).mpr c4
    simp only [q2, not_false_eq_true, true_implies, not_true_eq_false, false_implies, and_true, true_and]
    exact ⟨fun q => absurd q (by decide), fun _ => ⟨by decide, hI⟩⟩
  · have q1 : nI n < 12 := nI_lt (b := 12) (by omega) (by decide)
    have q2 : ¬ nI n = 12 := fun q => c4 ((nI_eq (b := 12) (by omega) (by decide)).mp q)
    have hin : vp_in (nI n) 12 := vp_in_nI (by omega) (by decide)
    obtain ⟨a, ha, rfl⟩ := x_le 9 (by decide) c1
    obtain ⟨b, hb, rfl⟩ := x_le 20 (by decide) c2
    simp only [q1, q2, not_false_eq_true, true_implies, not_true_eq_false, false_implies, and_true, true_and, forall_eq]
    refine ⟨hin, ?_⟩
    rw [nI_clamp (by omega)]
    rw [sto_ne σ n (nI a) (show (8 : Nat) ≠ 10 by decide), g1]
    refine ⟨hin, ?_⟩
    rw [nI_clamp (by omega)]
    rw [sto_ne _ n (nI b) (show (8 : Nat) ≠ 11 by decide), sto_ne σ n (nI a) (show (8 : Nat) ≠ 10 by decide), g1]
    refine ⟨hin, ?_⟩
    rw [nI_clamp (by omega)]
    rw [sto_ne _ n x3 (show (8 : Nat) ≠ 12 by decide), sto_ne _ n (nI b) (show (8 : Nat) ≠ 11 by decide), sto_ne σ n (nI a) (show (8 : Nat) ≠ 10 by decide), g1]
    refine ⟨hin, ?_⟩
    rw [nI_clamp (by omega)]
    rw [sto_ne _ n x4 (show (8 : Nat) ≠ 13 by decide), sto_ne _ n x3 (show (8 : Nat) ≠ 12 by decide), sto_ne _ n (nI b) (show (8 : Nat) ≠ 11 by decide), sto_ne σ n (nI a) (show (8 : Nat) ≠ 10 by decide), g1]
    refine ⟨hin, ?_⟩
    rw [sto_ne τ n (nI a) (show (0 : Nat) ≠ 17 by decide), g2, nI_clamp (by omega)]
    refine ⟨hin, ?_⟩
    rw [sto_ne _ n (nI b) (show (0 : Nat) ≠ 18 by decide), sto_ne τ n (nI a) (show (0 : Nat) ≠ 17 by decide), g2, nI_clamp (by omega)]
    refine ⟨hin, ?_⟩
    rw [sto_ne _ n x3 (show (0 : Nat) ≠ 19 by decide), sto_ne _ n (nI b) (show (0 : Nat) ≠ 18 by decide), sto_ne τ n (nI a) (show (0 : Nat) ≠ 17 by decide), g2, nI_clamp (by omega)]
    refine ⟨hin, ?_⟩
    rw [sto_ne _ n x4 (show (0 : Nat) ≠ 20 by decide), sto_ne _ n x3 (show (0 : Nat) ≠ 19 by decide), sto_ne _ n (nI b) (show (0 : Nat) ≠ 18 by decide), sto_ne τ n (nI a) (show (0 : Nat) ≠ 17 by decide), g2, nI_clamp (by omega)]
    refine ⟨hin, ?_⟩
    rw [sto_ne _ n (vp_nar .boolean 0) (show (0 : Nat) ≠ 21 by decide), sto_ne _ n x4 (show (0 : Nat) ≠ 20 by decide), sto_ne _ n x3 (show (0 : Nat) ≠ 19 by decide), sto_ne _ n (nI b) (show (0 : Nat) ≠ 18 by decide), sto_ne τ n (nI a) (show (0 : Nat) ≠ 17 by decide), g2, nar0, nI_1]
    refine ⟨by rw [sto_at, sto_at], ?_⟩
    refine Inv_gau (σ := σ) (τ := τ) (fun j h => ?_) (fun j h1 h => ?_) (fun k h => ?_) ?_ hI
    · rw [sto_ne _ _ _ (by omega), sto_ne _ _ _ (by omega), sto_ne _ _ _ (by omega), sto_ne _ _ _ (by omega), sto_ne _ _ _ (by omega)]
    · rw [sto_ne _ _ _ (by omega), sto_ne _ _ _ (by omega), sto_ne _ _ _ (by omega), sto_ne _ _ _ (by omega), sto_ne _ _ _ (by omega), sto_ne _ _ _ (by omega)]
    · rw [sto_off _ _ _ h, sto_ne _ _ _ (by omega), sto_ne _ _ _ (by omega), sto_ne _ _ _ (by omega), sto_ne _ _ _ (by omega), sto_ne _ _ _ (by omega)]
    refine ⟨n + 1, by omega, by rw [sto_at], by rw [sto_at], fun i hi => ?_, fun i h1 h2 => ?_, fun i hi => ?_⟩
    · have e9 : sto (sto (sto (sto (sto σ 10 n (nI a)) 11 n (nI b)) 12 n x3) 13 n x4) 8 0 (nI (n + 1)) 9 = σ 9 := by
        rw [sto_ne _ _ _ (by decide), sto_ne _ _ _ (by decide), sto_ne _ _ _ (by decide), sto_ne _ _ _ (by decide), sto_ne _ _ _ (by decide)]
      rw [e9, sto_ne _ _ _ (by decide)]
      by_cases e : i = n
      · subst e
        rw [sto_at]
        exact ⟨g4 i (Nat.le_refl _) hi, (g3 i hi).2⟩
      · rw [sto_off _ _ _ e, sto_ne _ _ _ (by decide), sto_ne _ _ _ (by decide), sto_ne _ _ _ (by decide), sto_ne _ _ _ (by decide)]
        exact g3 i hi
    · rw [sto_ne _ _ _ (by decide), sto_ne _ _ _ (by decide), sto_ne _ _ _ (by decide), sto_ne _ _ _ (by decide), sto_ne _ _ _ (by decide)]
      exact g4 i (by omega) h2
    · rw [sto_ne (j' := 10) _ _ _ (by decide), sto_ne (j' := 10) _ _ _ (by decide), sto_ne (j' := 10) _ _ _ (by decide), sto_ne (j' := 10) _ _ _ (by decide), sto_ne (j' := 11) _ _ _ (by decide), sto_ne (j' := 11) _ _ _ (by decide), sto_ne (j' := 11) _ _ _ (by decide), sto_ne (j' := 12) _ _ _ (by decide), sto_ne (j' := 12) _ _ _ (by decide), sto_ne (j' := 13) _ _ _ (by decide), sto_ne (j' := 17) _ _ _ (by decide), sto_ne (j' := 17) _ _ _ (by decide), sto_ne (j' := 17) _ _ _ (by decide), sto_ne (j' := 17) _ _ _ (by decide), sto_ne (j' := 17) _ _ _ (by decide), sto_ne (j' := 18) _ _ _ (by decide), sto_ne (j' := 18) _ _ _ (by decide), sto_ne (j' := 18) _ _ _ (by decide), sto_ne (j' := 18) _ _ _ (by decide), sto_ne (j' := 19) _ _ _ (by decide), sto_ne (j' := 19) _ _ _ (by decide), sto_ne (j' := 19) _ _ _ (by decide), sto_ne (j' := 20) _ _ _ (by decide), sto_ne (j' := 20) _ _ _ (by decide)]
      by_cases e : i = n
      · subst e
        simp only [sto_at]
        exact ⟨⟨a, by omega, rfl, rfl⟩, ⟨b, hb, rfl, rfl⟩, trivial, trivial⟩
      · rw [sto_off _ _ _ e, sto_off _ _ _ e, sto_off _ _ _ e, sto_off _ _ _ e, sto_off _ _ _ e, sto_off _ _ _ e, sto_off _ _ _ e, sto_off _ _ _ e]
        simp only [sto_ne _ _ _ (show (11 : Nat) ≠ 10 by decide), sto_ne _ _ _ (show (12 : Nat) ≠ 11 by decide), sto_ne _ _ _ (show (12 : Nat) ≠ 10 by decide), sto_ne _ _ _ (show (13 : Nat) ≠ 12 by decide), sto_ne _ _ _ (show (13 : Nat) ≠ 11 by decide), sto_ne _ _ _ (show (13 : Nat) ≠ 10 by decide), sto_ne _ _ _ (show (18 : Nat) ≠ 17 by decide), sto_ne _ _ _ (show (19 : Nat) ≠ 18 by decide), sto_ne _ _ _ (show (19 : Nat) ≠ 17 by decide), sto_ne _ _ _ (show (20 : Nat) ≠ 19 by decide), sto_ne _ _ _ (show (20 : Nat) ≠ 18 by decide), sto_ne _ _ _ (show (20 : Nat) ≠ 17 by decide)]
        exact g5 i (by omega)
theorem E_out (x1 x2 : Int32) {σ τ : Sg} (hI : Inv σ τ) : wX11_out x1 x2 σ (fun r σ' => wX12_out x1 x2 τ (fun r' τ' => r = r' ∧ Inv σ' τ')) := by
  obtain ⟨n, hn, g1, g2, g3, g4, g5⟩ := hI.2.2.2.2.2.1
  unfold wX11_out wX12_out wX11_out_b26 wX12_out_b23 wX11_out_b48 wX12_out_b43
  simp only [p_isWithin, p_within, p_refused, ite10, g1, g2]
  by_cases c1 : 0 ≤ x1 ∧ x1 ≤ nI n - 1
  case neg =>
    simp only [c1, not_false_eq_true, true_implies, not_true_eq_false, false_implies, and_true]
    exact ⟨by decide, hI⟩
  by_cases c2 : 0 ≤ x2 ∧ x2 ≤ 1
  case neg =>
    simp only [c1, c2, not_false_eq_true, true_implies, not_true_eq_false, false_implies, and_true, true_and]
    exact ⟨by decide, hI⟩
  simp only [c1, c2, not_false_eq_true, true_implies, not_true_eq_false, false_implies, and_true, true_and]
  obtain ⟨k, hk, rfl⟩ := rng0 (by omega) c1
  have hin : vp_in (nI k) 12 := vp_in_nI (by omega) (by decide)
  rw [nI_clamp (by omega), nar0, nar1]
  have key : ∀ v : Int32, v = 0 ∨ v = 1 → Inv (sto σ 9 k v) (sto τ 21 k v) := by
    intro v hv
    refine Inv_gau (σ := σ) (τ := τ) (fun j h => sto_ne _ _ _ (by omega)) (fun j h1 h => sto_ne _ _ _ (by omega)) (fun k h => by rw [sto_ne _ _ _ (by omega)]) ?_ hI
    refine ⟨n, hn, by rw [sto_ne _ _ _ (by omega)]; exact g1, by rw [sto_ne _ _ _ (by omega)]; exact g2, fun i hi => ?_, fun i h1 h2 => ?_, fun i hi => ?_⟩
    · by_cases e : i = k
      · subst e; rw [sto_at, sto_at]; exact ⟨rfl, hv⟩
      · rw [sto_off _ _ _ e, sto_off _ _ _ e]; exact g3 i hi
    · rw [sto_off _ _ _ (by omega)]; exact g4 i h1 h2
    · rw [sto_ne _ _ _ (by omega), sto_ne _ _ _ (by omega), sto_ne _ _ _ (by omega), sto_ne _ _ _ (by omega), sto_ne _ _ _ (by omega), sto_ne _ _ _ (by omega), sto_ne _ _ _ (by omega), sto_ne _ _ _ (by omega)]
      exact g5 i hi
  by_cases c3 : x2 = 1
  · simp only [c3, hin, not_false_eq_true, true_implies, not_true_eq_false, false_implies, and_true, true_and, forall_eq]
    exact key 1 (Or.inr rfl)
  · simp only [c3, hin, not_false_eq_true, true_implies, not_true_eq_false, false_implies, and_true, true_and, forall_eq]
    exact key 0 (Or.inl rfl)
