/-! rows: row, set, copy, drop, status -/
theorem Inv_rows {σ σ' τ τ' : Sg} (hσ : ∀ j, j ≠ 0 → j < 59 → σ' j = σ j) (h3 : σ' 0 3 = σ 0 3) (h4 : σ' 0 4 = σ 0 4) (hτ : ∀ j, 3 < j → τ' j = τ j) (hτ0 : ∀ k, k ≠ 0 → τ' 0 k = τ 0 k) (hst : σ' 0 1 = τ' 0 0) (hr : IRows σ' τ') (h : Inv σ τ) : Inv σ' τ' := by
  obtain ⟨-, -, a3, a4, a5, a6, a7, a8, a9⟩ := h
  refine ⟨hr, hst, ?_, ?_, ?_, ?_, ?_, ?_, ?_⟩
  · exact ITape_fr (hσ 2 (by omega) (by omega)) (hσ 3 (by omega) (by omega)) (hτ0 5 (by omega)) (hτ0 12 (by omega)) (hτ 4 (by omega)) a3
  · exact IText_fr h3 h4 (fun j h1 h2 => hσ j (by omega) (by omega)) (hτ0 6 (by omega)) (hτ0 7 (by omega)) (hτ 5 (by omega)) (hτ 6 (by omega)) (hτ 7 (by omega)) (hτ 8 (by omega)) a4
  · exact IBay_fr (hσ 4 (by omega) (by omega)) (hσ 5 (by omega) (by omega)) (hσ 6 (by omega) (by omega)) (hσ 7 (by omega) (by omega)) (hτ0 19 (by omega)) (hτ 10 (by omega)) (hτ 11 (by omega)) (hτ 12 (by omega)) a5
  · exact IGau_fr (hσ 8 (by omega) (by omega)) (hσ 9 (by omega) (by omega)) (hσ 10 (by omega) (by omega)) (hσ 11 (by omega) (by omega)) (hσ 12 (by omega) (by omega)) (hσ 13 (by omega) (by omega)) (hτ0 28 (by omega)) (hτ 17 (by omega)) (hτ 18 (by omega)) (hτ 19 (by omega)) (hτ 20 (by omega)) (hτ 21 (by omega)) a6
  · exact IStp_fr (fun j h1 h2 => hσ j (by omega) (by omega)) (hτ0 42 (by omega)) (hτ 30 (by omega)) (hτ 31 (by omega)) a7
  · exact IAsk_fr (hσ 57 (by omega) (by omega)) (hσ 58 (by omega) (by omega)) (hτ0 47 (by omega)) (hτ 33 (by omega)) a8
  · exact IRed_fr (hσ 45 (by omega) (by omega)) (hσ 46 (by omega) (by omega)) (hσ 47 (by omega) (by omega)) a9
theorem Inv_st {σ τ : Sg} (v : Int32) (h : Inv σ τ) : Inv (sto σ 0 1 v) (sto τ 0 0 v) := by
  refine Inv_rows (fun j h1 _ => sto_ne _ _ _ h1) (sto_off _ _ _ (by decide)) (sto_off _ _ _ (by decide)) (fun j h1 => sto_ne _ _ _ (by omega)) (fun k h1 => sto_off _ _ _ h1) ?_ ?_ h
  · rw [sto_at, sto_at]
  · exact IRows_fr (fun j h1 h2 => sto_ne _ _ _ (by omega)) (sto_ne _ _ _ (by decide)) (sto_ne _ _ _ (by decide)) (sto_ne _ _ _ (by decide)) h.1
theorem x_le {x : Int32} (n : Nat) (hn : n < 2 ^ 31) (h : 0 ≤ x ∧ x ≤ nI n) : ∃ k, k ≤ n ∧ x = nI k := nI_of2 (nI_toInt hn) (i32_nlt.mpr h.1) h.2
theorem ix20 (k i : Nat) : (20 : Int32) * nI k + nI i = nI (20 * k + i) := by
  show nI 20 * nI k + nI i = _
  rw [pk_mul, nI_add]
theorem p_begin {w : Nat} {x1 x2 : Int32} {σ : Sg} {Q : Sg → Prop} (h : Q (fil (sto (sto (sto σ w 1 1) w 2 x1) w 3 x2) (w + 1) 0 20 0)) : wX6_begin w x1 x2 σ Q := by
  unfold wX6_begin
  intro σ1 e1 σ2 e2 σ3 e3
  subst e1 e2 e3
  exact p_fill (by decide) h
theorem p_rowL {k : Nat} (hk : k < 8) {x3 : Int32} {K : Sg → Prop} {Q : Int64 → Sg → Prop} (τ : Sg) (hK : K (fil τ 3 (20 * k) (20 * k + 20) 0)) : ∀ (d i : Nat), i + d = 20 → wX12_row_L59 (nI k) x3 K Q (d + 1) (nI i) (fil τ 3 (20 * k) (20 * k + i) 0)
  | 0, i, hi => by
    unfold wX12_row_L59
    have e : i = 20 := by omega
    subst e
    exact ⟨fun _ => hK, fun q => absurd (nI_le (a := 20) (Nat.le_refl _) (by decide)) q⟩
  | d + 1, i, hi => by
    unfold wX12_row_L59
    refine ⟨fun q => absurd q (nI_ge (b := 20) (by omega) (by decide)), fun _ => ?_⟩
    rw [ix20]
    refine ⟨vp_in_nI (by omega) (by decide), ?_⟩
    intro σ3 e3 x4 e4
    rw [nI_clamp (by omega), fil_succ _ _ _ _ _ (by omega)] at e3
    rw [nI_1] at e4
    subst e3 e4
    exact p_rowL hk τ hK d (i + 1) (by omega)
theorem p_rowX {k : Nat} (hk : k < 8) {x3 : Int32} {K : Sg → Prop} {Q : Int64 → Sg → Prop} {τ : Sg} (hK : K (fil τ 3 (20 * k) (20 * k + 20) 0)) : ∃ nf, wX12_row_L59 (nI k) x3 K Q nf 0 τ := ⟨21, by
  have h := p_rowL hk (x3 := x3) (Q := Q) τ hK 20 0 (by omega)
  rw [show 20 * k + 0 = 20 * k from rfl, fil_0, nI_0] at h
  exact h⟩
theorem E_row (x1 x2 x3 : Int32) {σ τ : Sg} (hI : Inv σ τ) : wX11_row x1 x2 x3 σ (fun r σ' => wX12_row x1 x2 x3 τ (fun r' τ' => r = r' ∧ Inv σ' τ')) := by
  unfold wX11_row wX12_row wX11_row_b22 wX12_row_b22
  simp only [p_isRowB, p_isRowM, p_isWithin, p_within, p_found, p_foundNothing, p_finds, p_refused, ite10]
  by_cases c1 : 0 ≤ x1 ∧ x1 ≤ 7
  case neg =>
    simp only [c1, not_false_eq_true, true_implies, not_true_eq_false, false_implies, and_true]
    exact ⟨by decide, hI⟩
  by_cases c2 : 0 ≤ x2 ∧ x2 ≤ 2
  case neg =>
    simp only [c1, c2, not_false_eq_true, true_implies, not_true_eq_false, false_implies, and_true, true_and]
    exact ⟨by decide, hI⟩
  by_cases c3 : x3 ≤ 20
  case neg =>
    simp only [c1, c2, c3, not_false_eq_true, true_implies, not_true_eq_false, false_implies, and_true, true_and]
    exact ⟨by decide, hI⟩
  by_cases c4 : 0 ≤ x3
  case neg =>
    simp only [c1, c2, c3, c4, not_false_eq_true, true_implies, not_true_eq_false, false_implies, and_true, true_and]
    exact Inv_st 4 hI
  simp only [c1, c2, c3, c4, not_false_eq_true, true_implies, not_true_eq_false, false_implies, and_true, true_and]
  obtain ⟨k, hk, rfl⟩ := x_le 7 (by decide) c1
  obtain ⟨la, hla, rfl⟩ := x_le 2 (by decide) c2
  obtain ⟨n, hn, rfl⟩ := x_le 20 (by decide) ⟨c4, c3⟩
  rw [nI_clamp (by omega)]
  refine ⟨vp_in_nI (by omega) (by decide), ?_⟩
  intro w ew
  refine p_begin ?_
  intro τ1 e1
  refine ⟨vp_in_nI (by omega) (by decide), ?_⟩
  intro τ2 e2
  refine ⟨vp_in_nI (by omega) (by decide), ?_⟩
  intro τ3 e3
  refine p_rowX (by omega) ?_
  subst e1 e2 e3
  have hw : w = 59 + 2 * k := ew
  refine Inv_rows (σ := σ) (τ := τ) (fun j h1 h2 => ?_) ?_ ?_ (fun j h1 => ?_) (fun q h1 => ?_) ?_ ?_ hI
  · rw [sto_ne _ _ _ h1, fil_ne _ _ _ _ (by omega), sto_ne _ _ _ (by omega), sto_ne _ _ _ (by omega), sto_ne _ _ _ (by omega)]
  · rw [sto_off _ _ _ (by decide), fil_ne _ _ _ _ (by omega), sto_ne _ _ _ (by omega), sto_ne _ _ _ (by omega), sto_ne _ _ _ (by omega)]
  · rw [sto_off _ _ _ (by decide), fil_ne _ _ _ _ (by omega), sto_ne _ _ _ (by omega), sto_ne _ _ _ (by omega), sto_ne _ _ _ (by omega)]
  · rw [fil_ne _ _ _ _ (by omega), sto_ne _ _ _ (by omega), sto_ne _ _ _ (by omega), sto_ne _ _ _ (by omega)]
  · rw [fil_ne _ _ _ _ (by omega), sto_ne _ _ _ (by omega), sto_ne _ _ _ (by omega), sto_off _ _ _ h1]
  · rw [sto_at, fil_ne _ _ _ _ (by omega), sto_ne _ _ _ (by omega), sto_ne _ _ _ (by omega), sto_at]
  · intro q hq
    have hR := hI.1 q hq
    by_cases e : q = k
    · subst e
      unfold IRow at hR ⊢
      rw [← hw] at hR ⊢
      refine ⟨fun i hi => ?_, ⟨n, hn, ?_, ?_⟩, Or.inr ⟨?_, la, hla, ?_, ?_⟩⟩
      · rw [sto_ne _ _ _ (by omega), fil_same, fil_same, if_pos (by omega), if_pos (by omega)]
      · rw [sto_ne _ _ _ (by omega), fil_ne _ _ _ _ (by omega), sto_at]
      · rw [fil_ne _ _ _ _ (by omega), sto_at]
      · rw [sto_ne _ _ _ (by omega), fil_ne _ _ _ _ (by omega), sto_off _ _ _ (by decide), sto_off _ _ _ (by decide), sto_at]
      · rw [sto_ne _ _ _ (by omega), fil_ne _ _ _ _ (by omega), sto_off _ _ _ (by decide), sto_at]
      · rw [fil_ne _ _ _ _ (by omega), sto_ne _ _ _ (by omega), sto_at]
    · have a1 : sto (fil (sto (sto (sto σ w 1 1) w 2 (nI la)) w 3 (nI n)) (w + 1) 0 20 0) 0 1 0 (59 + 2 * q + 1) = σ (59 + 2 * q + 1) := by
        rw [sto_ne _ _ _ (by omega), fil_ne _ _ _ _ (by omega), sto_ne _ _ _ (by omega), sto_ne _ _ _ (by omega), sto_ne _ _ _ (by omega)]
      have a2 : sto (fil (sto (sto (sto σ w 1 1) w 2 (nI la)) w 3 (nI n)) (w + 1) 0 20 0) 0 1 0 (59 + 2 * q) = σ (59 + 2 * q) := by
        rw [sto_ne _ _ _ (by omega), fil_ne _ _ _ _ (by omega), sto_ne _ _ _ (by omega), sto_ne _ _ _ (by omega), sto_ne _ _ _ (by omega)]
      unfold IRow at hR ⊢
      rw [a1, a2]
      refine ⟨fun i hi => ?_, ?_, ?_⟩
      · rw [fil_same, if_neg (by omega), sto_ne _ _ _ (by decide), sto_ne _ _ _ (by decide), sto_ne _ _ _ (by decide)]
        exact hR.1 i hi
      · rw [fil_ne _ _ _ _ (by decide), sto_off _ _ _ e, sto_ne _ _ _ (by decide), sto_ne _ _ _ (by decide)]
        exact hR.2.1
      · rw [fil_ne _ _ _ _ (by decide), sto_ne _ _ _ (by decide), sto_off _ _ _ e, sto_ne _ _ _ (by decide)]
        exact hR.2.2
theorem IRows_up {σ σ' τ τ' : Sg} {k : Nat} (hk : IRow σ' τ' k) (hσ : ∀ j, 59 ≤ j → j < 75 → j ≠ 59 + 2 * k → j ≠ 59 + 2 * k + 1 → σ' j = σ j) (h1 : ∀ q, q ≠ k → τ' 1 q = τ 1 q) (h2 : ∀ q, q ≠ k → τ' 2 q = τ 2 q) (h3 : ∀ i, (i < 20 * k ∨ 20 * k + 20 ≤ i) → τ' 3 i = τ 3 i) (h : IRows σ τ) : IRows σ' τ' := by
  intro q hq
  by_cases e : q = k
  · subst e; exact hk
  have hR := h q hq
  unfold IRow at hR ⊢
  rw [hσ (59 + 2 * q + 1) (by omega) (by omega) (by omega) (by omega), hσ (59 + 2 * q) (by omega) (by omega) (by omega) (by omega), h1 q e, h2 q e]
  exact ⟨fun i hi => by rw [h3 _ (by omega)]; exact hR.1 i hi, hR.2.1, hR.2.2⟩
theorem m1_neg : ¬ (0 : Int32) ≤ -1 := by decide
theorem one_ne : ¬ (1 : Int32) = 0 := by decide
theorem E_drop (x1 : Int32) {σ τ : Sg} (hI : Inv σ τ) : wX11_drop x1 σ (fun r σ' => wX12_drop x1 τ (fun r' τ' => r = r' ∧ Inv σ' τ')) := by
  unfold wX11_drop wX12_drop
  simp only [p_isRowB, p_isRowM, p_found, p_foundNothing, p_finds, p_refused, ite10]
  by_cases c1 : 0 ≤ x1 ∧ x1 ≤ 7
  case neg =>
    simp only [c1, not_false_eq_true, true_implies, not_true_eq_false, false_implies, and_true]
    exact ⟨by decide, hI⟩
  simp only [c1, not_false_eq_true, true_implies, not_true_eq_false, false_implies, and_true, true_and]
  obtain ⟨k, hk, rfl⟩ := x_le 7 (by decide) c1
  have hin : vp_in (nI k) 8 := vp_in_nI (by omega) (by decide)
  rw [nI_clamp (by omega)]
  refine ⟨hin, fun w hw => ?_⟩
  have hR := hI.1 k (by omega)
  unfold IRow at hR
  rw [← hw] at hR
  obtain ⟨r1, ⟨n, hn, r2, r3⟩, r4⟩ := hR
  rcases r4 with ⟨r4, r5⟩ | ⟨r4, la, hla, r5, r6⟩
  · simp only [r4, r5, m1_neg, hin, not_false_eq_true, true_implies, not_true_eq_false, false_implies, and_true, true_and]
    exact Inv_st 1 hI
  · have q0 : 0 ≤ nI la := nI_pos' (by omega)
    simp only [r4, r6, q0, one_ne, hin, not_false_eq_true, true_implies, not_true_eq_false, false_implies, and_true, true_and, forall_eq]
    refine ⟨?_, ?_⟩
    · rw [sto_off _ _ _ (by decide), r2, sto_ne _ _ _ (by decide), sto_ne _ _ _ (by decide), r3]
    · refine Inv_rows (σ := σ) (τ := τ) (fun j h1 h2 => ?_) ?_ ?_ (fun j h1 => ?_) (fun q h1 => ?_) ?_ ?_ hI
      · rw [sto_ne _ _ _ h1, sto_ne _ _ _ (by omega)]
      · rw [sto_off _ _ _ (by decide), sto_ne _ _ _ (by omega)]
      · rw [sto_off _ _ _ (by decide), sto_ne _ _ _ (by omega)]
      · rw [sto_ne _ _ _ (by omega), sto_ne _ _ _ (by omega)]
      · rw [sto_ne _ _ _ (by omega), sto_off _ _ _ h1]
      · rw [sto_at, sto_ne _ _ _ (by omega), sto_at]
      · refine IRows_up (k := k) ?_ (fun j a b c d => ?_) (fun q a => ?_) (fun q a => ?_) (fun i a => ?_) hI.1
        · unfold IRow
          rw [← hw]
          refine ⟨fun i hi => ?_, ⟨n, hn, ?_, ?_⟩, Or.inl ⟨?_, ?_⟩⟩
          · rw [sto_ne _ _ _ (by omega), sto_ne _ _ _ (by omega), sto_ne _ _ _ (by omega), sto_ne _ _ _ (by omega)]
            exact r1 i hi
          · rw [sto_ne _ _ _ (by omega), sto_off _ _ _ (by decide), r2]
          · rw [sto_ne _ _ _ (by omega), sto_ne _ _ _ (by omega), r3]
          · rw [sto_ne _ _ _ (by omega), sto_at]
          · rw [sto_at]
        · rw [sto_ne _ _ _ (by omega), sto_ne _ _ _ (by omega)]
        · rw [sto_off _ _ _ a, sto_ne _ _ _ (by omega)]
        · rw [sto_ne _ _ _ (by omega), sto_ne _ _ _ (by omega)]
        · rw [sto_ne _ _ _ (by omega), sto_ne _ _ _ (by omega)]
theorem toInt_nI_sub {n : Nat} {x : Int32} (hn : n < 2 ^ 31) (hx : 0 ≤ x.toInt) : (nI n - x).toInt = (n : Int) - x.toInt := by
  have h1 := nI_toInt hn
  have h2 := fb_rng x
  rw [fb_subI (by rw [h1]; omega) (by rw [h1]; omega), h1]
theorem z_toInt : (0 : Int32).toInt = 0 := rfl
theorem o_toInt : (1 : Int32).toInt = 1 := rfl
theorem p_has {w n : Nat} {x c : Int32} {σ : Sg} {Q : Int32 → Sg → Prop} (hs : σ w 3 = nI n) (hn : n ≤ 20) : wX6_has w x c σ Q ↔ Q (if 0 ≤ x.toInt ∧ 0 ≤ c.toInt ∧ x.toInt + c.toInt ≤ n then 1 else 0) σ := by
  unfold wX6_has wX6_has_b22 wX6_has_b23
  rw [hs]
  by_cases h1 : x < 0
  · have h2 : ¬ (0 ≤ x.toInt ∧ 0 ≤ c.toInt ∧ x.toInt + c.toInt ≤ n) := fun q => by
      have := (fa_lt _ _).mp h1
      rw [z_toInt] at this
      omega
    simp only [h1, h2, bok0, if_false, not_true_eq_false, false_implies, true_implies, true_and, and_true]
  · have e1 : 0 ≤ x.toInt := by
      have := mt (fa_lt _ _).mpr h1
      rw [z_toInt] at this
      omega
    by_cases h3 : c < 0
    · have h2 : ¬ (0 ≤ x.toInt ∧ 0 ≤ c.toInt ∧ x.toInt + c.toInt ≤ n) := fun q => by
        have := (fa_lt _ _).mp h3
        rw [z_toInt] at this
        omega
      simp only [h1, h3, h2, bok0, if_false, not_true_eq_false, not_false_eq_true, false_implies, true_implies, true_and, and_true]
    · have e2 : 0 ≤ c.toInt := by
        have := mt (fa_lt _ _).mpr h3
        rw [z_toInt] at this
        omega
      have e3 := toInt_nI_sub (n := n) (x := x) (by omega) e1
      by_cases h4 : nI n - x < c
      · have h2 : ¬ (0 ≤ x.toInt ∧ 0 ≤ c.toInt ∧ x.toInt + c.toInt ≤ n) := fun q => by
          have := (fa_lt _ _).mp h4
          omega
        simp only [h1, h3, h4, h2, bok0, if_false, not_true_eq_false, not_false_eq_true, false_implies, true_implies, true_and, and_true]
      · have h2 : 0 ≤ x.toInt ∧ 0 ≤ c.toInt ∧ x.toInt + c.toInt ≤ n := ⟨e1, e2, by
          have := mt (fa_lt _ _).mpr h4
          omega⟩
        simp only [h1, h3, h4, h2, bok1, if_true, not_false_eq_true, false_implies, true_implies, true_and, and_self]
theorem nI_ofInt {x : Int32} (h : 0 ≤ x.toInt) : ∃ j : Nat, (j : Int) = x.toInt ∧ x = nI j := by
  refine ⟨x.toInt.toNat, by omega, (fa_eq _ _).mpr ?_⟩
  have := fb_rng x
  rw [nI_toInt (by omega)]
  omega
theorem cut_eq (la : Nat) (v : Int32) (τ : Sg) (Q : Int32 → Sg → Prop) : wX12_cut (nI la) v τ Q ↔ Q (if nI la = 0 then v.toInt8.toInt32 else if nI la = 1 then v.toInt16.toInt32 else v) τ := by
  unfold wX12_cut wX12_cut_b20
  by_cases h : nI la = 0
  · simp only [h, if_true, true_implies, not_true_eq_false, false_implies, and_true]
  · by_cases h1 : nI la = 1
    · simp only [h, h1, if_true, if_false, true_implies, not_true_eq_false, not_false_eq_true, false_implies, and_true, true_and, one_ne]
    · simp only [h, h1, if_true, if_false, true_implies, not_true_eq_false, not_false_eq_true, false_implies, and_true, true_and]
theorem p_put {w la : Nat} {j : Nat} {v : Int32} {σ : Sg} {Q : Int32 → Sg → Prop} (hl : σ w 2 = nI la) (hj : j < 20) : wX6_put w (nI j) v σ Q ↔ Q (if nI la = 0 then v.toInt8.toInt32 else if nI la = 1 then v.toInt16.toInt32 else v) (sto σ (w + 1) j (if nI la = 0 then v.toInt8.toInt32 else if nI la = 1 then v.toInt16.toInt32 else v)) := by
  unfold wX6_put wX6_put_b31
  rw [hl, nI_clamp (by omega)]
  have hin : vp_in (nI j) 20 := vp_in_nI hj (by decide)
  simp only [hin, true_and, forall_eq, sto_at]
  by_cases h : nI la = 0
  · simp only [h, if_true, true_implies, not_true_eq_false, false_implies, and_true]
  · by_cases h1 : nI la = 1
    · simp only [h, h1, if_true, if_false, true_implies, not_true_eq_false, not_false_eq_true, false_implies, and_true, true_and, one_ne]
    · simp only [h, h1, if_true, if_false, true_implies, not_true_eq_false, not_false_eq_true, false_implies, and_true, true_and]
theorem E_set (x1 x2 x3 : Int32) {σ τ : Sg} (hI : Inv σ τ) : wX11_set x1 x2 x3 σ (fun r σ' => wX12_set x1 x2 x3 τ (fun r' τ' => r = r' ∧ Inv σ' τ')) := by
  unfold wX11_set wX12_set
  simp only [p_isRowB, p_isRowM, p_found, p_foundNothing, p_finds, p_refused, ite10]
  by_cases c1 : 0 ≤ x1 ∧ x1 ≤ 7
  case neg =>
    simp only [c1, not_false_eq_true, true_implies, not_true_eq_false, false_implies, and_true]
    exact ⟨by decide, hI⟩
  simp only [c1, not_false_eq_true, true_implies, not_true_eq_false, false_implies, and_true, true_and]
  obtain ⟨k, hk, rfl⟩ := x_le 7 (by decide) c1
  have hin : vp_in (nI k) 8 := vp_in_nI (by omega) (by decide)
  rw [nI_clamp (by omega)]
  refine ⟨hin, fun w hw => ?_⟩
  have hR := hI.1 k (by omega)
  unfold IRow at hR
  rw [← hw] at hR
  obtain ⟨r1, ⟨n, hn, r2, r3⟩, r4⟩ := hR
  rcases r4 with ⟨r4, r5⟩ | ⟨r4, la, hla, r5, r6⟩
  · simp only [r4, r5, m1_neg, hin, not_false_eq_true, true_implies, not_true_eq_false, false_implies, and_true, true_and]
    exact Inv_st 1 hI
  · have q0 : 0 ≤ nI la := nI_pos' (by omega)
    have hwi : (0 ≤ x2 ∧ x2 ≤ nI n - 1) ↔ (0 ≤ x2.toInt ∧ 0 ≤ (1 : Int32).toInt ∧ x2.toInt + (1 : Int32).toInt ≤ n) := by
      have e3 := toInt_nI_sub (n := n) (x := 1) (by omega) (by rw [o_toInt]; omega)
      rw [fa_le, fa_le, e3, z_toInt, o_toInt]
      omega
    simp only [r4, r6, r3, q0, one_ne, hin, not_false_eq_true, true_implies, not_true_eq_false, false_implies, and_true, true_and, p_has r2 hn, p_within, ite10, hwi]
    by_cases c2 : 0 ≤ x2.toInt ∧ 0 ≤ (1 : Int32).toInt ∧ x2.toInt + (1 : Int32).toInt ≤ n
    case neg =>
      simp only [c2, not_false_eq_true, true_implies, not_true_eq_false, false_implies, and_true, true_and]
      exact Inv_st 2 hI
    simp only [c2, not_false_eq_true, true_implies, not_true_eq_false, false_implies, and_true, true_and]
    obtain ⟨j, hj, rfl⟩ := nI_ofInt c2.1
    have hjn : j < n := by have := c2.2.2; rw [o_toInt] at this; omega
    rw [p_put r5 (by omega), ix20, nI_clamp (by omega)]
    have hin2 : vp_in (nI (20 * k + j)) 160 := vp_in_nI (by omega) (by decide)
    intro τ1 e1
    subst e1
    rw [sto_ne _ _ _ (by decide), r6, cut_eq]
    simp only [hin2, true_and, forall_eq, sto_at]
    generalize (if nI la = 0 then x3.toInt8.toInt32 else if nI la = 1 then x3.toInt16.toInt32 else x3) = v
    refine Inv_rows (σ := σ) (τ := τ) (fun j h1 h2 => ?_) ?_ ?_ (fun j h1 => ?_) (fun q h1 => ?_) ?_ ?_ hI
    · rw [sto_ne _ _ _ h1, sto_ne _ _ _ (by omega)]
    · rw [sto_off _ _ _ (by decide), sto_ne _ _ _ (by omega)]
    · rw [sto_off _ _ _ (by decide), sto_ne _ _ _ (by omega)]
    · rw [sto_ne _ _ _ (by omega), sto_ne _ _ _ (by omega)]
    · rw [sto_ne _ _ _ (by omega), sto_off _ _ _ h1]
    · rw [sto_at, sto_ne _ _ _ (by omega), sto_at]
    · refine IRows_up (k := k) ?_ (fun j a b c d => ?_) (fun q a => ?_) (fun q a => ?_) (fun i a => ?_) hI.1
      · unfold IRow
        rw [← hw]
        refine ⟨fun i hi => ?_, ⟨n, hn, ?_, ?_⟩, Or.inr ⟨?_, la, hla, ?_, ?_⟩⟩
        · rw [sto_ne _ _ _ (by omega)]
          by_cases e : i = j
          · subst e
            rw [sto_at, sto_at]
          · rw [sto_off _ _ _ e, sto_off _ _ _ (by omega), sto_ne _ _ _ (by omega)]
            exact r1 i hi
        · rw [sto_ne _ _ _ (by omega), sto_ne _ _ _ (by omega), r2]
        · rw [sto_ne _ _ _ (by omega), sto_ne _ _ _ (by omega), r3]
        · rw [sto_ne _ _ _ (by omega), sto_ne _ _ _ (by omega), r4]
        · rw [sto_ne _ _ _ (by omega), sto_ne _ _ _ (by omega), r5]
        · rw [sto_ne _ _ _ (by omega), sto_ne _ _ _ (by omega), r6]
      · rw [sto_ne _ _ _ (by omega), sto_ne _ _ _ (by omega)]
      · rw [sto_ne _ _ _ (by omega), sto_ne _ _ _ (by omega)]
      · rw [sto_ne _ _ _ (by omega), sto_ne _ _ _ (by omega)]
      · rw [sto_off _ _ _ (by omega), sto_ne _ _ _ (by omega)]
theorem E_status {σ τ : Sg} (hI : Inv σ τ) : wX11_status σ (fun r σ' => wX12_status τ (fun r' τ' => r = r' ∧ Inv σ' τ')) := by
  unfold wX11_status wX12_status
  exact ⟨hI.2.1, hI⟩
