/-! count, start -/
def sm (b : Nat → Int32) : Nat → Int32
  | 0 => 0
  | m + 1 => sm b m + b m
theorem sm_congr {a b : Nat → Int32} : ∀ {n : Nat}, (∀ k, k < n → a k = b k) → sm a n = sm b n
  | 0, _ => rfl
  | n + 1, h => by unfold sm; rw [sm_congr (fun k hk => h k (by omega)), h n (by omega)]
theorem i32_add0 (x : Int32) : x + 0 = x := Int32.add_zero x
theorem p_rowsT {σ : Sg} {K : Int32 → Sg → Prop} {Q : Int32 → Sg → Prop} (hK : K (sm (fun k => if σ (59 + 2 * k) 1 = 0 then 0 else 1) 8) σ) : ∀ (d i : Nat), i + d = 8 → wX11_rowsThere_L4 K Q (d + 1) (sm (fun k => if σ (59 + 2 * k) 1 = 0 then 0 else 1) i) (nI i) σ
  | 0, i, hi => by
    unfold wX11_rowsThere_L4
    have e : i = 8 := by omega
    subst e
    exact ⟨fun _ => hK, fun q => absurd (nI_le (a := 8) (Nat.le_refl _) (by decide)) q⟩
  | d + 1, i, hi => by
    unfold wX11_rowsThere_L4 wX11_rowsThere_b25
    refine ⟨fun q => absurd q (nI_ge (b := 8) (by omega) (by decide)), fun _ => ⟨vp_in_nI (by omega) (by decide), fun r er => ?_⟩⟩
    rw [nI_clamp (by omega)] at er
    subst er
    have ih := p_rowsT (Q := Q) hK d (i + 1) (by omega)
    refine ⟨fun q x2 e2 => ?_, fun q x1 e1 x2 e2 => ?_⟩
    · rw [nI_1] at e2
      subst e2
      unfold sm at ih
      simp only [q, if_true, i32_add0] at ih
      exact ih
    · rw [nI_1] at e2
      subst e2 e1
      unfold sm at ih
      simp only [q, if_false] at ih
      exact ih
theorem p_manyR {τ : Sg} {K : Int32 → Sg → Prop} {Q : Int32 → Sg → Prop} (hK : K (sm (fun k => if 0 ≤ τ 1 k then 1 else 0) 8) τ) : ∀ (d i : Nat), i + d = 8 → wX12_manyRows_L4 K Q (d + 1) (sm (fun k => if 0 ≤ τ 1 k then 1 else 0) i) (nI i) τ
  | 0, i, hi => by
    unfold wX12_manyRows_L4
    have e : i = 8 := by omega
    subst e
    exact ⟨fun _ => hK, fun q => absurd (nI_le (a := 8) (Nat.le_refl _) (by decide)) q⟩
  | d + 1, i, hi => by
    unfold wX12_manyRows_L4 wX12_manyRows_b25
    rw [nI_clamp (by omega)]
    have ih := p_manyR (Q := Q) hK d (i + 1) (by omega)
    refine ⟨fun q => absurd q (nI_ge (b := 8) (by omega) (by decide)), fun _ => ⟨vp_in_nI (by omega) (by decide), fun q x1 e1 x2 e2 => ?_, fun q x1 e1 x2 e2 => ?_⟩⟩
    · rw [nI_1] at e2
      subst e2 e1
      unfold sm at ih
      simp only [q, if_true] at ih
      exact ih
    · rw [nI_1] at e2
      subst e2 e1
      unfold sm at ih
      simp only [q, if_false] at ih
      exact ih
theorem p_outB {σ : Sg} {n : Nat} (hn : n ≤ 12) (h8 : σ 8 0 = nI n) {K : Int32 → Sg → Prop} {Q : Int32 → Sg → Prop} (hK : K (sm (fun k => if σ 9 k = 0 then 0 else 1) n) σ) : ∀ (d i : Nat), i + d = n → wX4_howManyOut_L4 K Q (d + 1) (sm (fun k => if σ 9 k = 0 then 0 else 1) i) (nI i) σ
  | 0, i, hi => by
    unfold wX4_howManyOut_L4
    have e : i = n := by omega
    subst e
    rw [h8]
    exact ⟨fun _ => hK, fun q => absurd (nI_le (Nat.le_refl _) (by omega)) q⟩
  | d + 1, i, hi => by
    unfold wX4_howManyOut_L4 wX4_howManyOut_b24
    rw [h8, nI_clamp (by omega)]
    have ih := p_outB hn h8 (Q := Q) hK d (i + 1) (by omega)
    refine ⟨fun q => absurd q (nI_ge (by omega) (by omega)), fun _ => ⟨vp_in_nI (by omega) (by decide), fun q x2 e2 => ?_, fun q x1 e1 x2 e2 => ?_⟩⟩
    · rw [nI_1] at e2
      subst e2
      unfold sm at ih
      simp only [q, if_true, i32_add0] at ih
      exact ih
    · rw [nI_1] at e2
      subst e2 e1
      unfold sm at ih
      simp only [q, if_false] at ih
      exact ih
theorem p_outM {τ : Sg} {n : Nat} (hn : n ≤ 12) (h8 : τ 0 28 = nI n) {K : Int32 → Sg → Prop} {Q : Int32 → Sg → Prop} (hK : K (sm (fun k => if τ 21 k = 0 then 0 else 1) n) τ) : ∀ (d i : Nat), i + d = n → wX12_manyOut_L4 K Q (d + 1) (sm (fun k => if τ 21 k = 0 then 0 else 1) i) (nI i) τ
  | 0, i, hi => by
    unfold wX12_manyOut_L4
    have e : i = n := by omega
    subst e
    rw [h8]
    exact ⟨fun _ => hK, fun q => absurd (nI_le (Nat.le_refl _) (by omega)) q⟩
  | d + 1, i, hi => by
    unfold wX12_manyOut_L4 wX12_manyOut_b27
    rw [h8, nI_clamp (by omega)]
    have ih := p_outM hn h8 (Q := Q) hK d (i + 1) (by omega)
    refine ⟨fun q => absurd q (nI_ge (by omega) (by omega)), fun _ => ⟨vp_in_nI (by omega) (by decide), fun q x1 e1 x2 e2 => ?_, fun q x1 e1 x2 e2 => ?_⟩⟩
    · rw [nI_1] at e2
      subst e2 e1
      unfold sm at ih
      simp only [q, if_true] at ih
      exact ih
    · rw [nI_1] at e2
      subst e2 e1
      unfold sm at ih
      simp only [q, if_false] at ih
      exact ih
theorem E_count (x1 : Int32) {σ τ : Sg} (hI : Inv σ τ) : wX11_count x1 σ (fun r σ' => wX12_count x1 τ (fun r' τ' => r = r' ∧ Inv σ' τ')) := by
  obtain ⟨T, ns, nn, bg, op, nu, sz, t1, t2, t3, t4, t5, hX, hB, hM⟩ := hI.2.2.2.1
  obtain ⟨⟨q, hq1, hq2, b1, b2⟩, b3, b4, b5⟩ := hI.2.2.2.2.1
  obtain ⟨g, hg, g1, g2, g3, g4, g5⟩ := hI.2.2.2.2.2.1
  obtain ⟨p, hp, s1, s2, s3⟩ := hI.2.2.2.2.2.2.1
  obtain ⟨⟨t, ht, u1, u2⟩, u3, u4⟩ := hI.2.2.1
  unfold wX11_count wX12_count wX11_rowsThere wX12_manyRows wX4_howManyOut wX12_manyOut
  simp only [p_refused, forall_eq, t2, sten_clamp t1, t1, true_and, hB.1, hB.2.1, hM.1, hM.2.1, b1, b2, g1, g2, s1, s2, u1, u2]
  by_cases c0 : x1 = 0
  · simp only [c0, not_false_eq_true, true_implies, not_true_eq_false, false_implies, and_true, true_and]
    refine ⟨9, p_rowsT (σ := σ) ?_ 8 0 rfl⟩
    refine ⟨9, p_manyR (τ := τ) ?_ 8 0 rfl⟩
    refine ⟨congrArg Int32.toInt64 (sm_congr (fun k hk => ?_)), hI⟩
    have hR := (hI.1 k hk).2.2
    rcases hR with ⟨r4, r5⟩ | ⟨r4, la, hla, r5, r6⟩
    · rw [r4, r5]; decide
    · rw [r4, r6, if_neg one_ne, if_pos (nI_pos' (by omega))]
  simp only [c0, not_false_eq_true, true_implies, not_true_eq_false, false_implies, and_true, true_and]
  by_cases c1 : x1 = 1
  · simp only [c1, not_false_eq_true, true_implies, not_true_eq_false, false_implies, and_true, true_and]; exact hI
  simp only [c1, not_false_eq_true, true_implies, not_true_eq_false, false_implies, and_true, true_and]
  by_cases c2 : x1 = 2
  · simp only [c2, not_false_eq_true, true_implies, not_true_eq_false, false_implies, and_true, true_and]; exact hI
  simp only [c2, not_false_eq_true, true_implies, not_true_eq_false, false_implies, and_true, true_and]
  by_cases c3 : x1 = 3
  · simp only [c3, not_false_eq_true, true_implies, not_true_eq_false, false_implies, and_true, true_and]; exact hI
  simp only [c3, not_false_eq_true, true_implies, not_true_eq_false, false_implies, and_true, true_and]
  by_cases c4 : x1 = 4
  · simp only [c4, not_false_eq_true, true_implies, not_true_eq_false, false_implies, and_true, true_and]; exact hI
  simp only [c4, not_false_eq_true, true_implies, not_true_eq_false, false_implies, and_true, true_and]
  by_cases c5 : x1 = 5
  · simp only [c5, not_false_eq_true, true_implies, not_true_eq_false, false_implies, and_true, true_and]
    refine ⟨g + 1, p_outB (σ := σ) hg g1 ?_ g 0 (by omega)⟩
    refine ⟨g + 1, p_outM (τ := τ) hg g2 ?_ g 0 (by omega)⟩
    exact ⟨congrArg Int32.toInt64 (sm_congr (fun k hk => by rw [(g3 k (by omega)).1])), hI⟩
  simp only [c5, not_false_eq_true, true_implies, not_true_eq_false, false_implies, and_true, true_and]
  by_cases c6 : x1 = 6
  · simp only [c6, not_false_eq_true, true_implies, not_true_eq_false, false_implies, and_true, true_and]; exact hI
  simp only [c6, not_false_eq_true, true_implies, not_true_eq_false, false_implies, and_true, true_and]
  by_cases c7 : x1 = 7
  · simp only [c7, not_false_eq_true, true_implies, not_true_eq_false, false_implies, and_true, true_and]; exact hI
  simp only [c7, not_false_eq_true, true_implies, not_true_eq_false, false_implies, and_true, true_and]
  exact ⟨by decide, hI⟩
theorem p_startL {n k j : Nat} (hn : n ≤ 10) (hk : k < 8) (hj : j + n ≤ 20) {K : Sg → Prop} {Q : Int64 → Sg → Prop} (τ : Sg) (h19 : τ 0 19 = nI n) (hK : K (cpy τ 3 10 (20 * k + j) 0 n)) : ∀ (d i : Nat), i + d = n → wX12_start_L69 (nI k) (nI j) K Q (d + 1) (nI i) (cpy τ 3 10 (20 * k + j) 0 i)
  | 0, i, hi => by
    unfold wX12_start_L69
    have e : i = n := by omega
    subst e
    rw [cpy_ne (j := 0) _ _ _ _ (by decide), h19]
    exact ⟨fun _ => hK, fun q => absurd (nI_le (Nat.le_refl _) (by omega)) q⟩
  | d + 1, i, hi => by
    unfold wX12_start_L69
    rw [cpy_ne (j := 0) _ _ _ _ (by decide), h19, ix20, nI_add, cpy_ne (j := 3) _ _ _ _ (by decide)]
    refine ⟨fun q => absurd q (nI_ge (by omega) (by omega)), fun _ => ⟨vp_in_nI (by omega) (by decide), vp_in_nI (by omega) (by decide), ?_⟩⟩
    intro σ4 e4 x1 e1
    rw [nI_clamp (by omega), nI_clamp (by omega)] at e4
    have e5 := cpy_succ τ 3 10 (20 * k + j) 0 i
    rw [Nat.zero_add] at e5
    rw [e5] at e4
    rw [nI_1] at e1
    subst e4 e1
    exact p_startL hn hk hj τ h19 hK d (i + 1) (by omega)
theorem E_start (x1 x2 : Int32) {σ τ : Sg} (hI : Inv σ τ) : wX11_start x1 x2 σ (fun r σ' => wX12_start x1 x2 τ (fun r' τ' => r = r' ∧ Inv σ' τ')) := by
  obtain ⟨⟨q, hq1, hq2, b1, b2⟩, b3, b4, b5⟩ := hI.2.2.2.2.1
  unfold wX11_start wX12_start wX12_start_b56
  simp only [p_isRowB, p_isRowM, p_found, p_foundNothing, p_finds, p_refused, ite10]
  by_cases c1 : 0 ≤ x1 ∧ x1 ≤ 7
  case neg =>
    simp only [c1, not_false_eq_true, true_implies, not_true_eq_false, false_implies, and_true]
    exact ⟨by decide, hI⟩
  simp only [c1, not_false_eq_true, true_implies, not_true_eq_false, false_implies, and_true, true_and]
  obtain ⟨k, hk, rfl⟩ := x_le 7 (by decide) c1
  have hin : vp_in (nI k) 8 := vp_in_nI (by omega) (by decide)
  rw [nI_clamp (by omega)]
  refine ⟨hin, fun w hw => ?_⟩
  have hR := hI.1 k (by omega)
  unfold IRow at hR
  rw [← hw] at hR
  obtain ⟨r1, ⟨n, hn, r2, r3⟩, r4⟩ := hR
  rcases r4 with ⟨r4, r5⟩ | ⟨r4, la, hla, r5, r6⟩
  · simp only [r4, r5, m1_neg, hin, not_false_eq_true, true_implies, not_true_eq_false, false_implies, and_true, true_and]
    exact Inv_st 1 hI
  · have q0 : 0 ≤ nI la := nI_pos' (by omega)
    have hqT := nI_toInt (n := q) (by omega)
    have hnT := nI_toInt (n := n) (by omega)
    simp only [r4, r6, r3, q0, one_ne, hin, not_false_eq_true, true_implies, not_true_eq_false, false_implies, and_true, true_and, p_has r2 hn, ite10, b1, b2]
    by_cases c2 : 0 ≤ x2.toInt ∧ 0 ≤ (nI q).toInt ∧ x2.toInt + (nI q).toInt ≤ n
    case neg =>
      simp only [c2, not_false_eq_true, true_implies, not_true_eq_false, false_implies, and_true, true_and]
      have hJ := Inv_st 2 hI
      refine ⟨fun _ => hJ, fun z1 => ⟨fun _ => hJ, fun z2 => ⟨fun z3 => ?_, fun _ => hJ⟩⟩⟩
      exfalso
      apply c2
      rw [fa_lt, z_toInt] at z1
      rw [fa_le, toInt_nI_sub (by omega) (by omega)] at z3
      omega
    obtain ⟨j, hj, rfl⟩ := nI_ofInt c2.1
    have hjn : j + q ≤ n := by have := c2.2.2; omega
    simp only [c2, not_false_eq_true, true_implies, not_true_eq_false, false_implies, and_true, true_and]
    refine ⟨cpok_of (b := 0) (by omega) (by omega) (by decide) (by decide), fun σ9 e9 => ?_⟩
    rw [nI_clamp (by omega), nI_clamp (by omega)] at e9
    have z1 : ¬ nI j < 0 := nI_pos (by omega)
    have z2 : ¬ nI n < nI j := nI_nlt (by omega) (by omega)
    have z3 : nI q ≤ nI n - nI j := by rw [pk_sub (by omega)]; exact nI_le (by omega) (by omega)
    simp only [z1, z2, z3, not_false_eq_true, true_implies, not_true_eq_false, false_implies, and_true, true_and]
    intro τ1 f1
    refine ⟨q + 1, ?_⟩
    have hL := fun K Q h => p_startL (n := q) (k := k) (j := j) hq2 (by omega) (by omega) (K := K) (Q := Q) τ1 (by rw [f1, sto_off _ _ _ (by decide)]; exact b2) h q 0 (by omega)
    rw [cpy_0, nI_0] at hL
    refine hL _ _ ?_
    have f9 : σ9 4 = σ 4 := by rw [e9, cpy_ne _ _ _ _ (by decide)]
    refine ⟨?_, ?_⟩
    · rw [f9, b1, cpy_ne _ _ _ _ (by decide), f1, sto_off _ _ _ (by decide), b2]
    · subst e9 f1
      have hJ := Inv_st 0 hI
      obtain ⟨⟨q', hq1', hq2', b1', b2'⟩, b3', b4', b5'⟩ := hJ.2.2.2.2.1
      have ec : sto (cpy σ (w + 1) 5 j 0 q) 0 1 0 = cpy (sto σ 0 1 0) (w + 1) 5 j 0 q := by
        funext a
        by_cases ea : a = 0
        · subst ea
          rw [sto_same, cpy_ne _ _ _ _ (by decide), cpy_ne _ _ _ _ (by decide), sto_same]
        · rw [sto_ne _ _ _ ea]
          by_cases eb : a = 5
          · subst eb
            funext i
            rw [cpy_same, cpy_same, sto_ne _ _ _ (by omega), sto_ne _ _ _ (by decide)]
          · rw [cpy_ne _ _ _ _ eb, cpy_ne _ _ _ _ eb, sto_ne _ _ _ ea]
      rw [ec]
      refine Inv_bay (σ := sto σ 0 1 0) (τ := sto τ 0 0 0) (fun a h => cpy_ne _ _ _ _ (by omega)) (fun a h1 h2 h3 h4 => cpy_ne _ _ _ _ (by omega)) (fun a h => by rw [cpy_ne _ _ _ _ (by omega)]) ?_ hJ
      refine ⟨⟨q', hq1', hq2', by rw [cpy_ne _ _ _ _ (by omega)]; exact b1', by rw [cpy_ne _ _ _ _ (by omega)]; exact b2'⟩, fun i hi => ?_, fun i hi => ?_, fun i hi => ?_⟩
      · rw [cpy_same, cpy_same]
        by_cases e : i < q
        · rw [if_pos (by omega), if_pos (by omega), Nat.sub_zero, sto_ne _ _ _ (by omega), sto_ne _ _ _ (by decide), Nat.add_assoc]
          exact r1 (j + i) (by omega)
        · rw [if_neg (by omega), if_neg (by omega)]; exact b3' i hi
      · rw [cpy_ne _ _ _ _ (by omega), cpy_ne _ _ _ _ (by omega)]; exact b4' i hi
      · rw [cpy_ne _ _ _ _ (by omega), cpy_ne _ _ _ _ (by omega)]; exact b5' i hi
