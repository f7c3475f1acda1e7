/-! copy -/
theorem cpy_pred (σ : Sg) (js jd sp dp k : Nat) : sto (cpy σ js jd (sp + 1) (dp + 1) k) jd dp (σ js sp) = cpy σ js jd sp dp (k + 1) := by
  funext j
  by_cases h : j = jd
  · subst h
    funext i
    rw [sto_same, cpy_same]
    by_cases e : i = dp
    · subst e
      rw [pk_us, if_pos (by omega), Nat.sub_self, Nat.add_zero]
    · rw [pk_un e, cpy_same]
      by_cases c : dp + 1 ≤ i ∧ i < dp + 1 + k
      · rw [if_pos c, if_pos (by omega), show sp + 1 + (i - (dp + 1)) = sp + (i - dp) by omega]
      · rw [if_neg c, if_neg (by omega)]
  · rw [sto_ne _ _ _ h, cpy_ne _ _ _ _ h, cpy_ne _ _ _ _ h]
theorem p_cpF {a i b j n : Nat} (ha : a < 8) (hb : b < 8) (hi : i + n ≤ 20) (hj : j + n ≤ 20) (hd : a ≠ b ∨ j ≤ i) {K : Sg → Prop} {Q : Int64 → Sg → Prop} (τ : Sg) (hK : K (cpy τ 3 3 (20 * a + i) (20 * b + j) n)) : ∀ (d q : Nat), q + d = n → wX12_copy_L165 (nI a) (nI i) (nI b) (nI j) (nI n) 0 K Q (d + 1) (nI q) (cpy τ 3 3 (20 * a + i) (20 * b + j) q)
  | 0, q, hq => by
    unfold wX12_copy_L165
    have e : q = n := by omega
    subst e
    exact ⟨fun _ => hK, fun z => absurd (nI_le (Nat.le_refl _) (by omega)) z⟩
  | d + 1, q, hq => by
    unfold wX12_copy_L165 wX12_copy_b189
    refine ⟨fun z => absurd z (nI_ge (by omega) (by omega)), fun _ => ⟨fun _ => ?_, fun z => absurd rfl z⟩⟩
    rw [ix20, ix20, nI_add, nI_add, nI_clamp (by omega), nI_clamp (by omega)]
    refine ⟨vp_in_nI (by omega) (by decide), vp_in_nI (by omega) (by decide), fun σ4 e4 x8 e8 => ?_⟩
    rw [cpy_same, if_neg (by omega), cpy_succ] at e4
    rw [nI_1] at e8
    subst e4 e8
    exact p_cpF ha hb hi hj hd τ hK d (q + 1) (by omega)
theorem p_cpU {a i b j n : Nat} (ha : a < 8) (hb : b < 8) (hi : i + n ≤ 20) (hj : j + n ≤ 20) (hd : a ≠ b ∨ i ≤ j) {K : Sg → Prop} {Q : Int64 → Sg → Prop} (τ : Sg) (hK : K (cpy τ 3 3 (20 * a + i) (20 * b + j) n)) : ∀ (d q : Nat), q + d = n → wX12_copy_L165 (nI a) (nI i) (nI b) (nI j) (nI n) 1 K Q (d + 1) (nI q) (cpy τ 3 3 (20 * a + i + d) (20 * b + j + d) q)
  | 0, q, hq => by
    unfold wX12_copy_L165
    have e : q = n := by omega
    subst e
    exact ⟨fun _ => hK, fun z => absurd (nI_le (Nat.le_refl _) (by omega)) z⟩
  | d + 1, q, hq => by
    unfold wX12_copy_L165 wX12_copy_b189
    refine ⟨fun z => absurd z (nI_ge (by omega) (by omega)), fun _ => ⟨fun z => absurd z one_ne, fun _ => ?_⟩⟩
    have e0 : nI n - 1 - nI q = nI d := by
      rw [show nI n - 1 = nI (n - 1) from pk_sub (b := 1) (by omega), pk_sub (by omega), show n - 1 - q = d by omega]
    rw [e0, ix20, ix20, nI_add, nI_add, nI_clamp (by omega), nI_clamp (by omega)]
    refine ⟨vp_in_nI (by omega) (by decide), vp_in_nI (by omega) (by decide), fun σ4 e4 x8 e8 => ?_⟩
    rw [cpy_same, if_neg (by omega)] at e4
    change σ4 = sto (cpy τ 3 3 (20 * a + i + d + 1) (20 * b + j + d + 1) q) 3 (20 * b + j + d) (τ 3 (20 * a + i + d)) at e4
    rw [cpy_pred] at e4
    rw [nI_1] at e8
    subst e4 e8
    exact p_cpU ha hb hi hj hd τ hK d (q + 1) (by omega)
theorem E_copy (x1 x2 x3 x4 x5 : Int32) {σ τ : Sg} (hI : Inv σ τ) : wX11_copy x1 x2 x3 x4 x5 σ (fun r σ' => wX12_copy x1 x2 x3 x4 x5 τ (fun r' τ' => r = r' ∧ Inv σ' τ')) := by
  unfold wX11_copy wX12_copy wX11_copy_b14 wX11_copy_b50 wX11_copy_b98 wX12_copy_b14 wX12_copy_b37 wX12_copy_b103 wX12_copy_b104 wX12_copy_b138 wX12_copy_b160
  simp only [p_isRowB, p_isRowM, p_found, p_foundNothing, p_finds, p_refused, ite10]
  by_cases c1 : 0 ≤ x1 ∧ x1 ≤ 7
  case neg =>
    simp only [c1, not_false_eq_true, true_implies, not_true_eq_false, false_implies, and_true]
    exact ⟨by decide, hI⟩
  by_cases c2 : 0 ≤ x3 ∧ x3 ≤ 7
  case neg =>
    simp only [c1, c2, not_false_eq_true, true_implies, not_true_eq_false, false_implies, and_true, true_and]
    exact ⟨by decide, hI⟩
  simp only [c1, c2, not_false_eq_true, true_implies, not_true_eq_false, false_implies, and_true, true_and]
  obtain ⟨a, ha, rfl⟩ := x_le 7 (by decide) c1
  obtain ⟨b, hb, rfl⟩ := x_le 7 (by decide) c2
  have ia : vp_in (nI a) 8 := vp_in_nI (by omega) (by decide)
  have ib : vp_in (nI b) 8 := vp_in_nI (by omega) (by decide)
  rw [nI_clamp (by omega), nI_clamp (by omega)]
  refine ⟨ia, fun w hw => ⟨ib, fun v hv => ?_⟩⟩
  have hR := hI.1 a (by omega)
  have hS := hI.1 b (by omega)
  unfold IRow at hR hS
  rw [← hw] at hR
  rw [← hv] at hS
  obtain ⟨r1, ⟨n, hn, r2, r3⟩, r4⟩ := hR
  obtain ⟨u1, ⟨m, hm, u2, u3⟩, u4⟩ := hS
  have m1l : (-1 : Int32) < 0 := by decide
  rcases r4 with ⟨r4, r5⟩ | ⟨r4, la, hla, r5, r6⟩
  · simp only [r4, r5, m1l, ia, not_false_eq_true, true_implies, not_true_eq_false, false_implies, and_true, true_and]
    exact Inv_st 1 hI
  have q0 : ¬ nI la < 0 := nI_pos (by omega)
  rcases u4 with ⟨u4, u5⟩ | ⟨u4, lb, hlb, u5, u6⟩
  · simp only [r4, r6, u4, u5, q0, m1_neg, one_ne, ia, ib, not_false_eq_true, true_implies, not_true_eq_false, false_implies, and_true, true_and]
    exact Inv_st 1 hI
  have q1 : 0 ≤ nI lb := nI_pos' (by omega)
  simp only [r4, r5, r6, u4, u5, u6, q0, q1, one_ne, ia, ib, not_false_eq_true, true_implies, not_true_eq_false, false_implies, and_true, true_and]
  by_cases c3 : nI la = nI lb
  case neg =>
    simp only [c3, not_false_eq_true, true_implies, not_true_eq_false, false_implies, and_true, true_and]
    exact Inv_st 5 hI
  simp only [c3, not_false_eq_true, true_implies, not_true_eq_false, false_implies, and_true, true_and, p_has r2 hn, p_has u2 hm, ite10, r3, u3]
  have hJ := Inv_st 2 hI
  have hnT := nI_toInt (n := n) (by omega)
  have hmT := nI_toInt (n := m) (by omega)
  have fail : ¬ ((0 ≤ x2.toInt ∧ 0 ≤ x5.toInt ∧ x2.toInt + x5.toInt ≤ n) ∧ (0 ≤ x4.toInt ∧ 0 ≤ x5.toInt ∧ x4.toInt + x5.toInt ≤ m)) → ¬ x2 < 0 → ¬ x4 < 0 → ¬ x5 < 0 → ¬ nI n - x2 < x5 → x5 ≤ nI m - x4 → False := by
    intro h1 z1 z2 z3 z4 z5
    apply h1
    rw [fa_lt, z_toInt] at z1 z2 z3
    rw [fa_lt, toInt_nI_sub (by omega) (by omega)] at z4
    rw [fa_le, toInt_nI_sub (by omega) (by omega)] at z5
    omega
  by_cases c4 : 0 ≤ x2.toInt ∧ 0 ≤ x5.toInt ∧ x2.toInt + x5.toInt ≤ n
  case neg =>
    simp only [c4, not_false_eq_true, true_implies, not_true_eq_false, false_implies, and_true, true_and]
    refine ⟨fun _ => hJ, fun z1 => ⟨fun _ => hJ, fun z2 => ⟨fun _ => hJ, fun z3 => ⟨fun _ => hJ, fun z4 => ⟨fun _ => hJ, fun z5 => ⟨fun _ => hJ, fun z6 => ⟨fun z7 => ?_, fun _ => hJ⟩⟩⟩⟩⟩⟩⟩
    exact (fail (fun z => c4 z.1) z1 z2 z3 z6 z7).elim
  by_cases c5 : 0 ≤ x4.toInt ∧ 0 ≤ x5.toInt ∧ x4.toInt + x5.toInt ≤ m
  case neg =>
    refine ⟨fun z => absurd c4 z, fun _ => ⟨fun _ => ?_, fun z => absurd c5 z⟩⟩
    refine ⟨fun _ => hJ, fun z1 => ⟨fun _ => hJ, fun z2 => ⟨fun _ => hJ, fun z3 => ⟨fun _ => hJ, fun z4 => ⟨fun _ => hJ, fun z5 => ⟨fun _ => hJ, fun z6 => ⟨fun z7 => ?_, fun _ => hJ⟩⟩⟩⟩⟩⟩⟩
    exact (fail (fun z => c5 z.2) z1 z2 z3 z6 z7).elim
  refine ⟨fun z => absurd c4 z, fun _ => ⟨fun z => absurd c5 z, fun _ => ?_⟩⟩
  obtain ⟨i, hi, rfl⟩ := nI_ofInt c4.1
  obtain ⟨j, hj, rfl⟩ := nI_ofInt c5.1
  obtain ⟨k, hk, rfl⟩ := nI_ofInt c4.2.1
  have hin : i + k ≤ n := by have := c4.2.2; omega
  have hjm : j + k ≤ m := by have := c5.2.2; omega
  have z1 : ¬ nI i < 0 := nI_pos (by omega)
  have z2 : ¬ nI j < 0 := nI_pos (by omega)
  have z3 : ¬ nI k < 0 := nI_pos (by omega)
  have z4 : ¬ nI n < nI i := nI_nlt (by omega) (by omega)
  have z5 : ¬ nI m < nI j := nI_nlt (by omega) (by omega)
  have z6 : ¬ nI n - nI i < nI k := by rw [pk_sub (by omega)]; exact nI_nlt (by omega) (by omega)
  have z7 : nI k ≤ nI m - nI j := by rw [pk_sub (by omega)]; exact nI_le (by omega) (by omega)
  simp only [z1, z2, z3, z4, z5, z6, z7, not_false_eq_true, true_implies, not_true_eq_false, false_implies, and_true, true_and]
  refine ⟨cpok_of (by omega) (by omega) (by decide) (by decide), fun σ9 e9 τ1 f1 => ?_⟩
  rw [nI_clamp (by omega), nI_clamp (by omega), nI_clamp (by omega)] at e9
  have fin : Inv (sto σ9 0 1 0) (cpy τ1 3 3 (20 * a + i) (20 * b + j) k) := by
    subst e9 f1
    refine Inv_rows (σ := σ) (τ := τ) (fun j h1 h2 => ?_) ?_ ?_ (fun j h1 => ?_) (fun q h1 => ?_) ?_ ?_ hI
    · rw [sto_ne _ _ _ h1, cpy_ne _ _ _ _ (by omega)]
    · rw [sto_off _ _ _ (by decide), cpy_ne _ _ _ _ (by omega)]
    · rw [sto_off _ _ _ (by decide), cpy_ne _ _ _ _ (by omega)]
    · rw [cpy_ne _ _ _ _ (by omega), sto_ne _ _ _ (by omega)]
    · rw [cpy_ne _ _ _ _ (by omega), sto_off _ _ _ h1]
    · rw [sto_at, cpy_ne _ _ _ _ (by omega), sto_at]
    · refine IRows_up (k := b) ?_ (fun q h1 h2 h3 h4 => ?_) (fun q h => ?_) (fun q h => ?_) (fun q h => ?_) hI.1
      · unfold IRow
        rw [← hv]
        refine ⟨fun q hq => ?_, ⟨m, hm, ?_, ?_⟩, Or.inr ⟨?_, lb, hlb, ?_, ?_⟩⟩
        · rw [sto_ne _ _ _ (by omega), cpy_same, cpy_same, sto_ne _ _ _ (by decide)]
          by_cases e : j ≤ q ∧ q < j + k
          · rw [if_pos e, if_pos (by omega), show 20 * b + q - (20 * b + j) = q - j by omega, Nat.add_assoc]
            exact r1 (i + (q - j)) (by omega)
          · rw [if_neg e, if_neg (by omega)]
            exact u1 q hq
        · rw [sto_ne _ _ _ (by omega), cpy_ne _ _ _ _ (by omega), u2]
        · rw [cpy_ne _ _ _ _ (by omega), sto_ne _ _ _ (by omega), u3]
        · rw [sto_ne _ _ _ (by omega), cpy_ne _ _ _ _ (by omega), u4]
        · rw [sto_ne _ _ _ (by omega), cpy_ne _ _ _ _ (by omega), u5]
        · rw [cpy_ne _ _ _ _ (by omega), sto_ne _ _ _ (by omega), u6]
      · rw [sto_ne _ _ _ (by omega), cpy_ne _ _ _ _ (by omega)]
      · rw [cpy_ne _ _ _ _ (by omega), sto_ne _ _ _ (by omega)]
      · rw [cpy_ne _ _ _ _ (by omega), sto_ne _ _ _ (by omega)]
      · rw [cpy_same, if_neg (by omega), sto_ne _ _ _ (by omega)]
  refine ⟨fun z8 => ⟨k + 1, ?_⟩, fun z8 => ⟨k + 1, ?_⟩⟩
  · have hL := fun K Q h => p_cpF (a := a) (i := i) (b := b) (j := j) (n := k) (by omega) (by omega) (by omega) (by omega) (Or.inr ((nI_leI (by omega) (by omega)).mp z8)) (K := K) (Q := Q) τ1 h k 0 (by omega)
    rw [cpy_0, nI_0] at hL
    exact hL _ _ fin
  · have hji : ¬ j ≤ i := fun z => z8 ((nI_leI (by omega) (by omega)).mpr z)
    have hL := fun K Q h => p_cpU (a := a) (i := i) (b := b) (j := j) (n := k) (by omega) (by omega) (by omega) (by omega) (Or.inr (by omega)) (K := K) (Q := Q) τ1 h k 0 (by omega)
    rw [cpy_0, nI_0] at hL
    exact hL _ _ fin
