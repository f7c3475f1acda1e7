/-! keep, lay, feed -/
theorem cpy_ne (σ : Sg) {j js jd : Nat} (sp dp k : Nat) (h : j ≠ jd) : cpy σ js jd sp dp k j = σ j := va_up_ne _ _ h
theorem cpy_same (σ : Sg) (js jd sp dp k i : Nat) : cpy σ js jd sp dp k jd i = if dp ≤ i ∧ i < dp + k then σ js (sp + (i - dp)) else σ jd i := by
  unfold cpy
  rw [va_up_self]
  rfl
theorem cpy_0 (σ : Sg) (js jd sp dp : Nat) : cpy σ js jd sp dp 0 = σ := by
  funext j
  by_cases h : j = jd
  · subst h
    funext i
    rw [cpy_same, if_neg (by omega)]
  · rw [cpy_ne _ _ _ _ h]
theorem cpy_succ (σ : Sg) (js jd sp dp k : Nat) : sto (cpy σ js jd sp dp k) jd (dp + k) (σ js (sp + k)) = cpy σ js jd sp dp (k + 1) := by
  funext j
  by_cases h : j = jd
  · subst h
    funext i
    rw [sto_same, cpy_same]
    by_cases e : i = dp + k
    · subst e
      rw [pk_us, if_pos (by omega), show sp + (dp + k - dp) = sp + k by omega]
    · rw [pk_un e, cpy_same]
      by_cases c : dp ≤ i ∧ i < dp + k
      · rw [if_pos c, if_pos (by omega)]
      · rw [if_neg c, if_neg (by omega)]
  · rw [sto_ne _ _ _ h, cpy_ne _ _ _ _ h, cpy_ne _ _ _ _ h]
theorem ix10 (k i : Nat) : (10 : Int32) * nI k + nI i = nI (10 * k + i) := by
  show nI 10 * nI k + nI i = _
  rw [pk_mul, nI_add]
theorem cpok_of {a b c n0 n1 : Nat} (h1 : a + c ≤ n0) (h2 : b + c ≤ n1) (h3 : n0 < 2 ^ 31) (h4 : n1 < 2 ^ 31) : cpok (nI a) (nI b) (nI c) n0 n1 := by
  refine ⟨nI_pos (by omega), nI_pos (by omega), nI_pos (by omega), ?_, ?_⟩
  · rw [nI_clamp (by omega), nI_clamp (by omega)]; exact h1
  · rw [nI_clamp (by omega), nI_clamp (by omega)]; exact h2
theorem p_keepL {n : Nat} (hn : n < 6) {K : Sg → Prop} {Q : Int64 → Sg → Prop} (τ : Sg) (h42 : τ 0 42 = nI n) (hK : K (cpy τ 11 30 0 (10 * n) 10)) : ∀ (d i : Nat), i + d = 10 → wX12_keep_L29 K Q (d + 1) (nI i) (cpy τ 11 30 0 (10 * n) i)
  | 0, i, hi => by
    unfold wX12_keep_L29
    have e : i = 10 := by omega
    subst e
    exact ⟨fun _ => hK, fun q => absurd (nI_le (a := 10) (Nat.le_refl _) (by decide)) q⟩
  | d + 1, i, hi => by
    unfold wX12_keep_L29
    refine ⟨fun q => absurd q (nI_ge (b := 10) (by omega) (by decide)), fun _ => ⟨vp_in_nI (by omega) (by decide), ?_⟩⟩
    rw [cpy_ne (j := 0) _ _ _ _ (by decide), h42, ix10, cpy_ne (j := 11) _ _ _ _ (by decide)]
    refine ⟨vp_in_nI (by omega) (by decide), ?_⟩
    intro σ4 e4 x1 e1
    rw [nI_clamp (by omega), nI_clamp (by omega)] at e4
    have e5 := cpy_succ τ 11 30 0 (10 * n) i
    rw [Nat.zero_add] at e5
    rw [e5] at e4
    rw [nI_1] at e1
    subst e4 e1
    exact p_keepL hn τ h42 hK d (i + 1) (by omega)
theorem E_keep {σ τ : Sg} (hI : Inv σ τ) : wX11_keep σ (fun r σ' => wX12_keep τ (fun r' τ' => r = r' ∧ Inv σ' τ')) := by
  obtain ⟨n, hn, s1, s2, s3⟩ := hI.2.2.2.2.2.2.1
  obtain ⟨⟨q, hq1, hq2, b1, b2⟩, b3, b4, b5⟩ := hI.2.2.2.2.1
  unfold wX11_keep wX12_keep wX9_add
  simp only [p_refused, s1, s2]
  by_cases c : n = 6
  · subst c
    refine ⟨fun q => absurd q (by decide), fun _ => ⟨fun _ => ⟨by decide, hI⟩, fun q => absurd rfl q⟩⟩
  · refine ⟨fun _ => ?_, fun q => absurd (nI_lt (b := 6) (by omega) (by decide)) q⟩
    have hin : vp_in (nI n) 6 := vp_in_nI (by omega) (by decide)
    refine ⟨hin, fun σ1 e1 => ?_⟩
    rw [nI_clamp (by omega), b1] at e1
    have f1 : σ1 48 = σ 48 := by rw [e1, sto_ne _ _ _ (by decide)]
    have f2 : σ1 4 = σ 4 := by rw [e1, sto_ne _ _ _ (by decide)]
    rw [f1, f2, s1, b1]
    refine ⟨hin, fun r er => ⟨cpok_of (a := 0) (b := 0) (by omega) (by omega) (by decide) (by decide), fun σ3 e3 σ4 e4 => ?_⟩⟩
    rw [nI_clamp (by omega)] at er e3
    refine ⟨fun z => absurd ((nI_eq (b := 6) (by omega) (by decide)).mp z) c, fun _ => ⟨hin, fun τ2 t2 => ?_⟩⟩
    rw [nI_clamp (by omega), b2] at t2
    have g1 : τ2 0 = τ 0 := by rw [t2, sto_ne _ _ _ (by decide)]
    refine ⟨11, ?_⟩
    have hL := fun K Q h => p_keepL (n := n) (by omega) (K := K) (Q := Q) τ2 (by rw [g1]; exact s2) h 10 0 (by omega)
    rw [cpy_0, nI_0] at hL
    refine hL _ _ ?_
    intro τ7 t7
    rw [cpy_ne _ _ _ _ (by decide), g1, s2, nI_1] at t7
    have f3 : σ3 48 = σ 48 := by rw [e3, cpy_ne _ _ _ _ (by omega), f1]
    rw [f3, s1, nI_1] at e4
    refine ⟨by rw [e4, t7, sto_at, sto_at], ?_⟩
    subst e4 t7 e3 e1 t2
    refine Inv_stp (σ := σ) (τ := τ) (fun j h => ?_) (fun j h1 h2 h3 => ?_) (fun k h => ?_) ?_ hI
    · rw [sto_ne _ _ _ (by omega), cpy_ne _ _ _ _ (by omega), sto_ne _ _ _ (by omega)]
    · rw [sto_ne _ _ _ (by omega), cpy_ne _ _ _ _ (by omega), sto_ne _ _ _ (by omega)]
    · rw [sto_off _ _ _ h, cpy_ne _ _ _ _ (by omega), sto_ne _ _ _ (by omega)]
    refine ⟨n + 1, by omega, by rw [sto_at], by rw [sto_at], fun k hk => ?_⟩
    by_cases e : k = n
    · subst e
      refine ⟨q, hq1, hq2, ?_, ?_, fun c hc => ?_⟩
      · rw [sto_ne _ _ _ (by decide), cpy_ne _ _ _ _ (by omega), sto_at]
      · rw [sto_ne _ _ _ (by decide), cpy_ne _ _ _ _ (by omega), sto_at]
      · subst er
        rw [sto_ne _ _ _ (by omega), cpy_same, if_pos (by omega), sto_ne _ _ _ (by decide), sto_ne (j' := 30) _ _ _ (by decide), cpy_same, if_pos (by omega), sto_ne _ _ _ (by decide), show 10 * k + c - 10 * k = c by omega, Nat.sub_zero, Nat.zero_add]
        exact b4 c (by omega)
    · obtain ⟨p, d1, d2, d3, d4, d5⟩ := s3 k (by omega)
      refine ⟨p, d1, d2, ?_, ?_, fun c hc => ?_⟩
      · rw [sto_ne _ _ _ (by decide), cpy_ne _ _ _ _ (by omega), sto_off _ _ _ e]; exact d3
      · rw [sto_ne _ _ _ (by decide), cpy_ne _ _ _ _ (by omega), sto_off _ _ _ e]; exact d4
      · rw [sto_ne _ _ _ (by omega), cpy_ne _ _ _ _ (by omega), sto_ne _ _ _ (by omega), sto_ne (j' := 30) _ _ _ (by decide), cpy_same, if_neg (by omega), sto_ne _ _ _ (by decide)]
        exact d5 c hc
theorem p_layL {n k : Nat} (hn : n ≤ 10) (hk : k < 6) {K Q : Sg → Prop} (τ : Sg) (h19 : τ 0 19 = nI n) (hK : K (cpy τ 30 11 (10 * k) 0 n)) : ∀ (d i : Nat), i + d = n → wX12_layStripping_L2 (nI k) K Q (d + 1) (nI i) (cpy τ 30 11 (10 * k) 0 i)
  | 0, i, hi => by
    unfold wX12_layStripping_L2
    have e : i = n := by omega
    subst e
    rw [cpy_ne (j := 0) _ _ _ _ (by decide), h19]
    exact ⟨fun _ => hK, fun q => absurd (nI_le (Nat.le_refl _) (by omega)) q⟩
  | d + 1, i, hi => by
    unfold wX12_layStripping_L2
    rw [cpy_ne (j := 0) _ _ _ _ (by decide), h19, ix10, cpy_ne (j := 30) _ _ _ _ (by decide)]
    refine ⟨fun q => absurd q (nI_ge (by omega) (by omega)), fun _ => ⟨vp_in_nI (by omega) (by decide), vp_in_nI (by omega) (by decide), ?_⟩⟩
    intro σ4 e4 x1 e1
    rw [nI_clamp (by omega), nI_clamp (by omega)] at e4
    have e5 := cpy_succ τ 30 11 (10 * k) 0 i
    rw [Nat.zero_add] at e5
    rw [e5] at e4
    rw [nI_1] at e1
    subst e4 e1
    exact p_layL hn hk τ h19 hK d (i + 1) (by omega)
theorem p_layS {n k : Nat} (hn : n ≤ 10) (hk : k < 6) {Q : Sg → Prop} {τ : Sg} (h19 : τ 0 19 = nI n) (hQ : Q (cpy τ 30 11 (10 * k) 0 n)) : wX12_layStripping (nI k) τ Q := by
  unfold wX12_layStripping
  have hL := p_layL (Q := Q) (K := fun σ => Q σ) hn hk τ h19 hQ n 0 (by omega)
  rw [cpy_0, nI_0] at hL
  exact ⟨_, hL⟩
theorem p_hasS (x : Int32) (σ : Sg) (Q : Int32 → Sg → Prop) : wX9_has x σ Q ↔ Q (if 0 ≤ x ∧ x ≤ σ 48 0 - 1 then 1 else 0) σ := by
  unfold wX9_has; rw [p_isWithin]; simp only [bok_ite, true_and]
theorem p_isStrip (x : Int32) (σ : Sg) (Q : Int32 → Sg → Prop) : wX12_isStripping x σ Q ↔ Q (if 0 ≤ x ∧ x ≤ σ 0 42 - 1 then 1 else 0) σ := by
  unfold wX12_isStripping; rw [p_within]; simp only [bok_ite, true_and]
theorem E_lay (x1 : Int32) {σ τ : Sg} (hI : Inv σ τ) : wX11_lay x1 σ (fun r σ' => wX12_lay x1 τ (fun r' τ' => r = r' ∧ Inv σ' τ')) := by
  obtain ⟨n, hn, s1, s2, s3⟩ := hI.2.2.2.2.2.2.1
  obtain ⟨⟨q, hq1, hq2, b1, b2⟩, b3, b4, b5⟩ := hI.2.2.2.2.1
  unfold wX11_lay wX12_lay
  simp only [p_hasS, p_isStrip, p_refused, ite10, s1, s2]
  by_cases c1 : 0 ≤ x1 ∧ x1 ≤ nI n - 1
  case neg =>
    simp only [c1, not_false_eq_true, true_implies, not_true_eq_false, false_implies, and_true]
    exact ⟨by decide, hI⟩
  simp only [c1, not_false_eq_true, true_implies, not_true_eq_false, false_implies, and_true, true_and]
  obtain ⟨k, hk, rfl⟩ := rng0 (by omega) c1
  obtain ⟨p, d1, d2, d3, d4, d5⟩ := s3 k hk
  have hin : vp_in (nI k) 6 := vp_in_nI (by omega) (by decide)
  rw [nI_clamp (by omega), b1, b2, d3, d4]
  by_cases c2 : p = q
  · subst c2
    refine ⟨hin, fun _ => ⟨hin, fun r er => ⟨cpok_of (a := 0) (b := 0) (by omega) (by omega) (by decide) (by decide), fun σ3 e3 => ?_⟩⟩, fun z => absurd rfl z⟩
    refine ⟨hin, fun _ => ?_, fun z => absurd rfl z⟩
    rw [nI_clamp (by omega)] at e3
    refine p_layS (n := p) (by omega) (by omega) b2 ?_
    subst e3 er
    refine Inv_bay (σ := σ) (τ := τ) (fun j h => cpy_ne _ _ _ _ (by omega)) (fun j h1 h2 h3 h4 => cpy_ne _ _ _ _ (by omega)) (fun k h => by rw [cpy_ne _ _ _ _ (by omega)]) ?_ hI
    refine ⟨⟨p, hq1, hq2, by rw [cpy_ne _ _ _ _ (by omega)]; exact b1, by rw [cpy_ne _ _ _ _ (by omega)]; exact b2⟩, fun i hi => ?_, fun i hi => ?_, fun i hi => ?_⟩
    · rw [cpy_ne _ _ _ _ (by omega), cpy_ne _ _ _ _ (by omega)]; exact b3 i hi
    · rw [cpy_same, cpy_same]
      by_cases e : i < p
      · rw [if_pos (by omega), if_pos (by omega), Nat.sub_zero, Nat.zero_add]
        exact d5 i e
      · rw [if_neg (by omega), if_neg (by omega)]; exact b4 i hi
    · rw [cpy_ne _ _ _ _ (by omega), cpy_ne _ _ _ _ (by omega)]; exact b5 i hi
  · have z : ¬ nI p = nI q := fun z => c2 ((nI_eq (by omega) (by omega)).mp z)
    simp only [z, hin, not_false_eq_true, true_implies, not_true_eq_false, false_implies, and_true, true_and]
    exact ⟨by decide, hI⟩
def fby (w : Int64) (m : Nat) : Int32 := ((w >>> ((8 * nI m).toInt64 &&& 63)).toInt32) &&& 255
def fdB (w : Int64) : Nat → Sg → Sg
  | 0, σ => σ
  | m + 1, σ => fdB w m (sto (sto σ 3 (σ 2 0).toNatClampNeg (fby w m)) 2 0 (σ 2 0 + 1))
def fdM (w : Int64) : Nat → Sg → Sg
  | 0, σ => σ
  | m + 1, σ => fdM w m (sto (sto σ 4 (σ 0 5).toNatClampNeg (fby w m)) 0 5 (σ 0 5 + 1))
theorem nI_sub1 (m : Nat) : nI (m + 1) - 1 = nI m := nI_pred m
theorem m1_lt : nI 0 - 1 < 0 := by decide
theorem add_m1 (m : Nat) : nI m + (-1) = nI m - 1 := by
  rw [Int32.sub_eq_add_neg]
theorem p_addL {w : Int64} {K Q : Sg → Prop} : ∀ (m : Nat) (σ : Sg) (n : Nat), σ 2 0 = nI n → n + m ≤ 300 → K (fdB w m σ) → wX10_add_L5 w K Q (m + 1) (nI m - 1) σ
  | 0, σ, n, h1, h2, hK => by
    unfold wX10_add_L5
    exact ⟨fun _ => hK, fun q => absurd m1_lt q⟩
  | m + 1, σ, n, h1, h2, hK => by
    unfold wX10_add_L5
    rw [nI_sub1]
    refine ⟨fun q => absurd q (nI_pos (by omega)), fun _ => ?_⟩
    unfold fdB at hK
    rw [h1] at hK ⊢
    refine ⟨vp_in_nI (by omega) (by decide), fun σ3 e3 σ4 e4 x4 e5 => ?_⟩
    rw [add_m1] at e5
    have f : σ3 2 = σ 2 := by rw [e3, sto_ne _ _ _ (by decide)]
    rw [f, h1] at e4
    subst e4 e5 e3
    refine p_addL m _ (n + 1) (by rw [sto_at, nI_1]) (by omega) hK
theorem p_feedL {w : Int64} {K : Sg → Prop} {Q : Int64 → Sg → Prop} : ∀ (m : Nat) (σ : Sg) (n : Nat), σ 0 5 = nI n → n + m ≤ 300 → K (fdM w m σ) → wX12_feed_L37 w K Q (m + 1) (nI m - 1) σ
  | 0, σ, n, h1, h2, hK => by
    unfold wX12_feed_L37
    exact ⟨fun _ => hK, fun q => absurd m1_lt q⟩
  | m + 1, σ, n, h1, h2, hK => by
    unfold wX12_feed_L37
    rw [nI_sub1]
    refine ⟨fun q => absurd q (nI_pos (by omega)), fun _ => ?_⟩
    unfold fdM at hK
    rw [h1] at hK ⊢
    refine ⟨vp_in_nI (by omega) (by decide), fun σ3 e3 σ4 e4 x4 e5 => ?_⟩
    rw [add_m1] at e5
    have f : σ3 0 = σ 0 := by rw [e3, sto_ne _ _ _ (by decide)]
    rw [f, h1] at e4
    subst e4 e5 e3
    refine p_feedL m _ (n + 1) (by rw [sto_at, nI_1]) (by omega) hK
theorem fd_rel (w : Int64) : ∀ (m : Nat) (σ τ : Sg) (n : Nat), n + m ≤ 300 → σ 2 0 = nI n → τ 0 5 = nI n → (∀ i, i < 300 → σ 3 i = τ 4 i) →
    (fdB w m σ) 2 0 = nI (n + m) ∧ (fdM w m τ) 0 5 = nI (n + m) ∧ (∀ i, i < 300 → (fdB w m σ) 3 i = (fdM w m τ) 4 i) ∧ (∀ j, j ≠ 2 → j ≠ 3 → (fdB w m σ) j = σ j) ∧ (fdB w m σ) 2 6 = σ 2 6 ∧ (∀ j, j ≠ 0 → j ≠ 4 → (fdM w m τ) j = τ j) ∧ ∀ k, k ≠ 5 → (fdM w m τ) 0 k = τ 0 k
  | 0, σ, τ, n, h1, h2, h3, h4 => ⟨h2, h3, h4, fun _ _ _ => rfl, rfl, fun _ _ _ => rfl, fun _ _ => rfl⟩
  | m + 1, σ, τ, n, h1, h2, h3, h4 => by
    unfold fdB fdM
    rw [h2, h3, nI_clamp (by omega), nI_1]
    obtain ⟨a1, a2, a3, a4, a5, a6, a7⟩ := fd_rel w m (sto (sto σ 3 n (fby w m)) 2 0 (nI (n + 1))) (sto (sto τ 4 n (fby w m)) 0 5 (nI (n + 1))) (n + 1) (by omega) (by rw [sto_at]) (by rw [sto_at]) (fun i hi => by
      rw [sto_ne _ _ _ (show (3 : Nat) ≠ 2 by decide), sto_ne _ _ _ (show (4 : Nat) ≠ 0 by decide)]
      by_cases e : i = n
      · subst e; rw [sto_at, sto_at]
      · rw [sto_off _ _ _ e, sto_off _ _ _ e]; exact h4 i hi)
    have e1 : n + 1 + m = n + (m + 1) := by omega
    rw [e1] at a1 a2
    refine ⟨a1, a2, a3, fun j q1 q2 => ?_, ?_, fun j q1 q2 => ?_, fun k q1 => ?_⟩
    · rw [a4 j q1 q2, sto_ne _ _ _ q1, sto_ne _ _ _ q2]
    · rw [a5, sto_off _ _ _ (by decide), sto_ne _ _ _ (by decide)]
    · rw [a6 j q1 q2, sto_ne _ _ _ q1, sto_ne _ _ _ q2]
    · rw [a7 k q1, sto_off _ _ _ q1, sto_ne _ _ _ (by decide)]
theorem E_feed (w : Int64) (x3 : Int32) {σ τ : Sg} (hI : Inv σ τ) : wX11_feed w x3 σ (fun r σ' => wX12_feed w x3 τ (fun r' τ' => r = r' ∧ Inv σ' τ')) := by
  obtain ⟨⟨n, hn, t1, t2⟩, t3, t4⟩ := hI.2.2.1
  unfold wX11_feed wX12_feed wX10_add
  simp only [p_isWithin, p_within, p_refused, ite10, t1, t2]
  by_cases c1 : 1 ≤ x3 ∧ x3 ≤ 8
  case neg =>
    simp only [c1, not_false_eq_true, true_implies, not_true_eq_false, false_implies, and_true]
    exact ⟨by decide, hI⟩
  have c2 : 0 ≤ x3 := Int32.le_trans (by decide) c1.1
  obtain ⟨k, hk, rfl⟩ := x_le 8 (by decide) ⟨c2, c1.2⟩
  simp only [c1, not_false_eq_true, true_implies, not_true_eq_false, false_implies, and_true, true_and]
  have e1 : (300 : Int32) - nI n = nI (300 - n) := pk_sub (a := 300) hn
  have e2 : nI n + nI k = nI (n + k) := nI_add n k
  have q1 : (nI k ≤ nI (300 - n)) ↔ n + k ≤ 300 := by rw [nI_leI (by omega) (by omega)]; omega
  have q2 : (nI (n + k) ≤ 300) ↔ n + k ≤ 300 := nI_leI (b := 300) (by omega) (by decide)
  rw [e1, e2]
  simp only [q1, q2]
  by_cases c3 : n + k ≤ 300
  case neg =>
    simp only [c3, not_false_eq_true, true_implies, not_true_eq_false, false_implies, and_true, true_and]
    exact ⟨by decide, hI⟩
  simp only [c3, not_false_eq_true, true_implies, not_true_eq_false, false_implies, and_true, true_and]
  intro x4 e4
  subst e4
  refine ⟨k + 1, p_addL k σ n t1 c3 ?_⟩
  intro x5 e5
  subst e5
  refine ⟨k + 1, p_feedL k τ n t2 c3 ?_⟩
  obtain ⟨a1, a2, a3, a4, a5, a6, a7⟩ := fd_rel w k σ τ n c3 t1 t2 t3
  refine ⟨by rw [a1, a2], ?_⟩
  exact Inv_tape (σ := σ) (τ := τ) a4 a6 (fun k h1 _ => a7 k h1) ⟨⟨n + k, c3, a1, a2⟩, a3, by rw [a5, a7 12 (by decide)]; exact t4⟩ hI
