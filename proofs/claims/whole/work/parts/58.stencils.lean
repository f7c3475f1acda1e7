/-! stencils -/
theorem p_readAll {ta : Nat → Int32} {L : Nat} {τ : Sg} {Q : Int32 → Sg → Prop} (hL : L ≤ 300) (h5 : τ 0 5 = nI L) (h4 : ∀ i, i < 300 → τ 4 i = ta i) (hF : ∀ c pl, rdT ta L 5 t00 = .inl (c, pl) → ∀ τ', FrM τ' τ → τ' 0 14 = nI pl → (c = 1 → Q 1 τ') ∧ (c = 3 → Q 3 τ')) (hS : ∀ t' τ', rdT ta L 5 t00 = .inr t' → OkT L t' → 0 < t'.1 → FrM τ' τ → τ' 0 18 = nI t'.1 → τ' 0 17 = nI t'.2.2.2.1 → (∀ k, k < t'.1 → τ' 5 (4 + k) = nI (t'.2.1 k)) → NdS τ' t'.2.2.2.2.1 t'.2.2.2.2.2.1 t'.2.2.2.1 → Q 0 τ') : wX12_readAll τ Q := by
  unfold wX12_readAll wX12_readAll_b54 wX12_readAll_b171 wX12_readAll_b253
  intro τ1 e1 τ2 e2 τ3 e3
  have f3 : ∀ j, j ≠ 0 → τ3 j = τ j := fun j hj => by rw [e3, sto_ne _ _ _ hj, e2, sto_ne _ _ _ hj, e1, sto_ne _ _ _ hj]
  have g3 : ∀ k, k ≠ 13 → k ≠ 17 → k ≠ 18 → τ3 0 k = τ 0 k := fun k q1 q2 q3 => by rw [e3, sto_off _ _ _ q3, e2, sto_off _ _ _ q2, e1, sto_off _ _ _ q1]
  refine ⟨5, p_L15 (k1 := fun σ => Q 1 σ) (k3 := fun σ => Q 3 σ) (k31 := fun σ => Q 0 σ) hL h5 h4 5 t00 τ3 rfl (t00_ok L) ⟨⟨fun j q0 _ _ _ _ => f3 j q0, fun k q0 _ _ q3 q4 => g3 k q0 q3 q4, fun i _ => by rw [f3 5 (by decide)], fun i _ => by rw [f3 6 (by decide), f3 7 (by decide)]; exact ⟨rfl, rfl⟩⟩, ?_, ?_, ?_, fun k hk => absurd hk (Nat.not_lt_zero _), fun i hi => absurd hi (Nat.not_lt_zero _)⟩ hF hS⟩
  · rw [e3, sto_at]; rfl
  · rw [e3, sto_off _ _ _ (by decide), e2, sto_at]; rfl
  · rw [e3, sto_off _ _ _ (by decide), e2, sto_off _ _ _ (by decide), e1, sto_at]; rfl
theorem ch_mono {sz : Nat → Nat} {i : Nat} : ∀ (d q : Nat), ch sz i q ≤ ch sz i (q + d)
  | 0, q => Nat.le_refl _
  | d + 1, q => by
    have := ch_mono (sz := sz) (i := i) d q
    show ch sz i q ≤ ch sz i (q + d) + sz (i + ch sz i (q + d))
    omega
theorem p_ls15 {τ : Sg} {k nn : Nat} {op sz : Nat → Nat} {K : Int32 → Sg → Prop} {Q : Sg → Prop} (hk : k < nn) (hnn : nn ≤ 60) (h6 : τ 6 k = nI (kdOf (op k))) (ho : op k ≤ 10) (hsz : ∀ j, 1 ≤ sz j) (h8 : ∀ j, k < j → j < nn → τ 8 j = nI (sz j)) (hc : k + ch sz k (prt (op k)) ≤ nn) (hK : K (nI (ch sz k (prt (op k)))) τ) : ∀ (d q : Nat), q + d = prt (op k) → wX12_laySizes_L15 (nI k) K Q (d + 1) (nI (ch sz k q)) (nI q) τ
  | 0, q, hq => by
    have hprt : prt (op k) ≤ 4 := by unfold prt; split; omega; split <;> omega
    unfold wX12_laySizes_L15
    rw [nI_clamp (by omega), h6]
    have e : q = prt (op k) := by omega
    refine ⟨vp_in_nI (by omega) (by decide), p_child ho ?_⟩
    rw [e]
    exact ⟨fun _ => hK, fun z => absurd (nI_le (Nat.le_refl _) (by omega)) z⟩
  | d + 1, q, hq => by
    have hprt : prt (op k) ≤ 4 := by unfold prt; split; omega; split <;> omega
    have hm := ch_mono (sz := sz) (i := k) d (q + 1)
    rw [show q + 1 + d = prt (op k) by omega] at hm
    have hs := hsz (k + ch sz k q)
    have hp := ch_pos sz k q
    have e1 : ch sz k (q + 1) = ch sz k q + sz (k + ch sz k q) := rfl
    unfold wX12_laySizes_L15
    rw [nI_clamp (by omega), h6]
    refine ⟨vp_in_nI (by omega) (by decide), p_child ho ?_⟩
    refine ⟨fun z => absurd z (nI_ge (by omega) (by omega)), fun _ => ?_⟩
    rw [nI_add, nI_clamp (by omega), h8 _ (by omega) (by omega), nI_add, nI_1]
    refine ⟨vp_in_nI (by omega) (by decide), fun x2 e2 x3 e3 => ?_⟩
    rw [e2, e3, ← e1]
    exact p_ls15 hk hnn h6 ho hsz h8 hc hK d (q + 1) (by omega)
theorem p_ls7 {τ0 : Sg} {nn : Nat} {op sz : Nat → Nat} {K Q : Sg → Prop} (hnn : nn ≤ 60) (h6 : ∀ i, i < nn → τ0 6 i = nI (kdOf (op i))) (hsz : ∀ j, 1 ≤ sz j) (hW : WFn op sz 0 nn) (hK : ∀ τ, (∀ j, j ≠ 8 → τ j = τ0 j) → (∀ i, i < nn → τ 8 i = nI (sz i)) → K τ) : ∀ (k : Nat) (τ : Sg), k ≤ nn → (∀ j, j ≠ 8 → τ j = τ0 j) → (∀ i, k ≤ i → i < nn → τ 8 i = nI (sz i)) → wX12_laySizes_L7 K Q (k + 1) (nI k - 1) τ
  | 0, τ, hk, f, h => by
    unfold wX12_laySizes_L7
    exact ⟨fun _ => hK τ f (fun i hi => h i (Nat.zero_le _) hi), fun z => absurd m1_lt z⟩
  | k + 1, τ, hk, f, h => by
    obtain ⟨w1, w2, w3⟩ := hW k (Nat.zero_le _) (by omega)
    unfold wX12_laySizes_L7
    rw [nI_sub1]
    refine ⟨fun z => absurd z (nI_pos (by omega)), fun _ => ⟨prt (op k) + 1, ?_⟩⟩
    refine p_ls15 (k := k) (nn := nn) (op := op) (sz := sz) (by omega) hnn (by rw [f 6 (by decide)]; exact h6 k (by omega)) w1 hsz (fun j q1 q2 => h j (by omega) q2) (by rw [← w3]; exact w2) ?_ (prt (op k)) 0 (by omega)
    rw [← w3, nI_clamp (by omega)]
    refine ⟨vp_in_nI (by omega) (by decide), fun τ10 e10 x1 e1 => ?_⟩
    rw [e1, add_m1]
    refine p_ls7 hnn h6 hsz hW hK k τ10 (by omega) (fun j hj => by rw [e10, sto_ne _ _ _ hj]; exact f j hj) (fun i q1 q2 => ?_)
    rw [e10]
    by_cases c : i = k
    · rw [c, sto_at]
    · rw [sto_off _ _ _ c]; exact h i (by omega) q2
theorem p_laySz {τ : Sg} {nn : Nat} {op sz : Nat → Nat} {Q : Sg → Prop} (h7 : τ 0 7 = nI nn) (hnn : nn ≤ 60) (h6 : ∀ i, i < nn → τ 6 i = nI (kdOf (op i))) (hsz : ∀ j, 1 ≤ sz j) (hW : WFn op sz 0 nn) (hQ : ∀ τ', (∀ j, j ≠ 8 → τ' j = τ j) → (∀ i, i < nn → τ' 8 i = nI (sz i)) → Q τ') : wX12_laySizes τ Q := by
  unfold wX12_laySizes
  intro x1 e1
  rw [e1, h7]
  exact ⟨_, p_ls7 (K := fun σ => Q σ) (Q := Q) hnn h6 hsz hW hQ nn τ (Nat.le_refl _) (fun _ _ => rfl) (fun i q1 q2 => by omega)⟩
theorem p_s47 {τ0 : Sg} {nn : Nat} {K : Sg → Prop} {Q : Int64 → Sg → Prop} (h7 : τ0 0 7 = nI nn) (hnn : nn ≤ 60) (hK : ∀ τ, (∀ j, j ≠ 6 → j ≠ 7 → τ j = τ0 j) → (∀ i, i < nn → τ 6 i = τ0 6 (60 + i) ∧ τ 7 i = τ0 7 (60 + i)) → K τ) : ∀ (d i : Nat) (τ : Sg), i + d = nn → (∀ j, j ≠ 6 → j ≠ 7 → τ j = τ0 j) → (∀ q, q < i → τ 6 q = τ0 6 (60 + q) ∧ τ 7 q = τ0 7 (60 + q)) → (∀ q, 60 ≤ q → τ 6 q = τ0 6 q ∧ τ 7 q = τ0 7 q) → wX12_stencils_L47 K Q (d + 1) (nI i) τ
  | 0, i, τ, hi, f, h, g => by
    unfold wX12_stencils_L47
    have e : i = nn := by omega
    subst e
    rw [f 0 (by decide) (by decide), h7]
    exact ⟨fun _ => hK τ f h, fun z => absurd (nI_le (Nat.le_refl _) (by omega)) z⟩
  | d + 1, i, τ, hi, f, h, g => by
    unfold wX12_stencils_L47
    rw [f 0 (by decide) (by decide), h7, show (60 : Int32) + nI i = nI (60 + i) from nI_add 60 i, nI_clamp (by omega), nI_clamp (by omega), nI_1]
    have i1 : vp_in (nI (60 + i)) 120 := vp_in_nI (by omega) (by decide)
    have i2 : vp_in (nI i) 120 := vp_in_nI (by omega) (by decide)
    refine ⟨fun z => absurd z (nI_ge (by omega) (by omega)), fun _ => ⟨i1, i2, fun τ8 e8 => ⟨i1, i2, fun τ9 e9 x2 e2 => ?_⟩⟩⟩
    rw [e2]
    have v6 : τ9 6 = upd (τ 6) i (τ 6 (60 + i)) := by rw [e9, sto_ne _ _ _ (by decide), e8, sto_same]
    have v7 : τ9 7 = upd (τ 7) i (τ 7 (60 + i)) := by rw [e9, sto_same, e8, sto_ne _ _ _ (by decide)]
    refine p_s47 h7 hnn hK d (i + 1) τ9 (by omega) (fun j q1 q2 => by rw [e9, sto_ne _ _ _ q2, e8, sto_ne _ _ _ q1]; exact f j q1 q2) (fun q hq => ?_) (fun q hq => ?_)
    · rw [v6, v7]
      by_cases c : q = i
      · subst c; rw [pk_us, pk_us]; exact g (60 + q) (by omega)
      · rw [pk_un c, pk_un c]; exact h q (by omega)
    · rw [v6, v7, pk_un (by omega), pk_un (by omega)]; exact g q hq
theorem p_s93 {τ0 : Sg} {ns : Nat} {K : Sg → Prop} {Q : Int64 → Sg → Prop} (h6 : τ0 0 6 = nI ns) (hns : ns ≤ 3) (hK : ∀ τ, (∀ j, j ≠ 5 → τ j = τ0 j) → (∀ i, i < ns → τ 5 i = τ0 5 (4 + i)) → K τ) : ∀ (d i : Nat) (τ : Sg), i + d = ns → (∀ j, j ≠ 5 → τ j = τ0 j) → (∀ q, q < i → τ 5 q = τ0 5 (4 + q)) → (∀ q, 4 ≤ q → τ 5 q = τ0 5 q) → wX12_stencils_L93 K Q (d + 1) (nI i) τ
  | 0, i, τ, hi, f, h, g => by
    unfold wX12_stencils_L93
    have e : i = ns := by omega
    subst e
    rw [f 0 (by decide), h6]
    exact ⟨fun _ => hK τ f h, fun z => absurd (nI_le (Nat.le_refl _) (by omega)) z⟩
  | d + 1, i, τ, hi, f, h, g => by
    unfold wX12_stencils_L93
    rw [f 0 (by decide), h6, show (4 : Int32) + nI i = nI (4 + i) from nI_add 4 i, nI_clamp (by omega), nI_clamp (by omega), nI_1]
    refine ⟨fun z => absurd z (nI_ge (by omega) (by omega)), fun _ => ⟨vp_in_nI (by omega) (by decide), vp_in_nI (by omega) (by decide), fun τ8 e8 x2 e2 => ?_⟩⟩
    rw [e2]
    refine p_s93 h6 hns hK d (i + 1) τ8 (by omega) (fun j q1 => by rw [e8, sto_ne _ _ _ q1]; exact f j q1) (fun q hq => ?_) (fun q hq => ?_)
    · rw [e8]
      by_cases c : q = i
      · subst c; rw [sto_at]; exact g (4 + q) (by omega)
      · rw [sto_off _ _ _ c]; exact h q (by omega)
    · rw [e8, sto_off _ _ _ (by omega)]; exact g q hq
theorem Inv_txt {σ σ' τ τ' : Sg} (hσ : ∀ j : Nat, j ≠ 0 → j ≠ 2 → (j < 20 ∨ 35 < j) → σ' j = σ j) (hσ0 : σ' 0 1 = σ 0 1) (hτ : ∀ j : Nat, j ≠ 0 → (j < 5 ∨ 9 < j) → τ' j = τ j) (h0 : ∀ k : Nat, k = 0 ∨ k = 19 ∨ k = 28 ∨ k = 42 ∨ k = 47 → τ' 0 k = τ 0 k) (hn : ITape σ' τ') (hx : IText σ' τ') (h : Inv σ τ) : Inv σ' τ' := by
  obtain ⟨a1, a2, a3, a4, a5, a6, a7, a8, a9⟩ := h
  refine ⟨?_, ?_, hn, hx, ?_, ?_, ?_, ?_, ?_⟩
  · exact IRows_fr (fun j h1 h2 => hσ j (by omega) (by omega) (by omega)) (hτ 1 (by omega) (by omega)) (hτ 2 (by omega) (by omega)) (hτ 3 (by omega) (by omega)) a1
  · rw [hσ0, h0 0 (by omega)]; exact a2
  · exact IBay_fr (hσ 4 (by omega) (by omega) (by omega)) (hσ 5 (by omega) (by omega) (by omega)) (hσ 6 (by omega) (by omega) (by omega)) (hσ 7 (by omega) (by omega) (by omega)) (h0 19 (by omega)) (hτ 10 (by omega) (by omega)) (hτ 11 (by omega) (by omega)) (hτ 12 (by omega) (by omega)) a5
  · exact IGau_fr (hσ 8 (by omega) (by omega) (by omega)) (hσ 9 (by omega) (by omega) (by omega)) (hσ 10 (by omega) (by omega) (by omega)) (hσ 11 (by omega) (by omega) (by omega)) (hσ 12 (by omega) (by omega) (by omega)) (hσ 13 (by omega) (by omega) (by omega)) (h0 28 (by omega)) (hτ 17 (by omega) (by omega)) (hτ 18 (by omega) (by omega)) (hτ 19 (by omega) (by omega)) (hτ 20 (by omega) (by omega)) (hτ 21 (by omega) (by omega)) a6
  · exact IStp_fr (fun j h1 h2 => hσ j (by omega) (by omega) (by omega)) (h0 42 (by omega)) (hτ 30 (by omega) (by omega)) (hτ 31 (by omega) (by omega)) a7
  · exact IAsk_fr (hσ 57 (by omega) (by omega) (by omega)) (hσ 58 (by omega) (by omega) (by omega)) (h0 47 (by omega)) (hτ 33 (by omega) (by omega)) a8
  · exact IRed_fr (hσ 45 (by omega) (by omega) (by omega)) (hσ 46 (by omega) (by omega) (by omega)) (hσ 47 (by omega) (by omega) (by omega)) a9
theorem E_stencils {σ τ : Sg} (hI : Inv σ τ) : wX11_stencils σ (fun r σ' => wX12_stencils τ (fun r' τ' => r = r' ∧ Inv σ' τ')) := by
  obtain ⟨⟨L, hL, t1, t2⟩, t3, t4⟩ := hI.2.2.1
  obtain ⟨T, ns, nn, bg, op, nu, sz, x1, x2, x3, x4, x5, x6, x7, x8⟩ := hI.2.2.2.1
  have hb : 20 ≤ T ∧ T ≤ 28 := by rcases x1 with rfl | rfl <;> omega
  have hT' : isSten (48 - T) := by rcases x1 with rfl | rfl; exact Or.inr rfl; exact Or.inl rfl
  have hb' : 20 ≤ 48 - T ∧ 48 - T ≤ 28 := by omega
  have hap : 48 - T + 8 ≤ T ∨ T + 8 ≤ 48 - T := by rcases x1 with rfl | rfl <;> omega
  have hz : σ (48 - T + 1) 0 = 0 := by rcases x1 with rfl | rfl; exact x5; exact x4
  have h4 : ∀ i, i < 300 → τ 4 i = σ 3 i := fun i hi => (t3 i hi).symm
  unfold wX11_stencils
  intro T1 eT1
  rw [x3, nI_clamp (by omega)] at eT1
  rw [eT1]
  refine ⟨hT', p_readT (ta := σ 3) hT' hL t1 rfl hz ⟨fun σ' c pl hR hF v6 v7 σ4 e4 => ⟨fun _ => ?_, fun w => absurd rfl w⟩, fun σ' t' hR ho hF v6 hRT σ4 e4 => ⟨fun w => absurd w one_ne, fun _ => ?_⟩⟩⟩
  · -- a fault
    have f4 : ∀ j, j ≠ 2 → σ4 j = σ' j := fun j hj => by rw [e4, sto_ne _ _ _ hj]
    have g4 : ∀ k, k ≠ 0 → σ4 2 k = σ' 2 k := fun k hk => by rw [e4, sto_off _ _ _ hk]
    have fin : ∀ (r : Int32) (τ2 : Sg), r = nI c → ¬ r ≤ 0 → FrM τ2 τ → τ2 0 14 = nI pl → ∀ τ3, τ3 = sto τ2 0 5 0 → ∀ τ19, τ19 = sto τ3 0 12 r → ((-9000000000000000100 : Int64) - (σ4 2 7).toInt64 = (-9000000000000000100 : Int64) - (τ19 0 14).toInt64 ∧ Inv σ4 τ19) := by
      intro r τ2 er hr hM v14 τ3 e3 τ19 e19
      have f19 : ∀ j, j ≠ 0 → τ19 j = τ2 j := fun j hj => by rw [e19, sto_ne _ _ _ hj, e3, sto_ne _ _ _ hj]
      have g19 : ∀ k, k ≠ 5 → k ≠ 12 → τ19 0 k = τ2 0 k := fun k q1 q2 => by rw [e19, sto_off _ _ _ q2, e3, sto_off _ _ _ q1]
      refine ⟨by rw [g4 7 (by decide), v7, g19 14 (by decide) (by decide), v14], ?_⟩
      refine Inv_txt (σ := σ) (τ := τ) (fun j q0 q2 q => by rw [f4 j q2]; exact hF.1 j q2 (by omega)) (by rw [f4 0 (by decide), hF.1 0 (by decide) (by omega)]) (fun j q0 q => by rw [f19 j q0]; exact hM.1 j q0 (by omega) (by omega) (by omega) (by omega)) (fun k q => by rw [g19 k (by omega) (by omega)]; exact hM.2.1 k (by omega) (by omega) (by omega) (by omega) (by omega)) ⟨⟨0, Nat.zero_le _, by rw [e4, sto_at]; rfl, by rw [e19, sto_off _ _ _ (by decide), e3, sto_at]; rfl⟩, fun i hi => ?_, ?_⟩ ⟨T, ns, nn, bg, op, nu, sz, x1, ?_, ?_, ?_, ?_, x6, ?_, ?_⟩ hI
      · rw [f4 3 (by decide), hF.1 3 (by decide) (by omega), f19 4 (by decide), hM.1 4 (by decide) (by decide) (by decide) (by decide) (by decide)]; exact t3 i hi
      · rw [g4 6 (by decide), v6, e19, sto_at, er]
      · rw [f4 0 (by decide), hF.1 0 (by decide) (by omega)]; exact x2
      · rw [f4 0 (by decide), hF.1 0 (by decide) (by omega)]; exact x3
      · rw [f4 21 (by decide)]
        rcases x1 with rfl | rfl
        · rw [hF.1 21 (by decide) (by omega)]; exact x4
        · exact hF.2.2.trans hz
      · rw [f4 29 (by decide)]
        rcases x1 with rfl | rfl
        · exact hF.2.2.trans hz
        · rw [hF.1 29 (by decide) (by omega)]; exact x5
      · unfold TB at x7 ⊢
        have q : ∀ k, k ≤ 7 → σ4 (T + k) = σ (T + k) := fun k hk => by rw [f4 (T + k) (by omega)]; exact hF.1 (T + k) (by omega) (by omega)
        have q0 : σ4 T = σ T := q 0 (by decide)
        rw [q0, q 1 (by decide), q 2 (by decide), q 3 (by decide), q 4 (by decide), q 5 (by decide), q 6 (by decide), q 7 (by decide)]
        exact x7
      · obtain ⟨y1, y2, y3, y4⟩ := x8
        have n3 := x6.1
        have n60 := x6.2.1
        refine ⟨by rw [g19 6 (by decide) (by decide), hM.2.1 6 (by decide) (by decide) (by decide) (by decide) (by decide)]; exact y1, by rw [g19 7 (by decide) (by decide), hM.2.1 7 (by decide) (by decide) (by decide) (by decide) (by decide)]; exact y2, fun k hk => by rw [f19 5 (by decide), hM.2.2.1 k (by omega)]; exact y3 k hk, fun i hi => ?_⟩
        rw [f19 6 (by decide), f19 7 (by decide), f19 8 (by decide), (hM.2.2.2 i (by omega)).1, (hM.2.2.2 i (by omega)).2, hM.1 8 (by decide) (by decide) (by decide) (by decide) (by decide)]
        exact y4 i hi
    unfold wX12_stencils
    refine p_readAll hL t2 h4 (fun c' pl' hR' τ2 hM v14 => ?_) (fun t' τ2 hR' => by rw [hR] at hR'; cases hR')
    rw [hR] at hR'
    have ec : c = c' := congrArg Prod.fst (Sum.inl.inj hR')
    have ep : pl = pl' := congrArg Prod.snd (Sum.inl.inj hR')
    subst ec ep
    refine ⟨fun q τ3 e3 => ⟨fun z => absurd z (by decide), fun z => fin 1 τ2 (by rw [q]; rfl) z hM v14 τ3 e3⟩, fun q τ3 e3 => ⟨fun z => absurd z (by decide), fun z => fin 3 τ2 (by rw [q]; rfl) z hM v14 τ3 e3⟩⟩
  · -- a text
    have f4 : ∀ j, j ≠ 2 → σ4 j = σ' j := fun j hj => by rw [e4, sto_ne _ _ _ hj]
    have g4 : ∀ k, k ≠ 0 → σ4 2 k = σ' 2 k := fun k hk => by rw [e4, sto_off _ _ _ hk]
    have z3 : σ4 0 3 = nI T := by rw [f4 0 (by decide), hF.1 0 (by decide) (by omega)]; exact x2
    have z4 : σ4 0 4 = nI (48 - T) := by rw [f4 0 (by decide), hF.1 0 (by decide) (by omega)]; exact x3
    intro T6 eT6
    rw [z3, Sten_clamp x1] at eT6
    rw [eT6]
    refine ⟨x1, fun T7 eT7 => ?_⟩
    rw [z4, Sten_clamp hT'] at eT7
    rw [eT7]
    refine ⟨hT', fun σ8 e8 σ9 e9 T10 eT10 => ?_⟩
    have w3 : σ9 0 3 = nI (48 - T) := by rw [e9, sto_off _ _ _ (by decide), e8, sto_at]
    have w4 : σ9 0 4 = nI T := by rw [e9, sto_at]
    rw [w3, Sten_clamp hT'] at eT10
    rw [eT10]
    refine ⟨hT', ?_⟩
    have f9 : ∀ j, j ≠ 0 → j ≠ 2 → σ9 j = σ' j := fun j q0 q2 => by rw [e9, sto_ne _ _ _ q0, e8, sto_ne _ _ _ q0]; exact f4 j q2
    have g9 : ∀ k, k ≠ 0 → σ9 2 k = σ' 2 k := fun k hk => by rw [e9, sto_ne _ _ _ (by decide), e8, sto_ne _ _ _ (by decide)]; exact g4 k hk
    obtain ⟨p0, p1, p2, p3⟩ := hRT
    have okx := OkT_TX ho
    have n3 := okx.1
    have n60 := okx.2.1
    unfold wX12_stencils
    refine p_readAll hL t2 h4 (fun c' pl' hR' => by rw [hR] at hR'; cases hR') (fun t2' τ2 hR' ho2 hpos hM v18 v17 hbg hnd τ3 e3 => ?_)
    rw [hR] at hR'
    cases hR'
    refine ⟨fun _ τ5 e5 τ6 e6 => ⟨t'.2.2.2.1 + 1, ?_⟩, fun z => absurd (by decide) z⟩
    have h36 : ∀ j, j ≠ 0 → τ6 j = τ2 j := fun j hj => by rw [e6, sto_ne _ _ _ hj, e5, sto_ne _ _ _ hj, e3, sto_ne _ _ _ hj]
    have g36 : ∀ k, k ≠ 5 → k ≠ 6 → k ≠ 7 → τ6 0 k = τ2 0 k := fun k q1 q2 q3 => by rw [e6, sto_off _ _ _ q3, e5, sto_off _ _ _ q2, e3, sto_off _ _ _ q1]
    have v6' : τ6 0 6 = nI t'.1 := by rw [e6, sto_off _ _ _ (by decide), e5, sto_at, e3, sto_off _ _ _ (by decide)]; exact v18
    have v7' : τ6 0 7 = nI t'.2.2.2.1 := by rw [e6, sto_at, e5, sto_off _ _ _ (by decide), e3, sto_off _ _ _ (by decide)]; exact v17
    have v5' : τ6 0 5 = 0 := by rw [e6, sto_off _ _ _ (by decide), e5, sto_off _ _ _ (by decide), e3, sto_at]
    refine p_s47 (τ0 := τ6) v7' n60 (fun τ11 f11 v11 => ⟨t'.1 + 1, ?_⟩) t'.2.2.2.1 0 τ6 (by omega) (fun _ _ _ => rfl) (fun q hq => by omega) (fun _ _ => ⟨rfl, rfl⟩)
    refine p_s93 (τ0 := τ11) (by rw [f11 0 (by decide) (by decide)]; exact v6') n3 (fun τ15 f15 v15 => ?_) t'.1 0 τ11 (by omega) (fun _ _ => rfl) (fun q hq => by omega) (fun _ _ => rfl)
    have c6 : τ15 0 6 = nI t'.1 := by rw [f15 0 (by decide), f11 0 (by decide) (by decide)]; exact v6'
    have c7 : τ15 0 7 = nI t'.2.2.2.1 := by rw [f15 0 (by decide), f11 0 (by decide) (by decide)]; exact v7'
    rw [c6, c7, nI_clamp (by omega)]
    refine ⟨vp_in_nI (by omega) (by decide), fun τ16 e16 => ?_⟩
    have f16 : ∀ j, j ≠ 5 → τ16 j = τ15 j := fun j hj => by rw [e16, sto_ne _ _ _ hj]
    have k6 : ∀ i, i < t'.2.2.2.1 → τ16 6 i = nI (kdOf (t'.2.2.2.2.1 i)) ∧ (t'.2.2.2.2.1 i ≠ 10 → τ16 7 i = mkOf (t'.2.2.2.2.1 i) (t'.2.2.2.2.2.1 i)) := fun i hi => by
      have := hnd i hi
      rw [f16 6 (by decide), f15 6 (by decide), f16 7 (by decide), f15 7 (by decide), (v11 i hi).1, (v11 i hi).2, h36 6 (by decide), h36 7 (by decide)]
      exact this
    refine p_laySz (op := t'.2.2.2.2.1) (sz := t'.2.2.2.2.2.2) (by rw [f16 0 (by decide)]; exact c7) n60 (fun i hi => (k6 i hi).1) ho.2.2.2.2.2.1 (OkT_WF ho) (fun τ18 f18 v8 => ?_)
    have g18 : ∀ k, k ≠ 5 → k ≠ 6 → k ≠ 7 → τ18 0 k = τ2 0 k := fun k q1 q2 q3 => by rw [f18 0 (by decide), f16 0 (by decide), f15 0 (by decide), f11 0 (by decide) (by decide)]; exact g36 k q1 q2 q3
    have b18 : ∀ j, j ≠ 0 → j ≠ 5 → j ≠ 6 → j ≠ 7 → j ≠ 8 → τ18 j = τ2 j := fun j q0 q5 q6 q7 q8 => by rw [f18 j q8, f16 j q5, f15 j q5, f11 j q6 q7]; exact h36 j q0
    have d7 : τ18 0 7 = nI t'.2.2.2.1 := by rw [f18 0 (by decide), f16 0 (by decide)]; exact c7
    refine ⟨?_, ?_⟩
    · rw [d7, f9 (48 - T) (by omega) (by omega), p1]
    · refine Inv_txt (σ := σ) (τ := τ) (fun j q0 q2 q => by rw [f9 j q0 q2]; exact hF.1 j q2 (by omega)) (by rw [e9, sto_off _ _ _ (by decide), e8, sto_off _ _ _ (by decide), f4 0 (by decide), hF.1 0 (by decide) (by omega)]) (fun j q0 q => by rw [b18 j q0 (by omega) (by omega) (by omega) (by omega)]; exact hM.1 j q0 (by omega) (by omega) (by omega) (by omega)) (fun k q => by rw [g18 k (by omega) (by omega) (by omega)]; exact hM.2.1 k (by omega) (by omega) (by omega) (by omega) (by omega)) ⟨⟨0, Nat.zero_le _, ?_, ?_⟩, fun i hi => ?_, ?_⟩ ⟨48 - T, t'.1, t'.2.2.2.1, t'.2.1, t'.2.2.2.2.1, t'.2.2.2.2.2.1, t'.2.2.2.2.2.2, hT', w3, by rw [w4, show 48 - (48 - T) = T by omega], ?_, ?_, okx, ?_, ?_⟩ hI
      · rw [e9, sto_ne _ _ _ (by decide), e8, sto_ne _ _ _ (by decide), e4, sto_at]; rfl
      · rw [f18 0 (by decide), f16 0 (by decide), f15 0 (by decide), f11 0 (by decide) (by decide), v5']; rfl
      · rw [f9 3 (by decide) (by decide), hF.1 3 (by decide) (by omega), b18 4 (by decide) (by decide) (by decide) (by decide) (by decide), hM.1 4 (by decide) (by decide) (by decide) (by decide) (by decide)]; exact t3 i hi
      · rw [g9 6 (by decide), v6, g18 12 (by decide) (by decide) (by decide), hM.2.1 12 (by decide) (by decide) (by decide) (by decide) (by decide)]; exact t4
      · rw [f9 21 (by decide) (by decide)]
        rcases x1 with rfl | rfl
        · rw [hF.1 21 (by decide) (by omega)]; exact x4
        · exact hF.2.2.trans hz
      · rw [f9 29 (by decide) (by decide)]
        rcases x1 with rfl | rfl
        · exact hF.2.2.trans hz
        · rw [hF.1 29 (by decide) (by omega)]; exact x5
      · have q : ∀ k, σ9 (48 - T + k) = σ' (48 - T + k) := fun k => f9 _ (by omega) (by omega)
        have q0 : σ9 (48 - T) = σ' (48 - T) := q 0
        unfold TB
        rw [q0, q 1, q 2, q 3, q 4, q 5, q 6, q 7]
        exact ⟨p0, p1, p2, fun i hi => p3 i (Nat.zero_le _) hi⟩
      · refine ⟨by rw [f18 0 (by decide), f16 0 (by decide)]; exact c6, d7, fun k hk => ?_, fun i hi => ?_⟩
        · rw [f18 5 (by decide), e16]
          by_cases c : k = t'.1
          · rw [c, sto_at, ho.2.2.2.1]
          · rw [sto_off _ _ _ c, v15 k (by omega), f11 5 (by decide) (by decide), h36 5 (by decide)]
            exact hbg k (by omega)
        · rw [f18 6 (by decide), f18 7 (by decide)]
          exact ⟨(k6 i hi).1, (k6 i hi).2, v8 i hi⟩
