/-! slopes: all rows of the reference; slope -/
def frH (τ τ0 : Sg) : Prop := ∀ j, j ≠ 14 → j ≠ 16 → j ≠ 22 → j ≠ 23 → j ≠ 24 → j ≠ 25 → τ j = τ0 j
theorem frH_trans {a b c : Sg} (h : frH a b) (h' : frH b c) : frH a c := fun j q1 q2 q3 q4 q5 q6 => (h j q1 q2 q3 q4 q5 q6).trans (h' j q1 q2 q3 q4 q5 q6)
def RowsM (τ : Sg) (ns n N : Nat) (bg op : Nat → Nat) (nu : Nat → Int32) (sz : Nat → Nat) : Prop := ∀ r, r ≤ N → ∀ i, i < n → τ 13 (10 * r + i) = rn ns bg op nu sz (τ 10) (τ 12) (τ 11) n r i
theorem RowsM_fr {τ τ0 : Sg} {ns n N : Nat} {bg op : Nat → Nat} {nu : Nat → Int32} {sz : Nat → Nat} (h : frH τ τ0) (hR : RowsM τ0 ns n N bg op nu sz) : RowsM τ ns n N bg op nu sz := by
  unfold RowsM at hR ⊢
  rw [h 10 (by decide) (by decide) (by decide) (by decide) (by decide) (by decide), h 11 (by decide) (by decide) (by decide) (by decide) (by decide) (by decide), h 12 (by decide) (by decide) (by decide) (by decide) (by decide) (by decide), h 13 (by decide) (by decide) (by decide) (by decide) (by decide) (by decide)]
  exact hR
theorem seM_row {τ : Sg} {ns n N q c : Nat} {bg op : Nat → Nat} {nu : Nat → Int32} {sz : Nat → Nat} (hR : RowsM τ ns n N bg op nu sz) (hq : q ≤ N) (hc : c < n) : seM τ q c n = sRow (rn ns bg op nu sz (τ 10) (τ 12) (τ 11) n q) (τ 12) (τ 11) n c := by
  have r0 := fun i (hi : i < n) => hR q hq i hi
  unfold seM sRow
  rw [r0 c hc]
  have e1 : (if c = 0 then τ 12 0 else τ 13 (10 * q + c - 1)) = (if c = 0 then τ 12 0 else rn ns bg op nu sz (τ 10) (τ 12) (τ 11) n q (c - 1)) := by
    by_cases hc0 : c = 0
    · rw [if_pos hc0, if_pos hc0]
    · rw [if_neg hc0, if_neg hc0, ← r0 (c - 1) (by omega), show 10 * q + c - 1 = 10 * q + (c - 1) by omega]
  have e2 : (if c + 1 = n then τ 12 1 else τ 13 (10 * q + c + 1)) = (if c + 1 = n then τ 12 1 else rn ns bg op nu sz (τ 10) (τ 12) (τ 11) n q (c + 1)) := by
    by_cases hc0 : c + 1 = n
    · rw [if_pos hc0, if_pos hc0]
    · rw [if_neg hc0, if_neg hc0, ← r0 (c + 1) (by omega), show 10 * q + c + 1 = 10 * q + (c + 1) by omega]
  rw [e1, e2]
theorem TM_frH {τ τ0 : Sg} {ns nn : Nat} {bg op : Nat → Nat} {nu : Nat → Int32} {sz : Nat → Nat} (h : frH τ τ0) (hM : TM τ0 ns nn bg op nu sz) : TM τ ns nn bg op nu sz :=
  TM_fr (by rw [h 0 (by decide) (by decide) (by decide) (by decide) (by decide) (by decide)]) (by rw [h 0 (by decide) (by decide) (by decide) (by decide) (by decide) (by decide)]) (h 5 (by decide) (by decide) (by decide) (by decide) (by decide) (by decide)) (h 6 (by decide) (by decide) (by decide) (by decide) (by decide) (by decide)) (h 7 (by decide) (by decide) (by decide) (by decide) (by decide) (by decide)) (h 8 (by decide) (by decide) (by decide) (by decide) (by decide) (by decide)) hM
theorem p_f117 {τ0 : Sg} {ns nn n q N : Nat} {bg op : Nat → Nat} {nu : Nat → Int32} {sz : Nat → Nat} {x2 : Int32} {M P : Nat → Nat → Int32} {K Q : Sg → Prop} (hX : TX ns nn bg op sz) (hM : TM τ0 ns nn bg op nu sz) (hns : 0 < ns) (h19 : τ0 0 19 = nI n) (hn : n ≤ 10) (hq : q < 120) (hqN : q ≤ N) (hR : RowsM τ0 ns n N bg op nu sz) (hP : ∀ j, j < 10 → τ0 23 j = P 1 j)
    (hK : ∀ τ, frH τ τ0 → τ 23 = τ0 23 → Ag τ 22 24 25 (cf (fun c => zc ns bg op nu sz (τ0 10) (τ0 12) (τ0 11) n q c (P 1 c)) n M n) → K τ) :
    ∀ (d c : Nat) (τ : Sg), c + d = n → frH τ τ0 → τ 23 = τ0 23 → Ag τ 22 24 25 (cf (fun c => zc ns bg op nu sz (τ0 10) (τ0 12) (τ0 11) n q c (P 1 c)) n M c) → wX12_findSlopes_L117 x2 (nI (q % ns)) (nI q) K Q (d + 1) (nI c) τ
  | 0, c, τ, hc, h, h23, hA => by
    unfold wX12_findSlopes_L117
    have e : c = n := by omega
    subst e
    rw [h 0 (by decide) (by decide) (by decide) (by decide) (by decide) (by decide), h19]
    exact ⟨fun _ => hK τ h h23 hA, fun z => absurd (nI_le (Nat.le_refl _) (by omega)) z⟩
  | d + 1, c, τ, hc, h, h23, hA => by
    have hk : q % ns < ns := Nat.mod_lt _ hns
    unfold wX12_findSlopes_L117
    rw [h 0 (by decide) (by decide) (by decide) (by decide) (by decide) (by decide), h19]
    refine ⟨fun z => absurd z (nI_ge (by omega) (by omega)), fun _ => ?_⟩
    have hRt := RowsM_fr h hR
    refine p_giveB hX (TM_frH h hM) hk (by rw [h 0 (by decide) (by decide) (by decide) (by decide) (by decide) (by decide)]; exact h19) hn (by omega) (by omega) (fun τ25 z f25 hz hG x5 e5 => ?_)
    rw [nI_1] at e5
    subst e5
    have hz' : ∀ r, r ≤ 3 → z r = zc ns bg op nu sz (τ0 10) (τ0 12) (τ0 11) n q c (P 1 c) r := fun r hr => by
      rw [hz r hr, seM_row hRt hqN (by omega), h23, hP c (by omega), h 10 (by decide) (by decide) (by decide) (by decide) (by decide) (by decide), h 11 (by decide) (by decide) (by decide) (by decide) (by decide) (by decide), h 12 (by decide) (by decide) (by decide) (by decide) (by decide) (by decide)]
      rfl
    refine p_f117 hX hM hns h19 hn hq hqN hR hP hK d (c + 1) τ25 (by omega) (fun j q1 q2 q3 q4 q5 q6 => by rw [f25 j q1 q2 q3 q5 q6]; exact h j q1 q2 q3 q4 q5 q6) (by rw [f25 23 (by decide) (by decide) (by decide) (by decide) (by decide)]; exact h23) ⟨fun j hj => ?_, fun j hj => ?_, fun j hj => ?_⟩
    · rw [hG.1]; exact hS_cg (hA.1 j hj) hz'
    · rw [hG.2.1]; exact hA_cg (hA.2.1 j hj) hz'
    · rw [hG.2.2]; exact hE_cg (hA.2.2 j hj) hz'
theorem p_f93 {τ0 : Sg} {x2 x3 x4 : Int32} {K Q : Sg → Prop} (hK : ∀ τ, (∀ j, j ≠ 24 → τ j = τ0 j) → (∀ i, i < 10 → τ 24 i = 0) → K τ) :
    ∀ (d i : Nat) (τ : Sg), i + d = 10 → (∀ j, j ≠ 24 → τ j = τ0 j) → (∀ q, q < i → τ 24 q = 0) → wX12_findSlopes_L93 x2 x3 x4 K Q (d + 1) (nI i) τ
  | 0, i, τ, hi, h1, h2 => by
    unfold wX12_findSlopes_L93
    have e : i = 10 := by omega
    subst e
    exact ⟨fun _ => hK τ h1 h2, fun z => absurd (nI_le (a := 10) (Nat.le_refl _) (by decide)) z⟩
  | d + 1, i, τ, hi, h1, h2 => by
    unfold wX12_findSlopes_L93
    rw [nI_clamp (by omega)]
    refine ⟨fun z => absurd z (nI_ge (b := 10) (by omega) (by decide)), fun _ => ⟨vp_in_nI (by omega) (by decide), fun τ3 e3 x2 e2 => ?_⟩⟩
    rw [nI_1] at e2
    subst e2 e3
    refine p_f93 hK d (i + 1) _ (by omega) (fun j hj => by rw [sto_ne _ _ _ hj]; exact h1 j hj) (fun q hq => ?_)
    by_cases hic : q = i
    · subst hic; rw [sto_at]
    · rw [sto_off _ _ _ hic]; exact h2 q (by omega)
theorem p_f144 {τ0 : Sg} {x2 x3 : Int32} {K Q : Sg → Prop} (hK : ∀ τ, (∀ j, j ≠ 23 → τ j = τ0 j) → (∀ i, i < 10 → τ 23 i = τ0 24 i) → K τ) :
    ∀ (d i : Nat) (τ : Sg), i + d = 10 → (∀ j, j ≠ 23 → τ j = τ0 j) → (∀ q, q < i → τ 23 q = τ0 24 q) → wX12_findSlopes_L144 x2 x3 K Q (d + 1) (nI i) τ
  | 0, i, τ, hi, h1, h2 => by
    unfold wX12_findSlopes_L144
    have e : i = 10 := by omega
    subst e
    exact ⟨fun _ => hK τ h1 h2, fun z => absurd (nI_le (a := 10) (Nat.le_refl _) (by decide)) z⟩
  | d + 1, i, τ, hi, h1, h2 => by
    unfold wX12_findSlopes_L144
    rw [nI_clamp (by omega)]
    refine ⟨fun z => absurd z (nI_ge (b := 10) (by omega) (by decide)), fun _ => ⟨vp_in_nI (by omega) (by decide), vp_in_nI (by omega) (by decide), fun τ3 e3 x2 e2 => ?_⟩⟩
    rw [nI_1] at e2
    subst e2 e3
    refine p_f144 hK d (i + 1) _ (by omega) (fun j hj => by rw [sto_ne _ _ _ hj]; exact h1 j hj) (fun q hq => ?_)
    by_cases hic : q = i
    · subst hic; rw [sto_at, h1 24 (by decide)]
    · rw [sto_off _ _ _ hic]; exact h2 q (by omega)
theorem p_f26 {τ0 : Sg} {x1 : Int32} {K Q : Sg → Prop} (hK : ∀ τ, (∀ j, j ≠ 22 → j ≠ 23 → τ j = τ0 j) → (∀ i, i < 10 → τ 22 i = 0 ∧ τ 23 i = 0) → K τ) :
    ∀ (d i : Nat) (τ : Sg), i + d = 10 → (∀ j, j ≠ 22 → j ≠ 23 → τ j = τ0 j) → (∀ q, q < i → τ 22 q = 0 ∧ τ 23 q = 0) → wX12_findSlopes_L26 x1 K Q (d + 1) (nI i) τ
  | 0, i, τ, hi, h1, h2 => by
    unfold wX12_findSlopes_L26
    have e : i = 10 := by omega
    subst e
    exact ⟨fun _ => hK τ h1 h2, fun z => absurd (nI_le (a := 10) (Nat.le_refl _) (by decide)) z⟩
  | d + 1, i, τ, hi, h1, h2 => by
    unfold wX12_findSlopes_L26
    rw [nI_clamp (by omega)]
    refine ⟨fun z => absurd z (nI_ge (b := 10) (by omega) (by decide)), fun _ => ⟨vp_in_nI (by omega) (by decide), fun τ3 e3 => ⟨vp_in_nI (by omega) (by decide), fun τ4 e4 x2 e2 => ?_⟩⟩⟩
    rw [nI_1] at e2
    subst e2
    refine p_f26 hK d (i + 1) τ4 (by omega) (fun j q1 q2 => by rw [e4, sto_ne _ _ _ q2, e3, sto_ne _ _ _ q1]; exact h1 j q1 q2) (fun q hq => ?_)
    rw [e4, sto_ne (j' := 22) _ _ _ (by decide), e3]
    by_cases hic : q = i
    · subst hic; rw [sto_at, sto_at]; exact ⟨rfl, rfl⟩
    · rw [sto_off _ _ _ hic, sto_off _ _ _ hic, sto_ne (j' := 23) _ _ _ (by decide)]; exact h2 q (by omega)
theorem p_f70 {τ0 : Sg} {ns nn n N s : Nat} {bg op : Nat → Nat} {nu : Nat → Int32} {sz : Nat → Nat} {K Q : Sg → Prop} (hX : TX ns nn bg op sz) (hM : TM τ0 ns nn bg op nu sz) (h19 : τ0 0 19 = nI n) (hn : n ≤ 10) (hs : s * ns + ns ≤ 120) (hs2 : s < 40) (hsN : s * ns + ns ≤ N) (hR : RowsM τ0 ns n N bg op nu sz) :
    ∀ (k : Nat) (τ : Sg) (P : Nat → Nat → Int32), k ≤ ns → frH τ τ0 → Ag τ 22 23 25 P → (∀ τ', frH τ' τ0 → Ag τ' 22 23 25 (rws ns bg op nu sz (τ0 10) (τ0 12) (τ0 11) n (s * ns) k P) → K τ') → wX12_findSlopes_L70 (nI (s + 1)) K Q (k + 1) (nI k - 1) τ
  | 0, τ, P, hk, h, hP, hK => by
    unfold wX12_findSlopes_L70
    exact ⟨fun _ => hK τ h hP, fun z => absurd m1_lt z⟩
  | k + 1, τ, P, hk, h, hP, hK => by
    have h3 := hX.1
    have e6 : τ 0 6 = nI ns := by rw [h 0 (by decide) (by decide) (by decide) (by decide) (by decide) (by decide)]; exact hM.1
    unfold wX12_findSlopes_L70
    rw [nI_sub1, nI_sub1, e6, pk_mul, nI_add]
    refine ⟨fun z => absurd z (nI_pos (by omega)), fun _ => ⟨fun z => absurd z (nI_ge (a := 0) (by omega) (by omega)), fun _ x4 e4 => ⟨11, ?_⟩⟩⟩
    subst e4
    refine p_f93 (τ0 := τ) (fun τ22 f22 v22 => ⟨n + 1, ?_⟩) 10 0 τ (by omega) (fun _ _ => rfl) (fun q hq => by omega)
    have h22 : frH τ22 τ0 := fun j q1 q2 q3 q4 q5 q6 => by rw [f22 j q5]; exact h j q1 q2 q3 q4 q5 q6
    have t10 : τ22 10 = τ0 10 := h22 10 (by decide) (by decide) (by decide) (by decide) (by decide) (by decide)
    have t11 : τ22 11 = τ0 11 := h22 11 (by decide) (by decide) (by decide) (by decide) (by decide) (by decide)
    have t12 : τ22 12 = τ0 12 := h22 12 (by decide) (by decide) (by decide) (by decide) (by decide) (by decide)
    have hL := p_f117 (τ0 := τ22) (q := s * ns + k) (N := N) (x2 := nI (s + 1)) (Q := Q) (M := fun k => if k = 1 then fun _ => 0 else P k) (P := P) (K := fun σ_27 => (∃ nf, wX12_findSlopes_L144 (nI (s + 1)) (nI k) (fun σ_31 => (∀ x3_32 : Int32, x3_32 = nI k + (-1) → wX12_findSlopes_L70 (nI (s + 1)) K Q (k + 1) x3_32 σ_31)) Q nf 0 σ_27)) hX (TM_frH h22 hM) (by omega) (by rw [h22 0 (by decide) (by decide) (by decide) (by decide) (by decide) (by decide)]; exact h19) hn (by omega) (by omega) (RowsM_fr h22 hR) (fun j hj => by rw [f22 23 (by decide)]; exact hP.2.1 j hj) (fun τ27 f27 v27 hA27 => ⟨11, ?_⟩) n 0 τ22 (by omega) (fun _ _ _ _ _ _ _ => rfl) rfl ⟨fun j hj => ?_, fun j hj => ?_, fun j hj => ?_⟩
    · rw [mod_sk (by omega)] at hL
      exact hL
    · have h27 := frH_trans f27 h22
      rw [t10, t11, t12] at hA27
      refine p_f144 (τ0 := τ27) (fun τ31 f31 v31 x3 e3 => ?_) 10 0 τ27 (by omega) (fun _ _ => rfl) (fun q hq => by omega)
      rw [add_m1] at e3
      rw [e3]
      refine p_f70 hX hM h19 hn hs hs2 hsN hR k τ31 (rst ns bg op nu sz (τ0 10) (τ0 12) (τ0 11) n (s * ns + k) P) (by omega) (fun j q1 q2 q3 q4 q5 q6 => by rw [f31 j q4]; exact h27 j q1 q2 q3 q4 q5 q6) ⟨fun j hj => ?_, fun j hj => ?_, fun j hj => ?_⟩ hK
      · rw [f31 22 (by decide)]; exact hA27.1 j hj
      · rw [v31 j hj]; exact hA27.2.1 j hj
      · rw [f31 25 (by decide)]; exact hA27.2.2 j hj
    · rw [f22 22 (by decide)]; exact hP.1 j hj
    · rw [v22 j hj]; rfl
    · rw [f22 25 (by decide)]; exact hP.2.2 j hj
theorem CM_frH {τ τ' : Sg} {ns nn : Nat} {bg op : Nat → Nat} {nu : Nat → Int32} {sz : Nat → Nat} {n g : Nat} {ou : Nat → Int32} {ce gs : Nat → Nat} {wt wa : Nat → Int32} (h : frH τ' τ) (hC : CM τ ns nn bg op nu sz n g ou ce gs wt wa) : CM τ' ns nn bg op nu sz n g ou ce gs wt wa := CM_fr (fun j q1 _ _ _ q => h j (by unfold scrM at q; omega) (by unfold scrM at q; omega) (by unfold scrM at q; omega) (by unfold scrM at q; omega) (by unfold scrM at q; omega) (by unfold scrM at q; omega)) (fun k _ => by rw [h 0 (by decide) (by decide) (by decide) (by decide) (by decide) (by decide)]) hC
theorem p_addG {τ0 : Sg} {ns nn : Nat} {bg op : Nat → Nat} {nu : Nat → Int32} {sz : Nat → Nat} {n g s : Nat} {ou : Nat → Int32} {ce gs : Nat → Nat} {wt wa B : Nat → Int32} {R : Nat → Nat → Int32} {K Q : Sg → Prop} (hC : CM τ0 ns nn bg op nu sz n g ou ce gs wt wa) (hs : s ≤ 20) (hR : ∀ i, i < g → gc n ou ce i → τ0 13 (10 * (gs i * ns) + ce i) = R (gs i * ns) (ce i)) (hK : ∀ τ, (∀ j, j ≠ 23 → τ j = τ0 j) → (∀ j, j < 10 → τ 23 j = ga R ns n ou ce gs wt wa s B g j) → K τ) :
    ∀ (d i : Nat) (τ : Sg), i + d = g → (∀ j, j ≠ 23 → τ j = τ0 j) → (∀ j, j < 10 → τ 23 j = ga R ns n ou ce gs wt wa s B i j) → wX12_addGauges_L2 (nI s) K Q (d + 1) (nI i) τ
  | 0, i, τ, hi, h, hB => by
    have hG := hC.2.2.2.2.2
    have hg := hG.1
    unfold wX12_addGauges_L2
    have e : i = g := by omega
    rw [h 0 (by decide), hG.2.1, e]
    exact ⟨fun _ => hK τ h (by rw [← e]; exact hB), fun z => absurd (nI_le (Nat.le_refl _) (by omega)) z⟩
  | d + 1, i, τ, hi, h, hB => by
    have hG0 := hC.2.2.2.2.2
    have hn := hC.2.2.2.1
    have h19 := hC.2.2.2.2.1
    have hns := hC.1.1
    have hg := hG0.1
    have hG : GaM τ g ou ce gs wt wa := by
      unfold GaM at hG0 ⊢
      rw [h 0 (by decide), h 17 (by decide), h 18 (by decide), h 19 (by decide), h 20 (by decide), h 21 (by decide)]
      exact hG0
    obtain ⟨a1, a2, a3, a4, a5, a6, a7⟩ := hG.2.2 i (by omega)
    have i1 : vp_in (nI i) 12 := vp_in_nI (by omega) (by decide)
    have nxt : ∀ τ2, (∀ j, j ≠ 23 → τ2 j = τ0 j) → (∀ j, j < 10 → τ2 23 j = ga R ns n ou ce gs wt wa s B (i + 1) j) → wX12_addGauges_b69 (nI s) (nI i) τ2 K (wX12_addGauges_L2 (nI s) K Q (d + 1)) Q := by
      intro τ2 h2 hB2
      unfold wX12_addGauges_b69
      intro x5 e5
      rw [e5, nI_1]
      exact p_addG hC hs hR hK d (i + 1) τ2 (by omega) h2 hB2
    unfold ga at nxt
    unfold wX12_addGauges_L2
    rw [hG.2.1]
    have es : nI (gs i) = nI s ↔ gs i = s := nI_eq (by omega) (by omega)
    refine ⟨fun z => absurd z (nI_ge (by omega) (by omega)), fun _ => ?_⟩
    refine p_countsM hG (by rw [h 0 (by decide)]; exact h19) (by omega) hn (fun c => ⟨fun w => absurd w one_ne, fun _ => ⟨i1, ?_⟩⟩) (fun c => ⟨fun _ => nxt τ h (fun j hj => ?_), fun w => absurd rfl w⟩)
    · rw [nI_clamp (by omega), a4, a2, nI_clamp (by omega), a6]
      refine ⟨fun z => ⟨i1, vp_in_nI a3 (by decide), i1, i1, p_stateAt (by rw [h 0 (by decide)]; exact hC.2.1.1) hns (by omega) a3 ⟨i1, vp_in_nI a3 (by decide), fun τ9 e9 => nxt τ9 (fun j hj => by rw [e9, sto_ne _ _ _ hj]; exact h j hj) (fun j hj => ?_)⟩⟩, fun z => nxt τ h (fun j hj => ?_)⟩
      · have z' := es.mp z
        rw [if_pos ⟨c, z'⟩, e9, sto_same, h 13 (by decide), ← z', hR i (by omega) c, a7]
        exact upd_c (by rw [z']; exact hB j hj) (by rw [z', hB (ce i) a3])
      · rw [if_neg (fun w => z (es.mpr w.2))]; exact hB j hj
    · rw [if_neg (fun w => c w.1)]; exact hB j hj
theorem p_addG' {τ : Sg} {ns nn : Nat} {bg op : Nat → Nat} {nu : Nat → Int32} {sz : Nat → Nat} {n g s : Nat} {ou : Nat → Int32} {ce gs : Nat → Nat} {wt wa : Nat → Int32} {P : Nat → Nat → Int32} {Q : Sg → Prop} (hC : CM τ ns nn bg op nu sz n g ou ce gs wt wa) (hs : s ≤ 20) (hR : RowsM τ ns n (gl n ou ce gs g * ns) bg op nu sz) (hP : Ag τ 22 23 25 P) (hQ : ∀ τ', frH τ' τ → Ag τ' 22 23 25 (gag (rn ns bg op nu sz (τ 10) (τ 12) (τ 11) n) ns n g ou ce gs wt wa s P) → Q τ') : wX12_addGauges (nI s) τ Q := by
  unfold wX12_addGauges
  refine ⟨g + 1, p_addG (B := P 1) (R := rn ns bg op nu sz (τ 10) (τ 12) (τ 11) n) hC hs (fun i hi c => hR _ (Nat.mul_le_mul_right ns (gl_ge c hi)) _ c.2) (fun τ' f' v' => hQ τ' (fun j _ _ _ q4 _ _ => f' j q4) ⟨fun j hj => ?_, fun j hj => ?_, fun j hj => ?_⟩) g 0 τ (by omega) (fun _ _ => rfl) (fun j hj => hP.2.1 j hj)⟩
  · rw [f' 22 (by decide)]; exact hP.1 j hj
  · rw [v' j hj]; rfl
  · rw [f' 25 (by decide)]; exact hP.2.2 j hj
theorem p_f54 {τ0 : Sg} {ns nn : Nat} {bg op : Nat → Nat} {nu : Nat → Int32} {sz : Nat → Nat} {n g : Nat} {ou : Nat → Int32} {ce gs : Nat → Nat} {wt wa : Nat → Int32} {K Q : Sg → Prop} (hCM : CM τ0 ns nn bg op nu sz n g ou ce gs wt wa) (hR : RowsM τ0 ns n (gl n ou ce gs g * ns) bg op nu sz) :
    ∀ (s : Nat) (τ : Sg) (P : Nat → Nat → Int32), s ≤ gl n ou ce gs g → frH τ τ0 → Ag τ 22 23 25 P → (∀ τ', frH τ' τ0 → Ag τ' 22 23 25 (gag (rn ns bg op nu sz (τ0 10) (τ0 12) (τ0 11) n) ns n g ou ce gs wt wa 0 (sps ns bg op nu sz (τ0 10) (τ0 12) (τ0 11) n g ou ce gs wt wa s P)) → K τ') → wX12_findSlopes_L54 K Q (s + 2) (nI s) τ
  | s, τ, P, hs, h, hP, hK => by
    obtain ⟨a3, a4, a5, a6, a7, a8⟩ := id hCM
    have hl := gl_le (n := n) (ou := ou) (ce := ce) (fun j hj => (a8.2.2 j hj).2.2.2.2.1 : ∀ j, j < g → gs j ≤ 20)
    have h3 := a3.1
    have t10 : τ 10 = τ0 10 := h 10 (by decide) (by decide) (by decide) (by decide) (by decide) (by decide)
    have t11 : τ 11 = τ0 11 := h 11 (by decide) (by decide) (by decide) (by decide) (by decide) (by decide)
    have t12 : τ 12 = τ0 12 := h 12 (by decide) (by decide) (by decide) (by decide) (by decide) (by decide)
    unfold wX12_findSlopes_L54
    refine ⟨fun z => absurd z (nI_pos (by omega)), fun _ => ?_⟩
    refine p_addG' (CM_frH h hCM) (by omega) (RowsM_fr h hR) hP (fun τ14 f14 hA14 x3 e3 => ?_)
    have h14 := frH_trans f14 h
    rw [t10, t11, t12] at hA14
    rw [(CM_frH h14 hCM).2.1.1] at e3
    rw [e3]
    match s, hs, hK, hA14 with
    | 0, hs, hK, hA14 =>
      refine ⟨1, ?_⟩
      have fin : wX12_findSlopes_b177 (nI 0) τ14 K (wX12_findSlopes_L54 K Q (0 + 1)) Q := by
        unfold wX12_findSlopes_b177
        intro x2 e2
        rw [add_m1] at e2
        rw [e2]
        unfold wX12_findSlopes_L54
        exact ⟨fun _ => hK τ14 h14 hA14, fun z => absurd m1_lt z⟩
      unfold wX12_findSlopes_L70
      exact ⟨fun _ => fin, fun _ => ⟨fun _ => fin, fun z => absurd (nI_le (a := 0) (b := 0) (Nat.le_refl _) (by decide)) z⟩⟩
    | s + 1, hs, hK, hA14 =>
      have hm : (s + 1) * ns ≤ gl n ou ce gs g * ns := Nat.mul_le_mul_right ns hs
      have hm2 : (s + 1) * ns ≤ 40 * 3 := Nat.mul_le_mul (by omega) h3
      have es : (s + 1) * ns = s * ns + ns := Nat.succ_mul s ns
      rw [es] at hm hm2
      refine ⟨ns + 1, p_f70 (τ0 := τ0) (N := gl n ou ce gs g * ns) a3 a4 a7 a6 hm2 (by omega) hm hR ns τ14 _ (Nat.le_refl _) h14 hA14 (fun τ33 f33 hA33 => ?_)⟩
      unfold wX12_findSlopes_b177
      intro x2 e2
      rw [add_m1, nI_sub1] at e2
      rw [e2]
      exact p_f54 hCM hR s τ33 _ (by omega) f33 hA33 hK
theorem p_find {τ : Sg} {ns nn : Nat} {bg op : Nat → Nat} {nu : Nat → Int32} {sz : Nat → Nat} {n g : Nat} {ou : Nat → Int32} {ce gs : Nat → Nat} {wt wa : Nat → Int32} {Q : Sg → Prop} (hCM : CM τ ns nn bg op nu sz n g ou ce gs wt wa) (hQ : ∀ τ', SameM τ' τ → Ag τ' 22 23 25 (FP ns bg op nu sz (τ 10) (τ 12) (τ 11) n g ou ce gs wt wa) → Q τ') : wX12_findSlopes τ Q := by
  obtain ⟨a3, a4, a5, a6, a7, a8⟩ := id hCM
  have hl := gl_le (n := n) (ou := ou) (ce := ce) (fun j hj => (a8.2.2 j hj).2.2.2.2.1 : ∀ j, j < g → gs j ≤ 20)
  unfold wX12_findSlopes
  refine p_lastM' a8 a7 a6 (p_go a3 a4 a7 a6 (by omega) (fun τ4 g4 g40 hR4 _ => ⟨vin 0 2 (by decide) (by decide), fun τ5 e5 => ⟨vin 1 2 (by decide) (by decide), fun τ6 e6 => ⟨11, ?_⟩⟩⟩))
  have s4 : SameM τ4 τ := sM_of g4 g40
  have f6 : ∀ j, j ≠ 25 → τ6 j = τ4 j := fun j hj => by rw [e6, sto_ne _ _ _ hj, e5, sto_ne _ _ _ hj]
  refine p_f26 (τ0 := τ6) (fun τ11 f11 v11 => ⟨gl n ou ce gs g + 2, ?_⟩) 10 0 τ6 (by omega) (fun _ _ _ => rfl) (fun q hq => by omega)
  have h11 : frH τ11 τ4 := fun j q1 q2 q3 q4 q5 q6 => by rw [f11 j q3 q4]; exact f6 j q6
  have r10 : τ4 10 = τ 10 := g4 10 (by decide) (by decide) (by decide) (by decide)
  have r11 : τ4 11 = τ 11 := g4 11 (by decide) (by decide) (by decide) (by decide)
  have r12 : τ4 12 = τ 12 := g4 12 (by decide) (by decide) (by decide) (by decide)
  have hRM : RowsM τ4 ns n (gl n ou ce gs g * ns) bg op nu sz := by
    unfold RowsM
    rw [r10, r11, r12]
    exact hR4
  refine p_f54 (τ0 := τ4) (CM_same s4 hCM) hRM (gl n ou ce gs g) τ11 (fun _ _ => 0) (Nat.le_refl _) h11 ⟨fun j hj => (v11 j hj).1, fun j hj => (v11 j hj).2, fun j hj => ?_⟩ (fun τ35 f35 hA35 => hQ τ35 ?_ ?_)
  · rw [f11 25 (by decide) (by decide), e6]
    by_cases hj1 : j = 1
    · subst hj1; rw [sto_at]
    · rw [sto_off _ _ _ hj1, e5, show j = 0 by omega, sto_at]
  · refine SameM_trans ⟨fun j q1 q => f35 j (by unfold scrM at q; omega) (by unfold scrM at q; omega) (by unfold scrM at q; omega) (by unfold scrM at q; omega) (by unfold scrM at q; omega) (by unfold scrM at q; omega), fun k _ => by rw [f35 0 (by decide) (by decide) (by decide) (by decide) (by decide) (by decide)]⟩ s4
  · rw [r10, r11, r12] at hA35
    exact hA35
theorem sB_frG {σ σ' : Sg} (h : frG σ' σ) : SameB σ' σ := fun j hj => h j (by unfold scrB at hj; omega) (by unfold scrB at hj; omega) (by unfold scrB at hj; omega) (by unfold scrB at hj; omega) (by unfold scrB at hj; omega) (by unfold scrB at hj; omega) (by unfold scrB at hj; omega) (by unfold scrB at hj; omega)
theorem p_slB {σ : Sg} {T ns nn : Nat} {bg op : Nat → Nat} {nu : Nat → Int32} {sz : Nat → Nat} {n g : Nat} {ou : Nat → Int32} {ce gs : Nat → Nat} {wt wa : Nat → Int32} {Q : Sg → Prop} (hB : CB σ T ns nn bg op nu sz n g ou ce gs wt wa) (hQ : ∀ σ', SameB σ' σ → Ag σ' 41 42 43 (FP ns bg op nu sz (σ 5) (σ 7) (σ 6) n g ou ce gs wt wa) → Q σ') : ∀ T_8 : Nat, T_8 = (σ 0 3).toNatClampNeg → (isSten T_8 ∧ (wX4_last (σ 4 0) σ (fun r_9 σ_10 => (wX2_run 36 T_8 6 r_9 σ_10 (fun σ_12 => (∀ T_13 : Nat, T_13 = (σ_12 0 3).toNatClampNeg → (isSten T_13 ∧ (wX7_goBack T_13 36 σ_12 (fun σ_15 => Q σ_15))))))))) := by
  obtain ⟨a1, a2, a3, a4, a5, a6, a7, a8⟩ := id hB
  have hl := gl_le (n := n) (ou := ou) (ce := ce) (fun j hj => (a8.2.2 j hj).2.2.2.2.1 : ∀ j, j < g → gs j ≤ 20)
  intro T8 e8
  rw [a2, Sten_clamp a1] at e8
  rw [e8, a7]
  refine ⟨a1, p_lastB' a8 a6 (p_runC (Or.inl rfl) a1 (Or.inl rfl) a3 a4 a7 a6 (by omega) (fun σ12 f12 h12 T13 e13 => ?_))⟩
  have f12' : ∀ j, j ≠ 15 → j ≠ 18 → j ≠ 36 → j ≠ 37 → σ12 j = σ j := f12
  have s12 : SameB σ12 σ := sB_of (fun j q1 q2 q3 q4 q5 => f12' j q1 q3 q4 q5)
  have hB12 := CB_same s12 hB
  have r5 : σ12 5 = σ 5 := f12' 5 (by decide) (by decide) (by decide) (by decide)
  have r6 : σ12 6 = σ 6 := f12' 6 (by decide) (by decide) (by decide) (by decide)
  have r7 : σ12 7 = σ 7 := f12' 7 (by decide) (by decide) (by decide) (by decide)
  rw [hB12.2.1, Sten_clamp a1] at e13
  rw [e13]
  refine ⟨a1, p_goBack hB12 (by rw [r6]; exact h12) (fun σ15 f15 hA15 => hQ σ15 (SameB_trans (sB_frG f15) s12) ?_)⟩
  rw [r5, r6, r7] at hA15
  exact hA15
theorem E_slope (x1 x2 : Int32) {σ τ : Sg} (hI : Inv σ τ) : wX11_slope x1 x2 σ (fun r σ' => wX12_slope x1 x2 τ (fun r' τ' => r = r' ∧ Inv σ' τ')) := by
  obtain ⟨T, ns, nn, bg, op, nu, sz, n, g, ou, ce, gs, wt, wa, hB, hM⟩ := Inv_C hI
  obtain ⟨a1, a2, a3, a4, a5, a6, a7, a8⟩ := id hB
  obtain ⟨-, m4, -, -, m7, m8⟩ := id hM
  obtain ⟨-, b3, b4, b5⟩ := hI.2.2.2.2.1
  have hFP := FP_congr (ns := ns) (bg := bg) (op := op) (nu := nu) (sz := sz) (g := g) (ou := ou) (ce := ce) (gs := gs) (wt := wt) (wa := wa) (st := σ 5) (ed := σ 7) (sp := σ 6) (st' := τ 10) (ed' := τ 12) (sp' := τ 11) (n := n) (fun i hi => b3 i (by omega)) b5 (fun i hi => b4 i (by omega))
  have key : ∀ m : Int32, ((0 ≤ x2 ∧ x2 ≤ m) → ∃ j, j < 10 ∧ x2 = nI j ∧ (¬ x1 = 0 → ¬ x1 = 1 → j < 2)) → wX11_slope_b35 x1 x2 (if 0 ≤ x2 ∧ x2 ≤ m then 1 else 0) σ (fun r σ' => wX12_slope_b26 x1 x2 m 0 x2 τ (fun r' τ' => r = r' ∧ Inv σ' τ')) := by
    intro m hm
    unfold wX11_slope_b35 wX12_slope_b26 wX12_slope_b32 wX12_slope_b77 wX11_slope_b142
    simp only [p_within, p_refused, ite10]
    by_cases c : 0 ≤ x2 ∧ x2 ≤ m
    case neg =>
      refine ⟨fun _ => ⟨fun _ => ⟨by decide, hI⟩, fun w => absurd c w⟩, fun w => absurd c w⟩
    obtain ⟨j, hj, ej, hj2⟩ := hm c
    have i10 : vp_in x2 10 := by rw [ej]; exact vp_in_nI hj (by decide)
    refine ⟨fun w => absurd c w, fun _ => p_slB hB (fun σ' s' hA => ?_)⟩
    rw [hFP] at hA
    have ecl : x2.toNatClampNeg = j := by rw [ej]; exact nI_clamp (by omega)
    rw [ecl]
    refine ⟨fun z => ⟨i10, fun w => absurd c w, fun _ => p_find hM (fun τ' t' hA' => ⟨fun _ => ⟨i10, ?_, Inv_fr s' t' hI⟩, fun w => absurd z w⟩)⟩, fun z => ⟨fun z1 => ⟨i10, fun w => absurd c w, fun _ => p_find hM (fun τ' t' hA' => ⟨fun w => absurd w z, fun _ => ⟨fun _ => ⟨i10, ?_, Inv_fr s' t' hI⟩, fun w => absurd z1 w⟩⟩)⟩, fun z1 => ?_⟩⟩
    · rw [hA.1 j hj, hA'.1 j hj]
    · rw [hA.2.1 j hj, hA'.2.1 j hj]
    · have j2 := hj2 z z1
      have i2 : vp_in x2 2 := by rw [ej]; exact vp_in_nI j2 (by decide)
      refine ⟨i2, fun w => absurd c w, fun _ => p_find hM (fun τ' t' hA' => ⟨fun w => absurd w z, fun _ => ⟨fun w => absurd w z1, fun _ => ⟨i2, ?_, Inv_fr s' t' hI⟩⟩⟩)⟩
      rw [hA.2.2 j j2, hA'.2.2 j j2]
  unfold wX11_slope wX12_slope
  simp only [p_isWithin, p_within, p_hasB, ite10, a7, m7]
  by_cases c1 : 0 ≤ x1 ∧ x1 ≤ 2
  case neg =>
    unfold wX12_slope_b32
    simp only [c1, p_refused, not_false_eq_true, true_implies, not_true_eq_false, false_implies, and_true]
    exact ⟨by decide, hI⟩
  refine ⟨fun w => absurd c1 w, fun _ => ⟨fun z => ?_, fun z => ?_⟩⟩
  · have := key 1 (fun c => by
      obtain ⟨j, hj, ej⟩ := x_le 1 (by decide) c
      exact ⟨j, by omega, ej, fun _ _ => by omega⟩)
    have c2 : (0 : Int32) ≤ 2 ∧ (2 : Int32) ≤ 2 := by decide
    simp only [c1, c2, z, not_false_eq_true, true_implies, not_true_eq_false, false_implies, and_true, true_and] at this ⊢
    exact this
  · have := key (nI n - 1) (fun c => by
      obtain ⟨j, hj, ej⟩ := rng0 (by omega) c
      refine ⟨j, by omega, ej, fun q0 q1 => ?_⟩
      obtain ⟨w, hw, ew⟩ := x_le 2 (by decide) c1
      have w0 : w ≠ 0 := fun q => q0 (by rw [ew, q]; rfl)
      have w1 : w ≠ 1 := fun q => q1 (by rw [ew, q]; rfl)
      have w2 : w ≠ 2 := fun q => z (by rw [ew, q]; rfl)
      omega)
    simp only [c1, z, not_false_eq_true, true_implies, not_true_eq_false, false_implies, and_true, true_and] at this ⊢
    exact this
