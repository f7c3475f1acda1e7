/-! ask -/
def szI (k i s : Nat) : Int32 := if k = 2 then nI (s + mkV 2 i s) else if k = 3 then nI (2 * s) else if k = 4 then nI (2 * s + mkV 4 i s) else if k = 5 then nI s - nI i else nI s
def szM (k i s : Nat) : Int64 := if k = 2 then lN (s + mkV 2 i s) else if k = 3 then lN (2 * s) else if k = 4 then lN (2 * s + mkV 4 i s) else if k = 5 then lN s - lN i else lN s
def szL (k : Nat) : List Int32 := if k = 2 then [11, 10] ++ mkL 2 else if k = 3 then [12, 10] else if k = 4 then [13, 12, 10] ++ mkL 4 else if k = 5 then [14, 10] ++ mkL 5 else [10]
theorem p_sizeB {σ0 σ : Sg} {T i k s : Nat} {Q : Int32 → Sg → Prop} (hk : 1 ≤ k ∧ k ≤ 5) (hN : NodeB σ0 T i k s) (h : TRB σ0 σ []) (hQ : ∀ σ', TRB σ0 σ' (szL k) → Q (szI k i s) σ') : wX0_size T (nI i) σ Q := by
  have zz : ∀ b : Nat, b ≤ 5 → (nI k = nI b ↔ k = b) := fun b h2 => nI_eq (by omega) (by omega)
  unfold wX0_size
  refine p_kindT hN h ?_
  unfold wX0_sizeOfSeen wX0_sizeOfPair wX0_sizeOfChosen wX0_sizeOfFork wX0_sizeOfPair
  refine ⟨fun q => ?_, fun q1 => ⟨fun q => ?_, fun q2 => ⟨fun q => ?_, fun q3 => ⟨fun q => ?_, fun q4 => ?_⟩⟩⟩⟩
  · have e := (zz 2 (by decide)).mp q
    subst e
    refine p_bgB h (by decide) (fun a ha => p_sizeT hN ha (by decide) (fun b hb => p_markB hk hN hb (by decide) (fun c hc => ?_)))
    show Q (nI s + nI (mkV 2 i s)) c
    rw [nI_add]
    exact hQ c hc
  · have e := (zz 3 (by decide)).mp q
    subst e
    refine p_bgB h (by decide) (fun a ha => p_sizeT hN ha (by decide) (fun b hb => ?_))
    show Q (2 * nI s) b
    rw [lit2m]
    exact hQ b hb
  · have e := (zz 4 (by decide)).mp q
    subst e
    refine p_bgB h (by decide) (fun a0 ha0 => p_bgB ha0 (by decide) (fun a ha => p_sizeT hN ha (by decide) (fun b hb => p_markB hk hN hb (by decide) (fun c hc => ?_))))
    show Q (2 * nI s + nI (mkV 4 i s)) c
    rw [lit2m, nI_add]
    exact hQ c hc
  · have e := (zz 5 (by decide)).mp q
    subst e
    refine p_bgB h (by decide) (fun a ha => p_sizeT hN ha (by decide) (fun b hb => p_markB hk hN hb (by decide) (fun c hc => ?_)))
    exact hQ c hc
  · have e : k = 1 := by
      have a2 : k ≠ 2 := fun z => q1 (by rw [z]; rfl)
      have a3 : k ≠ 3 := fun z => q2 (by rw [z]; rfl)
      have a4 : k ≠ 4 := fun z => q3 (by rw [z]; rfl)
      have a5 : k ≠ 5 := fun z => q4 (by rw [z]; rfl)
      omega
    subst e
    exact p_sizeT hN h (by decide) (fun b hb => hQ b hb)
theorem p_sizeM {τ0 τ : Sg} {i k s : Nat} {Q : Int64 → Sg → Prop} (hk : 1 ≤ k ∧ k ≤ 5) (hN : NodeM τ0 i k s) (h : TRM τ0 τ []) (hQ : ∀ τ', TRM τ0 τ' (szL k) → Q (szM k i s) τ') : wX12_sizeOf (nI i) τ Q := by
  have zz : ∀ b : Nat, b ≤ 5 → (nI k = nI b ↔ k = b) := fun b h2 => nI_eq (by omega) (by omega)
  have hN0 := hN
  obtain ⟨hi, hs, n1, n3⟩ := hN
  have hin : vp_in (nI i) 120 := vp_in_nI (by omega) (by decide)
  have l2 : ∀ a : Nat, 2 * lN a = lN (2 * a) := fun a => lN_mul 2 a
  unfold wX12_sizeOf
  rw [nI_clamp (by omega), h.2.2.1 6 (by decide) (by decide), n1]
  have sv : ∀ {t : Sg} {L : List Int32}, TRM τ0 t L → (t 8 i).toInt64 = lN s := fun {t L} ht => by rw [ht.2.2.1 8 (by decide) (by decide), n3, nI_l (by omega)]
  refine ⟨hin, fun q => ?_, fun q1 => ⟨fun q => ?_, fun q2 => ⟨fun q => ?_, fun q3 => ⟨fun q => ?_, fun q4 => ?_⟩⟩⟩⟩
  · have e := (zz 2 (by decide)).mp q
    subst e
    refine p_bgM h (by decide) (fun a ha => p_bgM ha (by decide) (fun b hb => ⟨hin, p_markM hk hN0 hb (by decide) (fun c hc => ?_)⟩))
    rw [sv hb, lN_add]
    exact hQ c hc
  · have e := (zz 3 (by decide)).mp q
    subst e
    refine p_bgM h (by decide) (fun a ha => p_bgM ha (by decide) (fun b hb => ⟨hin, ?_⟩))
    rw [sv hb, l2]
    exact hQ b hb
  · have e := (zz 4 (by decide)).mp q
    subst e
    refine p_bgM h (by decide) (fun a0 ha0 => p_bgM ha0 (by decide) (fun a ha => p_bgM ha (by decide) (fun b hb => ⟨hin, p_markM hk hN0 hb (by decide) (fun c hc => ?_)⟩)))
    rw [sv hb, l2, lN_add]
    exact hQ c hc
  · have e := (zz 5 (by decide)).mp q
    subst e
    refine p_bgM h (by decide) (fun a ha => p_bgM ha (by decide) (fun b hb => ⟨hin, p_markM hk hN0 hb (by decide) (fun c hc => ?_)⟩))
    rw [sv hb]
    exact hQ c hc
  · have e : k = 1 := by
      have a2 : k ≠ 2 := fun z => q1 (by rw [z]; rfl)
      have a3 : k ≠ 3 := fun z => q2 (by rw [z]; rfl)
      have a4 : k ≠ 4 := fun z => q3 (by rw [z]; rfl)
      have a5 : k ≠ 5 := fun z => q4 (by rw [z]; rfl)
      omega
    subst e
    refine p_bgM h (by decide) (fun b hb => ⟨hin, ?_⟩)
    rw [sv hb]
    exact hQ b hb
theorem w64_sub {a b : Nat} (ha : a < 2 ^ 30) (hb : b < 2 ^ 30) : (nI a - nI b).toInt64 = lN a - lN b := by
  apply (fa_eq64 _ _).mpr
  have e1 := lN_toInt (n := a) (by omega)
  have e2 := lN_toInt (n := b) (by omega)
  rw [Int32.toInt_toInt64, pk_sub_toInt ha hb, fb_subL (by rw [e1, e2]; omega) (by rw [e1, e2]; omega), e1, e2]
theorem szI_M {k i s : Nat} (hi : i < 60) (hs : s ≤ 60) : (szI k i s).toInt64 = szM k i s := by
  unfold szI szM mkV
  by_cases h2 : k = 2
  · simp only [h2, if_true]; exact nI_l (by simp; omega)
  by_cases h3 : k = 3
  · simp only [h3, if_true]; exact nI_l (by omega)
  by_cases h4 : k = 4
  · simp only [h4, if_true]; exact nI_l (by simp; omega)
  by_cases h5 : k = 5
  · simp only [h5, if_true]; exact w64_sub (by omega) (by omega)
  · simp only [h2, h3, h4, h5, if_false]; exact nI_l (by omega)
theorem mkV_lt {k i s : Nat} (hi : i < 60) (hs : s ≤ 60) : mkV k i s < 2 ^ 31 := by
  unfold mkV
  split
  · omega
  · split
    · omega
    · split <;> omega
theorem Inv_tr {σ τ σ' τ' : Sg} {L : List Int32} (hL : L.length ≤ 16) (h1 : TRB σ σ' L) (h2 : TRM τ τ' L) (hI : Inv σ τ) : Inv σ' τ' := by
  refine Inv_ask (σ := σ) (τ := τ) (fun j h => h1.2.2 j (by omega) (by omega)) (fun j a b => h2.2.2.1 j a b) (fun k h => h2.2.2.2 k h) ?_ hI
  exact ⟨L.length, hL, h1.1, h2.1, fun i hi => by rw [h1.2.1 i hi, h2.2.1 i hi]⟩
theorem mkL_le (k : Nat) : (mkL k).length ≤ 16 := by
  unfold mkL
  split
  · decide
  · split
    · decide
    · split <;> decide
theorem szL_le (k : Nat) : (szL k).length ≤ 16 := by
  unfold szL
  split
  · decide
  · split
    · decide
    · split
      · decide
      · split <;> decide
theorem E_ask (x1 x2 : Int32) {σ τ : Sg} (hI : Inv σ τ) : wX11_ask x1 x2 σ (fun r σ' => wX12_ask x1 x2 τ (fun r' τ' => r = r' ∧ Inv σ' τ')) := by
  obtain ⟨T, ns, nn, bg, op, nu, sz, t1, t2, t3, t4, t5, hX, hB, hM⟩ := hI.2.2.2.1
  unfold wX11_ask wX12_ask wX11_ask_b20 wX12_ask_b17 wX11_ask_b65 wX12_ask_b44
  simp only [forall_eq, t2, sten_clamp t1, t1, true_and, p_hasN, p_isNode, p_isWithin, p_within, p_refused, ite10, hB.2.1, hM.2.1]
  have h60 := hX.2.1
  by_cases c1 : 0 ≤ x1 ∧ x1 ≤ nI nn - 1
  case neg =>
    simp only [c1, not_false_eq_true, true_implies, not_true_eq_false, false_implies, and_true]
    exact ⟨by decide, hI⟩
  by_cases c2 : 0 ≤ x2 ∧ x2 ≤ 1
  case neg =>
    simp only [c1, c2, not_false_eq_true, true_implies, not_true_eq_false, false_implies, and_true, true_and]
    exact ⟨by decide, hI⟩
  simp only [c1, c2, not_false_eq_true, true_implies, not_true_eq_false, false_implies, and_true, true_and]
  obtain ⟨i, hi, rfl⟩ := rng0 (by omega) c1
  obtain ⟨ho, hs1, hs2⟩ := TX_op hX hi
  have hkd := kd_rng ⟨op i, by omega⟩
  have e03 : (sto σ 57 1 0 0 3).toNatClampNeg = T := by rw [sto_ne _ _ _ (by decide), t2, sten_clamp t1]
  have hNB : NodeB σ T i (kdOf (op i)) (sz i) := ⟨t1, by omega, by omega, ⟨op i, ho, (hB.2.2.2 i hi).1, rfl⟩, (hB.2.2.2 i hi).2.2.1⟩
  have hNM : NodeM τ i (kdOf (op i)) (sz i) := ⟨by omega, by omega, (hM.2.2.2 i hi).1, (hM.2.2.2 i hi).2.2⟩
  have rB : TRB σ (sto σ 57 1 0) [] := ⟨by rw [sto_at]; rfl, fun i hi => absurd hi (Nat.not_lt_zero _), fun j h1 h2 => sto_ne _ _ _ h1⟩
  have rM : TRM τ (sto τ 0 47 0) [] := ⟨by rw [sto_at]; rfl, fun i hi => absurd hi (Nat.not_lt_zero _), fun j h1 h2 => sto_ne _ _ _ h1, fun k h => sto_off _ _ _ h⟩
  rw [e03]
  refine ⟨fun q => ⟨t1, p_sizeB hkd hNB rB (fun σ' h' => ?_)⟩, fun q => ⟨t1, p_markB hkd hNB rB (by decide) (fun σ' h' => ?_)⟩⟩
  · refine ⟨fun _ => p_sizeM hkd hNM rM (fun τ' h2 => ⟨szI_M (by omega) (by omega), Inv_tr (szL_le _) h' h2 hI⟩), fun z => absurd q z⟩
  · refine ⟨fun z => absurd z q, fun _ => p_markM hkd hNM rM (by decide) (fun τ' h2 => ⟨nI_l (mkV_lt (by omega) (by omega)), Inv_tr (mkL_le _) h' h2 hI⟩)⟩
