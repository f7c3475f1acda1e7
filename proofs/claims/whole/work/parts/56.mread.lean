/-! the reference reads a text -/
theorem p_wmin {σ : Sg} {Q : Int32 → Sg → Prop} (h : Q 9734 σ) : wX12_wordOf 13 9 14 0 σ Q := by
  unfold wX12_wordOf wX12_wordOf_b19 wX12_wordOf_b37 wX12_wordOf_b55
  refine ⟨fun w => absurd w (by decide), fun _ => ⟨fun w => absurd w (by decide), fun _ => ⟨fun _ => ?_, fun w => absurd rfl w⟩⟩⟩
  rw [show ((27 : Int32) * (27 * 13 + 9) + 14) = 9734 by decide]
  exact h
theorem p_wmax {σ : Sg} {Q : Int32 → Sg → Prop} (h : Q 9528 σ) : wX12_wordOf 13 1 24 0 σ Q := by
  unfold wX12_wordOf wX12_wordOf_b19 wX12_wordOf_b37 wX12_wordOf_b55
  refine ⟨fun w => absurd w (by decide), fun _ => ⟨fun w => absurd w (by decide), fun _ => ⟨fun _ => ?_, fun w => absurd rfl w⟩⟩⟩
  rw [show ((27 : Int32) * (27 * 13 + 1) + 24) = 9528 by decide]
  exact h
theorem p_wif {σ : Sg} {Q : Int32 → Sg → Prop} (h : Q 249 σ) : wX12_wordOf 9 6 0 0 σ Q := by
  unfold wX12_wordOf wX12_wordOf_b19 wX12_wordOf_b37 wX12_wordOf_b55
  refine ⟨fun w => absurd w (by decide), fun _ => ⟨fun _ => ⟨fun _ => ?_, fun w => absurd rfl w⟩, fun w => absurd rfl w⟩⟩
  rw [show ((27 : Int32) * 9 + 6) = 249 by decide]
  exact h
theorem p_wcell {σ : Sg} {Q : Int32 → Sg → Prop} (h : Q 63030 σ) : wX12_wordOf 3 5 12 12 σ Q := by
  unfold wX12_wordOf wX12_wordOf_b19 wX12_wordOf_b37 wX12_wordOf_b55
  refine ⟨fun w => absurd w (by decide), fun _ => ⟨fun w => absurd w (by decide), fun _ => ⟨fun w => absurd w (by decide), fun _ => ?_⟩⟩⟩
  rw [show ((27 : Int32) * (27 * (27 * 3 + 5) + 12) + 12) = 63030 by decide]
  exact h
/-- one mark may have changed -/
def Mk (τ' τ : Sg) (i : Nat) : Prop := (∀ j, j ≠ 7 → τ' j = τ j) ∧ ∀ q, q ≠ 60 + i → τ' 7 q = τ 7 q
theorem Mk_refl (τ : Sg) (i : Nat) : Mk τ τ i := ⟨fun _ _ => rfl, fun _ _ => rfl⟩
theorem Mk_sto (τ : Sg) (i : Nat) (v : Int32) : Mk (sto τ 7 (60 + i) v) τ i := ⟨fun j hj => sto_ne _ _ _ hj, fun q hq => sto_off _ _ _ hq⟩
theorem p_k106s {τ : Sg} {i o : Nat} {Q : Int32 → Sg → Prop} (hi : i < 60) (ho : o ≤ 3) (h : ∀ τ', τ' = sto τ 7 (60 + i) (nI o) → Q 2 τ') : wX12_kindOf_b106 (nI (60 + i)) (nI o) τ Q := by
  unfold wX12_kindOf_b106
  rw [nI_clamp (by omega)]
  exact ⟨fun q => absurd q (nI_pos (by omega)), fun _ => ⟨vp_in_nI (by omega) (by decide), h⟩⟩
theorem p_k106n {τ : Sg} {i : Nat} {Q : Int32 → Sg → Prop} (hi : i < 60) (h1 : τ 0 15 = 9734 → ∀ τ', τ' = sto τ 7 (60 + i) 1 → Q 4 τ') (h2 : τ 0 15 = 9528 → ∀ τ', τ' = sto τ 7 (60 + i) 2 → Q 4 τ') (h3 : τ 0 15 = 249 → Q 5 τ) (h4 : τ 0 15 ≠ 9734 → τ 0 15 ≠ 9528 → τ 0 15 ≠ 249 → Q 0 τ) : wX12_kindOf_b106 (nI (60 + i)) (-1) τ Q := by
  have ii : vp_in (nI (60 + i)) 120 := vp_in_nI (by omega) (by decide)
  unfold wX12_kindOf_b106 wX12_kindOf_b204 wX12_kindOf_b153 wX12_kindOf_b180
  rw [nI_clamp (by omega)]
  refine ⟨fun _ => p_wmin ⟨fun w => p_wmin ⟨fun _ => ⟨ii, h1 w⟩, fun q => absurd w q⟩, fun w1 => p_wmax ⟨fun w => p_wmin ⟨fun q => absurd q w1, fun _ => ⟨ii, h2 w⟩⟩, fun w2 => p_wif ⟨fun w => h3 w, fun w3 => h4 w1 w2 w3⟩⟩⟩, fun q => absurd (by decide) q⟩
theorem p_kindM {τ : Sg} {c i : Nat} {v r : Int32} {Q : Int32 → Sg → Prop} (hi : i < 60) (hR : TkR c v r (τ 0 15)) (hg : c ≤ 10 → ∀ τ', Mk τ' τ i → (c ≠ 10 → τ' 7 (60 + i) = mkOf c v) → Q (nI (kdOf c)) τ') (hb : 10 < c → ∀ τ', Mk τ' τ i → Q 0 τ') : wX12_kindOf r (nI (60 + i)) τ Q := by
  have ii : vp_in (nI (60 + i)) 120 := vp_in_nI (by omega) (by decide)
  have seen : ∀ o : Nat, c = o → o ≤ 3 → wX12_kindOf_b106 (nI (60 + i)) (nI o) τ Q := fun o ho ho3 => p_k106s hi ho3 (fun τ' e' => by
    have hk : nI (kdOf c) = 2 := (kd2 ⟨c, by omega⟩).mpr (by show c ≤ 3; omega)
    rw [← hk]
    exact hg (by omega) τ' (by rw [e']; exact Mk_sto _ _ _) (fun _ => by rw [e', sto_at, mk03 _ (by omega), ho]))
  have sgn : ∀ w : Int32, τ 0 15 = w → ¬ w = 59 → c ≤ 10 → c ≠ 10 → mkOf c v = w → nI (kdOf c) = 3 → (vp_in (nI (60 + i)) 120 ∧ ∀ σ_23, σ_23 = sto τ 7 (60 + i) (τ 0 15) → (((σ_23 0 15) = 59 → wX12_kindOf_b46 0 σ_23 Q) ∧ (¬ (σ_23 0 15) = 59 → wX12_kindOf_b46 3 σ_23 Q))) := by
    intro w ew hw h10 h10' hm hk
    refine ⟨ii, fun τ' e' => ?_⟩
    have e15 : τ' 0 15 = w := by rw [e', sto_ne _ _ _ (by decide)]; exact ew
    rw [e15]
    unfold wX12_kindOf_b46
    refine ⟨fun q => absurd q hw, fun _ => ?_⟩
    rw [← hk]
    exact hg h10 τ' (by rw [e']; exact Mk_sto _ _ _) (fun _ => by rw [e', sto_at, ew, hm])
  unfold wX12_kindOf
  rw [nI_clamp (by omega)]
  rcases hR with ⟨hW, hr, hw⟩ | ⟨hc, hr, hw⟩ | ⟨hc, hr, hw⟩ | ⟨hc, hr, hw⟩ | ⟨hc, hr, hw⟩ | ⟨hc, hr, hw⟩ | ⟨hc, hr⟩ | ⟨hc, hr | ⟨hr, hw⟩⟩
  · rw [hr]
    refine ⟨fun q => absurd q (by decide), fun _ => ⟨fun q => absurd q (by decide), fun _ => ⟨fun _ => ?_, fun q => absurd rfl q⟩⟩⟩
    rcases isW_c hW with h | h | h | h | h | h | h | h
    · have e : τ 0 15 = 12 := by rw [hw, h]; rfl
      rw [e]
      exact ⟨fun _ => seen 0 h (by decide), fun q => absurd rfl q⟩
    · have e : τ 0 15 = 3 := by rw [hw, h]; rfl
      rw [e]
      exact ⟨fun q => absurd q (by decide), fun _ => ⟨fun _ => seen 1 h (by decide), fun q => absurd rfl q⟩⟩
    · have e : τ 0 15 = 18 := by rw [hw, h]; rfl
      rw [e]
      exact ⟨fun q => absurd q (by decide), fun _ => ⟨fun q => absurd q (by decide), fun _ => ⟨fun _ => seen 2 h (by decide), fun q => absurd rfl q⟩⟩⟩
    · have e : τ 0 15 = 11 := by rw [hw, h]; rfl
      rw [e]
      exact ⟨fun q => absurd q (by decide), fun _ => ⟨fun q => absurd q (by decide), fun _ => ⟨fun q => absurd q (by decide), fun _ => ⟨fun _ => seen 3 h (by decide), fun q => absurd rfl q⟩⟩⟩⟩
    · have e : τ 0 15 = 9734 := by rw [hw, h]; rfl
      have fin := p_k106n (Q := Q) (τ := τ) hi (fun _ τ' e' => by
        have := hg (by omega) τ' (by rw [e']; exact Mk_sto _ _ _) (fun _ => by rw [e', sto_at, h]; rfl)
        rw [h] at this; exact this) (fun q => absurd (e.symm.trans q) (by decide)) (fun q => absurd (e.symm.trans q) (by decide)) (fun q => absurd e q)
      rw [e]
      exact ⟨fun q => absurd q (by decide), fun _ => ⟨fun q => absurd q (by decide), fun _ => ⟨fun q => absurd q (by decide), fun _ => ⟨fun q => absurd q (by decide), fun _ => fin⟩⟩⟩⟩
    · have e : τ 0 15 = 9528 := by rw [hw, h]; rfl
      have fin := p_k106n (Q := Q) (τ := τ) hi (fun q => absurd (e.symm.trans q) (by decide)) (fun _ τ' e' => by
        have := hg (by omega) τ' (by rw [e']; exact Mk_sto _ _ _) (fun _ => by rw [e', sto_at, h]; rfl)
        rw [h] at this; exact this) (fun q => absurd (e.symm.trans q) (by decide)) (fun _ q => absurd e q)
      rw [e]
      exact ⟨fun q => absurd q (by decide), fun _ => ⟨fun q => absurd q (by decide), fun _ => ⟨fun q => absurd q (by decide), fun _ => ⟨fun q => absurd q (by decide), fun _ => fin⟩⟩⟩⟩
    · have e : τ 0 15 = 249 := by rw [hw, h]; rfl
      have fin := p_k106n (Q := Q) (τ := τ) hi (fun q => absurd (e.symm.trans q) (by decide)) (fun q => absurd (e.symm.trans q) (by decide)) (fun _ => by
        have := hg (by omega) τ (Mk_refl _ _) (fun q => absurd h q)
        rw [h] at this; exact this) (fun _ _ q => absurd e q)
      rw [e]
      exact ⟨fun q => absurd q (by decide), fun _ => ⟨fun q => absurd q (by decide), fun _ => ⟨fun q => absurd q (by decide), fun _ => ⟨fun q => absurd q (by decide), fun _ => fin⟩⟩⟩⟩
    · have e : τ 0 15 = 63030 := by rw [hw, h]; rfl
      have fin := p_k106n (Q := Q) (τ := τ) hi (fun q => absurd (e.symm.trans q) (by decide)) (fun q => absurd (e.symm.trans q) (by decide)) (fun q => absurd (e.symm.trans q) (by decide)) (fun _ _ _ => hb (by omega) τ (Mk_refl _ _))
      rw [e]
      exact ⟨fun q => absurd q (by decide), fun _ => ⟨fun q => absurd q (by decide), fun _ => ⟨fun q => absurd q (by decide), fun _ => ⟨fun q => absurd q (by decide), fun _ => fin⟩⟩⟩⟩
  · rw [hr]
    refine ⟨fun _ => ⟨ii, fun τ' e' => ?_⟩, fun q => absurd rfl q⟩
    have := hg (by omega) τ' (by rw [e']; exact Mk_sto _ _ _) (fun _ => by rw [e', sto_at, hc, hw]; rfl)
    rw [hc] at this
    exact this
  · rw [hr]
    exact ⟨fun q => absurd q (by decide), fun _ => ⟨fun _ => sgn 43 hw (by decide) (by omega) (by omega) (by rw [hc]; rfl) (by rw [hc]; rfl), fun q => absurd rfl q⟩⟩
  · rw [hr]
    exact ⟨fun q => absurd q (by decide), fun _ => ⟨fun _ => sgn 45 hw (by decide) (by omega) (by omega) (by rw [hc]; rfl) (by rw [hc]; rfl), fun q => absurd rfl q⟩⟩
  · rw [hr]
    exact ⟨fun q => absurd q (by decide), fun _ => ⟨fun _ => sgn 42 hw (by decide) (by omega) (by omega) (by rw [hc]; rfl) (by rw [hc]; rfl), fun q => absurd rfl q⟩⟩
  · rw [hr]
    refine ⟨fun q => absurd q (by decide), fun _ => ⟨fun _ => ⟨ii, fun τ' e' => ?_⟩, fun q => absurd rfl q⟩⟩
    have e15 : τ' 0 15 = 59 := by rw [e', sto_ne _ _ _ (by decide)]; exact hw
    rw [e15]
    unfold wX12_kindOf_b46
    exact ⟨fun _ => hb (by omega) τ' (by rw [e']; exact Mk_sto _ _ _), fun q => absurd rfl q⟩
  · rw [hr]
    exact ⟨fun q => absurd q (by decide), fun _ => ⟨fun q => absurd q (by decide), fun _ => ⟨fun q => absurd q (by decide), fun _ => hb (by omega) τ (Mk_refl _ _)⟩⟩⟩
  · rw [hr]
    exact ⟨fun q => absurd q (by decide), fun _ => ⟨fun q => absurd q (by decide), fun _ => ⟨fun q => absurd q (by decide), fun _ => hb (by omega) τ (Mk_refl _ _)⟩⟩⟩
  · rw [hr]
    refine ⟨fun q => absurd q (by decide), fun _ => ⟨fun q => absurd q (by decide), fun _ => ⟨fun _ => ?_, fun q => absurd rfl q⟩⟩⟩
    have fin := p_k106n (Q := Q) (τ := τ) hi (fun q => absurd q (hw 8 (Or.inr (by decide)))) (fun q => absurd q (hw 9 (Or.inr (by decide)))) (fun q => absurd q (hw 10 (Or.inr (by decide)))) (fun _ _ _ => hb (by omega) τ (Mk_refl _ _))
    exact ⟨fun q => absurd q (hw 0 (Or.inl (by decide))), fun _ => ⟨fun q => absurd q (hw 1 (Or.inl (by decide))), fun _ => ⟨fun q => absurd q (hw 2 (Or.inl (by decide))), fun _ => ⟨fun q => absurd q (hw 3 (Or.inl (by decide))), fun _ => fin⟩⟩⟩⟩
theorem p_child {τ : Sg} {c : Nat} {Q : Int32 → Sg → Prop} (hc : c ≤ 10) (h : Q (nI (prt c)) τ) : wX12_children (nI (kdOf c)) τ Q := by
  have k5 := kd5 ⟨c, by omega⟩
  have k3 : nI (kdOf c) < 3 ↔ c ≤ 4 := (by decide +kernel : ∀ o : Fin 11, (nI (kdOf o.val) < 3 ↔ o.val ≤ 4)) ⟨c, by omega⟩
  unfold wX12_children wX12_children_b19
  unfold prt at h
  refine ⟨fun z => ?_, fun z => ⟨fun w => ?_, fun w => ?_⟩⟩
  · have z' : c = 10 := k5.mp z
    rw [if_neg (by omega), if_neg (by omega)] at h; exact h
  · rw [if_pos (k3.mp w)] at h; exact h
  · have z' : ¬ c = 10 := fun q => z (k5.mpr q)
    have w' : ¬ c ≤ 4 := fun q => w (k3.mpr q)
    rw [if_neg w', if_pos (by omega)] at h; exact h
-- nodes
def FrM (τ' τ : Sg) : Prop := (∀ j, j ≠ 0 → j ≠ 5 → j ≠ 6 → j ≠ 7 → j ≠ 9 → τ' j = τ j) ∧ (∀ k, k ≠ 13 → k ≠ 14 → k ≠ 15 → k ≠ 17 → k ≠ 18 → τ' 0 k = τ 0 k) ∧ (∀ i, i < 4 → τ' 5 i = τ 5 i) ∧ ∀ i, i < 60 → τ' 6 i = τ 6 i ∧ τ' 7 i = τ 7 i
theorem FrM_refl (τ : Sg) : FrM τ τ := ⟨fun _ _ _ _ _ _ => rfl, fun _ _ _ _ _ _ => rfl, fun _ _ => rfl, fun _ _ => ⟨rfl, rfl⟩⟩
theorem FrM_trans {a b c : Sg} (h : FrM a b) (h' : FrM b c) : FrM a c := ⟨fun j q0 q1 q2 q3 q4 => (h.1 j q0 q1 q2 q3 q4).trans (h'.1 j q0 q1 q2 q3 q4), fun k q0 q1 q2 q3 q4 => (h.2.1 k q0 q1 q2 q3 q4).trans (h'.2.1 k q0 q1 q2 q3 q4), fun i hi => (h.2.2.1 i hi).trans (h'.2.2.1 i hi), fun i hi => ⟨((h.2.2.2 i hi).1).trans (h'.2.2.2 i hi).1, ((h.2.2.2 i hi).2).trans (h'.2.2.2 i hi).2⟩⟩
def NdS (τ : Sg) (op : Nat → Nat) (nu : Nat → Int32) (n : Nat) : Prop := ∀ i, i < n → τ 6 (60 + i) = nI (kdOf (op i)) ∧ (op i ≠ 10 → τ 7 (60 + i) = mkOf (op i) (nu i))
def RN (τ0 τ : Sg) (s : PS) (st : Nat → Nat) (dd : Nat) : Prop := FrM τ τ0 ∧ τ 5 = τ0 5 ∧ τ 0 18 = τ0 0 18 ∧ τ 0 13 = nI s.1 ∧ τ 0 17 = nI s.2.1 ∧ NdS τ s.2.2.1 s.2.2.2.1 s.2.1 ∧ ∀ j, j ≤ dd → τ 9 j = nI (st j)
