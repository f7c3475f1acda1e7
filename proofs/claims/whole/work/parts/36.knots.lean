/-! knots of one stencil for one cell: the reference -/
def kfl (op sz : Nat → Nat) (V fl : Nat → Int32) (i : Nat) : Nat → Int32 := if fl i = 0 then fl else if op i ≤ 4 then fl else if op i = 10 then upd (upd (upd fl (i + 1) 1) (s2 sz i) 1) (tkN op sz V i) 1 else upd (upd fl (i + 1) 1) (s2 sz i) 1
def kct (op sz : Nat → Nat) (V fl : Nat → Int32) (i : Nat) : Int32 := if fl i = 0 then 0 else if op i ≤ 7 then 0 else if V (i + 1) = V (s2 sz i) then 1 else 0
def kgo (op sz : Nat → Nat) (V : Nat → Int32) : Nat → Nat → (Nat → Int32) → Int32 → Int32
  | 0, _, _, k => k
  | d + 1, i, fl, k => kgo op sz V d (i + 1) (kfl op sz V fl i) (k + kct op sz V fl i)
def KS (τ0 τ : Sg) (fl : Nat → Int32) (k : Int32) : Prop := (∀ j, j ≠ 0 → j ≠ 15 → τ j = τ0 j) ∧ (∀ q, q ≠ 27 → τ 0 q = τ0 0 q) ∧ τ 15 = fl ∧ τ 0 27 = k
theorem KS_fl {τ0 τ : Sg} {fl : Nat → Int32} {k : Int32} (h : KS τ0 τ fl k) (i : Nat) (v : Int32) : KS τ0 (sto τ 15 i v) (upd fl i v) k := by
  refine ⟨fun j q1 q2 => ?_, fun q q1 => ?_, ?_, ?_⟩
  · rw [sto_ne _ _ _ q2]; exact h.1 j q1 q2
  · rw [sto_ne _ _ _ (by decide)]; exact h.2.1 q q1
  · rw [sto_same, h.2.2.1]
  · rw [sto_ne _ _ _ (by decide)]; exact h.2.2.2
theorem KS_k {τ0 τ : Sg} {fl : Nat → Int32} {k : Int32} (h : KS τ0 τ fl k) (v : Int32) : KS τ0 (sto τ 0 27 v) fl v := by
  refine ⟨fun j q1 q2 => ?_, fun q q1 => ?_, ?_, ?_⟩
  · rw [sto_ne _ _ _ q1]; exact h.1 j q1 q2
  · rw [sto_off _ _ _ q1]; exact h.2.1 q q1
  · rw [sto_ne _ _ _ (by decide)]; exact h.2.2.1
  · rw [sto_at]
theorem kd3le : ∀ o : Fin 11, (3 ≤ nI (kdOf o.val) ↔ 5 ≤ o.val) := by decide +kernel
theorem p_kL {τ0 : Sg} {st b e : Nat} {op : Nat → Nat} {nu : Nat → Int32} {sz : Nat → Nat} (hst : st + 1 < 8) (he : e ≤ 60) (h5 : τ0 5 (st + 1) = nI e) (hN : ∀ i, b ≤ i → i < e → NdM τ0 op nu sz i) (hk : ∀ i, b ≤ i → i < e → Kid op sz e i) {K Q : Sg → Prop} :
    ∀ (d i : Nat) (τ : Sg) (fl : Nat → Int32) (k : Int32), b ≤ i → i + d = e → KS τ0 τ fl k → (∀ τ' fl', KS τ0 τ' fl' (kgo op sz (τ0 14) d i fl k) → K τ') → wX12_countKnots_L53 (nI st) K Q (d + 1) (nI i) τ
  | 0, i, τ, fl, k, hbi, hi, h, hK => by
    unfold wX12_countKnots_L53
    have e : i = e := by omega
    subst e
    rw [nI_1, nI_clamp (by omega), h.1 5 (by decide) (by decide), h5]
    exact ⟨vp_in_nI hst (by decide), fun _ => hK τ fl h, fun z => absurd (nI_le (Nat.le_refl _) (by omega)) z⟩
  | d + 1, i, τ, fl, k, hbi, hi, h, hK => by
    have hkid := hk i hbi (by omega)
    have ho := hkid.1
    have n0 := hN i hbi (by omega)
    have k3 := kd3 ⟨op i, by omega⟩
    have k5 := kd5 ⟨op i, by omega⟩
    have k3l := kd3le ⟨op i, by omega⟩
    unfold kgo at hK
    unfold wX12_countKnots_L53
    rw [nI_1, nI_clamp (by omega), nI_clamp (by omega), h.1 5 (by decide) (by decide), h5, h.1 6 (by decide) (by decide), n0.1, h.2.2.1]
    refine ⟨vp_in_nI hst (by decide), fun z => absurd z (nI_ge (by omega) (by omega)), fun _ => ⟨vp_in_nI (by omega) (by decide), fun x3 e3 => ⟨vp_in_nI (by omega) (by decide), ?_⟩⟩⟩
    subst e3
    have nxt : ∀ (τ2 : Sg), KS τ0 τ2 (kfl op sz (τ0 14) fl i) (k + kct op sz (τ0 14) fl i) → wX12_countKnots_b165 (nI st) (nI i) τ2 K (wX12_countKnots_L53 (nI st) K Q (d + 1)) Q := by
      intro τ2 h2
      unfold wX12_countKnots_b165
      intro x2 e2
      rw [nI_1] at e2
      subst e2
      exact p_kL hst he h5 hN hk d (i + 1) τ2 _ _ (by omega) (by omega) h2 hK
    refine ⟨fun z => nxt τ ?_, fun z => ⟨fun y => ?_, fun y => nxt τ ?_⟩⟩
    · unfold kfl kct
      rw [if_pos z, if_pos z, i32_add0]
      exact h
    · have o5 : 5 ≤ op i := k3l.mp y
      have a := hkid.2.2.2.1 o5
      have hs := (hN (i + 1) (by omega) a.1).2.2
      have v1 : KS τ0 (sto τ 15 (i + 1) 1) (upd fl (i + 1) 1) k := KS_fl h (i + 1) 1
      rw [nI_1]
      refine ⟨vp_in_nI (by omega) (by decide), fun τ13 e13 => ?_⟩
      rw [nI_clamp (by omega), nar1] at e13
      rw [← e13] at v1
      refine p_second (by omega) (by rw [v1.1 8 (by decide) (by decide)]; exact hs) ⟨vp_in_nI (by omega) (by decide), fun τ16 e16 => ?_⟩
      rw [nI_clamp (by omega), nar1] at e16
      have v2 := KS_fl v1 (s2 sz i) 1
      rw [← e16] at v2
      have b125 : ∀ (τ2 : Sg), KS τ0 τ2 (kfl op sz (τ0 14) fl i) k → wX12_countKnots_b125 (nI st) (nI i) (nI (kdOf (op i))) τ2 K (wX12_countKnots_L53 (nI st) K Q (d + 1)) Q := by
        intro τ2 h2
        have v14 := h2.1 14 (by decide) (by decide)
        have put : ∀ (v : Int32), v = kct op sz (τ0 14) fl i → wX12_countKnots_b161 (nI st) (nI i) v (τ2 0 27) τ2 K (wX12_countKnots_L53 (nI st) K Q (d + 1)) Q := by
          intro v ev
          unfold wX12_countKnots_b161
          intro τ19 e19
          have := KS_k h2 (k + v)
          rw [h2.2.2.2] at e19
          rw [← e19, ev] at this
          exact nxt τ19 this
        unfold wX12_countKnots_b125 wX12_countKnots_b160
        rw [nI_1]
        refine ⟨fun x => put 0 ?_, fun x => ⟨vp_in_nI (by omega) (by decide), p_second (by omega) (by rw [h2.1 8 (by decide) (by decide)]; exact hs) ⟨vp_in_nI (by omega) (by decide), fun w => put 1 ?_, fun w => put 0 ?_⟩⟩⟩
        · have o57 := k3.mp x
          unfold kct
          rw [if_neg z, if_pos o57.2]
        · have o8 : ¬ op i ≤ 7 := fun q => x (k3.mpr ⟨o5, q⟩)
          rw [nI_clamp (by omega), nI_clamp (by omega), v14] at w
          unfold kct
          rw [if_neg z, if_neg o8, if_pos w]
        · have o8 : ¬ op i ≤ 7 := fun q => x (k3.mpr ⟨o5, q⟩)
          rw [nI_clamp (by omega), nI_clamp (by omega), v14] at w
          unfold kct
          rw [if_neg z, if_neg o8, if_neg w]
      refine ⟨fun x => ?_, fun x => b125 τ16 ?_⟩
      · have o10 : op i = 10 := k5.mp x
        have t := tkN_rng (V := τ0 14) hkid o5
        refine p_takenM (fun q q1 q2 => NdM_fr (v2.1 6 (by decide) (by decide)) (v2.1 7 (by decide) (by decide)) (v2.1 8 (by decide) (by decide)) (hN q (by omega) q2)) hkid (by omega) ?_
        rw [v2.1 14 (by decide) (by decide)]
        refine ⟨vp_in_nI (by omega) (by decide), fun τ25 e25 => b125 τ25 ?_⟩
        rw [nI_clamp (by omega), nar1] at e25
        have v3 := KS_fl v2 (tkN op sz (τ0 14) i) 1
        rw [← e25] at v3
        unfold kfl
        rw [if_neg z, if_neg (by omega), if_pos o10]
        exact v3
      · have o10 : ¬ op i = 10 := fun q => x (k5.mpr q)
        unfold kfl
        rw [if_neg z, if_neg (by omega), if_neg o10]
        exact v2
    · have o5 : ¬ 5 ≤ op i := fun q => y (k3l.mpr q)
      unfold kfl kct
      rw [if_neg z, if_neg z, if_pos (by omega), if_pos (by omega), i32_add0]
      exact h
