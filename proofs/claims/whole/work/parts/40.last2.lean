/-! LAST -/
theorem gc_dec (n : Nat) (ou : Nat → Int32) (ce : Nat → Nat) (i : Nat) : gc n ou ce i ∨ ¬ gc n ou ce i := Classical.em _
noncomputable def gl (n : Nat) (ou : Nat → Int32) (ce sp : Nat → Nat) : Nat → Nat
  | 0 => 0
  | i + 1 => if ou i = 0 ∧ ce i < n then (if gl n ou ce sp i < sp i then sp i else gl n ou ce sp i) else gl n ou ce sp i
theorem gl_le {n : Nat} {ou : Nat → Int32} {ce sp : Nat → Nat} : ∀ {g : Nat}, (∀ i, i < g → sp i ≤ 20) → gl n ou ce sp g ≤ 20
  | 0, _ => by unfold gl; omega
  | g + 1, h => by
    have := gl_le (n := n) (ou := ou) (ce := ce) (fun i hi => h i (Nat.lt_succ_of_lt hi) : ∀ i, i < g → sp i ≤ 20)
    have := h g (by omega)
    unfold gl
    split
    · split <;> omega
    · omega
theorem p_lastB {σ : Sg} {g n : Nat} {ou : Nat → Int32} {ce sp : Nat → Nat} {wt wa : Nat → Int32} {K : Int32 → Sg → Prop} {Q : Int32 → Sg → Prop} (hG : GaB σ g ou ce sp wt wa) (hn : n ≤ 10) (hK : K (nI (gl n ou ce sp g)) σ) : ∀ (d i : Nat), i + d = g → wX4_last_L4 (nI n) K Q (d + 1) (nI (gl n ou ce sp i)) (nI i) σ
  | 0, i, hi => by
    have hg := hG.1
    unfold wX4_last_L4
    have e : i = g := by omega
    subst e
    rw [hG.2.1]
    exact ⟨fun _ => hK, fun z => absurd (nI_le (Nat.le_refl _) (by omega)) z⟩
  | d + 1, i, hi => by
    have hg := hG.1
    have hl := gl_le (n := n) (ou := ou) (ce := ce) (fun j hj => (hG.2.2 j (by omega)).2.2.2.2.1 : ∀ j, j < i → sp j ≤ 20)
    obtain ⟨-, -, -, a4, a5, -⟩ := hG.2.2 i (by omega)
    have ih := p_lastB (Q := Q) hG hn hK d (i + 1) (by omega)
    unfold wX4_last_L4 wX4_last_b32
    rw [hG.2.1]
    refine ⟨fun z => absurd z (nI_ge (by omega) (by omega)), fun _ => ?_⟩
    refine p_countsB hG (by omega) hn (fun c => ⟨fun w => absurd w one_ne, fun _ => ⟨vp_in_nI (by omega) (by decide), fun x2 e2 x3 e3 => ?_⟩⟩) (fun c => ⟨fun _ x3 e3 => ?_, fun w => absurd rfl w⟩)
    · rw [nI_1] at e3
      rw [nI_clamp (by omega), a4] at e2
      subst e3
      unfold gl at ih
      rw [if_pos (show ou i = 0 ∧ ce i < n from c)] at ih
      by_cases q : gl n ou ce sp i < sp i
      · rw [if_pos q] at ih
        rw [if_pos (nI_lt q (by omega))] at e2
        subst e2
        exact ih
      · rw [if_neg q] at ih
        rw [if_neg (nI_nlt (by omega) (by omega))] at e2
        subst e2
        exact ih
    · rw [nI_1] at e3
      subst e3
      unfold gl at ih
      rw [if_neg (show ¬ (ou i = 0 ∧ ce i < n) from c)] at ih
      exact ih
theorem p_lastM {τ : Sg} {g n : Nat} {ou : Nat → Int32} {ce sp : Nat → Nat} {wt wa : Nat → Int32} {K : Int32 → Sg → Prop} {Q : Int32 → Sg → Prop} (hG : GaM τ g ou ce sp wt wa) (h19 : τ 0 19 = nI n) (hn : n ≤ 10) (hK : K (nI (gl n ou ce sp g)) τ) : ∀ (d i : Nat), i + d = g → wX12_last_L4 K Q (d + 1) (nI (gl n ou ce sp i)) (nI i) τ
  | 0, i, hi => by
    have hg := hG.1
    unfold wX12_last_L4
    have e : i = g := by omega
    subst e
    rw [hG.2.1]
    exact ⟨fun _ => hK, fun z => absurd (nI_le (Nat.le_refl _) (by omega)) z⟩
  | d + 1, i, hi => by
    have hg := hG.1
    have hl := gl_le (n := n) (ou := ou) (ce := ce) (fun j hj => (hG.2.2 j (by omega)).2.2.2.2.1 : ∀ j, j < i → sp j ≤ 20)
    obtain ⟨-, -, -, a4, a5, -⟩ := hG.2.2 i (by omega)
    have ih := p_lastM (Q := Q) hG h19 hn hK d (i + 1) (by omega)
    unfold wX12_last_L4 wX12_last_b39 wX12_last_b40
    rw [hG.2.1]
    have i1 : vp_in (nI i) 12 := vp_in_nI (by omega) (by decide)
    refine ⟨fun z => absurd z (nI_ge (by omega) (by omega)), fun _ => ?_⟩
    refine p_countsM hG h19 (by omega) hn (fun c => ⟨fun w => absurd w one_ne, fun _ => ⟨i1, ?_⟩⟩) (fun c => ⟨fun _ x3 e3 => ?_, fun w => absurd rfl w⟩)
    · rw [nI_clamp (by omega), a4]
      unfold gl at ih
      rw [if_pos (show ou i = 0 ∧ ce i < n from c)] at ih
      refine ⟨fun z x3 e3 => ?_, fun z => ⟨i1, fun x3 e3 => ?_⟩⟩
      · rw [nI_1] at e3
        subst e3
        have := (nI_leI (by omega) (by omega)).mp z
        rw [if_neg (by omega)] at ih
        exact ih
      · rw [nI_1] at e3
        subst e3
        have : ¬ sp i ≤ gl n ou ce sp i := fun w => z ((nI_leI (by omega) (by omega)).mpr w)
        rw [if_pos (by omega)] at ih
        exact ih
    · rw [nI_1] at e3
      subst e3
      unfold gl at ih
      rw [if_neg (show ¬ (ou i = 0 ∧ ce i < n) from c)] at ih
      exact ih
