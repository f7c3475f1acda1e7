/-! gauges: which count, LAST -/
def GaB (σ : Sg) (g : Nat) (ou : Nat → Int32) (ce sp : Nat → Nat) (wt wa : Nat → Int32) : Prop := g ≤ 12 ∧ σ 8 0 = nI g ∧ ∀ i, i < g → σ 9 i = ou i ∧ σ 10 i = nI (ce i) ∧ ce i < 10 ∧ σ 11 i = nI (sp i) ∧ sp i ≤ 20 ∧ σ 12 i = wt i ∧ σ 13 i = wa i
def GaM (τ : Sg) (g : Nat) (ou : Nat → Int32) (ce sp : Nat → Nat) (wt wa : Nat → Int32) : Prop := g ≤ 12 ∧ τ 0 28 = nI g ∧ ∀ i, i < g → τ 21 i = ou i ∧ τ 17 i = nI (ce i) ∧ ce i < 10 ∧ τ 18 i = nI (sp i) ∧ sp i ≤ 20 ∧ τ 19 i = wt i ∧ τ 20 i = wa i
theorem IGau_ga {σ τ : Sg} (h : IGau σ τ) : ∃ g ou ce sp wt wa, GaB σ g ou ce sp wt wa ∧ GaM τ g ou ce sp wt wa := by
  obtain ⟨n, hn, g1, g2, g3, g4, g5⟩ := h
  refine ⟨n, σ 9, fun i => (σ 10 i).toNatClampNeg, fun i => (σ 11 i).toNatClampNeg, σ 12, σ 13, ⟨hn, g1, fun i hi => ?_⟩, ⟨hn, g2, fun i hi => ?_⟩⟩
  · obtain ⟨⟨q, hq, a1, a2⟩, ⟨p, hp, b1, b2⟩, c, d⟩ := g5 i hi
    refine ⟨rfl, ?_, ?_, ?_, ?_, rfl, rfl⟩
    · show σ 10 i = nI (σ 10 i).toNatClampNeg; rw [a1, nI_clamp (by omega)]
    · show (σ 10 i).toNatClampNeg < 10; rw [a1, nI_clamp (by omega)]; exact hq
    · show σ 11 i = nI (σ 11 i).toNatClampNeg; rw [b1, nI_clamp (by omega)]
    · show (σ 11 i).toNatClampNeg ≤ 20; rw [b1, nI_clamp (by omega)]; exact hp
  · obtain ⟨⟨q, hq, a1, a2⟩, ⟨p, hp, b1, b2⟩, c, d⟩ := g5 i hi
    refine ⟨(g3 i (by omega)).1.symm, ?_, ?_, ?_, ?_, c.symm, d.symm⟩
    · show τ 17 i = nI (σ 10 i).toNatClampNeg; rw [a1, a2, nI_clamp (by omega)]
    · show (σ 10 i).toNatClampNeg < 10; rw [a1, nI_clamp (by omega)]; exact hq
    · show τ 18 i = nI (σ 11 i).toNatClampNeg; rw [b1, b2, nI_clamp (by omega)]
    · show (σ 11 i).toNatClampNeg ≤ 20; rw [b1, nI_clamp (by omega)]; exact hp
def gc (n : Nat) (ou : Nat → Int32) (ce : Nat → Nat) (i : Nat) : Prop := ou i = 0 ∧ ce i < n
theorem p_countsB {σ : Sg} {g n i : Nat} {ou : Nat → Int32} {ce sp : Nat → Nat} {wt wa : Nat → Int32} {Q : Int32 → Sg → Prop} (hG : GaB σ g ou ce sp wt wa) (hi : i < g) (hn : n ≤ 10) (h1 : gc n ou ce i → Q 1 σ) (h0 : ¬ gc n ou ce i → Q 0 σ) : wX4_counts (nI i) (nI n) σ Q := by
  have hg := hG.1
  obtain ⟨a1, a2, a3, -⟩ := hG.2.2 i hi
  have i1 : vp_in (nI i) 12 := vp_in_nI (by omega) (by decide)
  have q : nI n ≤ nI (ce i) ↔ n ≤ ce i := nI_leI (by omega) (by omega)
  unfold wX4_counts wX4_counts_b23 wX4_counts_b24
  rw [nI_clamp (by omega), a1, a2]
  refine ⟨i1, fun z => ⟨i1, fun y => ⟨bok0, h0 ?_⟩, fun y => ⟨bok1, h1 ?_⟩⟩, fun z => ⟨bok0, h0 (fun w => z w.1)⟩⟩
  · intro w; have := q.mp y; have := w.2; omega
  · exact ⟨z, by have : ¬ n ≤ ce i := fun w => y (q.mpr w); omega⟩
theorem p_countsM {τ : Sg} {g n i : Nat} {ou : Nat → Int32} {ce sp : Nat → Nat} {wt wa : Nat → Int32} {Q : Int32 → Sg → Prop} (hG : GaM τ g ou ce sp wt wa) (h19 : τ 0 19 = nI n) (hi : i < g) (hn : n ≤ 10) (h1 : gc n ou ce i → Q 1 τ) (h0 : ¬ gc n ou ce i → Q 0 τ) : wX12_counts (nI i) τ Q := by
  have hg := hG.1
  obtain ⟨a1, a2, a3, -⟩ := hG.2.2 i hi
  have i1 : vp_in (nI i) 12 := vp_in_nI (by omega) (by decide)
  have q : nI n ≤ nI (ce i) ↔ n ≤ ce i := nI_leI (by omega) (by omega)
  unfold wX12_counts wX12_counts_b26 wX12_counts_b27
  rw [nI_clamp (by omega), a1, a2, h19]
  refine ⟨i1, fun z => ⟨i1, fun y => ⟨bok0, h0 ?_⟩, fun y => ⟨bok1, h1 ?_⟩⟩, fun z => ⟨bok0, h0 (fun w => z w.1)⟩⟩
  · intro w; have := q.mp y; have := w.2; omega
  · exact ⟨z, by have : ¬ n ≤ ce i := fun w => y (q.mpr w); omega⟩
