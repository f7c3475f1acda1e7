/-! the reference's countKnots -/
def fi (b i : Nat) (old : Nat → Int32) : Nat → Int32 := fun j => if b ≤ j ∧ j < i then (if j = b then 1 else 0) else old j
theorem fi_0 (b : Nat) (old : Nat → Int32) : fi b b old = old := by
  funext j
  unfold fi
  rw [if_neg (by omega)]
theorem fi_succ {b i : Nat} (old : Nat → Int32) (h : b ≤ i) : upd (fi b i old) i (if i = b then 1 else 0) = fi b (i + 1) old := by
  funext j
  by_cases e : j = i
  · subst e
    rw [pk_us]
    unfold fi
    exact (if_pos ⟨h, Nat.lt_succ_self j⟩).symm
  · rw [pk_un e]
    unfold fi
    by_cases c : b ≤ j ∧ j < i
    · exact (if_pos c).trans (if_pos ⟨c.1, by omega⟩).symm
    · exact (if_neg c).trans (if_neg (by omega)).symm
theorem p_kI {τ0 : Sg} {st b e : Nat} {old : Nat → Int32} {k : Int32} (hst : st + 1 < 8) (he : e ≤ 60) (h5 : τ0 5 (st + 1) = nI e) (h5b : τ0 5 st = nI b) {K Q : Sg → Prop} (hK : ∀ τ, KS τ0 τ (fi b e old) k → K τ) : ∀ (d i : Nat) (τ : Sg), b ≤ i → i + d = e → KS τ0 τ (fi b i old) k → wX12_countKnots_L7 (nI st) K Q (d + 1) (nI i) τ
  | 0, i, τ, hbi, hi, h => by
    unfold wX12_countKnots_L7
    have e : i = e := by omega
    subst e
    rw [nI_1, nI_clamp (by omega), h.1 5 (by decide) (by decide), h5]
    exact ⟨vp_in_nI hst (by decide), fun _ => hK τ h, fun z => absurd (nI_le (Nat.le_refl _) (by omega)) z⟩
  | d + 1, i, τ, hbi, hi, h => by
    unfold wX12_countKnots_L7 wX12_countKnots_b39
    rw [nI_1, nI_clamp (by omega), nI_clamp (by omega), nI_clamp (by omega), h.1 5 (by decide) (by decide), h5, h5b, nar0, nar1]
    have hib : nI i = nI b ↔ i = b := nI_eq (by omega) (by omega)
    refine ⟨vp_in_nI hst (by decide), fun z => absurd z (nI_ge (by omega) (by omega)), fun _ => ⟨vp_in_nI (by omega) (by decide), fun z => ⟨vp_in_nI (by omega) (by decide), fun τ4 e4 x2 e2 => ?_⟩, fun z => ⟨vp_in_nI (by omega) (by decide), fun τ4 e4 x2 e2 => ?_⟩⟩⟩
    · rw [nI_1] at e2
      subst e2
      have v := KS_fl h i 1
      rw [← e4] at v
      have f := fi_succ old hbi
      rw [if_pos (hib.mp z)] at f
      rw [f] at v
      exact p_kI hst he h5 h5b hK d (i + 1) τ4 (by omega) (by omega) v
    · rw [nI_1] at e2
      subst e2
      have v := KS_fl h i 0
      rw [← e4] at v
      have f := fi_succ old hbi
      rw [if_neg (fun q => z (hib.mpr q))] at f
      rw [f] at v
      exact p_kI hst he h5 h5b hK d (i + 1) τ4 (by omega) (by omega) v
theorem p_countK {τ : Sg} {st b e : Nat} {op : Nat → Nat} {nu : Nat → Int32} {sz : Nat → Nat} {Q : Sg → Prop} (hst : st + 1 < 8) (hbe : b ≤ e) (he : e ≤ 60) (h5 : τ 5 (st + 1) = nI e) (h5b : τ 5 st = nI b) (hN : ∀ i, b ≤ i → i < e → NdM τ op nu sz i) (hk : ∀ i, b ≤ i → i < e → Kid op sz e i) (hQ : ∀ τ' fl', KS τ τ' fl' (kgo op sz (τ 14) (e - b) b (fi b e (τ 15)) (τ 0 27)) → Q τ') : wX12_countKnots (nI st) τ Q := by
  unfold wX12_countKnots
  rw [nI_clamp (by omega), h5b]
  refine ⟨vp_in_nI (by omega) (by decide), fun x2 e2 => ⟨e - b + 1, ?_⟩⟩
  subst e2
  have h0 : KS τ τ (fi b b (τ 15)) (τ 0 27) := ⟨fun _ _ _ => rfl, fun _ _ => rfl, (fi_0 b (τ 15)).symm, rfl⟩
  refine p_kI (τ0 := τ) (b := b) (e := e) hst he h5 h5b (fun τ6 h6 => ⟨vp_in_nI (by omega) (by decide), fun x7 e7 => ⟨e - b + 1, ?_⟩⟩) (e - b) b τ (Nat.le_refl _) (by omega) h0
  rw [h6.1 5 (by decide) (by decide), h5b] at e7
  subst e7
  exact p_kL (τ0 := τ) (b := b) hst he h5 hN hk (e - b) b τ6 _ _ (Nat.le_refl _) (by omega) h6 (fun τ' fl' h' => hQ τ' fl' h')
theorem kgo_add (op sz : Nat → Nat) (V : Nat → Int32) : ∀ (d i : Nat) (fl : Nat → Int32) (k : Int32), kgo op sz V d i fl k = k + kgo op sz V d i fl 0
  | 0, i, fl, k => (i32_add0 k).symm
  | d + 1, i, fl, k => by
    unfold kgo
    rw [kgo_add op sz V d (i + 1) _ (k + _), kgo_add op sz V d (i + 1) _ (0 + _), Int32.zero_add, Int32.add_assoc]
