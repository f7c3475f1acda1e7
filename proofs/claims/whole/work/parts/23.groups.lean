/-! the coupling when one group of cells changes; printed by wip/whole/gen_inv.py -/
theorem Inv_tape {σ σ' τ τ' : Sg} (hσ : ∀ j : Nat, j ≠ 2 → j ≠ 3 → σ' j = σ j) (hτ : ∀ j : Nat, j ≠ 0 → (j ≠ 4) → τ' j = τ j) (h0 : ∀ k : Nat, k ≠ 5 → k ≠ 12 → τ' 0 k = τ 0 k) (hn : ITape σ' τ') (h : Inv σ τ) : Inv σ' τ' := by
  obtain ⟨a1, a2, a3, a4, a5, a6, a7, a8, a9⟩ := h
  refine ⟨?_, ?_, hn, ?_, ?_, ?_, ?_, ?_, ?_⟩
  · exact IRows_fr (fun j h1 h2 => hσ j (by omega) (by omega)) (hτ 1 (by omega) (by omega)) (hτ 2 (by omega) (by omega)) (hτ 3 (by omega) (by omega)) a1
  · rw [hσ 0 (by omega) (by omega), h0 0 (by omega) (by omega)]; exact a2
  · exact IText_fr (by rw [hσ 0 (by omega) (by omega)]) (by rw [hσ 0 (by omega) (by omega)]) (fun j h1 h2 => hσ j (by omega) (by omega)) (h0 6 (by omega) (by omega)) (h0 7 (by omega) (by omega)) (hτ 5 (by omega) (by omega)) (hτ 6 (by omega) (by omega)) (hτ 7 (by omega) (by omega)) (hτ 8 (by omega) (by omega)) a4
  · exact IBay_fr (hσ 4 (by omega) (by omega)) (hσ 5 (by omega) (by omega)) (hσ 6 (by omega) (by omega)) (hσ 7 (by omega) (by omega)) (h0 19 (by omega) (by omega)) (hτ 10 (by omega) (by omega)) (hτ 11 (by omega) (by omega)) (hτ 12 (by omega) (by omega)) a5
  · exact IGau_fr (hσ 8 (by omega) (by omega)) (hσ 9 (by omega) (by omega)) (hσ 10 (by omega) (by omega)) (hσ 11 (by omega) (by omega)) (hσ 12 (by omega) (by omega)) (hσ 13 (by omega) (by omega)) (h0 28 (by omega) (by omega)) (hτ 17 (by omega) (by omega)) (hτ 18 (by omega) (by omega)) (hτ 19 (by omega) (by omega)) (hτ 20 (by omega) (by omega)) (hτ 21 (by omega) (by omega)) a6
  · exact IStp_fr (fun j h1 h2 => hσ j (by omega) (by omega)) (h0 42 (by omega) (by omega)) (hτ 30 (by omega) (by omega)) (hτ 31 (by omega) (by omega)) a7
  · exact IAsk_fr (hσ 57 (by omega) (by omega)) (hσ 58 (by omega) (by omega)) (h0 47 (by omega) (by omega)) (hτ 33 (by omega) (by omega)) a8
  · exact IRed_fr (hσ 45 (by omega) (by omega)) (hσ 46 (by omega) (by omega)) (hσ 47 (by omega) (by omega)) a9
theorem Inv_bay {σ σ' τ τ' : Sg} (hσ : ∀ j : Nat, (j < 4 ∨ 7 < j) → σ' j = σ j) (hτ : ∀ j : Nat, j ≠ 0 → j ≠ 10 → j ≠ 11 → j ≠ 12 → τ' j = τ j) (h0 : ∀ k : Nat, k ≠ 19 → τ' 0 k = τ 0 k) (hn : IBay σ' τ') (h : Inv σ τ) : Inv σ' τ' := by
  obtain ⟨a1, a2, a3, a4, a5, a6, a7, a8, a9⟩ := h
  refine ⟨?_, ?_, ?_, ?_, hn, ?_, ?_, ?_, ?_⟩
  · exact IRows_fr (fun j h1 h2 => hσ j (by omega)) (hτ 1 (by omega) (by omega) (by omega) (by omega)) (hτ 2 (by omega) (by omega) (by omega) (by omega)) (hτ 3 (by omega) (by omega) (by omega) (by omega)) a1
  · rw [hσ 0 (by omega), h0 0 (by omega)]; exact a2
  · exact ITape_fr (hσ 2 (by omega)) (hσ 3 (by omega)) (h0 5 (by omega)) (h0 12 (by omega)) (hτ 4 (by omega) (by omega) (by omega) (by omega)) a3
  · exact IText_fr (by rw [hσ 0 (by omega)]) (by rw [hσ 0 (by omega)]) (fun j h1 h2 => hσ j (by omega)) (h0 6 (by omega)) (h0 7 (by omega)) (hτ 5 (by omega) (by omega) (by omega) (by omega)) (hτ 6 (by omega) (by omega) (by omega) (by omega)) (hτ 7 (by omega) (by omega) (by omega) (by omega)) (hτ 8 (by omega) (by omega) (by omega) (by omega)) a4
  · exact IGau_fr (hσ 8 (by omega)) (hσ 9 (by omega)) (hσ 10 (by omega)) (hσ 11 (by omega)) (hσ 12 (by omega)) (hσ 13 (by omega)) (h0 28 (by omega)) (hτ 17 (by omega) (by omega) (by omega) (by omega)) (hτ 18 (by omega) (by omega) (by omega) (by omega)) (hτ 19 (by omega) (by omega) (by omega) (by omega)) (hτ 20 (by omega) (by omega) (by omega) (by omega)) (hτ 21 (by omega) (by omega) (by omega) (by omega)) a6
  · exact IStp_fr (fun j h1 h2 => hσ j (by omega)) (h0 42 (by omega)) (hτ 30 (by omega) (by omega) (by omega) (by omega)) (hτ 31 (by omega) (by omega) (by omega) (by omega)) a7
  · exact IAsk_fr (hσ 57 (by omega)) (hσ 58 (by omega)) (h0 47 (by omega)) (hτ 33 (by omega) (by omega) (by omega) (by omega)) a8
  · exact IRed_fr (hσ 45 (by omega)) (hσ 46 (by omega)) (hσ 47 (by omega)) a9
theorem Inv_gau {σ σ' τ τ' : Sg} (hσ : ∀ j : Nat, (j < 8 ∨ 13 < j) → σ' j = σ j) (hτ : ∀ j : Nat, j ≠ 0 → (j < 17 ∨ 21 < j) → τ' j = τ j) (h0 : ∀ k : Nat, k ≠ 28 → τ' 0 k = τ 0 k) (hn : IGau σ' τ') (h : Inv σ τ) : Inv σ' τ' := by
  obtain ⟨a1, a2, a3, a4, a5, a6, a7, a8, a9⟩ := h
  refine ⟨?_, ?_, ?_, ?_, ?_, hn, ?_, ?_, ?_⟩
  · exact IRows_fr (fun j h1 h2 => hσ j (by omega)) (hτ 1 (by omega) (by omega)) (hτ 2 (by omega) (by omega)) (hτ 3 (by omega) (by omega)) a1
  · rw [hσ 0 (by omega), h0 0 (by omega)]; exact a2
  · exact ITape_fr (hσ 2 (by omega)) (hσ 3 (by omega)) (h0 5 (by omega)) (h0 12 (by omega)) (hτ 4 (by omega) (by omega)) a3
  · exact IText_fr (by rw [hσ 0 (by omega)]) (by rw [hσ 0 (by omega)]) (fun j h1 h2 => hσ j (by omega)) (h0 6 (by omega)) (h0 7 (by omega)) (hτ 5 (by omega) (by omega)) (hτ 6 (by omega) (by omega)) (hτ 7 (by omega) (by omega)) (hτ 8 (by omega) (by omega)) a4
  · exact IBay_fr (hσ 4 (by omega)) (hσ 5 (by omega)) (hσ 6 (by omega)) (hσ 7 (by omega)) (h0 19 (by omega)) (hτ 10 (by omega) (by omega)) (hτ 11 (by omega) (by omega)) (hτ 12 (by omega) (by omega)) a5
  · exact IStp_fr (fun j h1 h2 => hσ j (by omega)) (h0 42 (by omega)) (hτ 30 (by omega) (by omega)) (hτ 31 (by omega) (by omega)) a7
  · exact IAsk_fr (hσ 57 (by omega)) (hσ 58 (by omega)) (h0 47 (by omega)) (hτ 33 (by omega) (by omega)) a8
  · exact IRed_fr (hσ 45 (by omega)) (hσ 46 (by omega)) (hσ 47 (by omega)) a9
theorem Inv_stp {σ σ' τ τ' : Sg} (hσ : ∀ j : Nat, (j < 48 ∨ 56 < j) → σ' j = σ j) (hτ : ∀ j : Nat, j ≠ 0 → j ≠ 30 → j ≠ 31 → τ' j = τ j) (h0 : ∀ k : Nat, k ≠ 42 → τ' 0 k = τ 0 k) (hn : IStp σ' τ') (h : Inv σ τ) : Inv σ' τ' := by
  obtain ⟨a1, a2, a3, a4, a5, a6, a7, a8, a9⟩ := h
  refine ⟨?_, ?_, ?_, ?_, ?_, ?_, hn, ?_, ?_⟩
  · exact IRows_fr (fun j h1 h2 => hσ j (by omega)) (hτ 1 (by omega) (by omega) (by omega)) (hτ 2 (by omega) (by omega) (by omega)) (hτ 3 (by omega) (by omega) (by omega)) a1
  · rw [hσ 0 (by omega), h0 0 (by omega)]; exact a2
  · exact ITape_fr (hσ 2 (by omega)) (hσ 3 (by omega)) (h0 5 (by omega)) (h0 12 (by omega)) (hτ 4 (by omega) (by omega) (by omega)) a3
  · exact IText_fr (by rw [hσ 0 (by omega)]) (by rw [hσ 0 (by omega)]) (fun j h1 h2 => hσ j (by omega)) (h0 6 (by omega)) (h0 7 (by omega)) (hτ 5 (by omega) (by omega) (by omega)) (hτ 6 (by omega) (by omega) (by omega)) (hτ 7 (by omega) (by omega) (by omega)) (hτ 8 (by omega) (by omega) (by omega)) a4
  · exact IBay_fr (hσ 4 (by omega)) (hσ 5 (by omega)) (hσ 6 (by omega)) (hσ 7 (by omega)) (h0 19 (by omega)) (hτ 10 (by omega) (by omega) (by omega)) (hτ 11 (by omega) (by omega) (by omega)) (hτ 12 (by omega) (by omega) (by omega)) a5
  · exact IGau_fr (hσ 8 (by omega)) (hσ 9 (by omega)) (hσ 10 (by omega)) (hσ 11 (by omega)) (hσ 12 (by omega)) (hσ 13 (by omega)) (h0 28 (by omega)) (hτ 17 (by omega) (by omega) (by omega)) (hτ 18 (by omega) (by omega) (by omega)) (hτ 19 (by omega) (by omega) (by omega)) (hτ 20 (by omega) (by omega) (by omega)) (hτ 21 (by omega) (by omega) (by omega)) a6
  · exact IAsk_fr (hσ 57 (by omega)) (hσ 58 (by omega)) (h0 47 (by omega)) (hτ 33 (by omega) (by omega) (by omega)) a8
  · exact IRed_fr (hσ 45 (by omega)) (hσ 46 (by omega)) (hσ 47 (by omega)) a9
theorem Inv_ask {σ σ' τ τ' : Sg} (hσ : ∀ j : Nat, (j < 57 ∨ 58 < j) → σ' j = σ j) (hτ : ∀ j : Nat, j ≠ 0 → (j ≠ 33) → τ' j = τ j) (h0 : ∀ k : Nat, k ≠ 47 → τ' 0 k = τ 0 k) (hn : IAsk σ' τ') (h : Inv σ τ) : Inv σ' τ' := by
  obtain ⟨a1, a2, a3, a4, a5, a6, a7, a8, a9⟩ := h
  refine ⟨?_, ?_, ?_, ?_, ?_, ?_, ?_, hn, ?_⟩
  · exact IRows_fr (fun j h1 h2 => hσ j (by omega)) (hτ 1 (by omega) (by omega)) (hτ 2 (by omega) (by omega)) (hτ 3 (by omega) (by omega)) a1
  · rw [hσ 0 (by omega), h0 0 (by omega)]; exact a2
  · exact ITape_fr (hσ 2 (by omega)) (hσ 3 (by omega)) (h0 5 (by omega)) (h0 12 (by omega)) (hτ 4 (by omega) (by omega)) a3
  · exact IText_fr (by rw [hσ 0 (by omega)]) (by rw [hσ 0 (by omega)]) (fun j h1 h2 => hσ j (by omega)) (h0 6 (by omega)) (h0 7 (by omega)) (hτ 5 (by omega) (by omega)) (hτ 6 (by omega) (by omega)) (hτ 7 (by omega) (by omega)) (hτ 8 (by omega) (by omega)) a4
  · exact IBay_fr (hσ 4 (by omega)) (hσ 5 (by omega)) (hσ 6 (by omega)) (hσ 7 (by omega)) (h0 19 (by omega)) (hτ 10 (by omega) (by omega)) (hτ 11 (by omega) (by omega)) (hτ 12 (by omega) (by omega)) a5
  · exact IGau_fr (hσ 8 (by omega)) (hσ 9 (by omega)) (hσ 10 (by omega)) (hσ 11 (by omega)) (hσ 12 (by omega)) (hσ 13 (by omega)) (h0 28 (by omega)) (hτ 17 (by omega) (by omega)) (hτ 18 (by omega) (by omega)) (hτ 19 (by omega) (by omega)) (hτ 20 (by omega) (by omega)) (hτ 21 (by omega) (by omega)) a6
  · exact IStp_fr (fun j h1 h2 => hσ j (by omega)) (h0 42 (by omega)) (hτ 30 (by omega) (by omega)) (hτ 31 (by omega) (by omega)) a7
  · exact IRed_fr (hσ 45 (by omega)) (hσ 46 (by omega)) (hσ 47 (by omega)) a9
theorem Inv_red {σ σ' τ τ' : Sg} (hσ : ∀ j : Nat, (j < 45 ∨ 47 < j) → σ' j = σ j) (hτ : ∀ j : Nat, j ≠ 0 → (True) → τ' j = τ j) (h0 : ∀ k : Nat, True → τ' 0 k = τ 0 k) (hn : IRed σ') (h : Inv σ τ) : Inv σ' τ' := by
  obtain ⟨a1, a2, a3, a4, a5, a6, a7, a8, a9⟩ := h
  refine ⟨?_, ?_, ?_, ?_, ?_, ?_, ?_, ?_, hn⟩
  · exact IRows_fr (fun j h1 h2 => hσ j (by omega)) (hτ 1 (by omega) trivial) (hτ 2 (by omega) trivial) (hτ 3 (by omega) trivial) a1
  · rw [hσ 0 (by omega), h0 0 trivial]; exact a2
  · exact ITape_fr (hσ 2 (by omega)) (hσ 3 (by omega)) (h0 5 trivial) (h0 12 trivial) (hτ 4 (by omega) trivial) a3
  · exact IText_fr (by rw [hσ 0 (by omega)]) (by rw [hσ 0 (by omega)]) (fun j h1 h2 => hσ j (by omega)) (h0 6 trivial) (h0 7 trivial) (hτ 5 (by omega) trivial) (hτ 6 (by omega) trivial) (hτ 7 (by omega) trivial) (hτ 8 (by omega) trivial) a4
  · exact IBay_fr (hσ 4 (by omega)) (hσ 5 (by omega)) (hσ 6 (by omega)) (hσ 7 (by omega)) (h0 19 trivial) (hτ 10 (by omega) trivial) (hτ 11 (by omega) trivial) (hτ 12 (by omega) trivial) a5
  · exact IGau_fr (hσ 8 (by omega)) (hσ 9 (by omega)) (hσ 10 (by omega)) (hσ 11 (by omega)) (hσ 12 (by omega)) (hσ 13 (by omega)) (h0 28 trivial) (hτ 17 (by omega) trivial) (hτ 18 (by omega) trivial) (hτ 19 (by omega) trivial) (hτ 20 (by omega) trivial) (hτ 21 (by omega) trivial) a6
  · exact IStp_fr (fun j h1 h2 => hσ j (by omega)) (h0 42 trivial) (hτ 30 (by omega) trivial) (hτ 31 (by omega) trivial) a7
  · exact IAsk_fr (hσ 57 (by omega)) (hσ 58 (by omega)) (h0 47 trivial) (hτ 33 (by omega) trivial) a8
