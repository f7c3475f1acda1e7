/-! the reference's tokens, and what they are to the class's -/
def wcn (c : Nat) : Nat := if c = 0 then 12 else if c = 1 then 3 else if c = 2 then 18 else if c = 3 then 11 else if c = 8 then 9734 else if c = 9 then 9528 else if c = 10 then 249 else 63030
def isW (c : Nat) : Prop := c ≤ 3 ∨ (8 ≤ c ∧ c ≤ 11)
def TkR (c : Nat) (v r w : Int32) : Prop :=
  (isW c ∧ r = 1 ∧ w = nI (wcn c)) ∨ (c = 4 ∧ r = 2 ∧ w = v) ∨ (c = 5 ∧ r = 3 ∧ w = 43) ∨ (c = 6 ∧ r = 3 ∧ w = 45) ∨ (c = 7 ∧ r = 3 ∧ w = 42) ∨ (c = 12 ∧ r = 3 ∧ w = 59) ∨ (c = 13 ∧ r = 0) ∨ (c = 14 ∧ (r = 4 ∨ (r = 1 ∧ ∀ c', isW c' → w ≠ nI (wcn c'))))
theorem isW_c {c : Nat} (h : isW c) : c = 0 ∨ c = 1 ∨ c = 2 ∨ c = 3 ∨ c = 8 ∨ c = 9 ∨ c = 10 ∨ c = 11 := by
  unfold isW at h
  omega
theorem wcn_lt {c : Nat} : wcn c < 2 ^ 31 := by
  unfold wcn
  repeat' split
  all_goals decide
def lw (ta : Nat → Int32) (b : Nat) : Nat → Int32
  | 0 => 0
  | k + 1 => 27 * lw ta b k + ta (b + k) - 96
theorem let_nat {x : Int32} (h : 97 ≤ x ∧ x ≤ 122) : ∃ a, 1 ≤ a ∧ a ≤ 26 ∧ x = nI (96 + a) := by
  have h0 : 0 ≤ x := Int32.le_trans (by decide) h.1
  obtain ⟨v, hv, rfl⟩ := x_le 122 (by decide) ⟨h0, h.2⟩
  have h1 : 97 ≤ v := (nI_leI (a := 97) (by decide) (by omega)).mp h.1
  exact ⟨v - 96, by omega, by omega, by rw [show 96 + (v - 96) = v by omega]⟩
theorem dig_nat {x : Int32} (h : 48 ≤ x ∧ x ≤ 57) : ∃ a, a ≤ 9 ∧ x = nI (48 + a) := by
  have h0 : 0 ≤ x := Int32.le_trans (by decide) h.1
  obtain ⟨v, hv, rfl⟩ := x_le 57 (by decide) ⟨h0, h.2⟩
  have h1 : 48 ≤ v := (nI_leI (a := 48) (by decide) (by omega)).mp h.1
  exact ⟨v - 48, by omega, by rw [show 48 + (v - 48) = v by omega]⟩
theorem step27 (W a : Nat) : 27 * nI W + nI (96 + a) - 96 = nI (27 * W + a) := by
  show nI 27 * nI W + nI (96 + a) - nI 96 = _
  rw [pk_mul, nI_add, pk_sub (by omega)]
  rw [show 27 * W + (96 + a) - 96 = 27 * W + a by omega]
theorem step10 (W a : Nat) : 10 * nI W + nI (48 + a) - 48 = nI (10 * W + a) := by
  show nI 10 * nI W + nI (48 + a) - nI 48 = _
  rw [pk_mul, nI_add, pk_sub (by omega)]
  rw [show 10 * W + (48 + a) - 48 = 10 * W + a by omega]
theorem dv_nat {ta : Nat → Int32} {b e : Nat} (h : ∀ j, b ≤ j → j < e → 48 ≤ ta j ∧ ta j ≤ 57) : ∀ k, b + k ≤ e → ∃ W, W < 10 ^ k ∧ dv ta b k = nI W
  | 0, _ => ⟨0, by decide, rfl⟩
  | k + 1, hk => by
    obtain ⟨W, hW, e1⟩ := dv_nat h k (by omega)
    obtain ⟨a, ha, e2⟩ := dig_nat (h (b + k) (by omega) (by omega))
    refine ⟨10 * W + a, by rw [Nat.pow_succ]; omega, ?_⟩
    show 10 * dv ta b k + ta (b + k) - 48 = _
    rw [e1, e2, step10]
theorem nm0 {ta : Nat → Int32} {b e : Nat} : nm ta b e 0 ↔ (e = b + 4 ∧ ta b = 99 ∧ ta (b + 1) = 101 ∧ ta (b + 2) = 108 ∧ ta (b + 3) = 108) := by
  refine ⟨fun h => ⟨h.1, h.2 0 (by decide), h.2 1 (by decide), h.2 2 (by decide), h.2 3 (by decide)⟩, fun h => ⟨h.1, fun k hk => ?_⟩⟩
  have hk' : k < 4 := hk
  have c : k = 0 ∨ k = 1 ∨ k = 2 ∨ k = 3 := by omega
  rcases c with rfl | rfl | rfl | rfl
  · exact h.2.1
  · exact h.2.2.1
  · exact h.2.2.2.1
  · exact h.2.2.2.2
theorem nm1 {ta : Nat → Int32} {b e : Nat} : nm ta b e 1 ↔ (e = b + 3 ∧ ta b = 109 ∧ ta (b + 1) = 105 ∧ ta (b + 2) = 110) := by
  refine ⟨fun h => ⟨h.1, h.2 0 (by decide), h.2 1 (by decide), h.2 2 (by decide)⟩, fun h => ⟨h.1, fun k hk => ?_⟩⟩
  have hk' : k < 3 := hk
  have c : k = 0 ∨ k = 1 ∨ k = 2 := by omega
  rcases c with rfl | rfl | rfl
  · exact h.2.1
  · exact h.2.2.1
  · exact h.2.2.2
theorem nm2 {ta : Nat → Int32} {b e : Nat} : nm ta b e 2 ↔ (e = b + 3 ∧ ta b = 109 ∧ ta (b + 1) = 97 ∧ ta (b + 2) = 120) := by
  refine ⟨fun h => ⟨h.1, h.2 0 (by decide), h.2 1 (by decide), h.2 2 (by decide)⟩, fun h => ⟨h.1, fun k hk => ?_⟩⟩
  have hk' : k < 3 := hk
  have c : k = 0 ∨ k = 1 ∨ k = 2 := by omega
  rcases c with rfl | rfl | rfl
  · exact h.2.1
  · exact h.2.2.1
  · exact h.2.2.2
theorem nm3 {ta : Nat → Int32} {b e : Nat} : nm ta b e 3 ↔ (e = b + 2 ∧ ta b = 105 ∧ ta (b + 1) = 102) := by
  refine ⟨fun h => ⟨h.1, h.2 0 (by decide), h.2 1 (by decide)⟩, fun h => ⟨h.1, fun k hk => ?_⟩⟩
  have hk' : k < 2 := hk
  have c : k = 0 ∨ k = 1 := by omega
  rcases c with rfl | rfl
  · exact h.2.1
  · exact h.2.2
theorem lt_eq {a c : Nat} (ha : a ≤ 26) (hc : c < 2 ^ 31) : nI (96 + a) = nI c ↔ 96 + a = c := nI_eq (by omega) hc
theorem no_word {W : Nat} (hW : W < 2 ^ 31) (h : ∀ c', isW c' → W ≠ wcn c') : ∀ c', isW c' → nI W ≠ nI (wcn c') := fun c' hc' q => h c' hc' ((nI_eq hW wcn_lt).mp q)
theorem TkR_name {ta : Nat → Int32} {b e : Nat} {v : Int32} (hbe : b < e) (h : ∀ j, b ≤ j → j < e → 97 ≤ ta j ∧ ta j ≤ 122) : TkR (nmC ta b e) v 1 (if e - b ≤ 4 then lw ta b (e - b) else -1) := by
  have fin14 : ∀ w : Int32, (∀ c', isW c' → w ≠ nI (wcn c')) → TkR 14 v 1 w := fun w hw => Or.inr (Or.inr (Or.inr (Or.inr (Or.inr (Or.inr (Or.inr ⟨rfl, Or.inr ⟨rfl, hw⟩⟩))))))
  have finW : ∀ (c : Nat) (w : Int32), isW c → w = nI (wcn c) → TkR c v 1 w := fun c w hc hw => Or.inl ⟨hc, rfl, hw⟩
  obtain ⟨a0, p0, q0, t0⟩ := let_nat (h b (Nat.le_refl _) hbe)
  have l1 : lw ta b 1 = nI a0 := by
    show 27 * (0 : Int32) + ta b - 96 = _
    rw [t0, show (0 : Int32) = nI 0 from rfl, step27, Nat.mul_zero, Nat.zero_add]
  unfold nmC
  by_cases m1 : e = b + 1
  · rw [if_pos m1, show e - b = 1 by omega, if_pos (by decide), l1, t0]
    unfold ltC
    have k99 : nI (96 + a0) = 99 ↔ 96 + a0 = 99 := lt_eq (c := 99) q0 (by decide)
    by_cases c1 : 96 + a0 = 99
    · rw [if_pos (k99.mpr c1)]
      exact finW 1 _ (Or.inl (by decide)) (by rw [show a0 = 3 by omega]; rfl)
    rw [if_neg (fun w => c1 (k99.mp w))]
    have k107 : nI (96 + a0) = 107 ↔ 96 + a0 = 107 := lt_eq (c := 107) q0 (by decide)
    by_cases c2 : 96 + a0 = 107
    · rw [if_pos (k107.mpr c2)]
      exact finW 3 _ (Or.inl (by decide)) (by rw [show a0 = 11 by omega]; rfl)
    rw [if_neg (fun w => c2 (k107.mp w))]
    have k108 : nI (96 + a0) = 108 ↔ 96 + a0 = 108 := lt_eq (c := 108) q0 (by decide)
    by_cases c3 : 96 + a0 = 108
    · rw [if_pos (k108.mpr c3)]
      exact finW 0 _ (Or.inl (by decide)) (by rw [show a0 = 12 by omega]; rfl)
    rw [if_neg (fun w => c3 (k108.mp w))]
    have k114 : nI (96 + a0) = 114 ↔ 96 + a0 = 114 := lt_eq (c := 114) q0 (by decide)
    by_cases c4 : 96 + a0 = 114
    · rw [if_pos (k114.mpr c4)]
      exact finW 2 _ (Or.inl (by decide)) (by rw [show a0 = 18 by omega]; rfl)
    rw [if_neg (fun w => c4 (k114.mp w))]
    refine fin14 _ (no_word (by omega) (fun c' hc' => ?_))
    rcases isW_c hc' with rfl | rfl | rfl | rfl | rfl | rfl | rfl | rfl
    · show a0 ≠ 12; omega
    · show a0 ≠ 3; omega
    · show a0 ≠ 18; omega
    · show a0 ≠ 11; omega
    · show a0 ≠ 9734; omega
    · show a0 ≠ 9528; omega
    · show a0 ≠ 249; omega
    · show a0 ≠ 63030; omega
  rw [if_neg m1]
  obtain ⟨a1, p1, q1, t1⟩ := let_nat (h (b + 1) (by omega) (by omega))
  have l2 : lw ta b 2 = nI (27 * a0 + a1) := by
    show 27 * lw ta b 1 + ta (b + 1) - 96 = _
    rw [l1, t1, step27]
  by_cases m2 : e = b + 2
  · rw [if_neg (fun w => by have := (nm0.mp w).1; omega), if_neg (fun w => by have := (nm1.mp w).1; omega), if_neg (fun w => by have := (nm2.mp w).1; omega), show e - b = 2 by omega, if_pos (c := 2 ≤ 4) (by decide), l2]
    by_cases c : nm ta b e 3
    · rw [if_pos c]
      have c' := nm3.mp c
      rw [t0, t1] at c'
      have d0 := (lt_eq (c := 105) q0 (by decide)).mp c'.2.1
      have d1 := (lt_eq (c := 102) q1 (by decide)).mp c'.2.2
      exact finW 10 _ (Or.inr (by decide)) (by rw [show a0 = 9 by omega, show a1 = 6 by omega]; rfl)
    · rw [if_neg c]
      have c' : ¬ (96 + a0 = 105 ∧ 96 + a1 = 102) := fun w => c (nm3.mpr ⟨m2, by rw [t0, w.1]; rfl, by rw [t1, w.2]; rfl⟩)
      refine fin14 _ (no_word (by omega) (fun c' hc' => ?_))
      rcases isW_c hc' with rfl | rfl | rfl | rfl | rfl | rfl | rfl | rfl
      · show 27 * a0 + a1 ≠ 12; omega
      · show 27 * a0 + a1 ≠ 3; omega
      · show 27 * a0 + a1 ≠ 18; omega
      · show 27 * a0 + a1 ≠ 11; omega
      · show 27 * a0 + a1 ≠ 9734; omega
      · show 27 * a0 + a1 ≠ 9528; omega
      · show 27 * a0 + a1 ≠ 249; omega
      · show 27 * a0 + a1 ≠ 63030; omega
  obtain ⟨a2, p2, q2, t2⟩ := let_nat (h (b + 2) (by omega) (by omega))
  have l3 : lw ta b 3 = nI (27 * (27 * a0 + a1) + a2) := by
    show 27 * lw ta b 2 + ta (b + 2) - 96 = _
    rw [l2, t2, step27]
  by_cases m3 : e = b + 3
  · rw [if_neg (fun w => by have := (nm0.mp w).1; omega), show e - b = 3 by omega, if_pos (c := 3 ≤ 4) (by decide), l3]
    by_cases c : nm ta b e 1
    · rw [if_pos c]
      have c' := nm1.mp c
      rw [t0, t1, t2] at c'
      have d0 := (lt_eq (c := 109) q0 (by decide)).mp c'.2.1
      have d1 := (lt_eq (c := 105) q1 (by decide)).mp c'.2.2.1
      have d2 := (lt_eq (c := 110) q2 (by decide)).mp c'.2.2.2
      exact finW 8 _ (Or.inr (by decide)) (by rw [show a0 = 13 by omega, show a1 = 9 by omega, show a2 = 14 by omega]; rfl)
    rw [if_neg c]
    have c1 : ¬ (96 + a0 = 109 ∧ 96 + a1 = 105 ∧ 96 + a2 = 110) := fun w => c (nm1.mpr ⟨m3, by rw [t0, w.1]; rfl, by rw [t1, w.2.1]; rfl, by rw [t2, w.2.2]; rfl⟩)
    by_cases d : nm ta b e 2
    · rw [if_pos d]
      have c' := nm2.mp d
      rw [t0, t1, t2] at c'
      have d0 := (lt_eq (c := 109) q0 (by decide)).mp c'.2.1
      have d1 := (lt_eq (c := 97) q1 (by decide)).mp c'.2.2.1
      have d2 := (lt_eq (c := 120) q2 (by decide)).mp c'.2.2.2
      exact finW 9 _ (Or.inr (by decide)) (by rw [show a0 = 13 by omega, show a1 = 1 by omega, show a2 = 24 by omega]; rfl)
    have c2 : ¬ (96 + a0 = 109 ∧ 96 + a1 = 97 ∧ 96 + a2 = 120) := fun w => d (nm2.mpr ⟨m3, by rw [t0, w.1]; rfl, by rw [t1, w.2.1]; rfl, by rw [t2, w.2.2]; rfl⟩)
    rw [if_neg d, if_neg (fun w => by have := (nm3.mp w).1; omega)]
    refine fin14 _ (no_word (by omega) (fun c' hc' => ?_))
    rcases isW_c hc' with rfl | rfl | rfl | rfl | rfl | rfl | rfl | rfl
    · show 27 * (27 * a0 + a1) + a2 ≠ 12; omega
    · show 27 * (27 * a0 + a1) + a2 ≠ 3; omega
    · show 27 * (27 * a0 + a1) + a2 ≠ 18; omega
    · show 27 * (27 * a0 + a1) + a2 ≠ 11; omega
    · show 27 * (27 * a0 + a1) + a2 ≠ 9734; omega
    · show 27 * (27 * a0 + a1) + a2 ≠ 9528; omega
    · show 27 * (27 * a0 + a1) + a2 ≠ 249; omega
    · show 27 * (27 * a0 + a1) + a2 ≠ 63030; omega
  obtain ⟨a3, p3, q3, t3⟩ := let_nat (h (b + 3) (by omega) (by omega))
  have l4 : lw ta b 4 = nI (27 * (27 * (27 * a0 + a1) + a2) + a3) := by
    show 27 * lw ta b 3 + ta (b + 3) - 96 = _
    rw [l3, t3, step27]
  by_cases m4 : e = b + 4
  · rw [show e - b = 4 by omega, if_pos (c := 4 ≤ 4) (by decide), l4]
    by_cases c : nm ta b e 0
    · rw [if_pos c]
      have c' := nm0.mp c
      rw [t0, t1, t2, t3] at c'
      have d0 := (lt_eq (c := 99) q0 (by decide)).mp c'.2.1
      have d1 := (lt_eq (c := 101) q1 (by decide)).mp c'.2.2.1
      have d2 := (lt_eq (c := 108) q2 (by decide)).mp c'.2.2.2.1
      have d3 := (lt_eq (c := 108) q3 (by decide)).mp c'.2.2.2.2
      exact finW 11 _ (Or.inr (by decide)) (by rw [show a0 = 3 by omega, show a1 = 5 by omega, show a2 = 12 by omega, show a3 = 12 by omega]; rfl)
    have c1 : ¬ (96 + a0 = 99 ∧ 96 + a1 = 101 ∧ 96 + a2 = 108 ∧ 96 + a3 = 108) := fun w => c (nm0.mpr ⟨m4, by rw [t0, w.1]; rfl, by rw [t1, w.2.1]; rfl, by rw [t2, w.2.2.1]; rfl, by rw [t3, w.2.2.2]; rfl⟩)
    rw [if_neg c, if_neg (fun w => by have := (nm1.mp w).1; omega), if_neg (fun w => by have := (nm2.mp w).1; omega), if_neg (fun w => by have := (nm3.mp w).1; omega)]
    refine fin14 _ (no_word (by omega) (fun c' hc' => ?_))
    rcases isW_c hc' with rfl | rfl | rfl | rfl | rfl | rfl | rfl | rfl
    · show 27 * (27 * (27 * a0 + a1) + a2) + a3 ≠ 12; omega
    · show 27 * (27 * (27 * a0 + a1) + a2) + a3 ≠ 3; omega
    · show 27 * (27 * (27 * a0 + a1) + a2) + a3 ≠ 18; omega
    · show 27 * (27 * (27 * a0 + a1) + a2) + a3 ≠ 11; omega
    · show 27 * (27 * (27 * a0 + a1) + a2) + a3 ≠ 9734; omega
    · show 27 * (27 * (27 * a0 + a1) + a2) + a3 ≠ 9528; omega
    · show 27 * (27 * (27 * a0 + a1) + a2) + a3 ≠ 249; omega
    · show 27 * (27 * (27 * a0 + a1) + a2) + a3 ≠ 63030; omega
  · rw [if_neg (fun w => by have := (nm0.mp w).1; omega), if_neg (fun w => by have := (nm1.mp w).1; omega), if_neg (fun w => by have := (nm2.mp w).1; omega), if_neg (fun w => by have := (nm3.mp w).1; omega), if_neg (by omega)]
    refine fin14 _ (fun c' hc' q => ?_)
    have := nI_pos (n := wcn c') wcn_lt
    rw [← q] at this
    exact this (by decide)
-- the reference's token
theorem p_isLet (x : Int32) (σ : Sg) (Q : Int32 → Sg → Prop) : wX12_isLetter x σ Q ↔ Q (if 97 ≤ x ∧ x ≤ 122 then 1 else 0) σ := by
  unfold wX12_isLetter; rw [p_within]; simp only [bok_ite, true_and]
theorem p_isDig (x : Int32) (σ : Sg) (Q : Int32 → Sg → Prop) : wX12_isDigit x σ Q ↔ Q (if 48 ≤ x ∧ x ≤ 57 then 1 else 0) σ := by
  unfold wX12_isDigit; rw [p_within]; simp only [bok_ite, true_and]
/-- at and word have moved, nothing else -/
def Tf (τ0 τ : Sg) (at_ : Nat) (w : Int32) : Prop := (∀ j, j ≠ 0 → τ j = τ0 j) ∧ (∀ k, k ≠ 13 → k ≠ 15 → τ 0 k = τ0 0 k) ∧ τ 0 13 = nI at_ ∧ τ 0 15 = w
theorem Tf_w {τ0 τ : Sg} {a : Nat} {w : Int32} (h : Tf τ0 τ a w) (v : Int32) : Tf τ0 (sto τ 0 15 v) a v :=
  ⟨fun j hj => by rw [sto_ne _ _ _ hj]; exact h.1 j hj, fun k q1 q2 => by rw [sto_off _ _ _ q2]; exact h.2.1 k q1 q2, by rw [sto_off _ _ _ (by decide)]; exact h.2.2.1, by rw [sto_at]⟩
theorem Tf_a {τ0 τ : Sg} {a : Nat} {w : Int32} (h : Tf τ0 τ a w) : Tf τ0 (sto τ 0 13 (τ 0 13 + 1)) (a + 1) w :=
  ⟨fun j hj => by rw [sto_ne _ _ _ hj]; exact h.1 j hj, fun k q1 q2 => by rw [sto_off _ _ _ q1]; exact h.2.1 k q1 q2, by rw [sto_at, h.2.2.1, nI_1], by rw [sto_off _ _ _ (by decide)]; exact h.2.2.2⟩
theorem p_t0 {τ0 : Sg} {ta : Nat → Int32} {L : Nat} {w : Int32} {K : Sg → Prop} {Q : Int32 → Sg → Prop} (h5 : τ0 0 5 = nI L) (hL : L ≤ 300) (h4 : ∀ i, i < 300 → τ0 4 i = ta i) : ∀ (d p : Nat) (τ : Sg), p + d = L → Tf τ0 τ p w → (∀ τ', Tf τ0 τ' (skp ta d p) w → K τ') → wX12_token_L0 K Q (d + 1) τ
  | 0, p, τ, hp, h, hK => by
    unfold wX12_token_L0
    have e : p = L := by omega
    rw [h.2.1 5 (by decide) (by decide), h5, h.2.2.1, e]
    unfold skp at hK
    exact ⟨fun _ => hK τ h, fun z => absurd (nI_le (Nat.le_refl _) (by omega)) z⟩
  | d + 1, p, τ, hp, h, hK => by
    unfold wX12_token_L0 wX12_token_b39
    have ip : vp_in (nI p) 300 := vp_in_nI (by omega) (by decide)
    have ha := Tf_a h
    rw [h.2.1 5 (by decide) (by decide), h5, h.2.2.1, nI_clamp (by omega), h.1 4 (by decide), h4 p (by omega)]
    rw [h.2.2.1] at ha
    unfold skp at hK
    refine ⟨fun z => absurd z (nI_ge (by omega) (by omega)), fun _ => ⟨ip, fun z τ3 e3 => ?_, fun z => ⟨ip, fun w τ3 e3 => ?_, fun w => ?_⟩⟩⟩
    · rw [if_pos (Or.inl z)] at hK
      rw [e3]; exact p_t0 h5 hL h4 d (p + 1) _ (by omega) ha hK
    · rw [if_pos (Or.inr w)] at hK
      rw [e3]; exact p_t0 h5 hL h4 d (p + 1) _ (by omega) ha hK
    · rw [if_neg (fun q => q.elim z w)] at hK
      exact hK τ h
theorem p_t97 {τ0 : Sg} {ta : Nat → Int32} {L b : Nat} {K : Sg → Prop} {Q : Int32 → Sg → Prop} (h5 : τ0 0 5 = nI L) (hL : L ≤ 300) (h4 : ∀ i, i < 300 → τ0 4 i = ta i) : ∀ (d k : Nat) (τ : Sg), b + k + d = L → Tf τ0 τ (b + k) (if k ≤ 4 then lw ta b k else -1) → (∀ τ', Tf τ0 τ' (enn 97 122 ta d (b + k)) (if enn 97 122 ta d (b + k) - b ≤ 4 then lw ta b (enn 97 122 ta d (b + k) - b) else -1) → K τ') → wX12_token_L97 K Q (d + 1) (nI k) τ
  | 0, k, τ, hp, h, hK => by
    unfold wX12_token_L97
    have e : b + k = L := by omega
    rw [h.2.1 5 (by decide) (by decide), h5, h.2.2.1, e]
    unfold enn at hK
    rw [show b + k - b = k by omega] at hK
    exact ⟨fun _ => hK τ h, fun z => absurd (nI_le (Nat.le_refl _) (by omega)) z⟩
  | d + 1, k, τ, hp, h, hK => by
    unfold wX12_token_L97 wX12_token_b153
    have ip : vp_in (nI (b + k)) 300 := vp_in_nI (by omega) (by decide)
    unfold enn at hK
    rw [h.2.1 5 (by decide) (by decide), h5, h.2.2.1, nI_clamp (by omega), h.1 4 (by decide), h4 (b + k) (by omega), p_isLet, ite10, h.2.2.1, h.1 4 (by decide), nI_clamp (by omega), h4 (b + k) (by omega), nI_1]
    have k4 : 4 ≤ nI k ↔ 4 ≤ k := nI_leI (a := 4) (by decide) (by omega)
    refine ⟨fun z => absurd z (nI_ge (by omega) (by omega)), fun _ => ⟨ip, fun z => ?_, fun z => ?_⟩⟩
    · rw [if_neg z] at hK
      rw [show b + k - b = k by omega] at hK
      exact hK τ h
    · rw [if_pos (Classical.not_not.mp z)] at hK
      refine ⟨fun w τ36 e36 x2 e2 τ38 e38 => ?_, fun w => ⟨ip, fun τ36 e36 x2 e2 τ38 e38 => ?_⟩⟩
      · have h36 := Tf_w h (-1)
        rw [← e36] at h36
        have h38 := Tf_a h36
        rw [← e38] at h38
        rw [e2]
        refine p_t97 h5 hL h4 d (k + 1) τ38 (by omega) ?_ hK
        rw [if_neg (by have := k4.mp w; omega)]
        exact h38
      · have kk : ¬ 4 ≤ k := fun q => w (k4.mpr q)
        have hw := h.2.2.2
        rw [if_pos (by omega)] at hw
        have h36 := Tf_w h (27 * lw ta b k + ta (b + k) - 96)
        rw [hw] at e36
        rw [← e36] at h36
        have h38 := Tf_a h36
        rw [← e38] at h38
        rw [e2]
        refine p_t97 h5 hL h4 d (k + 1) τ38 (by omega) ?_ hK
        rw [if_pos (by omega)]
        exact h38
theorem p_t181 {τ0 : Sg} {ta : Nat → Int32} {L b : Nat} {K : Sg → Prop} {Q : Int32 → Sg → Prop} (h5 : τ0 0 5 = nI L) (hL : L ≤ 300) (h14 : τ0 0 14 = nI b) (h4 : ∀ i, i < 300 → τ0 4 i = ta i) : ∀ (d k : Nat) (τ : Sg), b + k + d = L → Tf τ0 τ (b + k) (if k ≤ 4 then dv ta b k else -1) → (∀ τ', Tf τ0 τ' (enn 48 57 ta d (b + k)) (if enn 48 57 ta d (b + k) - b ≤ 4 then dv ta b (enn 48 57 ta d (b + k) - b) else -1) → K τ') → wX12_token_L181 K Q (d + 1) τ
  | 0, k, τ, hp, h, hK => by
    unfold wX12_token_L181
    have e : b + k = L := by omega
    rw [h.2.1 5 (by decide) (by decide), h5, h.2.2.1, e]
    unfold enn at hK
    rw [show b + k - b = k by omega] at hK
    exact ⟨fun _ => hK τ h, fun z => absurd (nI_le (Nat.le_refl _) (by omega)) z⟩
  | d + 1, k, τ, hp, h, hK => by
    unfold wX12_token_L181 wX12_token_b245
    have ip : vp_in (nI (b + k)) 300 := vp_in_nI (by omega) (by decide)
    unfold enn at hK
    rw [h.2.1 5 (by decide) (by decide), h5, h.2.2.1, nI_clamp (by omega), h.1 4 (by decide), h4 (b + k) (by omega), p_isDig, ite10, h.2.2.1, h.2.1 14 (by decide) (by decide), h14, h.1 4 (by decide), nI_clamp (by omega), h4 (b + k) (by omega)]
    have k4 : nI b + 4 ≤ nI (b + k) ↔ 4 ≤ k := by
      rw [show nI b + 4 = nI (b + 4) from nI_add b 4, nI_leI (by omega) (by omega)]; omega
    refine ⟨fun z => absurd z (nI_ge (by omega) (by omega)), fun _ => ⟨ip, fun z => ?_, fun z => ?_⟩⟩
    · rw [if_neg z] at hK
      rw [show b + k - b = k by omega] at hK
      exact hK τ h
    · rw [if_pos (Classical.not_not.mp z)] at hK
      refine ⟨fun w τ36 e36 τ38 e38 => ?_, fun w => ⟨ip, fun τ36 e36 τ38 e38 => ?_⟩⟩
      · have h36 := Tf_w h (-1)
        rw [← e36] at h36
        have h38 := Tf_a h36
        rw [← e38] at h38
        refine p_t181 h5 hL h14 h4 d (k + 1) τ38 (by omega) ?_ hK
        rw [if_neg (by have := k4.mp w; omega)]
        exact h38
      · have kk : ¬ 4 ≤ k := fun q => w (k4.mpr q)
        have hw := h.2.2.2
        rw [if_pos (by omega)] at hw
        have h36 := Tf_w h (10 * dv ta b k + ta (b + k) - 48)
        rw [hw] at e36
        rw [← e36] at h36
        have h38 := Tf_a h36
        rw [← e38] at h38
        refine p_t181 h5 hL h14 h4 d (k + 1) τ38 (by omega) ?_ hK
        rw [if_pos (by omega)]
        exact h38
theorem p_tok {τ : Sg} {ta : Nat → Int32} {L p : Nat} {Q : Int32 → Sg → Prop} (h5 : τ 0 5 = nI L) (hL : L ≤ 300) (h4 : ∀ i, i < 300 → τ 4 i = ta i) (h13 : τ 0 13 = nI p) (hp : p ≤ L) (hQ : ∀ τ' r, (∀ j, j ≠ 0 → τ' j = τ j) → (∀ k, k ≠ 13 → k ≠ 14 → k ≠ 15 → τ' 0 k = τ 0 k) → τ' 0 13 = nI (tkE ta L p) → τ' 0 14 = nI (tkB ta L p) → TkR (tkC ta L p) (tkV ta L p) r (τ' 0 15) → Q r τ') : wX12_token τ Q := by
  have hB := tkB_rng (ta := ta) hp
  have hE := tkE_rng (ta := ta) hp
  unfold wX12_token
  refine ⟨L - p + 1, p_t0 (τ0 := τ) (w := τ 0 15) h5 hL h4 (L - p) p τ (by omega) ⟨fun _ _ => rfl, fun _ _ _ => rfl, h13, rfl⟩ (fun τ5 h5' => ?_)⟩
  have h5'' : Tf τ τ5 (tkB ta L p) (τ 0 15) := h5'
  clear h5'
  have eE : tkE ta L p = if tkB ta L p = L then L else if 97 ≤ ta (tkB ta L p) ∧ ta (tkB ta L p) ≤ 122 then enn 97 122 ta (L - tkB ta L p) (tkB ta L p) else if 48 ≤ ta (tkB ta L p) ∧ ta (tkB ta L p) ≤ 57 then enn 48 57 ta (L - tkB ta L p) (tkB ta L p) else tkB ta L p + 1 := rfl
  have eC : tkC ta L p = if tkB ta L p = L then 13 else if 97 ≤ ta (tkB ta L p) ∧ ta (tkB ta L p) ≤ 122 then nmC ta (tkB ta L p) (tkE ta L p) else if 48 ≤ ta (tkB ta L p) ∧ ta (tkB ta L p) ≤ 57 then (if tkE ta L p ≤ tkB ta L p + 4 then 4 else 14) else sgC (ta (tkB ta L p)) := rfl
  have eV : tkV ta L p = dv ta (tkB ta L p) (tkE ta L p - tkB ta L p) := rfl
  generalize tkB ta L p = b at hB hE eE eC eV hQ h5'' ⊢
  generalize tkE ta L p = e at hE eE eC eV hQ ⊢
  generalize tkC ta L p = c at eC hQ
  unfold wX12_token_b52 wX12_token_b172 wX12_token_b261 wX12_token_b273 wX12_token_b313 wX12_token_b318
  intro τ6 e6
  have f6 : ∀ j, j ≠ 0 → τ6 j = τ j := fun j hj => by rw [e6, sto_ne _ _ _ hj]; exact h5''.1 j hj
  have g6 : ∀ k, k ≠ 13 → k ≠ 14 → k ≠ 15 → τ6 0 k = τ 0 k := fun k q1 q2 q3 => by rw [e6, sto_off _ _ _ q2]; exact h5''.2.1 k q1 q3
  have a6 : τ6 0 13 = nI b := by rw [e6, sto_off _ _ _ (by decide)]; exact h5''.2.2.1
  have b6 : τ6 0 14 = nI b := by rw [e6, sto_at]; exact h5''.2.2.1
  have h56 : τ6 0 5 = nI L := by rw [g6 5 (by decide) (by decide) (by decide)]; exact h5
  rw [a6, h56, nI_clamp (by omega), f6 4 (by decide)]
  have bl : nI b = nI L ↔ b = L := nI_eq (by omega) (by omega)
  refine ⟨fun z => ?_, fun z => ⟨?_, fun x1 ex1 τ9 e9 => ?_⟩⟩
  · have hbL := bl.mp z
    rw [if_pos hbL] at eE eC
    refine hQ τ6 0 f6 g6 (by rw [a6, eE, hbL]) b6 ?_
    rw [eC]
    exact Or.inr (Or.inr (Or.inr (Or.inr (Or.inr (Or.inr (Or.inl ⟨rfl, rfl⟩))))))
  · have hbL : b ≠ L := fun w => z (bl.mpr w)
    exact vp_in_nI (by omega) (by decide)
  · have hbL : b ≠ L := fun w => z (bl.mpr w)
    rw [if_neg hbL] at eE eC
    rw [h4 b (by omega)] at ex1
    have h9 : Tf τ6 τ9 b 0 := ⟨fun j hj => by rw [e9, sto_ne _ _ _ hj], fun k q1 q2 => by rw [e9, sto_off _ _ _ q2], by rw [e9, sto_off _ _ _ (by decide)]; exact a6, by rw [e9, sto_at]⟩
    rw [p_isLet, ite10, p_isDig, ite10, ex1]
    have h46 : ∀ i, i < 300 → τ6 4 i = ta i := fun i hi => by rw [f6 4 (by decide)]; exact h4 i hi
    refine ⟨fun z1 => ⟨fun z2 τ16 e16 τ17 e17 => ?_, fun z2 => ⟨L - b + 1, ?_⟩⟩, fun z1 => ⟨L - b + 1, ?_⟩⟩
    · rw [if_neg z1, if_neg z2] at eE eC
      have h16 := Tf_a h9
      rw [← e16] at h16
      have h17 := Tf_w h16 (ta b)
      rw [← e17] at h17
      have fin : ∀ r, TkR c (tkV ta L p) r (ta b) → Q r τ17 := fun r hr => hQ τ17 r (fun j hj => by rw [h17.1 j hj]; exact f6 j hj) (fun k q1 q2 q3 => by rw [h17.2.1 k q1 q3]; exact g6 k q1 q2 q3) (by rw [h17.2.2.1, eE]) (by rw [h17.2.1 14 (by decide) (by decide)]; exact b6) (by rw [h17.2.2.2]; exact hr)
      unfold sgC at eC
      refine ⟨fun w => fin 3 ?_, fun w1 => ⟨fun w => fin 3 ?_, fun w2 => ⟨fun w => fin 3 ?_, fun w3 => ⟨fun w => fin 3 ?_, fun w4 => fin 4 ?_⟩⟩⟩⟩
      · rw [w, if_neg (by decide), if_neg (by decide), if_neg (by decide), if_pos rfl] at eC
        rw [eC, w]
        exact Or.inr (Or.inr (Or.inr (Or.inr (Or.inr (Or.inl ⟨rfl, rfl, rfl⟩)))))
      · rw [w, if_neg (by decide), if_pos rfl] at eC
        rw [eC, w]
        exact Or.inr (Or.inr (Or.inl ⟨rfl, rfl, rfl⟩))
      · rw [w, if_neg (by decide), if_neg (by decide), if_pos rfl] at eC
        rw [eC, w]
        exact Or.inr (Or.inr (Or.inr (Or.inl ⟨rfl, rfl, rfl⟩)))
      · rw [w, if_pos rfl] at eC
        rw [eC, w]
        exact Or.inr (Or.inr (Or.inr (Or.inr (Or.inl ⟨rfl, rfl, rfl⟩))))
      · rw [if_neg w4, if_neg w2, if_neg w3, if_neg w1] at eC
        rw [eC]
        exact Or.inr (Or.inr (Or.inr (Or.inr (Or.inr (Or.inr (Or.inr ⟨rfl, Or.inl rfl⟩))))))
    · have z2' := Classical.not_not.mp z2
      rw [if_neg z1, if_pos z2'] at eE eC
      have hall := enn_all (lo := 48) (hi := 57) (ta := ta) (L - b) b
      rw [← eE] at hall
      refine p_t181 (τ0 := τ6) (b := b) h56 hL b6 h46 (L - b) 0 τ9 (by omega) (by rw [if_pos (by decide)]; exact h9) (fun τ29 h29 => ?_)
      rw [Nat.add_zero, ← eE] at h29
      have fin : ∀ r, TkR c (tkV ta L p) r (τ29 0 15) → Q r τ29 := fun r hr => hQ τ29 r (fun j hj => by rw [h29.1 j hj]; exact f6 j hj) (fun k q1 q2 q3 => by rw [h29.2.1 k q1 q3]; exact g6 k q1 q2 q3) h29.2.2.1 (by rw [h29.2.1 14 (by decide) (by decide)]; exact b6) hr
      by_cases m : e - b ≤ 4
      · obtain ⟨W, hW, eW⟩ := dv_nat hall (e - b) (by omega)
        have hW' : W < 2 ^ 31 := Nat.lt_of_lt_of_le hW (Nat.le_trans (Nat.pow_le_pow_right (by decide) m) (by decide))
        have w29 := h29.2.2.2
        rw [if_pos m] at w29
        rw [if_pos (by omega)] at eC
        refine ⟨fun _ => fin 2 ?_, fun w => absurd ?_ w⟩
        · rw [eC, w29, eV]
          exact Or.inr (Or.inl ⟨rfl, rfl, rfl⟩)
        · rw [w29, eW]; exact nI_pos' hW'
      · have w29 := h29.2.2.2
        rw [if_neg m] at w29
        rw [if_neg (by omega)] at eC
        refine ⟨fun w => absurd w (by rw [w29]; exact m1_neg), fun _ => fin 4 ?_⟩
        rw [eC]
        exact Or.inr (Or.inr (Or.inr (Or.inr (Or.inr (Or.inr (Or.inr ⟨rfl, Or.inl rfl⟩))))))
    · have z1' := Classical.not_not.mp z1
      rw [if_pos z1'] at eE eC
      have hbe := enn_first (d := L - b) (by omega) z1'
      have hall := enn_all (lo := 97) (hi := 122) (ta := ta) (L - b) b
      rw [← eE] at hbe hall
      refine p_t97 (τ0 := τ6) (b := b) h56 hL h46 (L - b) 0 τ9 (by omega) (by rw [if_pos (by decide)]; exact h9) (fun τ39 h39 => ?_)
      rw [Nat.add_zero, ← eE] at h39
      refine hQ τ39 1 (fun j hj => by rw [h39.1 j hj]; exact f6 j hj) (fun k q1 q2 q3 => by rw [h39.2.1 k q1 q3]; exact g6 k q1 q2 q3) h39.2.2.1 (by rw [h39.2.1 14 (by decide) (by decide)]; exact b6) ?_
      rw [h39.2.2.2, eC]
      exact TkR_name hbe hall
