/-! PURE ROWS: reading and writing σ -/
theorem sto_same (σ : Sg) (j i : Nat) (v : Int32) : sto σ j i v j = upd (σ j) i v := va_up_self _ _ _
theorem sto_ne (σ : Sg) {j j' : Nat} (i : Nat) (v : Int32) (h : j' ≠ j) : sto σ j i v j' = σ j' := va_up_ne _ _ h
theorem sto_at (σ : Sg) (j i : Nat) (v : Int32) : sto σ j i v j i = v := by rw [sto_same]; exact pk_us
theorem sto_off (σ : Sg) (j : Nat) {i i' : Nat} (v : Int32) (h : i' ≠ i) : sto σ j i v j i' = σ j i' := by rw [sto_same]; exact pk_un h
theorem ite10 (c : Prop) [Decidable c] : ((if c then (1 : Int32) else 0) = 0) = ¬ c := by
  by_cases h : c
  · simp [h]
  · simp [h]
theorem bok_ite (c : Prop) [Decidable c] : bok (if c then (1 : Int32) else 0) := by
  by_cases h : c
  · simp only [h, if_true]; exact bok1
  · simp only [h, if_false]; exact bok0
theorem i32_nlt {a b : Int32} : (¬ a < b) ↔ b ≤ a := Int32.not_lt
theorem i32_nle {a b : Int32} : (¬ a ≤ b) ↔ b < a := Int32.not_le
theorem lit_nI (n : Nat) : (OfNat.ofNat n : Int32) = nI n := rfl
theorem p_isWithin (x a b : Int32) (σ : Sg) (Q : Int32 → Sg → Prop) : wX11_isWithin x a b σ Q ↔ Q (if a ≤ x ∧ x ≤ b then 1 else 0) σ := by
  unfold wX11_isWithin wX11_isWithin_b14 wX11_isWithin_b15
  by_cases h1 : x < a
  · have h2 : ¬ (a ≤ x ∧ x ≤ b) := fun q => (i32_nlt.mpr q.1) h1
    simp [h1, h2, bok0]
  · have h1' := i32_nlt.mp h1
    by_cases h3 : b < x
    · have h2 : ¬ (a ≤ x ∧ x ≤ b) := fun q => (i32_nle.mpr h3) q.2
      simp only [h1, h3, h2, bok0, if_false, false_implies, not_false_eq_true, true_implies, not_true_eq_false, true_and, and_true]
    · have h2 : a ≤ x ∧ x ≤ b := ⟨h1', i32_nlt.mp h3⟩
      simp only [h1, h3, h2, bok1, if_true, false_implies, not_false_eq_true, true_implies, true_and, and_self]
theorem p_within (x a b : Int32) (σ : Sg) (Q : Int32 → Sg → Prop) : wX12_within x a b σ Q ↔ Q (if a ≤ x ∧ x ≤ b then 1 else 0) σ := by
  unfold wX12_within wX12_within_b14 wX12_within_b15
  by_cases h1 : x < a
  · have h2 : ¬ (a ≤ x ∧ x ≤ b) := fun q => (i32_nlt.mpr q.1) h1
    simp [h1, h2, bok0]
  · have h1' := i32_nlt.mp h1
    by_cases h3 : b < x
    · have h2 : ¬ (a ≤ x ∧ x ≤ b) := fun q => (i32_nle.mpr h3) q.2
      simp only [h1, h3, h2, bok0, if_false, false_implies, not_false_eq_true, true_implies, not_true_eq_false, true_and, and_true]
    · have h2 : a ≤ x ∧ x ≤ b := ⟨h1', i32_nlt.mp h3⟩
      simp only [h1, h3, h2, bok1, if_true, false_implies, not_false_eq_true, true_implies, true_and, and_self]
theorem p_isRowB (x : Int32) (σ : Sg) (Q : Int32 → Sg → Prop) : wX11_isRow x σ Q ↔ Q (if 0 ≤ x ∧ x ≤ 7 then 1 else 0) σ := by
  unfold wX11_isRow; rw [p_isWithin]; simp only [bok_ite, true_and]
theorem p_isRowM (x : Int32) (σ : Sg) (Q : Int32 → Sg → Prop) : wX12_isRow x σ Q ↔ Q (if 0 ≤ x ∧ x ≤ 7 then 1 else 0) σ := by
  unfold wX12_isRow; rw [p_within]; simp only [bok_ite, true_and]
theorem p_found (x : Int32) (σ : Sg) (Q : Int64 → Sg → Prop) : wX11_found x σ Q ↔ Q ((-9000000000000000010 : Int64) - x.toInt64) (sto σ 0 1 x) := by
  unfold wX11_found; simp only [forall_eq]
theorem p_foundNothing (x : Int64) (σ : Sg) (Q : Int64 → Sg → Prop) : wX11_foundNothing x σ Q ↔ Q x (sto σ 0 1 0) := by
  unfold wX11_foundNothing; simp only [forall_eq]
theorem p_finds (x : Int32) (σ : Sg) (Q : Int64 → Sg → Prop) : wX12_finds x σ Q ↔ Q ((-9000000000000000010 : Int64) - x.toInt64) (sto σ 0 0 x) := by
  unfold wX12_finds; simp only [forall_eq]
theorem p_refused (x : Int32) (σ : Sg) (Q : Int64 → Sg → Prop) : wX12_refused x σ Q ↔ Q ((-9000000000000000000 : Int64) - x.toInt64) σ := by
  unfold wX12_refused; exact Iff.rfl
/-- a row of places of a cell becomes v -/
def fil (σ : Sg) (j a b : Nat) (v : Int32) : Sg := va_up σ j (fun i => if a ≤ i ∧ i < b then v else σ j i)
theorem fil_same (σ : Sg) (j a b : Nat) (v : Int32) (i : Nat) : fil σ j a b v j i = if a ≤ i ∧ i < b then v else σ j i := by unfold fil; rw [va_up_self]
theorem fil_ne (σ : Sg) {j j' : Nat} (a b : Nat) (v : Int32) (h : j' ≠ j) : fil σ j a b v j' = σ j' := va_up_ne _ _ h
theorem fil_0 (σ : Sg) (j a : Nat) (v : Int32) : fil σ j a a v = σ := by
  funext j'
  by_cases h : j' = j
  · subst h
    funext i
    rw [fil_same, if_neg (by omega)]
  · rw [fil_ne _ _ _ _ h]
theorem fil_succ (σ : Sg) (j a b : Nat) (v : Int32) (h : a ≤ b) : sto (fil σ j a b v) j b v = fil σ j a (b + 1) v := by
  funext j'
  by_cases e : j' = j
  · subst e
    funext i
    rw [sto_same, fil_same]
    by_cases hi : i = b
    · subst hi
      rw [pk_us, if_pos (by omega)]
    · rw [pk_un hi, fil_same]
      by_cases hc : a ≤ i ∧ i < b
      · rw [if_pos hc, if_pos (by omega)]
      · rw [if_neg hc, if_neg (by omega)]
  · rw [sto_ne _ _ _ e, fil_ne _ _ _ _ e, fil_ne _ _ _ _ e]
theorem p_fillL {a len : Nat} {v : Int32} {K : Sg → Prop} {Q : Sg → Prop} (hlen : len < 2 ^ 31) (σ : Sg) : ∀ (d k : Nat), k + d = len → K (fil σ a 0 len v) → wJ7_fill_53178_L5 a len v (nI len) K Q (d + 1) (nI k) (fil σ a 0 k v)
  | 0, k, hk, hK => by
    unfold wJ7_fill_53178_L5
    have e : k = len := by omega
    subst e
    exact ⟨fun _ => hK, fun q => absurd (nI_le (Nat.le_refl _) hlen) q⟩
  | d + 1, k, hk, hK => by
    unfold wJ7_fill_53178_L5
    refine ⟨fun q => absurd q (nI_ge (by omega) hlen), fun _ => ⟨vp_in_nI (by omega) hlen, ?_⟩⟩
    intro σ3 e3 x4 e4
    rw [nI_clamp (by omega), fil_succ _ _ _ _ _ (Nat.zero_le _)] at e3
    rw [nI_1] at e4
    subst e3 e4
    exact p_fillL hlen σ d (k + 1) (by omega) hK
theorem p_fill {a len : Nat} {v : Int32} {σ : Sg} {Q : Sg → Prop} (hlen : len < 2 ^ 31) (h : Q (fil σ a 0 len v)) : wJ7_fill_53178 a len v σ Q := by
  unfold wJ7_fill_53178
  intro x e
  subst e
  exact ⟨len + 1, by have := p_fillL (K := fun σ => Q σ) (Q := Q) hlen σ (a := a) (v := v) len 0 (by omega) h; rw [fil_0] at this; exact this⟩
