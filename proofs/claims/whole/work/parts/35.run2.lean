/-! the class's run -/
theorem Evs_se {op : Nat → Nat} {nu : Nat → Int32} {sz : Nat → Nat} {se se' V : Nat → Int32} {b e : Nat} (hk : ∀ i, b ≤ i → i < e → Kid op sz e i) (hs : ∀ q, q ≤ 3 → se q = se' q) (h : Evs op nu sz se b e V) : Evs op nu sz se' b e V := fun j h1 h2 => by
  rw [h j h1 h2]
  exact rhs_congr (hk j h1 h2) hs (fun _ _ _ => rfl)
theorem TB_fr {σ σ' : Sg} {T ns nn : Nat} {bg op : Nat → Nat} {nu : Nat → Int32} {sz : Nat → Nat} (hT : isSten T) (h3 : ∀ j, 20 ≤ j → j < 36 → σ' j = σ j) (h : TB σ T ns nn bg op nu sz) : TB σ' T ns nn bg op nu sz := by
  have hb : 20 ≤ T ∧ T < 29 := by rcases hT with rfl | rfl <;> omega
  unfold TB at h ⊢
  rw [h3 T (by omega) (by omega), h3 (T + 1) (by omega) (by omega), h3 (T + 2) (by omega) (by omega), h3 (T + 3) (by omega) (by omega), h3 (T + 4) (by omega) (by omega), h3 (T + 5) (by omega) (by omega), h3 (T + 6) (by omega) (by omega), h3 (T + 7) (by omega) (by omega)]
  exact h
theorem CellOk_fr {bg op : Nat → Nat} {nu : Nat → Int32} {sz : Nat → Nat} {ed sp : Nat → Int32} {n k q c ns nn : Nat} {R R' : Nat → Nat → Int32} (hX : TX ns nn bg op sz) (hk : k < ns) (hc : c < n) (h1 : ∀ c, c < n → R q c = R' q c) (h2 : R (q + 1) c = R' (q + 1) c) (h : CellOk bg op nu sz ed sp n k R q c) : CellOk bg op nu sz ed sp n k R' q c := by
  obtain ⟨V, hV, e⟩ := h
  exact ⟨V, Evs_se (fun i a b => TX_kid hX hk a b) (seR_congr hc h1 (fun _ _ => rfl) rfl) hV, h2.symm.trans e⟩
/-- the rows of a course in σ -/
def Rs (σ : Sg) (u : Nat) : Nat → Nat → Int32 := fun q c => σ (u + 1) (10 * q + c)
/-- behind q whole rows, and c cells of the next -/
def CR (σ0 σ : Sg) (u a ns n : Nat) (bg op : Nat → Nat) (nu : Nat → Int32) (sz : Nat → Nat) (q c : Nat) : Prop :=
  (∀ j, j ≠ 15 → j ≠ 18 → j ≠ u + 1 → σ j = σ0 j) ∧ (∀ i, i < n → Rs σ u 0 i = σ0 5 i) ∧ (∀ r, r < q → ∀ i, i < n → CellOk bg op nu sz (σ0 7) (σ0 a) n (r % ns) (Rs σ u) r i) ∧ ∀ i, i < c → CellOk bg op nu sz (σ0 7) (σ0 a) n (q % ns) (Rs σ u) q i
theorem CR_step {σ0 σ σ' : Sg} {u a ns nn n q c : Nat} {bg op : Nat → Nat} {nu : Nat → Int32} {sz : Nat → Nat} {r : Int32} (hX : TX ns nn bg op sz) (hns : 0 < ns) (hu : isCou u) (hc : c < n) (hn : n ≤ 10) (h : CR σ0 σ u a ns n bg op nu sz q c) (hf : ∀ j, j ≠ 15 → j ≠ 18 → σ' j = σ j) (hV : ∃ V, Evs op nu sz (seR (Rs σ u) (σ0 7) (σ0 a) n q c) (bg (q % ns)) (bg (q % ns + 1)) V ∧ r = V (bg (q % ns))) : CR σ0 (sto σ' (u + 1) (10 * (q + 1) + c) r) u a ns n bg op nu sz q (c + 1) := by
  have hu2 : 36 ≤ u := by rcases hu with rfl | rfl <;> omega
  obtain ⟨h1, h2, h3, h4⟩ := h
  have e1 : ∀ p i, 10 * p + i ≠ 10 * (q + 1) + c → Rs (sto σ' (u + 1) (10 * (q + 1) + c) r) u p i = Rs σ u p i := fun p i hp => by
    unfold Rs
    rw [sto_off _ _ _ hp, hf (u + 1) (by omega) (by omega)]
  have e2 : Rs (sto σ' (u + 1) (10 * (q + 1) + c) r) u (q + 1) c = r := by unfold Rs; rw [sto_at]
  have md : ∀ p, p % ns < ns := fun p => Nat.mod_lt _ hns
  refine ⟨fun j q1 q2 q3 => ?_, fun i hi => ?_, fun p hp i hi => ?_, fun i hi => ?_⟩
  · rw [sto_ne _ _ _ q3, hf j q1 q2]; exact h1 j q1 q2 q3
  · rw [e1 0 i (by omega)]; exact h2 i hi
  · exact CellOk_fr hX (md p) hi (fun c' hc' => (e1 p c' (by omega)).symm) (e1 (p + 1) i (by omega)).symm (h3 p hp i hi)
  · by_cases c1 : i = c
    · subst c1
      obtain ⟨V, hE, hr⟩ := hV
      refine ⟨V, Evs_se (fun i a b => TX_kid hX (md q) a b) (seR_congr hc (fun c' hc' => (e1 q c' (by omega)).symm) (fun _ _ => rfl) rfl) hE, ?_⟩
      rw [e2]; exact hr
    · exact CellOk_fr hX (md q) (by omega) (fun c' hc' => (e1 q c' (by omega)).symm) (e1 (q + 1) i (by omega)).symm (h4 i (by omega))
theorem CR_row {σ0 σ : Sg} {u a ns n q : Nat} {bg op : Nat → Nat} {nu : Nat → Int32} {sz : Nat → Nat} (h : CR σ0 σ u a ns n bg op nu sz q n) : CR σ0 σ u a ns n bg op nu sz (q + 1) 0 := by
  obtain ⟨h1, h2, h3, h4⟩ := h
  refine ⟨h1, h2, fun p hp i hi => ?_, fun i hi => by omega⟩
  by_cases c : p = q
  · subst c; exact h4 i hi
  · exact h3 p (by omega) i hi
theorem p_r58 {σ0 : Sg} {u T a ns nn n q : Nat} {bg op : Nat → Nat} {nu : Nat → Int32} {sz : Nat → Nat} {x3 x5 : Int32} {K Q : Sg → Prop} (hu : isCou u) (hT : isSten T) (ha : isStr a) (hX : TX ns nn bg op sz) (hB : TB σ0 T ns nn bg op nu sz) (hns : 0 < ns) (h4 : σ0 4 0 = nI n) (hn : n ≤ 10) (hq : q < 120) (hK : ∀ σ, CR σ0 σ u a ns n bg op nu sz q n → K σ) :
    ∀ (d c : Nat) (σ : Sg), c + d = n → CR σ0 σ u a ns n bg op nu sz q c → wX2_run_L58 u T a x3 (nI q) x5 (nI (q % ns)) K Q (d + 1) (nI c) σ
  | 0, c, σ, hc, h => by
    have hu2 : 36 ≤ u := by rcases hu with rfl | rfl <;> omega
    unfold wX2_run_L58
    have e : c = n := by omega
    subst e
    rw [h.1 4 (by omega) (by omega) (by omega), h4]
    exact ⟨fun _ => hK σ h, fun z => absurd (nI_le (Nat.le_refl _) (by omega)) z⟩
  | d + 1, c, σ, hc, h => by
    have hu2 : 36 ≤ u := by rcases hu with rfl | rfl <;> omega
    have ha2 : a = 6 ∨ (51 ≤ a ∧ a < 57) := by rcases ha with rfl | ⟨k, hk, rfl⟩ <;> omega
    unfold wX2_run_L58
    rw [h.1 4 (by omega) (by omega) (by omega), h4]
    refine ⟨fun z => absurd z (nI_ge (by omega) (by omega)), fun _ => ?_⟩
    have hu38 : u ≤ 38 := by rcases hu with rfl | rfl <;> omega
    refine p_cwork (n := n) hT hX (TB_fr hT (fun j q1 q2 => h.1 j (by omega) (by omega) (by omega)) hB) (Nat.mod_lt _ hns) (by rw [h.1 4 (by omega) (by omega) (by omega)]; exact h4) hn (by omega) hq (fun σ7 hf hE => ?_)
    rw [nI_1, ix10r]
    refine ⟨vp_in_nI (by omega) (by decide), fun σ8 e8 x7 e7 => ?_⟩
    rw [nI_clamp (by omega)] at e8
    rw [nI_1] at e7
    subst e7 e8
    have r7 : σ 7 = σ0 7 := h.1 7 (by omega) (by omega) (by omega)
    have ra : σ a = σ0 a := h.1 a (by omega) (by omega) (by omega)
    rw [r7, ra] at hE
    exact p_r58 hu hT ha hX hB hns h4 hn hq hK d (c + 1) _ (by omega) (CR_step hX hns hu (by omega) hn h hf ⟨_, hE, rfl⟩)
theorem mod_sk {s ns k : Nat} (hk : k < ns) : (s * ns + k) % ns = k := by
  rw [Nat.mul_comm, Nat.mul_add_mod, Nat.mod_eq_of_lt hk]
theorem p_r46 {σ0 : Sg} {u T a ns nn n s : Nat} {bg op : Nat → Nat} {nu : Nat → Int32} {sz : Nat → Nat} {x3 x5 : Int32} {K : Int32 → Sg → Prop} {Q : Sg → Prop} (hu : isCou u) (hT : isSten T) (ha : isStr a) (hX : TX ns nn bg op sz) (hB : TB σ0 T ns nn bg op nu sz) (h4 : σ0 4 0 = nI n) (hn : n ≤ 10) (hs : s * ns + ns ≤ 120) (hK : ∀ σ, CR σ0 σ u a ns n bg op nu sz (s * ns + ns) 0 → K (nI (s * ns + ns)) σ) :
    ∀ (d k : Nat) (σ : Sg), k + d = ns → CR σ0 σ u a ns n bg op nu sz (s * ns + k) 0 → wX2_run_L46 u T a x3 x5 K Q (d + 1) (nI (s * ns + k)) (nI k) σ
  | 0, k, σ, hk, h => by
    have hb : 20 ≤ T ∧ T < 29 := by rcases hT with rfl | rfl <;> omega
    have hu2 : 36 ≤ u := by rcases hu with rfl | rfl <;> omega
    unfold wX2_run_L46
    have e : k = ns := by omega
    subst e
    rw [h.1 T (by omega) (by omega) (by omega), hB.1]
    exact ⟨fun _ => hK σ h, fun z => absurd (nI_le (Nat.le_refl _) (by have := hX.1; omega)) z⟩
  | d + 1, k, σ, hk, h => by
    have hb : 20 ≤ T ∧ T < 29 := by rcases hT with rfl | rfl <;> omega
    have hu2 : 36 ≤ u := by rcases hu with rfl | rfl <;> omega
    have h3 := hX.1
    unfold wX2_run_L46
    rw [h.1 T (by omega) (by omega) (by omega), hB.1]
    refine ⟨fun z => absurd z (nI_ge (by omega) (by omega)), fun _ => ⟨n + 1, ?_⟩⟩
    have hL := p_r58 (q := s * ns + k) (x3 := x3) (x5 := x5) (Q := Q) (K := fun σ_10 => (∀ x4_11 : Int32, x4_11 = nI (s * ns + k) + 1 → (∀ x6_12 : Int32, x6_12 = nI k + 1 → wX2_run_L46 u T a x3 x5 K Q (d + 1) x4_11 x6_12 σ_10))) hu hT ha hX hB (by omega) h4 hn (by omega) (fun σ' h' x4 e4 x6 e6 => by
      rw [nI_1] at e4 e6
      subst e4 e6
      exact p_r46 hu hT ha hX hB h4 hn hs hK d (k + 1) σ' (by omega) (CR_row h')) n 0 σ (by omega) h
    rw [mod_sk (by omega)] at hL
    exact hL
theorem p_r37 {σ0 : Sg} {u T a ns nn n S : Nat} {bg op : Nat → Nat} {nu : Nat → Int32} {sz : Nat → Nat} {K Q : Sg → Prop} (hu : isCou u) (hT : isSten T) (ha : isStr a) (hX : TX ns nn bg op sz) (hB : TB σ0 T ns nn bg op nu sz) (h4 : σ0 4 0 = nI n) (hn : n ≤ 10) (hS : S ≤ 40) (hK : ∀ σ, CR σ0 σ u a ns n bg op nu sz (S * ns) 0 → K σ) :
    ∀ (d s : Nat) (σ : Sg), s + d = S → CR σ0 σ u a ns n bg op nu sz (s * ns) 0 → wX2_run_L37 u T a (nI S) K Q (d + 1) (nI (s * ns)) (nI s) σ
  | 0, s, σ, hs, h => by
    unfold wX2_run_L37
    have e : s = S := by omega
    subst e
    exact ⟨fun _ => hK σ h, fun z => absurd (nI_le (Nat.le_refl _) (by omega)) z⟩
  | d + 1, s, σ, hs, h => by
    unfold wX2_run_L37
    refine ⟨fun z => absurd z (nI_ge (by omega) (by omega)), fun _ => ⟨ns + 1, ?_⟩⟩
    have h3 := hX.1
    have hb : (s + 1) * ns ≤ 40 * 3 := Nat.mul_le_mul (by omega) h3
    rw [Nat.succ_mul] at hb
    refine p_r46 (s := s) hu hT ha hX hB h4 hn (by omega) (fun σ' h' x5 e5 => ?_) ns 0 σ (by omega) h
    rw [nI_1] at e5
    subst e5
    have e2 : s * ns + ns = (s + 1) * ns := (Nat.succ_mul s ns).symm
    rw [e2] at h' ⊢
    exact p_r37 hu hT ha hX hB h4 hn hS hK d (s + 1) σ' (by omega) h'
theorem p_run {σ : Sg} {u T a ns nn n S : Nat} {bg op : Nat → Nat} {nu : Nat → Int32} {sz : Nat → Nat} {Q : Sg → Prop} (hu : isCou u) (hT : isSten T) (ha : isStr a) (hX : TX ns nn bg op sz) (hB : TB σ T ns nn bg op nu sz) (h4 : σ 4 0 = nI n) (hn : n ≤ 10) (hS : S ≤ 40) (hQ : ∀ σ', (∀ j, j ≠ 15 → j ≠ 18 → j ≠ u → j ≠ u + 1 → σ' j = σ j) → σ' u 3 = nI ns → RunOk ns bg op nu sz (σ 5) (σ 7) (σ a) n (Rs σ' u) (S * ns) → Q σ') : wX2_run u T a (nI S) σ Q := by
  have hu2 : 36 ≤ u ∧ u ≤ 38 := by rcases hu with rfl | rfl <;> omega
  have hb : 20 ≤ T ∧ T < 29 := by rcases hT with rfl | rfl <;> omega
  have ha2 : a = 6 ∨ (51 ≤ a ∧ a < 57) := by rcases ha with rfl | ⟨k, hk, rfl⟩ <;> omega
  unfold wX2_run
  intro σ1 e1
  have f1 : ∀ j, j ≠ u → σ1 j = σ j := fun j hj => by rw [e1, sto_ne _ _ _ hj]
  rw [f1 4 (by omega), h4, nI_clamp (by omega)]
  refine ⟨cpok_of (a := 0) (b := 0) (by omega) (by omega) (by decide) (by decide), fun σ2 e2 => ⟨S + 1, ?_⟩⟩
  have f2 : ∀ j, j ≠ u → j ≠ u + 1 → σ2 j = σ j := fun j q1 q2 => by rw [e2, cpy_ne _ _ _ _ q2]; exact f1 j q1
  have hL := p_r37 (σ0 := σ2) (S := S) (K := fun σ_16 => Q σ_16) (Q := Q) hu hT ha hX (TB_fr hT (fun j q1 q2 => f2 j (by omega) (by omega)) hB) (by rw [f2 4 (by omega) (by omega)]; exact h4) hn hS (fun σ' h => ?_) S 0 σ2 (by omega) ⟨fun _ _ _ _ => rfl, fun i hi => ?_, fun r hr => by omega, fun i hi => by omega⟩
  · rw [Nat.zero_mul, nI_0] at hL
    exact hL
  · refine hQ σ' (fun j q1 q2 q3 q4 => by rw [h.1 j q1 q2 q4]; exact f2 j q3 q4) ?_ ?_
    · rw [h.1 u (by omega) (by omega) (by omega), e2, cpy_ne _ _ _ _ (by omega), e1, sto_at]
      exact hB.1
    · obtain ⟨g1, g2, g3, g4⟩ := h
      rw [f2 5 (by omega) (by omega)] at g2
      rw [f2 7 (by omega) (by omega), f2 a (by omega) (by omega)] at g3
      exact ⟨g2, g3⟩
  · unfold Rs
    rw [Nat.mul_zero, Nat.zero_add, f2 5 (by omega) (by omega), e2, cpy_same, if_pos (by omega), Nat.sub_zero, Nat.zero_add, f1 5 (by omega)]
