/-! rows of cells: the class's course -/
def seR (R : Nat → Nat → Int32) (ed sp : Nat → Int32) (n q c : Nat) : Nat → Int32 := se4 (if c = 0 then ed 0 else R q (c - 1)) (R q c) (if c + 1 = n then ed 1 else R q (c + 1)) (sp c)
def CellOk (bg op : Nat → Nat) (nu : Nat → Int32) (sz : Nat → Nat) (ed sp : Nat → Int32) (n k : Nat) (R : Nat → Nat → Int32) (q c : Nat) : Prop := ∃ V, Evs op nu sz (seR R ed sp n q c) (bg k) (bg (k + 1)) V ∧ R (q + 1) c = V (bg k)
/-- R is the run of N rows -/
def RunOk (ns : Nat) (bg op : Nat → Nat) (nu : Nat → Int32) (sz : Nat → Nat) (st ed sp : Nat → Int32) (n : Nat) (R : Nat → Nat → Int32) (N : Nat) : Prop := (∀ c, c < n → R 0 c = st c) ∧ ∀ q, q < N → ∀ c, c < n → CellOk bg op nu sz ed sp n (q % ns) R q c
theorem se4_congr {a b c d a' b' c' d' : Int32} (h1 : a = a') (h2 : b = b') (h3 : c = c') (h4 : d = d') : ∀ q, q ≤ 3 → se4 a b c d q = se4 a' b' c' d' q := fun q _ => by rw [h1, h2, h3, h4]
theorem seR_congr {R R' : Nat → Nat → Int32} {ed ed' sp sp' : Nat → Int32} {n q c : Nat} (hc : c < n) (hR : ∀ c, c < n → R q c = R' q c) (he : ∀ i, i < 2 → ed i = ed' i) (hs : sp c = sp' c) : ∀ i, i ≤ 3 → seR R ed sp n q c i = seR R' ed' sp' n q c i := by
  unfold seR
  refine se4_congr ?_ (hR c hc) ?_ hs
  · by_cases h : c = 0
    · rw [if_pos h, if_pos h]; exact he 0 (by decide)
    · rw [if_neg h, if_neg h]; exact hR (c - 1) (by omega)
  · by_cases h : c + 1 = n
    · rw [if_pos h, if_pos h]; exact he 1 (by decide)
    · rw [if_neg h, if_neg h]; exact hR (c + 1) (by omega)
/-- two runs of the same bay are one -/
theorem Run_one {ns nn : Nat} {bg op : Nat → Nat} {nu : Nat → Int32} {sz : Nat → Nat} {st st' ed ed' sp sp' : Nat → Int32} {n N : Nat} {R R' : Nat → Nat → Int32} (hX : TX ns nn bg op sz) (hns : N ≠ 0 → 0 < ns) (h1 : ∀ c, c < n → st c = st' c) (h2 : ∀ i, i < 2 → ed i = ed' i) (h3 : ∀ c, c < n → sp c = sp' c) (h : RunOk ns bg op nu sz st ed sp n R N) (h' : RunOk ns bg op nu sz st' ed' sp' n R' N) : ∀ q, q ≤ N → ∀ c, c < n → R q c = R' q c := by
  intro q
  induction q with
  | zero => intro _ c hc; rw [h.1 c hc, h'.1 c hc, h1 c hc]
  | succ q ih =>
    intro hq c hc
    have hk : q % ns < ns := Nat.mod_lt _ (hns (by omega))
    have hlt := hX.2.2.2.2.1 (q % ns) hk
    obtain ⟨V, hV, e⟩ := h.2 q (by omega) c hc
    obtain ⟨V', hV', e'⟩ := h'.2 q (by omega) c hc
    rw [e, e']
    exact Evs_eq (fun i a b => TX_kid hX hk a b) (seR_congr hc (fun c hc => ih (by omega) c hc) h2 (h3 c hc)) hV hV' (Nat.le_refl _) hlt
theorem ix10r (q c : Nat) : nI q * (10 : Int32) + nI c = nI (10 * q + c) := by
  show nI q * nI 10 + nI c = _
  rw [pk_mul, nI_add, Nat.mul_comm]
theorem p_cwork {σ : Sg} {u T a ns nn q k c n : Nat} {bg op : Nat → Nat} {nu : Nat → Int32} {sz : Nat → Nat} {Q : Int32 → Sg → Prop} (hT : isSten T) (hX : TX ns nn bg op sz) (hB : TB σ T ns nn bg op nu sz) (hk : k < ns) (h4 : σ 4 0 = nI n) (hn : n ≤ 10) (hc : c < n) (hq : q < 120) (hQ : ∀ σ', (∀ j, j ≠ 15 → j ≠ 18 → σ' j = σ j) → Evs op nu sz (seR (fun q c => σ (u + 1) (10 * q + c)) (σ 7) (σ a) n q c) (bg k) (bg (k + 1)) (σ' 15) → Q (σ' 15 (bg k)) σ') : wX2_workOut u T a (nI q) (nI k) (nI c) σ Q := by
  have c0 : nI c ≤ 0 ↔ c = 0 := by
    rw [show (0 : Int32) = nI 0 from rfl, nI_leI (by omega) (by decide)]; omega
  have cn : nI n - 1 ≤ nI c ↔ c + 1 = n := by
    rw [show nI n - 1 = nI (n - 1) from pk_sub (b := 1) (by omega), nI_leI (by omega) (by omega)]; omega
  have step : ∀ (L : Int32), L = (if c = 0 then σ 7 0 else σ (u + 1) (10 * q + (c - 1))) → wX2_workOut_b35 u T a (nI k) (nI c) (nI (10 * q + c)) L σ Q := by
    intro L eL
    have fin : ∀ (Rr : Int32), Rr = (if c + 1 = n then σ 7 1 else σ (u + 1) (10 * q + (c + 1))) → wX2_workOut_b72 u T a (nI k) (nI c) (nI (10 * q + c)) L Rr σ Q := by
      intro Rr eR
      unfold wX2_workOut_b72
      rw [nI_clamp (by omega), nI_clamp (by omega)]
      refine ⟨vp_in_nI (by omega) (by decide), vp_in_nI (by omega) (by decide), ?_⟩
      refine p_workOut hT hX hB hk (fun σ' hf hE => hQ σ' hf ?_)
      unfold seR
      rw [eL, eR] at hE
      exact hE
    unfold wX2_workOut_b35
    rw [h4, nI_1, nI_clamp (by omega)]
    refine ⟨fun z => ⟨vin 1 2 (by decide) (by decide), fin _ (by rw [if_pos (cn.mp z)])⟩, fun z => ⟨vp_in_nI (by omega) (by decide), fin _ ?_⟩⟩
    have z' : ¬ c + 1 = n := fun w => z (cn.mpr w)
    rw [if_neg z', Nat.add_assoc]
  unfold wX2_workOut
  rw [ix10r]
  intro x6 e6
  subst e6
  refine ⟨fun z => ⟨vin 0 2 (by decide) (by decide), step _ (by rw [if_pos (c0.mp z)])⟩, fun z => ?_⟩
  have z' : c ≠ 0 := fun w => z (c0.mpr w)
  rw [show nI (10 * q + c) - 1 = nI (10 * q + (c - 1)) by rw [show nI (10 * q + c) - 1 = nI (10 * q + c - 1) from pk_sub (b := 1) (by omega), show 10 * q + c - 1 = 10 * q + (c - 1) by omega], nI_clamp (by omega)]
  exact ⟨vp_in_nI (by omega) (by decide), step _ (by rw [if_neg z'])⟩
