/-! a stencil worked out: the class's desk, the reference's work -/
theorem vin (n N : Nat) (h : n < N) (hN : N < 2 ^ 31) : vp_in (nI n) N := vp_in_nI h hN
theorem NdB_fr {σ σ' : Sg} {T : Nat} {op : Nat → Nat} {nu : Nat → Int32} {sz : Nat → Nat} {i : Nat} (hT : isSten T) (h : ∀ j, 20 ≤ j → j < 36 → σ' j = σ j) (hN : NdB σ T op nu sz i) : NdB σ' T op nu sz i := by
  have hb : 20 ≤ T ∧ T < 29 := by rcases hT with rfl | rfl <;> omega
  unfold NdB at hN ⊢
  rw [h (T + 2) (by omega) (by omega), h (T + 3) (by omega) (by omega), h (T + 5) (by omega) (by omega), h (T + 6) (by omega) (by omega), h (T + 7) (by omega) (by omega)]
  exact hN
theorem p_woL {T b e : Nat} {op : Nat → Nat} {nu : Nat → Int32} {sz : Nat → Nat} (hT : isSten T) (hbe : b < e) (he : e ≤ 60) {K : Sg → Prop} {Q : Int32 → Sg → Prop} {σ0 : Sg} (hN : ∀ i, b ≤ i → i < e → NdB σ0 T op nu sz i) (hk : ∀ i, b ≤ i → i < e → Kid op sz e i) (hK : ∀ σ, (∀ j, j ≠ 15 → σ j = σ0 j) → Evs op nu sz (σ0 18) b e (σ 15) → K σ) :
    ∀ (d : Nat) (σ : Sg), b + d ≤ e → (∀ j, j ≠ 15 → σ j = σ0 j) → Evs op nu sz (σ0 18) (b + d) e (σ 15) → wX3_workOut_L51 T (nI b) K Q (d + 1) (nI (b + d) - 1) σ
  | 0, σ, hd, hf, hE => by
    unfold wX3_workOut_L51
    refine ⟨fun _ => hK σ hf hE, fun z => absurd ?_ z⟩
    have e3 := toInt_nI_sub (n := b + 0) (x := 1) (by omega) (by rw [o_toInt]; omega)
    rw [fa_lt, e3, o_toInt, nI_toInt (by omega)]
    omega
  | d + 1, σ, hd, hf, hE => by
    unfold wX3_workOut_L51
    rw [show b + (d + 1) = b + d + 1 from rfl, nI_sub1]
    refine ⟨fun z => absurd z (nI_nlt (by omega) (by omega)), fun _ => ?_⟩
    refine p_worth (e := e) (NdB_fr hT (fun j h1 h2 => hf j (by omega)) (hN (b + d) (by omega) (by omega))) (hk (b + d) (by omega) (by omega)) ?_
    refine ⟨vp_in_nI (by omega) (by decide), fun σ10 e10 x8 e8 => ?_⟩
    rw [nI_clamp (by omega)] at e10
    rw [add_m1] at e8
    subst e8
    have f : ∀ j, j ≠ 15 → σ10 j = σ0 j := fun j hj => by rw [e10, sto_ne _ _ _ hj]; exact hf j hj
    refine p_woL hT hbe he hN hk hK d σ10 (by omega) f ?_
    intro j h1 h2
    have kj := hk j (by omega) h2
    by_cases c : j = b + d
    · subst c
      have e1 : σ10 15 (b + d) = rhs op nu sz (σ 18) (σ 15) (b + d) := by rw [e10, sto_at]
      rw [e1]
      refine rhs_congr kj (fun q _ => by rw [hf 18 (by decide)]) (fun q q1 q2 => ?_)
      rw [e10, sto_off _ _ _ (by omega)]
    · have e1 : σ10 15 j = σ 15 j := by rw [e10, sto_off _ _ _ c]
      rw [e1, hE j (by omega) h2]
      refine rhs_congr kj (fun _ _ => rfl) (fun q q1 q2 => ?_)
      rw [e10, sto_off _ _ _ (by omega)]
/-- what a cell sees, in one row -/
def se4 (a b c d : Int32) : Nat → Int32 := fun q => if q = 0 then a else if q = 1 then b else if q = 2 then c else d
theorem p_workOut {σ : Sg} {T ns nn : Nat} {bg op : Nat → Nat} {nu : Nat → Int32} {sz : Nat → Nat} {k : Nat} {x3 x4 x5 x6 : Int32} {Q : Int32 → Sg → Prop} (hT : isSten T) (hX : TX ns nn bg op sz) (hB : TB σ T ns nn bg op nu sz) (hk : k < ns) (hQ : ∀ σ', (∀ j, j ≠ 15 → j ≠ 18 → σ' j = σ j) → Evs op nu sz (se4 x3 x4 x5 x6) (bg k) (bg (k + 1)) (σ' 15) → Q (σ' 15 (bg k)) σ') : wX3_workOut T (nI k) x3 x4 x5 x6 σ Q := by
  have hns := hX.1
  have h60 := hX.2.1
  have hen := TX_end hX hk
  have hlt := hX.2.2.2.2.1 k hk
  have hb : 20 ≤ T ∧ T < 29 := by rcases hT with rfl | rfl <;> omega
  unfold wX3_workOut
  refine ⟨vin 0 4 (by decide) (by decide), fun σ1 e1 => ⟨vin 1 4 (by decide) (by decide), fun σ2 e2 => ⟨vin 2 4 (by decide) (by decide), fun σ3 e3 => ⟨vin 3 4 (by decide) (by decide), fun σ4 e4 => ?_⟩⟩⟩⟩
  have f4 : ∀ j, j ≠ 18 → σ4 j = σ j := fun j hj => by rw [e4, sto_ne _ _ _ hj, e3, sto_ne _ _ _ hj, e2, sto_ne _ _ _ hj, e1, sto_ne _ _ _ hj]
  have g4 : ∀ q, q ≤ 3 → σ4 18 q = se4 x3 x4 x5 x6 q := by
    intro q hq
    have hc : q = 0 ∨ q = 1 ∨ q = 2 ∨ q = 3 := by omega
    subst e4 e3 e2 e1
    rcases hc with rfl | rfl | rfl | rfl
    · rw [sto_off _ _ _ (by decide), sto_off _ _ _ (by decide), sto_off _ _ _ (by decide), sto_at]; rfl
    · rw [sto_off _ _ _ (by decide), sto_off _ _ _ (by decide), sto_at]; rfl
    · rw [sto_off _ _ _ (by decide), sto_at]; rfl
    · rw [sto_at]; rfl
  rw [f4 (T + 1) (by omega), nI_1, nI_clamp (by omega), nI_clamp (by omega), hB.2.2.1 k (by omega), hB.2.2.1 (k + 1) (by omega)]
  refine ⟨vp_in_nI (by omega) (by decide), fun x7 e7 => ⟨vp_in_nI (by omega) (by decide), fun x8 e8 => ?_⟩⟩
  subst e7 e8
  have hN : ∀ i, bg k ≤ i → i < bg (k + 1) → NdB σ4 T op nu sz i := fun i a b => NdB_fr hT (fun j q1 q2 => f4 j (by omega)) (TB_nd hB (by omega))
  have hL := p_woL (T := T) (b := bg k) (e := bg (k + 1)) (op := op) (nu := nu) (sz := sz) hT hlt (by omega) (K := fun σ_12 => (vp_in (nI (bg k)) 60 ∧ Q (σ_12 15 (nI (bg k)).toNatClampNeg) σ_12)) (Q := Q) (σ0 := σ4) hN (fun i a b => TX_kid hX hk a b) (fun σ' hf hE => by
    rw [nI_clamp (by omega)]
    refine ⟨vp_in_nI (by omega) (by decide), hQ σ' (fun j q1 q2 => by rw [hf j q1]; exact f4 j q2) ?_⟩
    intro j q1 q2
    rw [hE j q1 q2]
    exact rhs_congr (TX_kid hX hk q1 q2) g4 (fun _ _ _ => rfl)) (bg (k + 1) - bg k) σ4 (by omega) (fun _ _ => rfl) (by
    intro j q1 q2
    omega)
  rw [show bg k + (bg (k + 1) - bg k) = bg (k + 1) by omega] at hL
  exact ⟨_, hL⟩
-- the reference
theorem p_second {τ : Sg} {i : Nat} {sz : Nat → Nat} {Q : Int32 → Sg → Prop} (hi : i + 1 < 60) (hs : τ 8 (i + 1) = nI (sz (i + 1))) (hQ : Q (nI (s2 sz i)) τ) : wX12_second (nI i) τ Q := by
  unfold wX12_second
  rw [nI_1, nI_clamp (by omega), hs, nI_add]
  exact ⟨vp_in_nI (by omega) (by decide), hQ⟩
theorem p_third {τ : Sg} {i : Nat} {sz : Nat → Nat} {Q : Int32 → Sg → Prop} (hi : i + 1 < 60) (h2 : s2 sz i < 60) (hs : τ 8 (i + 1) = nI (sz (i + 1))) (hs2 : τ 8 (s2 sz i) = nI (sz (s2 sz i))) (hQ : Q (nI (s3 sz i)) τ) : wX12_third (nI i) τ Q := by
  unfold wX12_third
  refine p_second hi hs (p_second hi hs ?_)
  rw [nI_clamp (by omega), hs2, nI_add]
  exact ⟨vp_in_nI (by omega) (by decide), hQ⟩
theorem p_fourth {τ : Sg} {i : Nat} {sz : Nat → Nat} {Q : Int32 → Sg → Prop} (hi : i + 1 < 60) (h2 : s2 sz i < 60) (h3 : s3 sz i < 60) (hs : τ 8 (i + 1) = nI (sz (i + 1))) (hs2 : τ 8 (s2 sz i) = nI (sz (s2 sz i))) (hs3 : τ 8 (s3 sz i) = nI (sz (s3 sz i))) (hQ : Q (nI (s4 sz i)) τ) : wX12_fourth (nI i) τ Q := by
  unfold wX12_fourth
  refine p_third hi h2 hs hs2 (p_third hi h2 hs hs2 ?_)
  rw [nI_clamp (by omega), hs3, nI_add]
  exact ⟨vp_in_nI (by omega) (by decide), hQ⟩
theorem kd5 : ∀ o : Fin 11, (nI (kdOf o.val) = 5 ↔ o.val = 10) := by decide +kernel
theorem kd1 : ∀ o : Fin 11, (nI (kdOf o.val) = 1 ↔ o.val = 4) := by decide +kernel
theorem kd2 : ∀ o : Fin 11, (nI (kdOf o.val) = 2 ↔ o.val ≤ 3) := by decide +kernel
theorem kd3 : ∀ o : Fin 11, (nI (kdOf o.val) = 3 ↔ (5 ≤ o.val ∧ o.val ≤ 7)) := by decide +kernel
theorem mk8 (v : Int32) : mkOf 8 v = 1 := rfl
theorem mk9 (v : Int32) : mkOf 9 v = 2 := rfl
theorem p_takenM {τ : Sg} {e i : Nat} {op : Nat → Nat} {nu : Nat → Int32} {sz : Nat → Nat} {Q : Int32 → Sg → Prop} (hN : ∀ q, i ≤ q → q < e → NdM τ op nu sz q) (hk : Kid op sz e i) (ho : 8 ≤ op i) (hQ : Q (nI (tkN op sz (τ 14) i)) τ) : wX12_takenOf (nI i) τ Q := by
  have a := hk.2.2.2.1 (by omega)
  have e60 := hk.2.2.1
  have n0 := hN i (Nat.le_refl _) hk.2.1
  have hs := (hN (i + 1) (by omega) a.1).2.2
  have hs2 := (hN (s2 sz i) (by omega) a.2.2).2.2
  unfold wX12_takenOf wX12_takenOf_b48 wX12_takenOf_b82 wX12_takenOf_b100
  rw [nI_1, nI_clamp (by omega), nI_clamp (by omega)]
  have i1 : vp_in (nI i) 120 := vp_in_nI (by omega) (by decide)
  have o5 := kd5 ⟨op i, by have := hk.1; omega⟩
  unfold tkN at hQ
  refine ⟨vp_in_nI (by omega) (by decide), fun x2 ex2 => p_second (by omega) hs ⟨vp_in_nI (by omega) (by decide), fun x3 ex3 => ⟨i1, ?_⟩⟩⟩
  rw [nI_clamp (by omega)] at ex3
  rw [n0.1]
  subst ex2 ex3
  refine ⟨fun z => ?_, fun z => ⟨i1, ?_⟩⟩
  · have b := o5.mp z
    have c := hk.2.2.2.2 b
    have hs3 := (hN (s3 sz i) (by omega) c.2.1).2.2
    rw [if_pos b] at hQ
    refine ⟨fun x => p_fourth (by omega) (by omega) (by omega) hs hs2 hs3 ?_, fun x => p_third (by omega) (by omega) hs hs2 ?_⟩
    · rw [if_pos x] at hQ; exact hQ
    · rw [if_neg x] at hQ; exact hQ
  · have b : op i ≠ 10 := fun q => z (o5.mpr q)
    rw [if_neg b] at hQ
    rw [n0.2.1 b]
    have c89 : op i = 8 ∨ op i = 9 := by have := hk.1; omega
    rcases c89 with c | c
    · rw [c] at hQ ⊢
      rw [if_pos rfl] at hQ
      refine ⟨fun _ => ⟨fun x => ⟨fun _ => p_second (by omega) hs ?_, fun w => absurd rfl w⟩, fun x => ⟨fun w => absurd w one_ne, fun _ => ?_⟩⟩, fun w => absurd rfl w⟩
      · rw [if_pos x] at hQ; exact hQ
      · rw [if_neg x] at hQ; exact hQ
    · rw [c] at hQ ⊢
      rw [if_neg (by decide)] at hQ
      refine ⟨fun w => absurd w (by rw [mk9]; decide), fun _ => ⟨fun x => ⟨fun _ => p_second (by omega) hs ?_, fun w => absurd rfl w⟩, fun x => ⟨fun w => absurd w one_ne, fun _ => ?_⟩⟩⟩
      · rw [if_pos x] at hQ; exact hQ
      · rw [if_neg x] at hQ; exact hQ
def seM (τ : Sg) (q c n : Nat) : Nat → Int32 := se4 (if c = 0 then τ 12 0 else τ 13 (10 * q + c - 1)) (τ 13 (10 * q + c)) (if c + 1 = n then τ 12 1 else τ 13 (10 * q + c + 1)) (τ 11 c)
theorem p_seenAt {τ : Sg} {q c n o : Nat} {Q : Int32 → Sg → Prop} (h19 : τ 0 19 = nI n) (hn : n ≤ 10) (hc : c < n) (hq : q ≤ 120) (ho : o ≤ 3) (hQ : Q (seM τ q c n o) τ) : wX12_seenAt (nI q) (nI c) (nI o) τ Q := by
  unfold wX12_seenAt wX12_seenAt_b54 wX12_seenAt_b99
  unfold seM se4 at hQ
  rw [h19, ix10, nI_1, nI_clamp (by omega), nI_clamp (by omega), nI_clamp (by omega)]
  have oe : ∀ d : Nat, d ≤ 10 → (nI o = nI d ↔ o = d) := fun d hd => oeq (by omega) hd
  have ce : nI c = nI n - 1 ↔ c + 1 = n := by
    rw [show nI n - 1 = nI (n - 1) from pk_sub (b := 1) (by omega), nI_eq (by omega) (by omega)]; omega
  have c0 : nI c = 0 ↔ c = 0 := nI_eq (b := 0) (by omega) (by decide)
  refine ⟨fun z => ?_, fun z0 => ⟨fun z => ?_, fun z1 => ⟨fun z => ?_, fun z2 => ?_⟩⟩⟩
  · rw [if_pos ((oe 0 (by decide)).mp z)] at hQ
    refine ⟨fun y => ⟨vin 0 2 (by decide) (by decide), ?_⟩, fun y => ?_⟩
    · rw [if_pos (c0.mp y)] at hQ; exact hQ
    · have y' : c ≠ 0 := fun w => y (c0.mpr w)
      rw [if_neg y'] at hQ
      rw [show nI (10 * q + c) - 1 = nI (10 * q + c - 1) from pk_sub (b := 1) (by omega), nI_clamp (by omega)]
      exact ⟨vp_in_nI (by omega) (by decide), hQ⟩
  · have y := (oe 1 (by decide)).mp z
    rw [if_neg (by omega), if_pos y] at hQ
    exact ⟨vp_in_nI (by omega) (by decide), hQ⟩
  · have y := (oe 2 (by decide)).mp z
    rw [if_neg (by omega), if_neg (by omega), if_pos y] at hQ
    refine ⟨fun x => ⟨vin 1 2 (by decide) (by decide), ?_⟩, fun x => ⟨vp_in_nI (by omega) (by decide), ?_⟩⟩
    · rw [if_pos (ce.mp x)] at hQ; exact hQ
    · have x' : ¬ c + 1 = n := fun w => x (ce.mpr w)
      rw [if_neg x'] at hQ; exact hQ
  · have a0 : o ≠ 0 := fun w => z0 ((oe 0 (by decide)).mpr w)
    have a1 : o ≠ 1 := fun w => z1 ((oe 1 (by decide)).mpr w)
    have a2 : o ≠ 2 := fun w => z2 ((oe 2 (by decide)).mpr w)
    rw [if_neg a0, if_neg a1, if_neg a2] at hQ
    exact ⟨vp_in_nI (by omega) (by decide), hQ⟩
