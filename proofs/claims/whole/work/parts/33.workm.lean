/-! the reference's work on one stencil -/
theorem mk03 {o : Nat} (v : Int32) (h : o ≤ 3) : mkOf o v = nI o := if_pos h
theorem mk4 (v : Int32) : mkOf 4 v = v := rfl
theorem mk5 (v : Int32) : mkOf 5 v = 43 := rfl
theorem mk6 (v : Int32) : mkOf 6 v = 45 := rfl
theorem mk7 (v : Int32) : mkOf 7 v = 42 := rfl
theorem p_valueM {τ : Sg} {e i q c n : Nat} {op : Nat → Nat} {nu : Nat → Int32} {sz : Nat → Nat} {Q : Int32 → Sg → Prop} (h19 : τ 0 19 = nI n) (hn : n ≤ 10) (hc : c < n) (hq : q ≤ 120) (hN : ∀ q, i ≤ q → q < e → NdM τ op nu sz q) (hk : Kid op sz e i) (hQ : Q (rhs op nu sz (seM τ q c n) (τ 14) i) τ) : wX12_valueOf (nI i) (nI q) (nI c) τ Q := by
  have e60 := hk.2.2.1
  have hie := hk.2.1
  have n0 := hN i (Nat.le_refl _) hk.2.1
  have i1 : vp_in (nI i) 120 := vp_in_nI (by omega) (by decide)
  have ho := hk.1
  have k1 := kd1 ⟨op i, by omega⟩
  have k2 := kd2 ⟨op i, by omega⟩
  have k3 := kd3 ⟨op i, by omega⟩
  unfold wX12_valueOf wX12_valueOf_b117
  unfold rhs at hQ
  rw [nI_clamp (by omega), n0.1]
  refine ⟨i1, fun z => ⟨i1, ?_⟩, fun z1 => ⟨fun z => ⟨i1, ?_⟩, fun z2 => ⟨fun z => ?_, fun z3 => ?_⟩⟩⟩
  · have o4 : op i = 4 := k1.mp z
    rw [if_neg (by omega), if_pos o4] at hQ
    rw [n0.2.1 (by omega), o4, mk4]
    exact hQ
  · have o3 : op i ≤ 3 := k2.mp z
    rw [if_pos o3] at hQ
    rw [n0.2.1 (by omega), mk03 _ o3]
    exact p_seenAt h19 hn hc hq o3 hQ
  · have o57 : 5 ≤ op i ∧ op i ≤ 7 := k3.mp z
    have a := hk.2.2.2.1 o57.1
    have hs := (hN (i + 1) (by omega) a.1).2.2
    rw [if_neg (by omega), if_neg (by omega)] at hQ
    rw [nI_1, nI_clamp (by omega)]
    refine ⟨vp_in_nI (by omega) (by decide), fun x4 e4 => p_second (by omega) hs ⟨vp_in_nI (by omega) (by decide), fun x5 e5 => ⟨i1, ?_⟩⟩⟩
    rw [nI_clamp (by omega)] at e5
    subst e4 e5
    rw [n0.2.1 (by omega)]
    have oc : op i = 5 ∨ op i = 6 ∨ op i = 7 := by omega
    rcases oc with oc | oc | oc
    · rw [oc] at hQ ⊢
      rw [if_pos rfl] at hQ
      rw [mk5]
      exact ⟨fun _ => hQ, fun w => absurd rfl w⟩
    · rw [oc] at hQ ⊢
      rw [if_neg (by decide), if_pos rfl] at hQ
      rw [mk6]
      exact ⟨fun w => absurd w (by decide), fun _ => ⟨i1, fun _ => hQ, fun w => absurd rfl w⟩⟩
    · rw [oc] at hQ ⊢
      rw [if_neg (by decide), if_neg (by decide), if_pos rfl] at hQ
      rw [mk7]
      exact ⟨fun w => absurd w (by decide), fun _ => ⟨i1, fun w => absurd w (by decide), fun _ => hQ⟩⟩
  · have o8 : 8 ≤ op i := by
      have a1 : op i ≠ 4 := fun w => z1 (k1.mpr w)
      have a2 : ¬ op i ≤ 3 := fun w => z2 (k2.mpr w)
      have a3 : ¬ (5 ≤ op i ∧ op i ≤ 7) := fun w => z3 (k3.mpr w)
      omega
    rw [if_neg (by omega), if_neg (by omega), if_neg (by omega), if_neg (by omega), if_neg (by omega)] at hQ
    have t := tkN_rng (V := τ 14) hk (by omega)
    refine p_takenM hN hk o8 ?_
    rw [nI_clamp (by omega)]
    exact ⟨vp_in_nI (by omega) (by decide), hQ⟩
theorem seM_fr {τ τ' : Sg} {q c n : Nat} (h11 : τ' 11 = τ 11) (h12 : τ' 12 = τ 12) (h13 : τ' 13 = τ 13) : seM τ' q c n = seM τ q c n := by
  unfold seM
  rw [h11, h12, h13]
theorem NdM_fr {τ τ' : Sg} {op : Nat → Nat} {nu : Nat → Int32} {sz : Nat → Nat} {i : Nat} (h6 : τ' 6 = τ 6) (h7 : τ' 7 = τ 7) (h8 : τ' 8 = τ 8) (h : NdM τ op nu sz i) : NdM τ' op nu sz i := by
  unfold NdM at h ⊢
  rw [h6, h7, h8]
  exact h
theorem p_wmL {b e k q c n : Nat} {op : Nat → Nat} {nu : Nat → Int32} {sz : Nat → Nat} (hn : n ≤ 10) (hc : c < n) (hq : q ≤ 120) (hk8 : k < 8) (hbe : b < e) (he : e ≤ 60) {K : Sg → Prop} {Q : Int32 → Sg → Prop} {τ0 : Sg} (h19 : τ0 0 19 = nI n) (h5 : τ0 5 k = nI b) (hN : ∀ i, b ≤ i → i < e → NdM τ0 op nu sz i) (hk : ∀ i, b ≤ i → i < e → Kid op sz e i) (hK : ∀ τ, (∀ j, j ≠ 14 → τ j = τ0 j) → Evs op nu sz (seM τ0 q c n) b e (τ 14) → K τ) :
    ∀ (d : Nat) (τ : Sg), b + d ≤ e → (∀ j, j ≠ 14 → τ j = τ0 j) → Evs op nu sz (seM τ0 q c n) (b + d) e (τ 14) → wX12_work_L12 (nI k) (nI q) (nI c) K Q (d + 1) (nI (b + d) - 1) τ
  | 0, τ, hd, hf, hE => by
    unfold wX12_work_L12
    rw [nI_clamp (by omega), hf 5 (by decide), h5]
    refine ⟨vp_in_nI hk8 (by decide), fun _ => hK τ hf hE, fun z => absurd ?_ z⟩
    have e3 := toInt_nI_sub (n := b + 0) (x := 1) (by omega) (by rw [o_toInt]; omega)
    rw [fa_lt, e3, o_toInt, nI_toInt (by omega)]
    omega
  | d + 1, τ, hd, hf, hE => by
    unfold wX12_work_L12
    rw [show b + (d + 1) = b + d + 1 from rfl, nI_sub1, nI_clamp (by omega), hf 5 (by decide), h5]
    refine ⟨vp_in_nI hk8 (by decide), fun z => absurd z (nI_nlt (by omega) (by omega)), fun _ => ?_⟩
    refine p_valueM (e := e) (n := n) (by rw [hf 0 (by decide)]; exact h19) hn hc hq (fun i a1 a2 => NdM_fr (hf 6 (by decide)) (hf 7 (by decide)) (hf 8 (by decide)) (hN i (by omega) a2)) (hk (b + d) (by omega) (by omega)) ?_
    refine ⟨vp_in_nI (by omega) (by decide), fun τ5 e5 x4 e4 => ?_⟩
    rw [nI_clamp (by omega)] at e5
    rw [add_m1] at e4
    subst e4
    have hse : seM τ q c n = seM τ0 q c n := seM_fr (hf 11 (by decide)) (hf 12 (by decide)) (hf 13 (by decide))
    have f : ∀ j, j ≠ 14 → τ5 j = τ0 j := fun j hj => by rw [e5, sto_ne _ _ _ hj]; exact hf j hj
    refine p_wmL hn hc hq hk8 hbe he h19 h5 hN hk hK d τ5 (by omega) f ?_
    intro j h1 h2
    have kj := hk j (by omega) h2
    by_cases cj : j = b + d
    · subst cj
      have e1 : τ5 14 (b + d) = rhs op nu sz (seM τ q c n) (τ 14) (b + d) := by rw [e5, sto_at]
      rw [e1, hse]
      refine rhs_congr kj (fun _ _ => rfl) (fun r q1 q2 => ?_)
      rw [e5, sto_off _ _ _ (by omega)]
    · have e1 : τ5 14 j = τ 14 j := by rw [e5, sto_off _ _ _ cj]
      rw [e1, hE j (by omega) h2]
      refine rhs_congr kj (fun _ _ => rfl) (fun r q1 q2 => ?_)
      rw [e5, sto_off _ _ _ (by omega)]
theorem p_workM {τ : Sg} {ns nn k q c n : Nat} {bg op : Nat → Nat} {nu : Nat → Int32} {sz : Nat → Nat} {Q : Int32 → Sg → Prop} (hX : TX ns nn bg op sz) (hM : TM τ ns nn bg op nu sz) (hk : k < ns) (h19 : τ 0 19 = nI n) (hn : n ≤ 10) (hc : c < n) (hq : q ≤ 120) (hQ : ∀ τ', (∀ j, j ≠ 14 → τ' j = τ j) → Evs op nu sz (seM τ q c n) (bg k) (bg (k + 1)) (τ' 14) → Q (τ' 14 (bg k)) τ') : wX12_work (nI k) (nI q) (nI c) τ Q := by
  have hns := hX.1
  have h60 := hX.2.1
  have hen := TX_end hX hk
  have hlt := hX.2.2.2.2.1 k hk
  unfold wX12_work
  rw [nI_1, nI_clamp (by omega), hM.2.2.1 (k + 1) (by omega)]
  refine ⟨vp_in_nI (by omega) (by decide), fun x4 e4 => ?_⟩
  subst e4
  have hL := p_wmL (b := bg k) (e := bg (k + 1)) (k := k) (q := q) (c := c) (n := n) (op := op) (nu := nu) (sz := sz) hn hc hq (by omega) hlt (by omega) (K := fun σ_7 => (vp_in (nI k) 8 ∧ (vp_in (σ_7 5 (nI k).toNatClampNeg) 60 ∧ Q (σ_7 14 (σ_7 5 (nI k).toNatClampNeg).toNatClampNeg) σ_7))) (Q := Q) (τ0 := τ) h19 (hM.2.2.1 k (by omega)) (fun i a b => TM_nd hM (by omega)) (fun i a b => TX_kid hX hk a b) (fun τ' hf hE => by
    rw [nI_clamp (by omega), hf 5 (by decide), hM.2.2.1 k (by omega), nI_clamp (by omega)]
    exact ⟨vp_in_nI (by omega) (by decide), vp_in_nI (by omega) (by decide), hQ τ' hf hE⟩) (bg (k + 1) - bg k) τ (by omega) (fun _ _ => rfl) (by
    intro j q1 q2
    omega)
  rw [show bg k + (bg (k + 1) - bg k) = bg (k + 1) by omega] at hL
  exact ⟨_, hL⟩
