/-! knots: the class -/
theorem upd_id {f : Nat → Int32} {i : Nat} {v : Int32} (h : f i = v) : upd f i v = f := by
  funext j
  by_cases c : j = i
  · subst c; rw [pk_us]; exact h.symm
  · rw [pk_un c]
theorem tk89 {op sz : Nat → Nat} {V : Nat → Int32} {i : Nat} (h : op i ≠ 10) : tkN op sz V i = i + 1 ∨ tkN op sz V i = s2 sz i := by
  unfold tkN
  rw [if_neg h]
  split
  · split
    · exact Or.inr rfl
    · exact Or.inl rfl
  · split
    · exact Or.inr rfl
    · exact Or.inl rfl
theorem p_dkL {σ0 : Sg} {T b e : Nat} {op : Nat → Nat} {nu : Nat → Int32} {sz : Nat → Nat} (hT : isSten T) (he : e ≤ 60) (hN : ∀ i, b ≤ i → i < e → NdB σ0 T op nu sz i) (hk : ∀ i, b ≤ i → i < e → Kid op sz e i) {K Q : Int32 → Sg → Prop} :
    ∀ (d i : Nat) (σ : Sg) (fl : Nat → Int32) (k : Int32), b ≤ i → i + d = e → (∀ j, j ≠ 17 → σ j = σ0 j) → σ 17 = fl → (∀ σ', (∀ j, j ≠ 17 → σ' j = σ0 j) → K (kgo op sz (σ0 15) d i fl k) σ') → wX3_knots_L57 T (nI e) K Q (d + 1) k (nI i) σ
  | 0, i, σ, fl, k, hbi, hi, h, hfl, hK => by
    unfold wX3_knots_L57
    have e : i = e := by omega
    subst e
    exact ⟨fun _ => hK σ h, fun z => absurd (nI_le (Nat.le_refl _) (by omega)) z⟩
  | d + 1, i, σ, fl, k, hbi, hi, h, hfl, hK => by
    have hb : 20 ≤ T ∧ T < 29 := by rcases hT with rfl | rfl <;> omega
    have hkid := hk i hbi (by omega)
    have ho := hkid.1
    have n0 := hN i hbi (by omega)
    unfold kgo at hK
    have nxt : ∀ (σ2 : Sg) (k2 : Int32), (∀ j, j ≠ 17 → σ2 j = σ0 j) → σ2 17 = kfl op sz (σ0 15) fl i → k2 = k + kct op sz (σ0 15) fl i → wX3_knots_b166 T (nI e) k2 (nI i) σ2 K (wX3_knots_L57 T (nI e) K Q (d + 1)) Q := by
      intro σ2 k2 f2 l2 ek
      unfold wX3_knots_b166
      intro x2 e2
      rw [nI_1] at e2
      subst e2 ek
      exact p_dkL hT he hN hk d (i + 1) σ2 _ _ (by omega) (by omega) f2 l2 hK
    unfold wX3_knots_L57
    rw [nI_1, nI_clamp (by omega), nI_clamp (by omega), h (T + 2) (by omega), n0.1, hfl]
    have l5 : nI (op i) < 5 ↔ op i < 5 := nI_ltI (b := 5) (by omega) (by decide)
    have l8 : nI (op i) < 8 ↔ op i < 8 := nI_ltI (b := 8) (by omega) (by decide)
    have i1 : vp_in (nI i) 60 := vp_in_nI (by omega) (by decide)
    refine ⟨fun z => absurd z (nI_ge (by omega) (by omega)), fun _ => ⟨i1, fun x7 e7 => ⟨i1, fun z => nxt σ k h ?_ ?_, fun z => ⟨fun y => nxt σ k h ?_ ?_, fun y => ?_⟩⟩⟩⟩
    · unfold kfl; rw [if_pos z]; exact hfl
    · unfold kct; rw [if_pos z, i32_add0]
    · rw [e7] at y; have := l5.mp y; unfold kfl; rw [if_neg z, if_pos (by omega)]; exact hfl
    · rw [e7] at y; have := l5.mp y; unfold kct; rw [if_neg z, if_pos (by omega), i32_add0]
    · have o5 : 5 ≤ op i := by
        have : ¬ op i < 5 := fun q => y (by rw [e7]; exact l5.mpr q)
        omega
      have a := hkid.2.2.2.1 o5
      refine ⟨vp_in_nI (by omega) (by decide), fun σ13 e13 => ⟨i1, ?_⟩⟩
      rw [nar1] at e13
      have f13 : ∀ j, j ≠ 17 → σ13 j = σ0 j := fun j hj => by rw [e13, sto_ne _ _ _ hj]; exact h j hj
      have l13 : σ13 17 = upd fl (i + 1) 1 := by rw [e13, sto_same, hfl]
      rw [f13 (T + 5) (by omega), n0.2.2.1 o5]
      refine ⟨vp_in_nI (by omega) (by decide), fun σ14 e14 => ?_⟩
      rw [nar1, nI_clamp (by omega)] at e14
      have f14 : ∀ j, j ≠ 17 → σ14 j = σ0 j := fun j hj => by rw [e14, sto_ne _ _ _ hj]; exact f13 j hj
      have l14 : σ14 17 = upd (upd fl (i + 1) 1) (s2 sz i) 1 := by rw [e14, sto_same, l13]
      refine ⟨fun y8 => nxt σ14 k f14 ?_ ?_, fun y8 => ?_⟩
      · rw [e7] at y8; have := l8.mp y8; unfold kfl; rw [if_neg z, if_neg (by omega), if_neg (by omega)]; exact l14
      · rw [e7] at y8; have := l8.mp y8; unfold kct; rw [if_neg z, if_pos (by omega), i32_add0]
      · have o8 : 8 ≤ op i := by
          have : ¬ op i < 8 := fun q => y8 (by rw [e7]; exact l8.mpr q)
          omega
        have t := tkN_rng (V := σ0 15) hkid o5
        refine p_taken (e := e) (NdB_fr hT (fun j q1 q2 => f14 j (by omega)) n0) hkid o8 ?_
        rw [f14 15 (by decide)]
        refine ⟨vp_in_nI (by omega) (by decide), fun σ18 e18 => ⟨vp_in_nI (by omega) (by decide), i1, ?_⟩⟩
        rw [nar1, nI_clamp (by omega)] at e18
        have f18 : ∀ j, j ≠ 17 → σ18 j = σ0 j := fun j hj => by rw [e18, sto_ne _ _ _ hj]; exact f14 j hj
        have l18 : σ18 17 = kfl op sz (σ0 15) fl i := by
          rw [e18, sto_same, l14]
          unfold kfl
          rw [if_neg z, if_neg (by omega)]
          by_cases c10 : op i = 10
          · rw [if_pos c10]
          · rw [if_neg c10]
            refine upd_id ?_
            rcases tk89 (V := σ0 15) (sz := sz) c10 with q | q
            · rw [q]
              by_cases c1 : i + 1 = s2 sz i
              · rw [← c1, pk_us]
              · rw [pk_un c1, pk_us]
            · rw [q, pk_us]
        rw [f18 (T + 5) (by omega), n0.2.2.1 o5, nI_clamp (by omega), f18 15 (by decide)]
        refine ⟨vp_in_nI (by omega) (by decide), fun w => ?_, fun w => ?_⟩
        · unfold wX3_knots_b163
          intro x5 e5
          refine nxt σ18 x5 f18 l18 ?_
          rw [e5]
          unfold kct
          rw [if_neg z, if_neg (by omega), if_pos w]
        · unfold wX3_knots_b163
          intro x5 e5
          refine nxt σ18 x5 f18 l18 ?_
          rw [e5]
          unfold kct
          rw [if_neg z, if_neg (by omega), if_neg w]
theorem p_dkI {σ0 : Sg} {T b e : Nat} {old : Nat → Int32} (he : e ≤ 60) {K : Sg → Prop} {Q : Int32 → Sg → Prop} (hK : ∀ σ, (∀ j, j ≠ 17 → σ j = σ0 j) → σ 17 = fi b e old → K σ) : ∀ (d i : Nat) (σ : Sg), b ≤ i → i + d = e → (∀ j, j ≠ 17 → σ j = σ0 j) → σ 17 = fi b i old → wX3_knots_L20 T (nI b) (nI e) K Q (d + 1) (nI i) σ
  | 0, i, σ, hbi, hi, h, hf => by
    unfold wX3_knots_L20
    have e : i = e := by omega
    subst e
    exact ⟨fun _ => hK σ h hf, fun z => absurd (nI_le (Nat.le_refl _) (by omega)) z⟩
  | d + 1, i, σ, hbi, hi, h, hf => by
    unfold wX3_knots_L20 wX3_knots_b44
    have hib : nI i = nI b ↔ i = b := nI_eq (by omega) (by omega)
    rw [nI_clamp (by omega), nar0, nar1]
    refine ⟨fun z => absurd z (nI_ge (by omega) (by omega)), fun _ => ⟨fun z => ⟨vp_in_nI (by omega) (by decide), fun σ4 e4 x2 e2 => ?_⟩, fun z => ⟨vp_in_nI (by omega) (by decide), fun σ4 e4 x2 e2 => ?_⟩⟩⟩
    · rw [nI_1] at e2
      subst e2
      have f := fi_succ old hbi
      rw [if_pos (hib.mp z)] at f
      exact p_dkI he hK d (i + 1) σ4 (by omega) (by omega) (fun j hj => by rw [e4, sto_ne _ _ _ hj]; exact h j hj) (by rw [e4, sto_same, hf, f])
    · rw [nI_1] at e2
      subst e2
      have f := fi_succ old hbi
      rw [if_neg (fun q => z (hib.mpr q))] at f
      exact p_dkI he hK d (i + 1) σ4 (by omega) (by omega) (fun j hj => by rw [e4, sto_ne _ _ _ hj]; exact h j hj) (by rw [e4, sto_same, hf, f])
theorem p_dknots {σ : Sg} {T ns nn k : Nat} {bg op : Nat → Nat} {nu : Nat → Int32} {sz : Nat → Nat} {Q : Int32 → Sg → Prop} (hT : isSten T) (hX : TX ns nn bg op sz) (hB : TB σ T ns nn bg op nu sz) (hk : k < ns) (hQ : ∀ σ', (∀ j, j ≠ 17 → σ' j = σ j) → Q (kgo op sz (σ 15) (bg (k + 1) - bg k) (bg k) (fi (bg k) (bg (k + 1)) (σ 17)) 0) σ') : wX3_knots T (nI k) σ Q := by
  have hns := hX.1
  have h60 := hX.2.1
  have hen := TX_end hX hk
  have hlt := hX.2.2.2.2.1 k hk
  unfold wX3_knots
  rw [nI_1, nI_clamp (by omega), nI_clamp (by omega), hB.2.2.1 k (by omega), hB.2.2.1 (k + 1) (by omega)]
  refine ⟨vp_in_nI (by omega) (by decide), fun x3 e3 => ⟨vp_in_nI (by omega) (by decide), fun x4 e4 => ⟨bg (k + 1) - bg k + 1, ?_⟩⟩⟩
  subst e3 e4
  refine p_dkI (σ0 := σ) (b := bg k) (e := bg (k + 1)) (old := σ 17) (by omega) (fun σ7 f7 l7 => ⟨bg (k + 1) - bg k + 1, ?_⟩) (bg (k + 1) - bg k) (bg k) σ (Nat.le_refl _) (by omega) (fun _ _ => rfl) (fi_0 _ _).symm
  exact p_dkL (σ0 := σ) (b := bg k) (nu := nu) hT (by omega) (fun i a b => TB_nd hB (by omega)) (fun i a b => TX_kid hX hk a b) (bg (k + 1) - bg k) (bg k) σ7 _ 0 (Nat.le_refl _) (by omega) f7 l7 (fun σ' f' => hQ σ' f')
/-- the class's rows are the canonical ones -/
def RowsB (σ : Sg) (u a ns n N : Nat) (bg op : Nat → Nat) (nu : Nat → Int32) (sz : Nat → Nat) : Prop := ∀ r, r ≤ N → ∀ i, i < n → σ (u + 1) (10 * r + i) = rn ns bg op nu sz (σ 5) (σ 7) (σ a) n r i
theorem p_k30 {σ0 : Sg} {u T a ns nn n q N : Nat} {bg op : Nat → Nat} {nu : Nat → Int32} {sz : Nat → Nat} {x3 x6 : Int32} {K Q : Int32 → Sg → Prop} (hu : isCou u) (hT : isSten T) (ha : isStr a) (hX : TX ns nn bg op sz) (hB : TB σ0 T ns nn bg op nu sz) (hns : 0 < ns) (h4 : σ0 4 0 = nI n) (hn : n ≤ 10) (hq : q < 120) (hqN : q ≤ N) (hR : RowsB σ0 u a ns n N bg op nu sz) (hK : ∀ σ, (∀ j, j ≠ 15 → j ≠ 17 → j ≠ 18 → σ j = σ0 j) → K (kt ns bg op nu sz (σ0 5) (σ0 7) (σ0 a) n q + kr ns bg op nu sz (σ0 5) (σ0 7) (σ0 a) n q n) σ) :
    ∀ (d c : Nat) (σ : Sg), c + d = n → (∀ j, j ≠ 15 → j ≠ 17 → j ≠ 18 → σ j = σ0 j) → wX2_knots_L30 u T a x3 (nI q) x6 (nI (q % ns)) K Q (d + 1) (kt ns bg op nu sz (σ0 5) (σ0 7) (σ0 a) n q + kr ns bg op nu sz (σ0 5) (σ0 7) (σ0 a) n q c) (nI c) σ
  | 0, c, σ, hc, h => by
    unfold wX2_knots_L30
    have e : c = n := by omega
    rw [h 4 (by omega) (by omega) (by omega), h4, e]
    exact ⟨fun _ => hK σ h, fun z => absurd (nI_le (Nat.le_refl _) (by omega)) z⟩
  | d + 1, c, σ, hc, h => by
    have hu2 : 36 ≤ u ∧ u ≤ 38 := by rcases hu with rfl | rfl <;> omega
    have ha2 : a = 6 ∨ (51 ≤ a ∧ a < 57) := by rcases ha with rfl | ⟨k, hk, rfl⟩ <;> omega
    have hk : q % ns < ns := Nat.mod_lt _ hns
    have hlt := hX.2.2.2.2.1 (q % ns) hk
    have hkid : ∀ i, bg (q % ns) ≤ i → i < bg (q % ns + 1) → Kid op sz (bg (q % ns + 1)) i := fun i a b => TX_kid hX hk a b
    unfold wX2_knots_L30
    rw [h 4 (by omega) (by omega) (by omega), h4]
    refine ⟨fun z => absurd z (nI_ge (by omega) (by omega)), fun _ => ?_⟩
    have hBt : TB σ T ns nn bg op nu sz := TB_fr hT (fun j q1 q2 => h j (by omega) (by omega) (by omega)) hB
    refine p_cwork (n := n) hT hX hBt hk (by rw [h 4 (by omega) (by omega) (by omega)]; exact h4) hn (by omega) hq (fun σ5 f5 hE => ?_)
    have hE' : Evs op nu sz (sRow (fun i => σ (u + 1) (10 * q + i)) (σ 7) (σ a) n c) (bg (q % ns)) (bg (q % ns + 1)) (σ5 15) := hE
    rw [h 7 (by omega) (by omega) (by omega), h a (by omega) (by omega) (by omega), h (u + 1) (by omega) (by omega) (by omega), sRow_congr (r' := rn ns bg op nu sz (σ0 5) (σ0 7) (σ0 a) n q) (by omega) (fun i hi => hR q hqN i hi) (fun _ _ => rfl) rfl] at hE'
    have f5' : ∀ j, j ≠ 15 → j ≠ 17 → j ≠ 18 → σ5 j = σ0 j := fun j q1 q2 q3 => by rw [f5 j q1 q3]; exact h j q1 q2 q3
    refine p_dknots hT hX (TB_fr hT (fun j q1 q2 => f5 j (by omega) (by omega)) hBt) hk (fun σ7 f7 => ?_)
    intro x4 e4 x8 e8
    rw [nI_1] at e8
    have kk : x4 = kt ns bg op nu sz (σ0 5) (σ0 7) (σ0 a) n q + kr ns bg op nu sz (σ0 5) (σ0 7) (σ0 a) n q (c + 1) := by
      rw [e4, Int32.add_assoc]
      show _ = _ + (kr ns bg op nu sz (σ0 5) (σ0 7) (σ0 a) n q c + kq ns bg op nu sz (σ0 5) (σ0 7) (σ0 a) n q c)
      have := kgo_congr (op := op) (sz := sz) (b := bg (q % ns)) (e := bg (q % ns + 1)) hkid (fun r a b => evc_eq hkid hE' a b) (bg (q % ns + 1) - bg (q % ns)) (bg (q % ns)) (fi (bg (q % ns)) (bg (q % ns + 1)) (σ5 17)) (fi (bg (q % ns)) (bg (q % ns + 1)) (fun _ => 0)) 0 (Nat.le_refl _) (by omega) (fun r a b => fi_in a b)
      rw [this]
      rfl
    rw [kk, e8]
    exact p_k30 hu hT ha hX hB hns h4 hn hq hqN hR hK d (c + 1) σ7 (by omega) (fun j q1 q2 q3 => by rw [f7 j q2]; exact f5' j q1 q2 q3)
theorem p_k18 {σ0 : Sg} {u T a ns nn n s N : Nat} {bg op : Nat → Nat} {nu : Nat → Int32} {sz : Nat → Nat} {x3 x6 : Int32} {K : Int32 → Int32 → Sg → Prop} {Q : Int32 → Sg → Prop} (hu : isCou u) (hT : isSten T) (ha : isStr a) (hX : TX ns nn bg op sz) (hB : TB σ0 T ns nn bg op nu sz) (h4 : σ0 4 0 = nI n) (hn : n ≤ 10) (hs : s * ns + ns ≤ 120) (hsN : s * ns + ns ≤ N) (hR : RowsB σ0 u a ns n N bg op nu sz) (hK : ∀ σ, (∀ j, j ≠ 15 → j ≠ 17 → j ≠ 18 → σ j = σ0 j) → K (kt ns bg op nu sz (σ0 5) (σ0 7) (σ0 a) n (s * ns + ns)) (nI (s * ns + ns)) σ) :
    ∀ (d k : Nat) (σ : Sg), k + d = ns → (∀ j, j ≠ 15 → j ≠ 17 → j ≠ 18 → σ j = σ0 j) → wX2_knots_L18 u T a x3 x6 K Q (d + 1) (kt ns bg op nu sz (σ0 5) (σ0 7) (σ0 a) n (s * ns + k)) (nI (s * ns + k)) (nI k) σ
  | 0, k, σ, hk, h => by
    have hb : 20 ≤ T ∧ T < 29 := by rcases hT with rfl | rfl <;> omega
    unfold wX2_knots_L18
    have e : k = ns := by omega
    rw [h T (by omega) (by omega) (by omega), hB.1, e]
    exact ⟨fun _ => hK σ h, fun z => absurd (nI_le (Nat.le_refl _) (by have := hX.1; omega)) z⟩
  | d + 1, k, σ, hk, h => by
    have hb : 20 ≤ T ∧ T < 29 := by rcases hT with rfl | rfl <;> omega
    have h3 := hX.1
    unfold wX2_knots_L18
    rw [h T (by omega) (by omega) (by omega), hB.1]
    refine ⟨fun z => absurd z (nI_ge (by omega) (by omega)), fun _ => ⟨n + 1, ?_⟩⟩
    have hL := p_k30 (q := s * ns + k) (N := N) (x3 := x3) (x6 := x6) (Q := Q) (K := fun x4_10 σ_11 => (∀ x5_12 : Int32, x5_12 = nI (s * ns + k) + 1 → (∀ x7_13 : Int32, x7_13 = nI k + 1 → wX2_knots_L18 u T a x3 x6 K Q (d + 1) x4_10 x5_12 x7_13 σ_11))) hu hT ha hX hB (by omega) h4 hn (by omega) (by omega) hR (fun σ' h' x5 e5 x7 e7 => by
      rw [nI_1] at e5 e7
      rw [e5, e7]
      exact p_k18 hu hT ha hX hB h4 hn hs hsN hR hK d (k + 1) σ' (by omega) h') n 0 σ (by omega) h
    rw [mod_sk (by omega)] at hL
    have e0 : kt ns bg op nu sz (σ0 5) (σ0 7) (σ0 a) n (s * ns + k) + kr ns bg op nu sz (σ0 5) (σ0 7) (σ0 a) n (s * ns + k) 0 = kt ns bg op nu sz (σ0 5) (σ0 7) (σ0 a) n (s * ns + k) := i32_add0 _
    rw [e0] at hL
    exact hL
theorem p_k9 {σ0 : Sg} {u T a ns nn n S : Nat} {bg op : Nat → Nat} {nu : Nat → Int32} {sz : Nat → Nat} {K Q : Int32 → Sg → Prop} (hu : isCou u) (hT : isSten T) (ha : isStr a) (hX : TX ns nn bg op sz) (hB : TB σ0 T ns nn bg op nu sz) (h4 : σ0 4 0 = nI n) (hn : n ≤ 10) (hS : S ≤ 40) (hR : RowsB σ0 u a ns n (S * ns) bg op nu sz) (hK : ∀ σ, (∀ j, j ≠ 15 → j ≠ 17 → j ≠ 18 → σ j = σ0 j) → K (kt ns bg op nu sz (σ0 5) (σ0 7) (σ0 a) n (S * ns)) σ) :
    ∀ (d s : Nat) (σ : Sg), s + d = S → (∀ j, j ≠ 15 → j ≠ 17 → j ≠ 18 → σ j = σ0 j) → wX2_knots_L9 u T a (nI S) K Q (d + 1) (kt ns bg op nu sz (σ0 5) (σ0 7) (σ0 a) n (s * ns)) (nI (s * ns)) (nI s) σ
  | 0, s, σ, hs, h => by
    unfold wX2_knots_L9
    have e : s = S := by omega
    rw [e]
    exact ⟨fun _ => hK σ h, fun z => absurd (nI_le (Nat.le_refl _) (by omega)) z⟩
  | d + 1, s, σ, hs, h => by
    unfold wX2_knots_L9
    refine ⟨fun z => absurd z (nI_ge (by omega) (by omega)), fun _ => ⟨ns + 1, ?_⟩⟩
    have h3 := hX.1
    have hb : (s + 1) * ns ≤ 40 * 3 := Nat.mul_le_mul (by omega) h3
    have hb2 : (s + 1) * ns ≤ S * ns := Nat.mul_le_mul_right ns (by omega)
    rw [Nat.succ_mul] at hb hb2
    refine p_k18 (s := s) (N := S * ns) hu hT ha hX hB h4 hn (by omega) (by omega) hR (fun σ' h' x6 e6 => ?_) ns 0 σ (by omega) h
    rw [nI_1] at e6
    have e2 : s * ns + ns = (s + 1) * ns := (Nat.succ_mul s ns).symm
    rw [e2, e6]
    exact p_k9 hu hT ha hX hB h4 hn hS hR hK d (s + 1) σ' (by omega) h'
theorem p_cknots {σ : Sg} {u T a ns nn n S : Nat} {bg op : Nat → Nat} {nu : Nat → Int32} {sz : Nat → Nat} {Q : Int32 → Sg → Prop} (hu : isCou u) (hT : isSten T) (ha : isStr a) (hX : TX ns nn bg op sz) (hB : TB σ T ns nn bg op nu sz) (h4 : σ 4 0 = nI n) (hn : n ≤ 10) (hS : S ≤ 40) (hR : RowsB σ u a ns n (S * ns) bg op nu sz) (hQ : ∀ σ', (∀ j, j ≠ 15 → j ≠ 17 → j ≠ 18 → σ' j = σ j) → Q (kt ns bg op nu sz (σ 5) (σ 7) (σ a) n (S * ns)) σ') : wX2_knots u T a (nI S) σ Q := by
  unfold wX2_knots
  have hL := p_k9 (σ0 := σ) (K := fun x4 σ' => Q x4 σ') (Q := Q) hu hT ha hX hB h4 hn hS hR hQ S 0 σ (by omega) (fun _ _ _ _ => rfl)
  rw [Nat.zero_mul, nI_0] at hL
  exact ⟨_, hL⟩
