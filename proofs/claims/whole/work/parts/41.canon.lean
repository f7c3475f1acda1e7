/-! canonical rows of cells, knots; the reference's run -/
noncomputable def evc (op : Nat → Nat) (nu : Nat → Int32) (sz : Nat → Nat) (se : Nat → Int32) (b e : Nat) : Nat → Int32 := Classical.epsilon (fun V => Evs op nu sz se b e V)
theorem evc_eq {op : Nat → Nat} {nu : Nat → Int32} {sz : Nat → Nat} {se V : Nat → Int32} {b e q : Nat} (hk : ∀ i, b ≤ i → i < e → Kid op sz e i) (h : Evs op nu sz se b e V) (h1 : b ≤ q) (h2 : q < e) : V q = evc op nu sz se b e q :=
  Evs_eq hk (fun _ _ => rfl) h (Classical.epsilon_spec (p := fun V => Evs op nu sz se b e V) ⟨V, h⟩) h1 h2
def sRow (r ed sp : Nat → Int32) (n c : Nat) : Nat → Int32 := se4 (if c = 0 then ed 0 else r (c - 1)) (r c) (if c + 1 = n then ed 1 else r (c + 1)) (sp c)
theorem sRow_congr {r r' ed ed' sp sp' : Nat → Int32} {n c : Nat} (hc : c < n) (hr : ∀ i, i < n → r i = r' i) (he : ∀ i, i < 2 → ed i = ed' i) (hs : sp c = sp' c) : sRow r ed sp n c = sRow r' ed' sp' n c := by
  have e1 : (if c = 0 then ed 0 else r (c - 1)) = (if c = 0 then ed' 0 else r' (c - 1)) := by
    by_cases h : c = 0
    · rw [if_pos h, if_pos h]; exact he 0 (by decide)
    · rw [if_neg h, if_neg h]; exact hr (c - 1) (by omega)
  have e2 : (if c + 1 = n then ed 1 else r (c + 1)) = (if c + 1 = n then ed' 1 else r' (c + 1)) := by
    by_cases h : c + 1 = n
    · rw [if_pos h, if_pos h]; exact he 1 (by decide)
    · rw [if_neg h, if_neg h]; exact hr (c + 1) (by omega)
  unfold sRow
  rw [e1, e2, hr c hc, hs]
noncomputable def rn (ns : Nat) (bg op : Nat → Nat) (nu : Nat → Int32) (sz : Nat → Nat) (st ed sp : Nat → Int32) (n : Nat) : Nat → Nat → Int32
  | 0 => st
  | q + 1 => fun c => evc op nu sz (sRow (rn ns bg op nu sz st ed sp n q) ed sp n c) (bg (q % ns)) (bg (q % ns + 1)) (bg (q % ns))
theorem rn_congr {ns : Nat} {bg op : Nat → Nat} {nu : Nat → Int32} {sz : Nat → Nat} {st st' ed ed' sp sp' : Nat → Int32} {n : Nat} (h1 : ∀ c, c < n → st c = st' c) (h2 : ∀ i, i < 2 → ed i = ed' i) (h3 : ∀ c, c < n → sp c = sp' c) : ∀ q c, c < n → rn ns bg op nu sz st ed sp n q c = rn ns bg op nu sz st' ed' sp' n q c
  | 0, c, hc => h1 c hc
  | q + 1, c, hc => by
    show evc _ _ _ _ _ _ _ = evc _ _ _ _ _ _ _
    rw [sRow_congr hc (fun i hi => rn_congr h1 h2 h3 q i hi) h2 (h3 c hc)]
theorem run_rn {ns nn : Nat} {bg op : Nat → Nat} {nu : Nat → Int32} {sz : Nat → Nat} {st ed sp : Nat → Int32} {n N : Nat} {R : Nat → Nat → Int32} (hX : TX ns nn bg op sz) (hns : N ≠ 0 → 0 < ns) (h : RunOk ns bg op nu sz st ed sp n R N) : ∀ q, q ≤ N → ∀ c, c < n → R q c = rn ns bg op nu sz st ed sp n q c := by
  intro q
  induction q with
  | zero => intro _ c hc; exact h.1 c hc
  | succ q ih =>
    intro hq c hc
    have hk : q % ns < ns := Nat.mod_lt _ (hns (by omega))
    have hlt := hX.2.2.2.2.1 (q % ns) hk
    obtain ⟨V, hV, e⟩ := h.2 q (by omega) c hc
    have hV' : Evs op nu sz (sRow (R q) ed sp n c) (bg (q % ns)) (bg (q % ns + 1)) V := hV
    rw [sRow_congr hc (fun i hi => ih (by omega) i hi) (fun _ _ => rfl) rfl] at hV'
    rw [e]
    exact evc_eq (fun i a b => TX_kid hX hk a b) hV' (Nat.le_refl _) hlt
/-- the knots of cell c in row q, of c cells of row q, of q rows -/
noncomputable def kq (ns : Nat) (bg op : Nat → Nat) (nu : Nat → Int32) (sz : Nat → Nat) (st ed sp : Nat → Int32) (n q c : Nat) : Int32 :=
  kgo op sz (evc op nu sz (sRow (rn ns bg op nu sz st ed sp n q) ed sp n c) (bg (q % ns)) (bg (q % ns + 1))) (bg (q % ns + 1) - bg (q % ns)) (bg (q % ns)) (fi (bg (q % ns)) (bg (q % ns + 1)) (fun _ => 0)) 0
noncomputable def kr (ns : Nat) (bg op : Nat → Nat) (nu : Nat → Int32) (sz : Nat → Nat) (st ed sp : Nat → Int32) (n q : Nat) : Nat → Int32
  | 0 => 0
  | c + 1 => kr ns bg op nu sz st ed sp n q c + kq ns bg op nu sz st ed sp n q c
noncomputable def kt (ns : Nat) (bg op : Nat → Nat) (nu : Nat → Int32) (sz : Nat → Nat) (st ed sp : Nat → Int32) (n : Nat) : Nat → Int32
  | 0 => 0
  | q + 1 => kt ns bg op nu sz st ed sp n q + kr ns bg op nu sz st ed sp n q n
theorem kq_congr {ns : Nat} {bg op : Nat → Nat} {nu : Nat → Int32} {sz : Nat → Nat} {st st' ed ed' sp sp' : Nat → Int32} {n : Nat} (h1 : ∀ c, c < n → st c = st' c) (h2 : ∀ i, i < 2 → ed i = ed' i) (h3 : ∀ c, c < n → sp c = sp' c) {q c : Nat} (hc : c < n) : kq ns bg op nu sz st ed sp n q c = kq ns bg op nu sz st' ed' sp' n q c := by
  unfold kq
  rw [sRow_congr hc (fun i hi => rn_congr h1 h2 h3 q i hi) h2 (h3 c hc)]
theorem kr_congr {ns : Nat} {bg op : Nat → Nat} {nu : Nat → Int32} {sz : Nat → Nat} {st st' ed ed' sp sp' : Nat → Int32} {n : Nat} (h1 : ∀ c, c < n → st c = st' c) (h2 : ∀ i, i < 2 → ed i = ed' i) (h3 : ∀ c, c < n → sp c = sp' c) {q : Nat} : ∀ c, c ≤ n → kr ns bg op nu sz st ed sp n q c = kr ns bg op nu sz st' ed' sp' n q c
  | 0, _ => rfl
  | c + 1, hc => by
    unfold kr
    rw [kr_congr h1 h2 h3 c (by omega), kq_congr h1 h2 h3 (by omega)]
theorem kt_congr {ns : Nat} {bg op : Nat → Nat} {nu : Nat → Int32} {sz : Nat → Nat} {st st' ed ed' sp sp' : Nat → Int32} {n : Nat} (h1 : ∀ c, c < n → st c = st' c) (h2 : ∀ i, i < 2 → ed i = ed' i) (h3 : ∀ c, c < n → sp c = sp' c) : ∀ q, kt ns bg op nu sz st ed sp n q = kt ns bg op nu sz st' ed' sp' n q
  | 0 => rfl
  | q + 1 => by
    unfold kt
    rw [kt_congr h1 h2 h3 q, kr_congr h1 h2 h3 n (Nat.le_refl _)]
theorem fi_in {b e : Nat} {old old' : Nat → Int32} {q : Nat} (h1 : b ≤ q) (h2 : q < e) : fi b e old q = fi b e old' q := by
  have c : b ≤ q ∧ q < e := ⟨h1, h2⟩
  unfold fi
  rw [if_pos c, if_pos c]
theorem nI_div {a b : Nat} (ha : a < 2 ^ 31) (hb : b < 2 ^ 31) : nI a / nI b = nI (a / b) := by
  have hq : a / b ≤ a := Nat.div_le_self a b
  have e : ((a : Int).tdiv (b : Int)) = ((a / b : Nat) : Int) := by
    rw [Int.tdiv_eq_ediv_of_nonneg (by omega)]; rfl
  apply Int32.toInt_inj.mp
  rw [Int32.toInt_div, nI_toInt ha, nI_toInt hb, e]
  clear e
  generalize a / b = m at hq ⊢
  rw [nI_toInt (by omega)]
  exact fb_bmod (by omega) (by omega)
theorem nI_mod {a b : Nat} (ha : a < 2 ^ 31) (hb : b < 2 ^ 31) : nI a - nI a / nI b * nI b = nI (a % b) := by
  have hq : a / b * b ≤ a := Nat.div_mul_le_self a b
  rw [nI_div ha hb, pk_mul, pk_sub hq]
  have := Nat.div_add_mod a b
  rw [Nat.mul_comm] at this
  rw [show a - a / b * b = a % b by omega]
theorem TM_fr {τ τ' : Sg} {ns nn : Nat} {bg op : Nat → Nat} {nu : Nat → Int32} {sz : Nat → Nat} (h6 : τ' 0 6 = τ 0 6) (h7 : τ' 0 7 = τ 0 7) (h5 : τ' 5 = τ 5) (k6 : τ' 6 = τ 6) (k7 : τ' 7 = τ 7) (k8 : τ' 8 = τ 8) (h : TM τ ns nn bg op nu sz) : TM τ' ns nn bg op nu sz := by
  unfold TM at h ⊢
  rw [h6, h7, h5, k6, k7, k8]
  exact h
/-- the reference's run behind q whole rows and c cells of the next -/
def GR (τ0 τ : Sg) (ns n : Nat) (bg op : Nat → Nat) (nu : Nat → Int32) (sz : Nat → Nat) (q c : Nat) : Prop :=
  (∀ j, j ≠ 0 → j ≠ 13 → j ≠ 14 → j ≠ 15 → τ j = τ0 j) ∧ (∀ k, k ≠ 27 → τ 0 k = τ0 0 k) ∧ (∀ r, r ≤ q → ∀ i, i < n → τ 13 (10 * r + i) = rn ns bg op nu sz (τ0 10) (τ0 12) (τ0 11) n r i) ∧ (∀ i, i < c → τ 13 (10 * (q + 1) + i) = rn ns bg op nu sz (τ0 10) (τ0 12) (τ0 11) n (q + 1) i) ∧ τ 0 27 = kt ns bg op nu sz (τ0 10) (τ0 12) (τ0 11) n q + kr ns bg op nu sz (τ0 10) (τ0 12) (τ0 11) n q c
theorem GR_row {τ0 τ : Sg} {ns n : Nat} {bg op : Nat → Nat} {nu : Nat → Int32} {sz : Nat → Nat} {q : Nat} (h : GR τ0 τ ns n bg op nu sz q n) : GR τ0 τ ns n bg op nu sz (q + 1) 0 := by
  obtain ⟨h1, h2, h3, h4, h5⟩ := h
  refine ⟨h1, h2, fun r hr i hi => ?_, fun i hi => by omega, ?_⟩
  · by_cases c : r = q + 1
    · subst c; exact h4 i hi
    · exact h3 r (by omega) i hi
  · rw [h5]; exact (i32_add0 _).symm
theorem p_g47 {τ0 : Sg} {ns nn n q : Nat} {bg op : Nat → Nat} {nu : Nat → Int32} {sz : Nat → Nat} {x1 : Int32} {K Q : Sg → Prop} (hX : TX ns nn bg op sz) (hM : TM τ0 ns nn bg op nu sz) (hns : 0 < ns) (h19 : τ0 0 19 = nI n) (hn : n ≤ 10) (hq : q < 120) (hK : ∀ τ, GR τ0 τ ns n bg op nu sz q n → K τ) :
    ∀ (d c : Nat) (τ : Sg), c + d = n → GR τ0 τ ns n bg op nu sz q c → wX12_go_L47 x1 (nI q) K Q (d + 1) (nI c) τ
  | 0, c, τ, hc, h => by
    unfold wX12_go_L47
    have e : c = n := by omega
    subst e
    rw [h.2.1 19 (by decide), h19]
    exact ⟨fun _ => hK τ h, fun z => absurd (nI_le (Nat.le_refl _) (by omega)) z⟩
  | d + 1, c, τ, hc, h => by
    have h3 := hX.1
    obtain ⟨g1, g2, g3, g4, g5⟩ := h
    have hMt : TM τ ns nn bg op nu sz := TM_fr (g2 6 (by decide)) (g2 7 (by decide)) (g1 5 (by decide) (by decide) (by decide) (by decide)) (g1 6 (by decide) (by decide) (by decide) (by decide)) (g1 7 (by decide) (by decide) (by decide) (by decide)) (g1 8 (by decide) (by decide) (by decide) (by decide)) hM
    have hk : q % ns < ns := Nat.mod_lt _ hns
    have hlt := hX.2.2.2.2.1 (q % ns) hk
    have hen := TX_end hX hk
    have h60 := hX.2.1
    unfold wX12_go_L47
    rw [g2 19 (by decide), h19, g2 6 (by decide), hM.1, nI_mod (by omega) (by omega)]
    refine ⟨fun z => absurd z (nI_ge (by omega) (by omega)), fun _ => ⟨nI_ne0 hns (by omega), ?_⟩⟩
    have hse : seM τ q c n = sRow (rn ns bg op nu sz (τ0 10) (τ0 12) (τ0 11) n q) (τ0 12) (τ0 11) n c := by
      have r0 := fun i (hi : i < n) => g3 q (Nat.le_refl _) i hi
      unfold seM sRow
      rw [g1 12 (by decide) (by decide) (by decide) (by decide), g1 11 (by decide) (by decide) (by decide) (by decide), r0 c (by omega)]
      have e1 : (if c = 0 then τ0 12 0 else τ 13 (10 * q + c - 1)) = (if c = 0 then τ0 12 0 else rn ns bg op nu sz (τ0 10) (τ0 12) (τ0 11) n q (c - 1)) := by
        by_cases hc0 : c = 0
        · rw [if_pos hc0, if_pos hc0]
        · rw [if_neg hc0, if_neg hc0, ← r0 (c - 1) (by omega), show 10 * q + c - 1 = 10 * q + (c - 1) by omega]
      have e2 : (if c + 1 = n then τ0 12 1 else τ 13 (10 * q + c + 1)) = (if c + 1 = n then τ0 12 1 else rn ns bg op nu sz (τ0 10) (τ0 12) (τ0 11) n q (c + 1)) := by
        by_cases hc0 : c + 1 = n
        · rw [if_pos hc0, if_pos hc0]
        · rw [if_neg hc0, if_neg hc0, ← r0 (c + 1) (by omega), show 10 * q + c + 1 = 10 * q + (c + 1) by omega]
      rw [e1, e2]
    refine p_workM hX hMt hk (by rw [g2 19 (by decide)]; exact h19) hn (by omega) (by omega) (fun τ9 f9 hE => ?_)
    rw [nI_1, ix10]
    refine ⟨vp_in_nI (by omega) (by decide), fun τ10 e10 => ?_⟩
    rw [nI_clamp (by omega)] at e10
    have f10 : ∀ j, j ≠ 13 → j ≠ 14 → τ10 j = τ j := fun j q1 q2 => by rw [e10, sto_ne _ _ _ q1]; exact f9 j q2
    have v14 : τ10 14 = τ9 14 := by rw [e10, sto_ne _ _ _ (by decide)]
    have hMu : TM τ10 ns nn bg op nu sz := TM_fr (by rw [f10 0 (by decide) (by decide)]) (by rw [f10 0 (by decide) (by decide)]) (f10 5 (by decide) (by decide)) (f10 6 (by decide) (by decide)) (f10 7 (by decide) (by decide)) (f10 8 (by decide) (by decide)) hMt
    rw [f10 0 (by decide) (by decide), g2 6 (by decide), hM.1, nI_mod (by omega) (by omega)]
    refine ⟨nI_ne0 hns (by omega), ?_⟩
    have hkid : ∀ i, bg (q % ns) ≤ i → i < bg (q % ns + 1) → Kid op sz (bg (q % ns + 1)) i := fun i a b => TX_kid hX hk a b
    rw [hse] at hE
    refine p_countK (b := bg (q % ns)) (e := bg (q % ns + 1)) (op := op) (nu := nu) (sz := sz) (by omega) (by omega) (by omega) (hMu.2.2.1 _ (by omega)) (hMu.2.2.1 _ (by omega)) (fun i a b => TM_nd hMu (by omega)) hkid (fun τ12 fl hS => ?_)
    intro x3 e3
    rw [nI_1] at e3
    subst e3
    have kk : τ12 0 27 = kt ns bg op nu sz (τ0 10) (τ0 12) (τ0 11) n q + kr ns bg op nu sz (τ0 10) (τ0 12) (τ0 11) n q (c + 1) := by
      rw [hS.2.2.2, kgo_add, v14, f10 0 (by decide) (by decide), g5, Int32.add_assoc]
      show _ = _ + (kr ns bg op nu sz (τ0 10) (τ0 12) (τ0 11) n q c + kq ns bg op nu sz (τ0 10) (τ0 12) (τ0 11) n q c)
      have := kgo_congr (op := op) (sz := sz) (b := bg (q % ns)) (e := bg (q % ns + 1)) hkid (fun r a b => evc_eq hkid hE a b) (bg (q % ns + 1) - bg (q % ns)) (bg (q % ns)) (fi (bg (q % ns)) (bg (q % ns + 1)) (τ10 15)) (fi (bg (q % ns)) (bg (q % ns + 1)) (fun _ => 0)) 0 (Nat.le_refl _) (by omega) (fun r a b => fi_in a b)
      rw [this]
      rfl
    have v13 : ∀ r, τ12 13 r = if r = 10 * (q + 1) + c then τ9 14 (bg (q % ns)) else τ 13 r := by
      intro r
      rw [hS.1 13 (by decide) (by decide), e10]
      by_cases hr : r = 10 * (q + 1) + c
      · rw [if_pos hr, hr, sto_at]
      · rw [if_neg hr, sto_off _ _ _ hr, f9 13 (by decide)]
    refine p_g47 hX hM hns h19 hn hq hK d (c + 1) τ12 (by omega) ⟨fun j q1 q2 q3 q4 => ?_, fun k hk27 => ?_, fun r hr i hi => ?_, fun i hi => ?_, kk⟩
    · rw [hS.1 j q1 q4, f10 j q2 q3]; exact g1 j q1 q2 q3 q4
    · rw [hS.2.1 k hk27, f10 0 (by decide) (by decide)]; exact g2 k hk27
    · rw [v13, if_neg (by omega)]; exact g3 r hr i hi
    · rw [v13]
      by_cases hic : i = c
      · subst hic
        rw [if_pos rfl]
        exact evc_eq hkid hE (Nat.le_refl _) hlt
      · rw [if_neg (by omega)]; exact g4 i (by omega)
theorem p_g35 {τ0 : Sg} {ns nn n S : Nat} {bg op : Nat → Nat} {nu : Nat → Int32} {sz : Nat → Nat} {K Q : Sg → Prop} (hX : TX ns nn bg op sz) (hM : TM τ0 ns nn bg op nu sz) (h19 : τ0 0 19 = nI n) (hn : n ≤ 10) (hS : S ≤ 40) (hK : ∀ τ, GR τ0 τ ns n bg op nu sz (S * ns) 0 → K τ) :
    ∀ (d q : Nat) (τ : Sg), q + d = S * ns → GR τ0 τ ns n bg op nu sz q 0 → wX12_go_L35 (nI S) K Q (d + 1) (nI q) τ
  | 0, q, τ, hq, h => by
    have hb : S * ns ≤ 40 * 3 := Nat.mul_le_mul hS hX.1
    unfold wX12_go_L35
    rw [h.2.1 6 (by decide), hM.1, pk_mul]
    have e : q = S * ns := by omega
    rw [e] at h ⊢
    exact ⟨fun _ => hK τ h, fun z => absurd (nI_le (Nat.le_refl _) (by omega)) z⟩
  | d + 1, q, τ, hq, h => by
    have hb : S * ns ≤ 40 * 3 := Nat.mul_le_mul hS hX.1
    have hns : 0 < ns := by
      rcases Nat.eq_zero_or_pos ns with z | z
      · rw [z, Nat.mul_zero] at hq; omega
      · exact z
    unfold wX12_go_L35
    rw [h.2.1 6 (by decide), hM.1, pk_mul]
    refine ⟨fun z => absurd z (nI_ge (by omega) (by omega)), fun _ => ⟨n + 1, ?_⟩⟩
    refine p_g47 hX hM hns h19 hn (by omega) (fun τ' h' x2 e2 => ?_) n 0 τ (by omega) h
    rw [nI_1] at e2
    subst e2
    exact p_g35 hX hM h19 hn hS hK d (q + 1) τ' (by omega) (GR_row h')
theorem p_g7 {τ0 : Sg} {n : Nat} {x1 : Int32} {K Q : Sg → Prop} (h19 : τ0 0 19 = nI n) (hn : n ≤ 10) (hK : ∀ τ, (∀ j, j ≠ 13 → τ j = τ0 j) → (∀ i, i < n → τ 13 i = τ0 10 i) → K τ) :
    ∀ (d c : Nat) (τ : Sg), c + d = n → (∀ j, j ≠ 13 → τ j = τ0 j) → (∀ i, i < c → τ 13 i = τ0 10 i) → wX12_go_L7 x1 K Q (d + 1) (nI c) τ
  | 0, c, τ, hc, h1, h2 => by
    unfold wX12_go_L7
    have e : c = n := by omega
    subst e
    rw [h1 0 (by decide), h19]
    exact ⟨fun _ => hK τ h1 h2, fun z => absurd (nI_le (Nat.le_refl _) (by omega)) z⟩
  | d + 1, c, τ, hc, h1, h2 => by
    unfold wX12_go_L7
    rw [h1 0 (by decide), h19, nI_clamp (by omega)]
    refine ⟨fun z => absurd z (nI_ge (by omega) (by omega)), fun _ => ⟨vp_in_nI (by omega) (by decide), vp_in_nI (by omega) (by decide), fun τ3 e3 x2 e2 => ?_⟩⟩
    rw [nI_1] at e2
    subst e2 e3
    refine p_g7 h19 hn hK d (c + 1) _ (by omega) (fun j hj => by rw [sto_ne _ _ _ hj]; exact h1 j hj) (fun i hi => ?_)
    by_cases hic : i = c
    · subst hic; rw [sto_at, h1 10 (by decide)]
    · rw [sto_off _ _ _ hic]; exact h2 i (by omega)
theorem p_go {τ : Sg} {ns nn n S : Nat} {bg op : Nat → Nat} {nu : Nat → Int32} {sz : Nat → Nat} {Q : Sg → Prop} (hX : TX ns nn bg op sz) (hM : TM τ ns nn bg op nu sz) (h19 : τ 0 19 = nI n) (hn : n ≤ 10) (hS : S ≤ 40)
    (hQ : ∀ τ', (∀ j, j ≠ 0 → j ≠ 13 → j ≠ 14 → j ≠ 15 → τ' j = τ j) → (∀ k, k ≠ 27 → τ' 0 k = τ 0 k) → (∀ r, r ≤ S * ns → ∀ i, i < n → τ' 13 (10 * r + i) = rn ns bg op nu sz (τ 10) (τ 12) (τ 11) n r i) → τ' 0 27 = kt ns bg op nu sz (τ 10) (τ 12) (τ 11) n (S * ns) → Q τ') : wX12_go (nI S) τ Q := by
  unfold wX12_go
  intro τ1 e1
  have f1 : ∀ j, j ≠ 0 → τ1 j = τ j := fun j hj => by rw [e1, sto_ne _ _ _ hj]
  have f0 : ∀ k, k ≠ 27 → τ1 0 k = τ 0 k := fun k hk => by rw [e1, sto_off _ _ _ hk]
  have hM1 : TM τ1 ns nn bg op nu sz := TM_fr (f0 6 (by decide)) (f0 7 (by decide)) (f1 5 (by decide)) (f1 6 (by decide)) (f1 7 (by decide)) (f1 8 (by decide)) hM
  have h191 : τ1 0 19 = nI n := by rw [f0 19 (by decide)]; exact h19
  refine ⟨n + 1, ?_⟩
  refine p_g7 (τ0 := τ1) h191 hn (fun τ5 f5 v5 => ⟨S * ns + 1, ?_⟩) n 0 τ1 (by omega) (fun _ _ => rfl) (fun i hi => by omega)
  refine p_g35 (τ0 := τ1) hX hM1 h191 hn hS (fun τ6 h6 => ?_) (S * ns) 0 τ5 (by omega) ⟨fun j q1 q2 q3 q4 => f5 j q2, fun k hk => by rw [f5 0 (by decide)], fun r hr i hi => ?_, fun i hi => by omega, ?_⟩
  · obtain ⟨g1, g2, g3, g4, g5⟩ := h6
    rw [f1 10 (by decide), f1 11 (by decide), f1 12 (by decide)] at g3 g5
    refine hQ τ6 (fun j q1 q2 q3 q4 => by rw [g1 j q1 q2 q3 q4]; exact f1 j q1) (fun k hk => by rw [g2 k hk]; exact f0 k hk) g3 ?_
    rw [g5]; exact i32_add0 _
  · have : r = 0 := by omega
    subst this
    rw [Nat.mul_zero, Nat.zero_add]
    exact v5 i hi
  · rw [f5 0 (by decide), e1, sto_at]; exact (i32_add0 _).symm
