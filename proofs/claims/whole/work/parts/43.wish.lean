/-! the wish -/
noncomputable def gt (R : Nat → Nat → Int32) (ns n : Nat) (ou : Nat → Int32) (ce sp : Nat → Nat) (wt wa : Nat → Int32) : Nat → Int32
  | 0 => 0
  | i + 1 => if ou i = 0 ∧ ce i < n then gt R ns n ou ce sp wt wa i + wt i * (R (sp i * ns) (ce i) - wa i) * (R (sp i * ns) (ce i) - wa i) else gt R ns n ou ce sp wt wa i
theorem gt_congr {R R' : Nat → Nat → Int32} {ns n : Nat} {ou : Nat → Int32} {ce sp : Nat → Nat} {wt wa : Nat → Int32} (h : ∀ q c, c < n → R q c = R' q c) : ∀ i, gt R ns n ou ce sp wt wa i = gt R' ns n ou ce sp wt wa i
  | 0 => rfl
  | i + 1 => by
    unfold gt
    rw [gt_congr h i]
    by_cases c : ou i = 0 ∧ ce i < n
    · rw [if_pos c, if_pos c, h _ _ c.2]
    · rw [if_neg c, if_neg c]
theorem gl_ge {n : Nat} {ou : Nat → Int32} {ce sp : Nat → Nat} {i : Nat} (hc : gc n ou ce i) : ∀ {g : Nat}, i < g → sp i ≤ gl n ou ce sp g
  | 0, h => by omega
  | g + 1, h => by
    unfold gl
    by_cases e : i = g
    · subst e
      rw [if_pos (show ou i = 0 ∧ ce i < n from hc)]
      split <;> omega
    · have := gl_ge (sp := sp) hc (show i < g by omega)
      split
      · split <;> omega
      · omega
theorem p_behind {σ : Sg} {u s c ns : Nat} {Q : Int32 → Sg → Prop} (hu3 : σ u 3 = nI ns) (hns : ns ≤ 3) (hs : s ≤ 40) (hc : c < 10) (hQ : Q (σ (u + 1) (10 * (s * ns) + c)) σ) : wX2_behind u (nI s) (nI c) σ Q := by
  have hb : s * ns ≤ 40 * 3 := Nat.mul_le_mul hs hns
  unfold wX2_behind
  rw [hu3, pk_mul, ix10r, nI_clamp (by omega)]
  exact ⟨vp_in_nI (by omega) (by decide), hQ⟩
theorem p_stateAt {τ : Sg} {s c ns : Nat} {Q : Int32 → Sg → Prop} (h6 : τ 0 6 = nI ns) (hns : ns ≤ 3) (hs : s ≤ 40) (hc : c < 10) (hQ : Q (τ 13 (10 * (s * ns) + c)) τ) : wX12_stateAt (nI s) (nI c) τ Q := by
  have hb : s * ns ≤ 40 * 3 := Nat.mul_le_mul hs hns
  unfold wX12_stateAt
  rw [h6, pk_mul, ix10, nI_clamp (by omega)]
  exact ⟨vp_in_nI (by omega) (by decide), hQ⟩
theorem p_offBy {σ : Sg} {u g i ns : Nat} {ou : Nat → Int32} {ce sp : Nat → Nat} {wt wa : Nat → Int32} {Q : Int32 → Sg → Prop} (hG : GaB σ g ou ce sp wt wa) (hi : i < g) (hu3 : σ u 3 = nI ns) (hns : ns ≤ 3) (hQ : Q (σ (u + 1) (10 * (sp i * ns) + ce i) - wa i) σ) : wX4_offBy u (nI i) σ Q := by
  have hg := hG.1
  obtain ⟨a1, a2, a3, a4, a5, a6, a7⟩ := hG.2.2 i hi
  have i1 : vp_in (nI i) 12 := vp_in_nI (by omega) (by decide)
  unfold wX4_offBy
  rw [nI_clamp (by omega), a2, a4]
  refine ⟨i1, i1, p_behind hu3 hns (by omega) a3 ⟨i1, ?_⟩⟩
  rw [a7]
  exact hQ
theorem p_totL {σ : Sg} {u g n ns : Nat} {ou : Nat → Int32} {ce sp : Nat → Nat} {wt wa : Nat → Int32} {R : Nat → Nat → Int32} {K Q : Int32 → Sg → Prop} (hG : GaB σ g ou ce sp wt wa) (hn : n ≤ 10) (hu3 : σ u 3 = nI ns) (hns : ns ≤ 3) (hR : ∀ i, i < g → gc n ou ce i → σ (u + 1) (10 * (sp i * ns) + ce i) = R (sp i * ns) (ce i)) (hK : K (gt R ns n ou ce sp wt wa g) σ) : ∀ (d i : Nat), i + d = g → wX4_total_L5 u (nI n) K Q (d + 1) (gt R ns n ou ce sp wt wa i) (nI i) σ
  | 0, i, hi => by
    have hg := hG.1
    unfold wX4_total_L5
    have e : i = g := by omega
    rw [hG.2.1, e]
    exact ⟨fun _ => hK, fun z => absurd (nI_le (Nat.le_refl _) (by omega)) z⟩
  | d + 1, i, hi => by
    have hg := hG.1
    obtain ⟨a1, a2, a3, a4, a5, a6, a7⟩ := hG.2.2 i (by omega)
    have ih := p_totL (Q := Q) hG hn hu3 hns hR hK d (i + 1) (by omega)
    unfold wX4_total_L5 wX4_total_b49
    rw [hG.2.1]
    refine ⟨fun z => absurd z (nI_ge (by omega) (by omega)), fun _ => ?_⟩
    refine p_countsB hG (by omega) hn (fun c => ⟨fun w => absurd w one_ne, fun _ => p_offBy hG (by omega) hu3 hns ⟨vp_in_nI (by omega) (by decide), fun x3 e3 x4 e4 => ?_⟩⟩) (fun c => ⟨fun _ x3 e3 => ?_, fun w => absurd rfl w⟩)
    · rw [nI_1] at e4
      rw [nI_clamp (by omega), a6, hR i (by omega) c] at e3
      unfold gt at ih
      rw [if_pos (show ou i = 0 ∧ ce i < n from c)] at ih
      rw [e3, e4]
      exact ih
    · rw [nI_1] at e3
      unfold gt at ih
      rw [if_neg (show ¬ (ou i = 0 ∧ ce i < n) from c)] at ih
      rw [e3]
      exact ih
theorem p_totM {τ : Sg} {g n ns : Nat} {ou : Nat → Int32} {ce sp : Nat → Nat} {wt wa : Nat → Int32} {R : Nat → Nat → Int32} {K Q : Int32 → Sg → Prop} (hG : GaM τ g ou ce sp wt wa) (h19 : τ 0 19 = nI n) (hn : n ≤ 10) (h6 : τ 0 6 = nI ns) (hns : ns ≤ 3) (hR : ∀ i, i < g → gc n ou ce i → τ 13 (10 * (sp i * ns) + ce i) = R (sp i * ns) (ce i)) (hK : K (gt R ns n ou ce sp wt wa g) τ) : ∀ (d i : Nat), i + d = g → wX12_wishNow_L12 K Q (d + 1) (gt R ns n ou ce sp wt wa i) (nI i) τ
  | 0, i, hi => by
    have hg := hG.1
    unfold wX12_wishNow_L12
    have e : i = g := by omega
    rw [hG.2.1, e]
    exact ⟨fun _ => hK, fun z => absurd (nI_le (Nat.le_refl _) (by omega)) z⟩
  | d + 1, i, hi => by
    have hg := hG.1
    obtain ⟨a1, a2, a3, a4, a5, a6, a7⟩ := hG.2.2 i (by omega)
    have ih := p_totM (Q := Q) hG h19 hn h6 hns hR hK d (i + 1) (by omega)
    have i1 : vp_in (nI i) 12 := vp_in_nI (by omega) (by decide)
    unfold wX12_wishNow_L12 wX12_wishNow_b65
    rw [hG.2.1]
    refine ⟨fun z => absurd z (nI_ge (by omega) (by omega)), fun _ => ?_⟩
    refine p_countsM hG h19 (by omega) hn (fun c => ⟨fun w => absurd w one_ne, fun _ => ⟨i1, i1, ?_⟩⟩) (fun c => ⟨fun _ x3 e3 => ?_, fun w => absurd rfl w⟩)
    · rw [nI_clamp (by omega), a2, a4]
      refine p_stateAt h6 hns (by omega) a3 ⟨i1, fun x3 e3 => ⟨i1, fun x1 e1 x2 e2 => ?_⟩⟩
      rw [nI_1] at e2
      rw [a7, hR i (by omega) c] at e3
      rw [a6, e3] at e1
      unfold gt at ih
      rw [if_pos (show ou i = 0 ∧ ce i < n from c)] at ih
      rw [e1, e2]
      exact ih
    · rw [nI_1] at e3
      unfold gt at ih
      rw [if_neg (show ¬ (ou i = 0 ∧ ce i < n) from c)] at ih
      rw [e3]
      exact ih
/-- what the class, and the reference, know of text, bay and gauges, the strips, start and edges aside -/
def CB (σ : Sg) (T ns nn : Nat) (bg op : Nat → Nat) (nu : Nat → Int32) (sz : Nat → Nat) (n g : Nat) (ou : Nat → Int32) (ce gs : Nat → Nat) (wt wa : Nat → Int32) : Prop :=
  isSten T ∧ σ 0 3 = nI T ∧ TX ns nn bg op sz ∧ TB σ T ns nn bg op nu sz ∧ 2 ≤ n ∧ n ≤ 10 ∧ σ 4 0 = nI n ∧ GaB σ g ou ce gs wt wa
def CM (τ : Sg) (ns nn : Nat) (bg op : Nat → Nat) (nu : Nat → Int32) (sz : Nat → Nat) (n g : Nat) (ou : Nat → Int32) (ce gs : Nat → Nat) (wt wa : Nat → Int32) : Prop :=
  TX ns nn bg op sz ∧ TM τ ns nn bg op nu sz ∧ 2 ≤ n ∧ n ≤ 10 ∧ τ 0 19 = nI n ∧ GaM τ g ou ce gs wt wa
theorem CB_fr {σ σ' : Sg} {T ns nn : Nat} {bg op : Nat → Nat} {nu : Nat → Int32} {sz : Nat → Nat} {n g : Nat} {ou : Nat → Int32} {ce gs : Nat → Nat} {wt wa : Nat → Int32} (h : ∀ j, j ≠ 5 → j ≠ 6 → j ≠ 7 → ¬ scrB j → σ' j = σ j) (hC : CB σ T ns nn bg op nu sz n g ou ce gs wt wa) : CB σ' T ns nn bg op nu sz n g ou ce gs wt wa := by
  obtain ⟨a1, a2, a3, a4, a5, a6, a7, a8⟩ := hC
  have b : ∀ j, j ≠ 5 → j ≠ 6 → j ≠ 7 → ¬ ((14 ≤ j ∧ j ≤ 19) ∨ (36 ≤ j ∧ j ≤ 44)) → σ' j = σ j := h
  refine ⟨a1, by rw [b 0 (by omega) (by omega) (by omega) (by omega)]; exact a2, a3, TB_fr a1 (fun j q1 q2 => b j (by omega) (by omega) (by omega) (by omega)) a4, a5, a6, by rw [b 4 (by omega) (by omega) (by omega) (by omega)]; exact a7, ?_⟩
  unfold GaB at a8 ⊢
  rw [b 8 (by omega) (by omega) (by omega) (by omega), b 9 (by omega) (by omega) (by omega) (by omega), b 10 (by omega) (by omega) (by omega) (by omega), b 11 (by omega) (by omega) (by omega) (by omega), b 12 (by omega) (by omega) (by omega) (by omega), b 13 (by omega) (by omega) (by omega) (by omega)]
  exact a8
theorem CM_fr {τ τ' : Sg} {ns nn : Nat} {bg op : Nat → Nat} {nu : Nat → Int32} {sz : Nat → Nat} {n g : Nat} {ou : Nat → Int32} {ce gs : Nat → Nat} {wt wa : Nat → Int32} (h : ∀ j, j ≠ 0 → j ≠ 10 → j ≠ 11 → j ≠ 12 → ¬ scrM j → τ' j = τ j) (h0 : ∀ k, ¬ scrI k → τ' 0 k = τ 0 k) (hC : CM τ ns nn bg op nu sz n g ou ce gs wt wa) : CM τ' ns nn bg op nu sz n g ou ce gs wt wa := by
  obtain ⟨a3, a4, a5, a6, a7, a8⟩ := hC
  have m : ∀ j, j ≠ 0 → j ≠ 10 → j ≠ 11 → j ≠ 12 → ¬ (j = 9 ∨ (13 ≤ j ∧ j ≤ 16) ∨ (22 ≤ j ∧ j ≤ 29) ∨ j = 32) → τ' j = τ j := h
  have i : ∀ k, ¬ ((13 ≤ k ∧ k ≤ 15) ∨ k = 17 ∨ k = 18 ∨ k = 27) → τ' 0 k = τ 0 k := h0
  refine ⟨a3, TM_fr (i 6 (by omega)) (i 7 (by omega)) (m 5 (by omega) (by omega) (by omega) (by omega) (by omega)) (m 6 (by omega) (by omega) (by omega) (by omega) (by omega)) (m 7 (by omega) (by omega) (by omega) (by omega) (by omega)) (m 8 (by omega) (by omega) (by omega) (by omega) (by omega)) a4, a5, a6, by rw [i 19 (by omega)]; exact a7, ?_⟩
  unfold GaM at a8 ⊢
  rw [i 28 (by omega), m 17 (by omega) (by omega) (by omega) (by omega) (by omega), m 18 (by omega) (by omega) (by omega) (by omega) (by omega), m 19 (by omega) (by omega) (by omega) (by omega) (by omega), m 20 (by omega) (by omega) (by omega) (by omega) (by omega), m 21 (by omega) (by omega) (by omega) (by omega) (by omega)]
  exact a8
theorem Inv_C {σ τ : Sg} (hI : Inv σ τ) : ∃ T ns nn bg op nu sz n g ou ce gs wt wa, CB σ T ns nn bg op nu sz n g ou ce gs wt wa ∧ CM τ ns nn bg op nu sz n g ou ce gs wt wa := by
  obtain ⟨T, ns, nn, bg, op, nu, sz, t1, t2, t3, t4, t5, t6, t7, t8⟩ := hI.2.2.2.1
  obtain ⟨⟨n, hn1, hn2, b1, b2⟩, -⟩ := hI.2.2.2.2.1
  obtain ⟨g, ou, ce, gs, wt, wa, g1, g2⟩ := IGau_ga hI.2.2.2.2.2.1
  exact ⟨T, ns, nn, bg, op, nu, sz, n, g, ou, ce, gs, wt, wa, ⟨t1, t2, t6, t7, hn1, hn2, b1, g1⟩, t6, t8, hn1, hn2, b2, g2⟩
theorem p_lastB' {σ : Sg} {g n : Nat} {ou : Nat → Int32} {ce gs : Nat → Nat} {wt wa : Nat → Int32} {Q : Int32 → Sg → Prop} (hG : GaB σ g ou ce gs wt wa) (hn : n ≤ 10) (hQ : Q (nI (gl n ou ce gs g)) σ) : wX4_last (nI n) σ Q := by
  unfold wX4_last
  exact ⟨_, p_lastB (K := fun x σ => Q x σ) (Q := Q) hG hn hQ g 0 (by omega)⟩
theorem p_lastM' {τ : Sg} {g n : Nat} {ou : Nat → Int32} {ce gs : Nat → Nat} {wt wa : Nat → Int32} {Q : Int32 → Sg → Prop} (hG : GaM τ g ou ce gs wt wa) (h19 : τ 0 19 = nI n) (hn : n ≤ 10) (hQ : Q (nI (gl n ou ce gs g)) τ) : wX12_last τ Q := by
  unfold wX12_last
  exact ⟨_, p_lastM (K := fun x σ => Q x σ) (Q := Q) hG h19 hn hQ g 0 (by omega)⟩
theorem Sten_clamp {T : Nat} (hT : isSten T) : (nI T).toNatClampNeg = T := nI_clamp (by rcases hT with rfl | rfl <;> omega)
noncomputable def wv (ns : Nat) (bg op : Nat → Nat) (nu : Nat → Int32) (sz : Nat → Nat) (st ed sp : Nat → Int32) (n g : Nat) (ou : Nat → Int32) (ce gs : Nat → Nat) (wt wa : Nat → Int32) : Int32 := gt (rn ns bg op nu sz st ed sp n) ns n ou ce gs wt wa g
theorem wv_congr {ns : Nat} {bg op : Nat → Nat} {nu : Nat → Int32} {sz : Nat → Nat} {st st' ed ed' sp sp' : Nat → Int32} {n g : Nat} {ou : Nat → Int32} {ce gs : Nat → Nat} {wt wa : Nat → Int32} (h1 : ∀ c, c < n → st c = st' c) (h2 : ∀ i, i < 2 → ed i = ed' i) (h3 : ∀ c, c < n → sp c = sp' c) : wv ns bg op nu sz st ed sp n g ou ce gs wt wa = wv ns bg op nu sz st' ed' sp' n g ou ce gs wt wa :=
  gt_congr (fun q c hc => rn_congr h1 h2 h3 q c hc) g
/-- the course has been run over the bay with these strips, till LAST -/
def CouOk (σ : Sg) (u : Nat) (sp : Nat → Int32) (ns : Nat) (bg op : Nat → Nat) (nu : Nat → Int32) (sz : Nat → Nat) (n N : Nat) : Prop := σ u 3 = nI ns ∧ ∀ r, r ≤ N → ∀ i, i < n → σ (u + 1) (10 * r + i) = rn ns bg op nu sz (σ 5) (σ 7) sp n r i
theorem p_runC {σ : Sg} {u T a ns nn n S : Nat} {bg op : Nat → Nat} {nu : Nat → Int32} {sz : Nat → Nat} {Q : Sg → Prop} (hu : isCou u) (hT : isSten T) (ha : isStr a) (hX : TX ns nn bg op sz) (hB : TB σ T ns nn bg op nu sz) (h4 : σ 4 0 = nI n) (hn : n ≤ 10) (hS : S ≤ 40) (hQ : ∀ σ', (∀ j, j ≠ 15 → j ≠ 18 → j ≠ u → j ≠ u + 1 → σ' j = σ j) → CouOk σ' u (σ a) ns bg op nu sz n (S * ns) → Q σ') : wX2_run u T a (nI S) σ Q := by
  refine p_run hu hT ha hX hB h4 hn hS (fun σ' f' h3 hR => hQ σ' f' ⟨h3, ?_⟩)
  have hu2 : 36 ≤ u ∧ u ≤ 38 := by rcases hu with rfl | rfl <;> omega
  rw [f' 5 (by omega) (by omega) (by omega) (by omega), f' 7 (by omega) (by omega) (by omega) (by omega)]
  refine run_rn hX (fun h => ?_) hR
  rcases Nat.eq_zero_or_pos ns with z | z
  · rw [z, Nat.mul_zero] at h; exact absurd rfl h
  · exact z
theorem p_total {σ : Sg} {u g n ns : Nat} {bg op : Nat → Nat} {nu : Nat → Int32} {sz : Nat → Nat} {ou sp : Nat → Int32} {ce gs : Nat → Nat} {wt wa : Nat → Int32} {Q : Int32 → Sg → Prop} (hG : GaB σ g ou ce gs wt wa) (hn : n ≤ 10) (hns : ns ≤ 3) (hC : CouOk σ u sp ns bg op nu sz n (gl n ou ce gs g * ns)) (hQ : Q (wv ns bg op nu sz (σ 5) (σ 7) sp n g ou ce gs wt wa) σ) : wX4_total u (nI n) σ Q := by
  unfold wX4_total
  exact ⟨_, p_totL (K := fun x σ => Q x σ) (Q := Q) hG hn hC.1 hns (fun i hi c => hC.2 _ (Nat.mul_le_mul_right ns (gl_ge c hi)) _ c.2) hQ g 0 (by omega)⟩
theorem sto_back (σ : Sg) (j i : Nat) : sto σ j i (σ j i) = σ := by
  funext q
  by_cases h : q = j
  · subst h; rw [sto_same]; exact upd_id rfl
  · rw [sto_ne _ _ _ h]
theorem p_wishW {σ : Sg} {T ns nn : Nat} {bg op : Nat → Nat} {nu : Nat → Int32} {sz : Nat → Nat} {n g c : Nat} {ou : Nat → Int32} {ce gs : Nat → Nat} {wt wa : Nat → Int32} {h : Int32} {Q : Int32 → Sg → Prop} (hC : CB σ T ns nn bg op nu sz n g ou ce gs wt wa) (hc : c < 10) (hQ : ∀ σ', (∀ j, j ≠ 15 → j ≠ 18 → j ≠ 36 → j ≠ 37 → σ' j = σ j) → CouOk σ' 36 (upd (σ 6) c (σ 6 c + h)) ns bg op nu sz n (gl n ou ce gs g * ns) → Q (wv ns bg op nu sz (σ 5) (σ 7) (upd (σ 6) c (σ 6 c + h)) n g ou ce gs wt wa) σ') : wX11_wishWith (nI c) h σ Q := by
  obtain ⟨a1, a2, a3, a4, a5, a6, a7, a8⟩ := id hC
  have hb : 20 ≤ T ∧ T < 29 := by rcases a1 with rfl | rfl <;> omega
  have hl := gl_le (n := n) (ou := ou) (ce := ce) (fun j hj => (a8.2.2 j hj).2.2.2.2.1 : ∀ j, j < g → gs j ≤ 20)
  unfold wX11_wishWith
  rw [nI_clamp (by omega)]
  have hin : vp_in (nI c) 10 := vp_in_nI hc (by decide)
  refine ⟨hin, fun x3 e3 => ⟨hin, fun σ2 e2 T3 eT => ?_⟩⟩
  have f2 : ∀ j, j ≠ 6 → σ2 j = σ j := fun j hj => by rw [e2, sto_ne _ _ _ hj]
  have v2 : σ2 6 = upd (σ 6) c (σ 6 c + h) := by rw [e2, sto_same, e3]
  rw [f2 0 (by decide), a2, Sten_clamp a1] at eT
  rw [eT, f2 4 (by decide), a7]
  have hC2 : CB σ2 T ns nn bg op nu sz n g ou ce gs wt wa := CB_fr (fun j q1 q2 q3 q4 => f2 j q2) hC
  obtain ⟨-, -, -, c4, -, -, c7, c8⟩ := id hC2
  refine ⟨a1, p_lastB' c8 a6 (p_runC (Or.inl rfl) a1 (Or.inl rfl) a3 c4 c7 a6 (by omega) (fun σ7 f7 h7 => ⟨hin, fun σ8 e8 => ?_⟩))⟩
  have e6 : σ7 6 = upd (σ 6) c (σ 6 c + h) := by rw [f7 6 (by omega) (by omega) (by omega) (by omega), v2]
  have f8 : ∀ j, j ≠ 15 → j ≠ 18 → j ≠ 36 → j ≠ 37 → σ8 j = σ j := fun j q1 q2 q3 q4 => by
    by_cases q6 : j = 6
    · rw [q6, e8, sto_same, e6, e3]
      funext i
      by_cases hi : i = c
      · rw [hi, pk_us]
      · rw [pk_un hi, pk_un hi]
    · rw [e8, sto_ne _ _ _ q6, f7 j q1 q2 q3 q4, f2 j q6]
  have g8 : ∀ j, j ≠ 6 → σ8 j = σ7 j := fun j hj => by rw [e8, sto_ne _ _ _ hj]
  have hCo : CouOk σ8 36 (upd (σ 6) c (σ 6 c + h)) ns bg op nu sz n (gl n ou ce gs g * ns) := by
    rw [v2] at h7
    unfold CouOk at h7 ⊢
    rw [g8 36 (by decide), g8 (36 + 1) (by decide), g8 5 (by decide), g8 7 (by decide)]
    exact h7
  rw [f8 4 (by omega) (by omega) (by omega) (by omega), a7]
  have hC8 : CB σ8 T ns nn bg op nu sz n g ou ce gs wt wa := CB_fr (fun j q1 q2 q3 q4 => f8 j (by unfold scrB at q4; omega) (by unfold scrB at q4; omega) (by unfold scrB at q4; omega) (by unfold scrB at q4; omega)) hC
  refine p_total hC8.2.2.2.2.2.2.2 a6 a3.1 hCo ?_
  rw [f8 5 (by omega) (by omega) (by omega) (by omega), f8 7 (by omega) (by omega) (by omega) (by omega)]
  exact hQ σ8 f8 hCo
theorem p_wishB {σ : Sg} {T ns nn : Nat} {bg op : Nat → Nat} {nu : Nat → Int32} {sz : Nat → Nat} {n g : Nat} {ou : Nat → Int32} {ce gs : Nat → Nat} {wt wa : Nat → Int32} {Q : Int32 → Sg → Prop} (hC : CB σ T ns nn bg op nu sz n g ou ce gs wt wa) (hQ : ∀ σ', (∀ j, j ≠ 15 → j ≠ 18 → j ≠ 36 → j ≠ 37 → σ' j = σ j) → CouOk σ' 36 (σ 6) ns bg op nu sz n (gl n ou ce gs g * ns) → Q (wv ns bg op nu sz (σ 5) (σ 7) (σ 6) n g ou ce gs wt wa) σ') : wX11_wishNow σ Q := by
  unfold wX11_wishNow
  refine p_wishW (c := 0) (h := 0) hC (by decide) (fun σ' f' h' => ?_)
  have e : upd (σ 6) 0 (σ 6 0 + 0) = σ 6 := upd_id (i32_add0 _).symm
  rw [e] at h' ⊢
  exact hQ σ' f' h'
theorem p_wishM {τ : Sg} {ns nn : Nat} {bg op : Nat → Nat} {nu : Nat → Int32} {sz : Nat → Nat} {n g : Nat} {ou : Nat → Int32} {ce gs : Nat → Nat} {wt wa : Nat → Int32} {Q : Int32 → Sg → Prop} (hC : CM τ ns nn bg op nu sz n g ou ce gs wt wa) (hQ : ∀ τ', (∀ j, j ≠ 0 → j ≠ 13 → j ≠ 14 → j ≠ 15 → τ' j = τ j) → (∀ k, k ≠ 27 → τ' 0 k = τ 0 k) → Q (wv ns bg op nu sz (τ 10) (τ 12) (τ 11) n g ou ce gs wt wa) τ') : wX12_wishNow τ Q := by
  obtain ⟨a3, a4, a5, a6, a7, a8⟩ := id hC
  have hl := gl_le (n := n) (ou := ou) (ce := ce) (fun j hj => (a8.2.2 j hj).2.2.2.2.1 : ∀ j, j < g → gs j ≤ 20)
  unfold wX12_wishNow
  refine p_lastM' a8 a7 a6 (p_go a3 a4 a7 a6 (by omega) (fun τ4 f4 f0 hR hK => ?_))
  have hC4 : CM τ4 ns nn bg op nu sz n g ou ce gs wt wa := CM_fr (fun j q1 q2 q3 q4 q5 => f4 j q1 (by unfold scrM at q5; omega) (by unfold scrM at q5; omega) (by unfold scrM at q5; omega)) (fun k q => f0 k (by unfold scrI at q; omega)) hC
  obtain ⟨-, c4, -, -, c7, c8⟩ := id hC4
  exact ⟨_, p_totM (K := fun x σ => Q x σ) (Q := Q) c8 c7 a6 c4.1 a3.1 (fun i hi c => hR _ (Nat.mul_le_mul_right ns (gl_ge c hi)) _ c.2) (hQ τ4 f4 f0) g 0 (by omega)⟩
