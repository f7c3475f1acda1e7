/-! cell, wish, push, rest -/
theorem sB_of {σ σ' : Sg} (h : ∀ j, j ≠ 15 → j ≠ 17 → j ≠ 18 → j ≠ 36 → j ≠ 37 → σ' j = σ j) : SameB σ' σ := fun j hj => h j (by unfold scrB at hj; omega) (by unfold scrB at hj; omega) (by unfold scrB at hj; omega) (by unfold scrB at hj; omega) (by unfold scrB at hj; omega)
theorem sM_of {τ τ' : Sg} (h : ∀ j, j ≠ 0 → j ≠ 13 → j ≠ 14 → j ≠ 15 → τ' j = τ j) (h0 : ∀ k, k ≠ 27 → τ' 0 k = τ 0 k) : SameM τ' τ := ⟨fun j q1 hj => h j q1 (by unfold scrM at hj; omega) (by unfold scrM at hj; omega) (by unfold scrM at hj; omega), fun k hk => h0 k (by unfold scrI at hk; omega)⟩
theorem CB_same {σ σ' : Sg} {T ns nn : Nat} {bg op : Nat → Nat} {nu : Nat → Int32} {sz : Nat → Nat} {n g : Nat} {ou : Nat → Int32} {ce gs : Nat → Nat} {wt wa : Nat → Int32} (h : SameB σ' σ) (hC : CB σ T ns nn bg op nu sz n g ou ce gs wt wa) : CB σ' T ns nn bg op nu sz n g ou ce gs wt wa := CB_fr (fun j _ _ _ q => h j q) hC
theorem CM_same {τ τ' : Sg} {ns nn : Nat} {bg op : Nat → Nat} {nu : Nat → Int32} {sz : Nat → Nat} {n g : Nat} {ou : Nat → Int32} {ce gs : Nat → Nat} {wt wa : Nat → Int32} (h : SameM τ' τ) (hC : CM τ ns nn bg op nu sz n g ou ce gs wt wa) : CM τ' ns nn bg op nu sz n g ou ce gs wt wa := CM_fr (fun j q1 _ _ _ q => h.1 j q1 q) h.2 hC
theorem SameB_trans {σ σ' σ'' : Sg} (h : SameB σ'' σ') (h' : SameB σ' σ) : SameB σ'' σ := fun j hj => (h j hj).trans (h' j hj)
theorem SameM_trans {σ σ' σ'' : Sg} (h : SameM σ'' σ') (h' : SameM σ' σ) : SameM σ'' σ := ⟨fun j q hj => (h.1 j q hj).trans (h'.1 j q hj), fun k hk => (h.2 k hk).trans (h'.2 k hk)⟩
theorem E_cell (x1 x2 : Int32) {σ τ : Sg} (hI : Inv σ τ) : wX11_cell x1 x2 σ (fun r σ' => wX12_cell x1 x2 τ (fun r' τ' => r = r' ∧ Inv σ' τ')) := by
  obtain ⟨T, ns, nn, bg, op, nu, sz, n, g, ou, ce, gs, wt, wa, hB, hM⟩ := Inv_C hI
  obtain ⟨a1, a2, a3, a4, a5, a6, a7, a8⟩ := id hB
  obtain ⟨-, m4, -, -, m7, m8⟩ := id hM
  obtain ⟨-, b3, b4, b5⟩ := hI.2.2.2.2.1
  unfold wX11_cell wX12_cell wX11_cell_b21 wX12_cell_b18
  simp only [p_hasB, p_isCell, p_isWithin, p_within, p_refused, ite10, a7, m7]
  by_cases c1 : 0 ≤ x1 ∧ x1 ≤ nI n - 1
  case neg =>
    simp only [c1, not_false_eq_true, true_implies, not_true_eq_false, false_implies, and_true]
    exact ⟨by decide, hI⟩
  by_cases c2 : 0 ≤ x2 ∧ x2 ≤ 40
  case neg =>
    simp only [c1, c2, not_false_eq_true, true_implies, not_true_eq_false, false_implies, and_true, true_and]
    exact ⟨by decide, hI⟩
  simp only [c1, c2, not_false_eq_true, true_implies, not_true_eq_false, false_implies, and_true, true_and]
  obtain ⟨c, hc, rfl⟩ := rng0 (by omega) c1
  obtain ⟨S, hS, rfl⟩ := x_le 40 (by decide) c2
  intro T7 eT
  rw [a2, Sten_clamp a1] at eT
  rw [eT]
  refine ⟨a1, p_runC (Or.inl rfl) a1 (Or.inl rfl) a3 a4 a7 a6 hS (fun σ9 f9 h9 => p_behind h9.1 a3.1 hS (by omega) ?_)⟩
  refine p_go a3 m4 m7 a6 hS (fun τ' f' f0 hR hK => p_stateAt (by rw [f0 6 (by decide)]; exact m4.1) a3.1 hS (by omega) ⟨?_, ?_⟩)
  · rw [h9.2 _ (Nat.le_refl _) c hc, hR _ (Nat.le_refl _) c hc, f9 5 (by decide) (by decide) (by decide) (by decide), f9 7 (by decide) (by decide) (by decide) (by decide)]
    exact congrArg Int32.toInt64 (rn_congr (fun i hi => b3 i (by omega)) b5 (fun i hi => b4 i (by omega)) _ c hc)
  · exact Inv_fr (sB_of (fun j q1 q2 q3 q4 q5 => f9 j q1 q3 q4 q5)) (sM_of f' f0) hI
theorem E_wish (x1 : Int32) {σ τ : Sg} (hI : Inv σ τ) : wX11_wish x1 σ (fun r σ' => wX12_wish x1 τ (fun r' τ' => r = r' ∧ Inv σ' τ')) := by
  obtain ⟨T, ns, nn, bg, op, nu, sz, n, g, ou, ce, gs, wt, wa, hB, hM⟩ := Inv_C hI
  obtain ⟨a1, a2, a3, a4, a5, a6, a7, a8⟩ := id hB
  obtain ⟨-, m4, -, -, m7, m8⟩ := id hM
  obtain ⟨-, b3, b4, b5⟩ := hI.2.2.2.2.1
  have hl := gl_le (n := n) (ou := ou) (ce := ce) (fun j hj => (a8.2.2 j hj).2.2.2.2.1 : ∀ j, j < g → gs j ≤ 20)
  unfold wX11_wish wX12_wish wX11_knotsNow
  rw [a7]
  refine ⟨fun z => p_wishB hB (fun σ' f' h' => ⟨fun _ => p_wishM hM (fun τ' fm f0 => ⟨?_, ?_⟩), fun w => absurd z w⟩), fun z => ⟨fun z1 => p_lastB' a8 a6 ⟨fun w => absurd w z, fun _ => ⟨fun _ => p_lastM' m8 m7 a6 ⟨rfl, hI⟩, fun w => absurd z1 w⟩⟩, fun z1 => ⟨fun z2 => p_lastB' a8 a6 (fun T3 eT => ?_), fun z2 => ⟨fun w => absurd w z, fun _ => ⟨fun w => absurd w z1, fun _ => ⟨fun w => absurd w z2, fun _ => ?_⟩⟩⟩⟩⟩⟩
  · exact congrArg Int32.toInt64 (wv_congr (fun i hi => b3 i (by omega)) b5 (fun i hi => b4 i (by omega)))
  · exact Inv_fr (sB_of (fun j q1 q2 q3 q4 q5 => f' j q1 q3 q4 q5)) (sM_of fm f0) hI
  · rw [a2, Sten_clamp a1] at eT
    rw [eT]
    refine ⟨a1, p_runC (Or.inl rfl) a1 (Or.inl rfl) a3 a4 a7 a6 (by omega) (fun σ5 f5 h5 T6 eT6 => ?_)⟩
    have f5' : ∀ j, j ≠ 15 → j ≠ 18 → j ≠ 36 → j ≠ 37 → σ5 j = σ j := f5
    have hB5 : CB σ5 T ns nn bg op nu sz n g ou ce gs wt wa := CB_same (sB_of (fun j q1 q2 q3 q4 q5 => f5' j q1 q3 q4 q5)) hB
    obtain ⟨-, c2, -, c4, -, -, c7, -⟩ := hB5
    rw [c2, Sten_clamp a1] at eT6
    rw [eT6]
    have hR5 : RowsB σ5 36 6 ns n (gl n ou ce gs g * ns) bg op nu sz := by
      unfold RowsB
      rw [f5' 6 (by decide) (by decide) (by decide) (by decide)]
      exact h5.2
    refine ⟨a1, p_cknots (Or.inl rfl) a1 (Or.inl rfl) a3 c4 c7 a6 (by omega) hR5 (fun σ8 f8 => ?_)⟩
    refine ⟨fun w => absurd w z, fun _ => ⟨fun w => absurd w z1, fun _ => ⟨fun _ => p_lastM' m8 m7 a6 (p_go a3 m4 m7 a6 (by omega) (fun τ' fm f0 hR hK => ⟨?_, ?_⟩)), fun w => absurd z2 w⟩⟩⟩
    · rw [hK, f5' 5 (by decide) (by decide) (by decide) (by decide), f5' 6 (by decide) (by decide) (by decide) (by decide), f5' 7 (by decide) (by decide) (by decide) (by decide)]
      exact congrArg Int32.toInt64 (kt_congr (fun i hi => b3 i (by omega)) b5 (fun i hi => b4 i (by omega)) _)
    · exact Inv_fr (sB_of (fun j q1 q2 q3 q4 q5 => by rw [f8 j q1 q2 q3]; exact f5' j q1 q3 q4 q5)) (sM_of fm f0) hI
  · rw [p_refused]
    exact ⟨by decide, hI⟩
theorem i32_as (a b : Int32) : a + b - b = a := by
  rw [Int32.sub_eq_add_neg, Int32.add_assoc, Int32.add_right_neg, Int32.add_zero]
theorem upd_back {f : Nat → Int32} {c : Nat} {h : Int32} : upd (upd f c (f c + h)) c (upd f c (f c + h) c - h) = f := by
  rw [pk_us, i32_as]
  funext i
  by_cases hi : i = c
  · rw [hi, pk_us]
  · rw [pk_un hi, pk_un hi]
theorem upd_cg {f f' : Nat → Int32} {n c : Nat} {h : Int32} (hf : ∀ i, i < n → f i = f' i) (hc : c < n) : ∀ i, i < n → upd f c (f c + h) i = upd f' c (f' c + h) i := fun i hi => by
  by_cases e : i = c
  · rw [e, pk_us, pk_us, hf c hc]
  · rw [pk_un e, pk_un e]; exact hf i hi
theorem E_push (x1 x2 : Int32) {σ τ : Sg} (hI : Inv σ τ) : wX11_push x1 x2 σ (fun r σ' => wX12_push x1 x2 τ (fun r' τ' => r = r' ∧ Inv σ' τ')) := by
  obtain ⟨T, ns, nn, bg, op, nu, sz, n, g, ou, ce, gs, wt, wa, hB, hM⟩ := Inv_C hI
  obtain ⟨a1, a2, a3, a4, a5, a6, a7, a8⟩ := id hB
  obtain ⟨-, m4, -, -, m7, m8⟩ := id hM
  obtain ⟨-, b3, b4, b5⟩ := hI.2.2.2.2.1
  unfold wX11_push wX12_push
  simp only [p_hasB, p_isCell, p_refused, ite10, a7, m7]
  by_cases c1 : 0 ≤ x1 ∧ x1 ≤ nI n - 1
  case neg =>
    simp only [c1, not_false_eq_true, true_implies, not_true_eq_false, false_implies, and_true]
    exact ⟨by decide, hI⟩
  simp only [c1, not_false_eq_true, true_implies, not_true_eq_false, false_implies, and_true, true_and]
  obtain ⟨c, hc, rfl⟩ := rng0 (by omega) c1
  have hin : vp_in (nI c) 10 := vp_in_nI (by omega) (by decide)
  refine p_wishW hB (by omega) (fun σ5 f5 h5 => ?_)
  have s5 : SameB σ5 σ := sB_of (fun j q1 q2 q3 q4 q5 => f5 j q1 q3 q4 q5)
  refine p_wishB (CB_same s5 hB) (fun σ7 f7 h7 => ?_)
  have s7 : SameB σ7 σ5 := sB_of (fun j q1 q2 q3 q4 q5 => f7 j q1 q3 q4 q5)
  refine p_wishM hM (fun τ5 g5 g50 => ?_)
  rw [nI_clamp (by omega)]
  refine ⟨hin, hin, fun τ6 e6 => ?_⟩
  have k6 : ∀ j, j ≠ 11 → τ6 j = τ5 j := fun j hj => by rw [e6, sto_ne _ _ _ hj]
  have v6 : τ6 11 = upd (τ 11) c (τ 11 c + x2) := by rw [e6, sto_same, g5 11 (by decide) (by decide) (by decide) (by decide)]
  have hM6 : CM τ6 ns nn bg op nu sz n g ou ce gs wt wa := CM_fr (fun j q1 q2 q3 q4 q5 => by rw [k6 j q3]; exact g5 j q1 (by unfold scrM at q5; omega) (by unfold scrM at q5; omega) (by unfold scrM at q5; omega)) (fun k hk => by rw [k6 0 (by decide)]; exact g50 k (by unfold scrI at hk; omega)) hM
  refine p_wishM hM6 (fun τ8 g8 g80 => ⟨hin, hin, fun τ9 e9 => ⟨?_, ?_⟩⟩)
  · rw [v6, k6 10 (by decide), k6 12 (by decide), g5 10 (by decide) (by decide) (by decide) (by decide), g5 12 (by decide) (by decide) (by decide) (by decide), f5 5 (by decide) (by decide) (by decide) (by decide), f5 6 (by decide) (by decide) (by decide) (by decide), f5 7 (by decide) (by decide) (by decide) (by decide)]
    rw [wv_congr (st' := τ 10) (ed' := τ 12) (sp' := upd (τ 11) c (τ 11 c + x2)) (fun i hi => b3 i (by omega)) b5 (upd_cg (fun i hi => b4 i (by omega)) hc), wv_congr (st' := τ 10) (ed' := τ 12) (sp' := τ 11) (fun i hi => b3 i (by omega)) b5 (fun i hi => b4 i (by omega))]
  · refine Inv_fr (SameB_trans s7 s5) (sM_of (fun j q1 q2 q3 q4 => ?_) (fun k hk => ?_)) hI
    · by_cases q11 : j = 11
      · rw [q11, e9, sto_same, g8 11 (by decide) (by decide) (by decide) (by decide), v6, upd_back]
      · rw [e9, sto_ne _ _ _ q11, g8 j q1 q2 q3 q4, k6 j q11]; exact g5 j q1 q2 q3 q4
    · rw [e9, sto_ne _ _ _ (by decide), g80 k hk, k6 0 (by decide)]; exact g50 k hk
/-- a single step of a cell's strips helps -/
def hp (W : (Nat → Int32) → Int32) (sp : Nat → Int32) (c : Nat) (h : Int32) : Prop := (0 ≤ sp c + h ∧ sp c + h ≤ 9) ∧ W (upd sp c (sp c + h)) < W sp
theorem hp_congr {W W' : (Nat → Int32) → Int32} {sp sp' : Nat → Int32} {n c : Nat} {h : Int32} (hW : ∀ s s', (∀ i, i < n → s i = s' i) → W s = W' s') (hs : ∀ i, i < n → sp i = sp' i) (hc : c < n) : hp W sp c h ↔ hp W' sp' c h := by
  unfold hp
  rw [hW _ _ (upd_cg (h := h) hs hc), hW _ _ hs, hs c hc]
theorem p_helps {σ : Sg} {T ns nn : Nat} {bg op : Nat → Nat} {nu : Nat → Int32} {sz : Nat → Nat} {n g c : Nat} {ou : Nat → Int32} {ce gs : Nat → Nat} {wt wa : Nat → Int32} {h now : Int32} {Q : Int32 → Sg → Prop} (hC : CB σ T ns nn bg op nu sz n g ou ce gs wt wa) (hc : c < 10) (hnow : now = wv ns bg op nu sz (σ 5) (σ 7) (σ 6) n g ou ce gs wt wa) (h1 : ∀ σ', SameB σ' σ → hp (fun sp => wv ns bg op nu sz (σ 5) (σ 7) sp n g ou ce gs wt wa) (σ 6) c h → Q 1 σ') (h0 : ∀ σ', SameB σ' σ → ¬ hp (fun sp => wv ns bg op nu sz (σ 5) (σ 7) sp n g ou ce gs wt wa) (σ 6) c h → Q 0 σ') : wX11_helps (nI c) h now σ Q := by
  unfold wX11_helps wX11_helps_b34 wX11_helps_b35
  rw [nI_clamp (by omega), p_isWithin, ite10]
  refine ⟨vp_in_nI hc (by decide), fun z => ⟨bok0, h0 σ (fun _ _ => rfl) (fun w => z w.1)⟩, fun z => p_wishW hC hc (fun σ5 f5 h5 => ?_)⟩
  have s5 : SameB σ5 σ := sB_of (fun j q1 q2 q3 q4 q5 => f5 j q1 q3 q4 q5)
  have z' := Classical.not_not.mp z
  rw [hnow]
  refine ⟨fun y => ⟨bok0, h0 σ5 s5 (fun w => ?_)⟩, fun y => ⟨bok1, h1 σ5 s5 ⟨z', i32_nle.mp y⟩⟩⟩
  exact (i32_nle.mpr w.2) y
theorem p_restB {σ0 : Sg} {T ns nn : Nat} {bg op : Nat → Nat} {nu : Nat → Int32} {sz : Nat → Nat} {n g : Nat} {ou : Nat → Int32} {ce gs : Nat → Nat} {wt wa : Nat → Int32} {now : Int32} {K1 K0 : Sg → Prop} {Q : Int32 → Sg → Prop} (hC : CB σ0 T ns nn bg op nu sz n g ou ce gs wt wa) (hnow : now = wv ns bg op nu sz (σ0 5) (σ0 7) (σ0 6) n g ou ce gs wt wa)
    (h0 : ∀ σ, SameB σ σ0 → (∃ c, c < n ∧ (hp (fun sp => wv ns bg op nu sz (σ0 5) (σ0 7) sp n g ou ce gs wt wa) (σ0 6) c 1 ∨ hp (fun sp => wv ns bg op nu sz (σ0 5) (σ0 7) sp n g ou ce gs wt wa) (σ0 6) c (-1))) → K0 σ)
    (h1 : ∀ σ, SameB σ σ0 → (∀ c, c < n → ¬ (hp (fun sp => wv ns bg op nu sz (σ0 5) (σ0 7) sp n g ou ce gs wt wa) (σ0 6) c 1 ∨ hp (fun sp => wv ns bg op nu sz (σ0 5) (σ0 7) sp n g ou ce gs wt wa) (σ0 6) c (-1))) → K1 σ) :
    ∀ (d c : Nat) (σ : Sg), c + d = n → SameB σ σ0 → (∀ i, i < c → ¬ (hp (fun sp => wv ns bg op nu sz (σ0 5) (σ0 7) sp n g ou ce gs wt wa) (σ0 6) i 1 ∨ hp (fun sp => wv ns bg op nu sz (σ0 5) (σ0 7) sp n g ou ce gs wt wa) (σ0 6) i (-1))) → wX11_rest_L7 now K1 K0 Q (d + 1) (nI c) σ
  | 0, c, σ, hc, h, hi => by
    have hn := hC.2.2.2.2.2.1
    have e4 := hC.2.2.2.2.2.2.1
    unfold wX11_rest_L7
    have e : c = n := by omega
    subst e
    rw [h 4 (by unfold scrB; omega), e4]
    exact ⟨fun _ => h1 σ h hi, fun z => absurd (nI_le (Nat.le_refl _) (by omega)) z⟩
  | d + 1, c, σ, hc, h, hi => by
    have hn := hC.2.2.2.2.2.1
    have e4 := hC.2.2.2.2.2.2.1
    have r5 : ∀ σ', SameB σ' σ0 → σ' 5 = σ0 5 ∧ σ' 6 = σ0 6 ∧ σ' 7 = σ0 7 := fun σ' hs => ⟨hs 5 (by unfold scrB; omega), hs 6 (by unfold scrB; omega), hs 7 (by unfold scrB; omega)⟩
    unfold wX11_rest_L7
    rw [h 4 (by unfold scrB; omega), e4]
    refine ⟨fun z => absurd z (nI_ge (by omega) (by omega)), fun _ => ?_⟩
    obtain ⟨q5, q6, q7⟩ := r5 σ h
    refine p_helps (CB_same h hC) (by omega) (by rw [q5, q6, q7]; exact hnow) (fun σ5 s5 y => ?_) (fun σ5 s5 y => ?_)
    · rw [q5, q6, q7] at y
      exact ⟨fun w => absurd w one_ne, fun _ => h0 σ5 (SameB_trans s5 h) ⟨c, by omega, Or.inl y⟩⟩
    · rw [q5, q6, q7] at y
      refine ⟨fun _ => ?_, fun w => absurd rfl w⟩
      have s5' := SameB_trans s5 h
      obtain ⟨p5, p6, p7⟩ := r5 σ5 s5'
      refine p_helps (CB_same s5' hC) (by omega) (by rw [p5, p6, p7]; exact hnow) (fun σ8 s8 w => ?_) (fun σ8 s8 w => ?_)
      · rw [p5, p6, p7] at w
        exact ⟨fun v => absurd v one_ne, fun _ => h0 σ8 (SameB_trans s8 s5') ⟨c, by omega, Or.inr w⟩⟩
      · rw [p5, p6, p7] at w
        refine ⟨fun _ x2 e2 => ?_, fun v => absurd rfl v⟩
        rw [nI_1] at e2
        subst e2
        refine p_restB hC hnow h0 h1 d (c + 1) σ8 (by omega) (SameB_trans s8 s5') (fun i hi2 => ?_)
        by_cases e : i = c
        · subst e; exact fun v => v.elim y w
        · exact hi i (by omega)
/-- the reference's try of one step: the strips are as they were -/
theorem p_tryM {τ : Sg} {ns nn : Nat} {bg op : Nat → Nat} {nu : Nat → Int32} {sz : Nat → Nat} {n g c : Nat} {ou : Nat → Int32} {ce gs : Nat → Nat} {wt wa : Nat → Int32} {h : Int32} {Q : Int32 → Sg → Prop} (hC : CM τ ns nn bg op nu sz n g ou ce gs wt wa) (hQ : ∀ τ' τ9, SameM (sto τ' 11 c (τ 11 c)) τ → τ' 11 = upd (τ 11) c (τ 11 c + h) → τ9 = sto τ' 11 c (τ' 11 c - h) → SameM τ9 τ → Q (wv ns bg op nu sz (τ 10) (τ 12) (upd (τ 11) c (τ 11 c + h)) n g ou ce gs wt wa) τ') : wX12_wishNow (sto τ 11 c (τ 11 c + h)) Q := by
  have k6 : ∀ j, j ≠ 11 → sto τ 11 c (τ 11 c + h) j = τ j := fun j hj => sto_ne _ _ _ hj
  refine p_wishM (CM_fr (fun j q1 q2 q3 q4 q5 => k6 j q3) (fun k hk => by rw [k6 0 (by decide)]) hC) (fun τ8 g8 g80 => ?_)
  have v : τ8 11 = upd (τ 11) c (τ 11 c + h) := by rw [g8 11 (by decide) (by decide) (by decide) (by decide), sto_same]
  have fr : ∀ w : Int32, w = τ 11 c → SameM (sto τ8 11 c w) τ := fun w hw => sM_of (fun j q1 q2 q3 q4 => by
    by_cases q11 : j = 11
    · rw [q11, sto_same, v, hw]
      funext i
      by_cases hi : i = c
      · rw [hi, pk_us]
      · rw [pk_un hi, pk_un hi]
    · rw [sto_ne _ _ _ q11, g8 j q1 q2 q3 q4, k6 j q11]) (fun k hk => by rw [sto_ne _ _ _ (by decide), g80 k hk, k6 0 (by decide)])
  have hQ' := hQ τ8 _ (fr _ rfl) v rfl (fr _ (by rw [v, pk_us, i32_as]))
  rw [k6 10 (by decide), k6 12 (by decide), sto_same]
  exact hQ'
theorem p_rest17 {τ0 : Sg} {ns nn : Nat} {bg op : Nat → Nat} {nu : Nat → Int32} {sz : Nat → Nat} {n g c : Nat} {ou : Nat → Int32} {ce gs : Nat → Nat} {wt wa : Nat → Int32} {now x3 : Int32} {m : Nat} {K82 K74 : Sg → Prop} {Q : Int32 → Sg → Prop} {τ : Sg} (hC : CM τ0 ns nn bg op nu sz n g ou ce gs wt wa) (hc : c < 10) (hx : ¬ 2 ≤ x3) (hs : SameM τ τ0) (hnow : now = wv ns bg op nu sz (τ0 10) (τ0 12) (τ0 11) n g ou ce gs wt wa)
    (h1 : ∀ τ', SameM τ' τ0 → hp (fun sp => wv ns bg op nu sz (τ0 10) (τ0 12) sp n g ou ce gs wt wa) (τ0 11) c x3 → K74 τ') (h0 : ∀ τ', SameM τ' τ0 → ¬ hp (fun sp => wv ns bg op nu sz (τ0 10) (τ0 12) sp n g ou ce gs wt wa) (τ0 11) c x3 → wX12_rest_L17 now (nI c) K82 K74 Q m (x3 + 2) τ') : wX12_rest_L17 now (nI c) K82 K74 Q (m + 1) x3 τ := by
  have hin : vp_in (nI c) 10 := vp_in_nI hc (by decide)
  have q10 : τ 10 = τ0 10 := hs.1 10 (by decide) (by unfold scrM; omega)
  have q11 : τ 11 = τ0 11 := hs.1 11 (by decide) (by unfold scrM; omega)
  have q12 : τ 12 = τ0 12 := hs.1 12 (by decide) (by unfold scrM; omega)
  unfold wX12_rest_L17 wX12_rest_b76
  rw [nI_clamp (by omega), p_within, ite10]
  refine ⟨fun z => absurd z hx, fun _ => ⟨hin, fun z x4 e4 => ?_, fun z => ⟨hin, hin, fun τ8 e8 => ?_⟩⟩⟩
  · rw [e4]
    refine h0 τ hs (fun w => z ?_)
    rw [q11]; exact w.1
  · have z' := Classical.not_not.mp z
    rw [e8]
    refine p_tryM (CM_same hs hC) (fun τ' τ9 _ v' e9 s9 => ⟨hin, hin, fun τ11 e11 => ?_⟩)
    rw [← e9] at e11
    rw [q11] at z'
    rw [q10, q11, q12, hnow, e11]
    have s9' := SameM_trans s9 hs
    refine ⟨fun y x4 e4 => ?_, fun y => h1 τ9 s9' ⟨z', i32_nle.mp y⟩⟩
    rw [e4, ← hnow]
    exact h0 τ9 s9' (fun w => (i32_nle.mpr w.2) y)
theorem p_restM {τ0 : Sg} {ns nn : Nat} {bg op : Nat → Nat} {nu : Nat → Int32} {sz : Nat → Nat} {n g : Nat} {ou : Nat → Int32} {ce gs : Nat → Nat} {wt wa : Nat → Int32} {now : Int32} {K1 K0 : Sg → Prop} {Q : Int32 → Sg → Prop} (hC : CM τ0 ns nn bg op nu sz n g ou ce gs wt wa) (hnow : now = wv ns bg op nu sz (τ0 10) (τ0 12) (τ0 11) n g ou ce gs wt wa)
    (h0 : ∀ σ, SameM σ τ0 → (∃ c, c < n ∧ (hp (fun sp => wv ns bg op nu sz (τ0 10) (τ0 12) sp n g ou ce gs wt wa) (τ0 11) c 1 ∨ hp (fun sp => wv ns bg op nu sz (τ0 10) (τ0 12) sp n g ou ce gs wt wa) (τ0 11) c (-1))) → K0 σ)
    (h1 : ∀ σ, SameM σ τ0 → (∀ c, c < n → ¬ (hp (fun sp => wv ns bg op nu sz (τ0 10) (τ0 12) sp n g ou ce gs wt wa) (τ0 11) c 1 ∨ hp (fun sp => wv ns bg op nu sz (τ0 10) (τ0 12) sp n g ou ce gs wt wa) (τ0 11) c (-1))) → K1 σ) :
    ∀ (d c : Nat) (τ : Sg), c + d = n → SameM τ τ0 → (∀ i, i < c → ¬ (hp (fun sp => wv ns bg op nu sz (τ0 10) (τ0 12) sp n g ou ce gs wt wa) (τ0 11) i 1 ∨ hp (fun sp => wv ns bg op nu sz (τ0 10) (τ0 12) sp n g ou ce gs wt wa) (τ0 11) i (-1))) → wX12_rest_L7 now K1 K0 Q (d + 1) (nI c) τ
  | 0, c, τ, hc, h, hi => by
    have hn := hC.2.2.2.1
    have e4 := hC.2.2.2.2.1
    unfold wX12_rest_L7
    have e : c = n := by omega
    subst e
    rw [h.2 19 (by unfold scrI; omega), e4]
    exact ⟨fun _ => h1 τ h hi, fun z => absurd (nI_le (Nat.le_refl _) (by omega)) z⟩
  | d + 1, c, τ, hc, h, hi => by
    have hn := hC.2.2.2.1
    have e4 := hC.2.2.2.2.1
    unfold wX12_rest_L7
    rw [h.2 19 (by unfold scrI; omega), e4]
    refine ⟨fun z => absurd z (nI_ge (by omega) (by omega)), fun _ => ⟨3, ?_⟩⟩
    refine p_rest17 hC (by omega) (by decide) h hnow (fun τ' s' y => h0 τ' s' ⟨c, by omega, Or.inr y⟩) (fun τ' s' y => ?_)
    rw [show ((-1 : Int32) + 2) = 1 by decide]
    refine p_rest17 hC (by omega) (by decide) s' hnow (fun τ2 s2 w => h0 τ2 s2 ⟨c, by omega, Or.inl w⟩) (fun τ2 s2 w => ?_)
    unfold wX12_rest_L17
    refine ⟨fun _ x2 e2 => ?_, fun v => absurd (by decide) v⟩
    rw [nI_1] at e2
    subst e2
    refine p_restM hC hnow h0 h1 d (c + 1) τ2 (by omega) s2 (fun i hi2 => ?_)
    by_cases e : i = c
    · subst e; exact fun v => v.elim w y
    · exact hi i (by omega)
theorem E_rest {σ τ : Sg} (hI : Inv σ τ) : wX11_rest σ (fun r σ' => wX12_rest τ (fun r' τ' => r = r' ∧ Inv σ' τ')) := by
  obtain ⟨T, ns, nn, bg, op, nu, sz, n, g, ou, ce, gs, wt, wa, hB, hM⟩ := Inv_C hI
  obtain ⟨a1, a2, a3, a4, a5, a6, a7, a8⟩ := id hB
  obtain ⟨-, b3, b4, b5⟩ := hI.2.2.2.2.1
  have hW : ∀ s s', (∀ i, i < n → s i = s' i) → wv ns bg op nu sz (σ 5) (σ 7) s n g ou ce gs wt wa = wv ns bg op nu sz (τ 10) (τ 12) s' n g ou ce gs wt wa := fun s s' hs => wv_congr (fun i hi => b3 i (by omega)) b5 hs
  have hh : ∀ c h, c < n → (hp (fun sp => wv ns bg op nu sz (σ 5) (σ 7) sp n g ou ce gs wt wa) (σ 6) c h ↔ hp (fun sp => wv ns bg op nu sz (τ 10) (τ 12) sp n g ou ce gs wt wa) (τ 11) c h) := fun c h hc => hp_congr (n := n) hW (fun i hi => b4 i (by omega)) hc
  unfold wX11_rest wX11_rest_b38 wX12_rest
  refine p_wishB hB (fun σ2 f2 h2 => ?_)
  have s2 : SameB σ2 σ := sB_of (fun j q1 q2 q3 q4 q5 => f2 j q1 q3 q4 q5)
  have q5 : σ2 5 = σ 5 := f2 5 (by decide) (by decide) (by decide) (by decide)
  have q6 : σ2 6 = σ 6 := f2 6 (by decide) (by decide) (by decide) (by decide)
  have q7 : σ2 7 = σ 7 := f2 7 (by decide) (by decide) (by decide) (by decide)
  refine ⟨n + 1, p_restB (σ0 := σ) hB rfl (fun σ3 s3 hex => ?_) (fun σ3 s3 hno => ?_) n 0 σ2 (by omega) s2 (fun i hi => by omega)⟩
  · refine p_wishM hM (fun τ2 g2 g20 => ⟨n + 1, p_restM (τ0 := τ) hM rfl (fun τ3 t3 _ => ⟨rfl, Inv_fr s3 t3 hI⟩) (fun τ3 t3 hno => ?_) n 0 τ2 (by omega) (sM_of g2 g20) (fun i hi => by omega)⟩)
    obtain ⟨c, hc, hv⟩ := hex
    rw [hh c 1 hc, hh c (-1) hc] at hv
    exact absurd hv (hno c hc)
  · refine p_wishM hM (fun τ2 g2 g20 => ⟨n + 1, p_restM (τ0 := τ) hM rfl (fun τ3 t3 hex => ?_) (fun τ3 t3 _ => ⟨rfl, Inv_fr s3 t3 hI⟩) n 0 τ2 (by omega) (sM_of g2 g20) (fun i hi => by omega)⟩)
    obtain ⟨c, hc, hv⟩ := hex
    rw [← hh c 1 hc, ← hh c (-1) hc] at hv
    exact absurd hv (hno c hc)
