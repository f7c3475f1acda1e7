/-! the reference's loops over nodes and stencils -/
/-- what the loop over nodes owes at a fault -/
def FlN (τ0 : Sg) (R : PR) (k152 k171 : Sg → Prop) : Prop := ∀ c pl, R = .inl (c, pl) → ∀ τ, FrM τ τ0 → τ 0 14 = nI pl → (c = 1 → k152 τ) ∧ (c = 3 → k171 τ)
theorem TkR_end {c : Nat} {v r w : Int32} (h : TkR c v r w) : r = 0 ↔ c = 13 := by
  rcases h with ⟨hW, hr, hw⟩ | ⟨hc, hr, hw⟩ | ⟨hc, hr, hw⟩ | ⟨hc, hr, hw⟩ | ⟨hc, hr, hw⟩ | ⟨hc, hr, hw⟩ | ⟨hc, hr⟩ | ⟨hc, hr | ⟨hr, hw⟩⟩
  · have := isW_c hW
    exact ⟨fun q => absurd (hr.symm.trans q) (by decide), fun q => by omega⟩
  · exact ⟨fun q => absurd (hr.symm.trans q) (by decide), fun q => by omega⟩
  · exact ⟨fun q => absurd (hr.symm.trans q) (by decide), fun q => by omega⟩
  · exact ⟨fun q => absurd (hr.symm.trans q) (by decide), fun q => by omega⟩
  · exact ⟨fun q => absurd (hr.symm.trans q) (by decide), fun q => by omega⟩
  · exact ⟨fun q => absurd (hr.symm.trans q) (by decide), fun q => by omega⟩
  · exact ⟨fun _ => hc, fun _ => hr⟩
  · exact ⟨fun q => absurd (hr.symm.trans q) (by decide), fun q => by omega⟩
  · exact ⟨fun q => absurd (hr.symm.trans q) (by decide), fun q => by omega⟩
theorem TkR_cell {c : Nat} {v r w : Int32} (h : TkR c v r w) : (r = 1 ∧ w = 63030) ↔ c = 11 := by
  rcases h with ⟨hW, hr, hw⟩ | ⟨hc, hr, hw⟩ | ⟨hc, hr, hw⟩ | ⟨hc, hr, hw⟩ | ⟨hc, hr, hw⟩ | ⟨hc, hr, hw⟩ | ⟨hc, hr⟩ | ⟨hc, hr | ⟨hr, hw⟩⟩
  · rcases isW_c hW with h | h | h | h | h | h | h | h
    · exact ⟨fun q => absurd (hw.symm.trans q.2) (by rw [h]; decide), fun q => by omega⟩
    · exact ⟨fun q => absurd (hw.symm.trans q.2) (by rw [h]; decide), fun q => by omega⟩
    · exact ⟨fun q => absurd (hw.symm.trans q.2) (by rw [h]; decide), fun q => by omega⟩
    · exact ⟨fun q => absurd (hw.symm.trans q.2) (by rw [h]; decide), fun q => by omega⟩
    · exact ⟨fun q => absurd (hw.symm.trans q.2) (by rw [h]; decide), fun q => by omega⟩
    · exact ⟨fun q => absurd (hw.symm.trans q.2) (by rw [h]; decide), fun q => by omega⟩
    · exact ⟨fun q => absurd (hw.symm.trans q.2) (by rw [h]; decide), fun q => by omega⟩
    · exact ⟨fun _ => h, fun _ => ⟨hr, by rw [hw, h]; rfl⟩⟩
  · exact ⟨fun q => absurd (hr.symm.trans q.1) (by decide), fun q => by omega⟩
  · exact ⟨fun q => absurd (hr.symm.trans q.1) (by decide), fun q => by omega⟩
  · exact ⟨fun q => absurd (hr.symm.trans q.1) (by decide), fun q => by omega⟩
  · exact ⟨fun q => absurd (hr.symm.trans q.1) (by decide), fun q => by omega⟩
  · exact ⟨fun q => absurd (hr.symm.trans q.1) (by decide), fun q => by omega⟩
  · exact ⟨fun q => absurd (hr.symm.trans q.1) (by decide), fun q => by omega⟩
  · exact ⟨fun q => absurd (hr.symm.trans q.1) (by decide), fun q => by omega⟩
  · exact ⟨fun q => absurd q.2 (hw 11 (Or.inr (by decide))), fun q => by omega⟩
theorem TkR_semi {c : Nat} {v r w : Int32} (h : TkR c v r w) : (r = 3 ∧ w = 59) ↔ c = 12 := by
  rcases h with ⟨hW, hr, hw⟩ | ⟨hc, hr, hw⟩ | ⟨hc, hr, hw⟩ | ⟨hc, hr, hw⟩ | ⟨hc, hr, hw⟩ | ⟨hc, hr, hw⟩ | ⟨hc, hr⟩ | ⟨hc, hr | ⟨hr, hw⟩⟩
  · have := isW_c hW
    exact ⟨fun q => absurd (hr.symm.trans q.1) (by decide), fun q => by omega⟩
  · exact ⟨fun q => absurd (hr.symm.trans q.1) (by decide), fun q => by omega⟩
  · exact ⟨fun q => absurd (hw.symm.trans q.2) (by decide), fun q => by omega⟩
  · exact ⟨fun q => absurd (hw.symm.trans q.2) (by decide), fun q => by omega⟩
  · exact ⟨fun q => absurd (hw.symm.trans q.2) (by decide), fun q => by omega⟩
  · exact ⟨fun _ => hc, fun _ => ⟨hr, hw⟩⟩
  · exact ⟨fun q => absurd (hr.symm.trans q.1) (by decide), fun q => by omega⟩
  · exact ⟨fun q => absurd (hr.symm.trans q.1) (by decide), fun q => by omega⟩
  · exact ⟨fun q => absurd (hr.symm.trans q.1) (by decide), fun q => by omega⟩
theorem kd_ne0 {c : Nat} (h : c ≤ 10) : ¬ nI (kdOf c) = 0 := (by decide +kernel : ∀ o : Fin 11, ¬ nI (kdOf o.val) = 0) ⟨c, by omega⟩
section NODES
variable {ta : Nat → Int32} {L b0 : Nat} {τ0 : Sg} {k224 k152 k171 : Sg → Prop} {Q : Int32 → Sg → Prop}
theorem p_step {s : PS} {st : Nat → Nat} {dd m N1 : Nat} {τ : Sg} (hL : L ≤ 300) (h5 : τ0 0 5 = nI L) (h4 : ∀ i, i < 300 → τ0 4 i = ta i) (hb0 : b0 + 20 ≤ 60) (hdd : dd ≤ 6) (ho : OkS L b0 s) (hst : st dd = m + 1) (hm : m ≤ 4) (hN : RN τ0 τ s st dd)
    (hbad : 10 < tkC ta L s.1 → ∀ τ', FrM τ' τ0 → τ' 0 14 = nI (tkB ta L s.1) → k152 τ') (hmany : tkC ta L s.1 ≤ 10 → (6 < dd + 1 ∨ 20 ≤ s.2.1 - b0) → ∀ τ', FrM τ' τ0 → τ' 0 14 = nI (tkB ta L s.1) → k171 τ')
    (hgo : tkC ta L s.1 ≤ 10 → ¬ (6 < dd + 1 ∨ 20 ≤ s.2.1 - b0) → ∀ τ', RN τ0 τ' (nxS ta L s) (updN (updN st dd m) (dd + 1) (prt (tkC ta L s.1))) (dd + 1) → wX12_readAll_L95 (nI b0) k224 k152 k171 Q N1 (nI (dd + 1)) τ') : wX12_readAll_L95 (nI b0) k224 k152 k171 Q (N1 + 1) (nI dd) τ := by
  obtain ⟨n1, n2, n3, n4, n5, n6, n7⟩ := hN
  obtain ⟨o1, o2, o3, o4⟩ := ho
  have idd : vp_in (nI dd) 8 := vp_in_nI (by omega) (by decide)
  have h9 : τ 9 dd = nI (m + 1) := by rw [n7 dd (Nat.le_refl _), hst]
  unfold wX12_readAll_L95
  rw [nI_clamp (by omega), h9]
  refine ⟨fun z => absurd z (nI_pos (by omega)), fun _ => ⟨idd, fun z => absurd z (nI_ne0 (by omega) (by omega)), fun _ => ?_⟩⟩
  have k5 : τ 0 5 = nI L := by rw [n1.2.1 5 (by decide) (by decide) (by decide) (by decide) (by decide)]; exact h5
  have k4 : ∀ i, i < 300 → τ 4 i = ta i := fun i hi => by rw [n1.1 4 (by decide) (by decide) (by decide) (by decide) (by decide)]; exact h4 i hi
  refine p_tok k5 hL k4 n4 o1 (fun τ18 r f18 g18 a13 a14 hR => ?_)
  have F18 : FrM τ18 τ0 := FrM_trans ⟨fun j q0 _ _ _ _ => f18 j q0, fun k q0 q1 q2 _ _ => g18 k q0 q1 q2, fun i _ => by rw [f18 5 (by decide)], fun i _ => by rw [f18 6 (by decide), f18 7 (by decide)]; exact ⟨rfl, rfl⟩⟩ n1
  have v17 : τ18 0 17 = nI s.2.1 := by rw [g18 17 (by decide) (by decide) (by decide)]; exact n5
  rw [v17]
  have body : ∀ i, i < 60 → (s.2.1 < 60 → i = s.2.1) → wX12_readAll_b141 (nI b0) (nI dd) (nI i) 60 r τ18 k224 k152 k171 (wX12_readAll_L95 (nI b0) k224 k152 k171 Q N1) Q := by
    intro i hi hin
    unfold wX12_readAll_b141
    rw [show (60 : Int32) + nI i = nI (60 + i) from nI_add 60 i]
    have FM : ∀ τ', Mk τ' τ18 i → FrM τ' τ0 := fun τ' hM => FrM_trans ⟨fun j _ _ _ q3 _ => hM.1 j q3, fun k _ _ _ _ _ => by rw [hM.1 0 (by decide)], fun q _ => by rw [hM.1 5 (by decide)], fun q hq => ⟨by rw [hM.1 6 (by decide)], hM.2 q (by omega)⟩⟩ F18
    refine p_kindM hi hR (fun hc τ21 hM hmk => ⟨fun z => absurd z (kd_ne0 hc), fun _ => ?_⟩) (fun hc τ21 hM => ⟨fun _ => hbad hc τ21 (FM τ21 hM) (by rw [hM.1 0 (by decide)]; exact a14), fun w => absurd rfl w⟩)
    have w17 : τ21 0 17 = nI s.2.1 := by rw [hM.1 0 (by decide)]; exact v17
    have p14 : τ21 0 14 = nI (tkB ta L s.1) := by rw [hM.1 0 (by decide)]; exact a14
    have e20 : nI s.2.1 - nI b0 = 20 ↔ 20 ≤ s.2.1 - b0 := by
      rw [pk_sub o2, show (20 : Int32) = nI 20 from rfl, nI_eq (by omega) (by decide)]; omega
    have e6 : nI dd = 6 ↔ 6 < dd + 1 := by
      rw [show (6 : Int32) = nI 6 from rfl, nI_eq (by omega) (by decide)]; omega
    rw [w17]
    refine ⟨fun z => hmany hc (Or.inr (e20.mp z)) τ21 (FM τ21 hM) p14, fun z => ⟨fun w => hmany hc (Or.inl (e6.mp w)) τ21 (FM τ21 hM) p14, fun w => ?_⟩⟩
    have z' : ¬ 20 ≤ s.2.1 - b0 := fun q => z (e20.mpr q)
    have w' : ¬ 6 < dd + 1 := fun q => w (e6.mpr q)
    have hii := hin (by omega)
    subst hii
    rw [show (60 : Int32) + nI s.2.1 = nI (60 + s.2.1) from nI_add 60 _, nI_clamp (by omega)]
    refine ⟨vp_in_nI (by omega) (by decide), fun τ25 e25 τ26 e26 => ⟨idd, idd, fun τ27 e27 x3 e3 => ?_⟩⟩
    have f26 : ∀ j, j ≠ 0 → j ≠ 6 → τ26 j = τ21 j := fun j q1 q2 => by rw [e26, sto_ne _ _ _ q1, e25, sto_ne _ _ _ q2]
    have v9 : τ26 9 dd = nI (m + 1) := by rw [f26 9 (by decide) (by decide), hM.1 9 (by decide), f18 9 (by decide)]; exact h9
    rw [nI_clamp (by omega), v9, nI_sub1] at e27
    rw [nI_1] at e3
    rw [e3]
    refine p_child hc ⟨vp_in_nI (by omega) (by decide), fun τ31 e31 => hgo hc (fun q => q.elim w' z') τ31 ?_⟩
    rw [nI_clamp (by omega)] at e31
    have f31 : ∀ j, j ≠ 9 → τ31 j = τ26 j := fun j hj => by rw [e31, sto_ne _ _ _ hj, e27, sto_ne _ _ _ hj]
    have g31 : ∀ k, k ≠ 17 → τ31 0 k = τ21 0 k := fun k hk => by rw [f31 0 (by decide), e26, sto_off _ _ _ hk, e25, sto_ne _ _ _ (by decide)]
    have v6 : τ31 6 = upd (τ18 6) (60 + s.2.1) (nI (kdOf (tkC ta L s.1))) := by rw [f31 6 (by decide), e26, sto_ne _ _ _ (by decide), e25, sto_same, hM.1 6 (by decide)]
    have v7 : τ31 7 = τ21 7 := by rw [f31 7 (by decide), f26 7 (by decide) (by decide)]
    have v5 : τ31 5 = τ21 5 := by rw [f31 5 (by decide), f26 5 (by decide) (by decide)]
    refine ⟨FrM_trans ⟨fun j q0 q1 q2 q3 q4 => by rw [f31 j q4, f26 j q0 q2], fun k q0 q1 q2 q3 q4 => g31 k q3, fun q _ => by rw [v5], fun q hq => ⟨by rw [v6, pk_un (by omega), hM.1 6 (by decide)], by rw [v7]⟩⟩ (FM τ21 hM), ?_, ?_, ?_, ?_, fun q hq => ?_, fun j hj => ?_⟩
    · rw [v5, hM.1 5 (by decide), f18 5 (by decide)]; exact n2
    · rw [g31 18 (by decide), hM.1 0 (by decide), g18 18 (by decide) (by decide) (by decide)]; exact n3
    · rw [g31 13 (by decide), hM.1 0 (by decide)]; exact a13
    · show τ31 0 17 = nI (s.2.1 + 1)
      rw [f31 0 (by decide), e26, sto_at, e25, sto_ne _ _ _ (by decide), w17, nI_1]
    · have hq' : q < s.2.1 + 1 := hq
      show τ31 6 (60 + q) = nI (kdOf (updN s.2.2.1 s.2.1 (tkC ta L s.1) q)) ∧ (updN s.2.2.1 s.2.1 (tkC ta L s.1) q ≠ 10 → τ31 7 (60 + q) = mkOf (updN s.2.2.1 s.2.1 (tkC ta L s.1) q) (upd s.2.2.2.1 s.2.1 (tkV ta L s.1) q))
      by_cases e : q = s.2.1
      · rw [e, updN_s, pk_us, v6, pk_us, v7]
        exact ⟨rfl, hmk⟩
      · rw [updN_n e, pk_un e, v6, pk_un (by omega), v7, hM.2 (60 + q) (by omega), f18 6 (by decide), f18 7 (by decide)]
        exact n6 q (by omega)
    · by_cases c1 : j = dd + 1
      · rw [c1, e31, sto_at, updN_s]
      · rw [e31, sto_off _ _ _ c1, updN_n c1, e27]
        by_cases c2 : j = dd
        · rw [c2, sto_at, updN_s]
        · rw [sto_off _ _ _ c2, updN_n c2, f26 9 (by decide) (by decide), hM.1 9 (by decide), f18 9 (by decide)]
          exact n7 j (by omega)
  refine ⟨fun z => ?_, fun z => ?_⟩
  · have z' : 60 ≤ s.2.1 := (nI_leI (a := 60) (by decide) (by omega)).mp z
    exact body 59 (by decide) (fun q => by omega)
  · have z' : ¬ 60 ≤ s.2.1 := fun q => z (nI_le (a := 60) q (by omega))
    exact body s.2.1 (by omega) (fun _ => rfl)
theorem p_pop {s : PS} {st : Nat → Nat} {dd N : Nat} {τ : Sg} (hdd : dd ≤ 6) (hst : st (dd + 1) = 0) (hN : RN τ0 τ s st (dd + 1)) (h : wX12_readAll_L95 (nI b0) k224 k152 k171 Q N (nI dd) τ) : wX12_readAll_L95 (nI b0) k224 k152 k171 Q (N + 1) (nI (dd + 1)) τ := by
  have h9 : τ 9 (dd + 1) = 0 := by rw [hN.2.2.2.2.2.2 (dd + 1) (Nat.le_refl _), hst]; rfl
  unfold wX12_readAll_L95
  rw [nI_clamp (by omega), h9]
  refine ⟨fun z => absurd z (nI_pos (by omega)), fun _ => ⟨vp_in_nI (by omega) (by decide), fun _ x3 e3 => ?_, fun z => absurd rfl z⟩⟩
  rw [e3, add_m1, nI_sub1]
  exact h
theorem RN_st {s : PS} {st st' : Nat → Nat} {dd : Nat} {τ : Sg} (h : ∀ j, j ≤ dd → st j = st' j) (hN : RN τ0 τ s st dd) : RN τ0 τ s st' dd := by
  obtain ⟨n1, n2, n3, n4, n5, n6, n7⟩ := hN
  exact ⟨n1, n2, n3, n4, n5, n6, fun j hj => by rw [n7 j hj, h j hj]⟩
theorem p_rK {g : PS → PR} {dd : Nat} (hdd : dd ≤ 5) (hg : ∀ s s', OkS L b0 s → g s = .inr s' → OkS L b0 s')
    (ih : ∀ (s : PS) (st : Nat → Nat) (m : Nat), m ≤ 4 → OkS L b0 s → st (dd + 1) = m + 1 → FlN τ0 (g s) k152 k171 → (∀ s', g s = .inr s' → ∃ N, ∀ τ, RN τ0 τ s' (updN st (dd + 1) m) (dd + 1) → wX12_readAll_L95 (nI b0) k224 k152 k171 Q N (nI (dd + 1)) τ) → ∃ N, ∀ τ, RN τ0 τ s st (dd + 1) → wX12_readAll_L95 (nI b0) k224 k152 k171 Q N (nI (dd + 1)) τ) :
    ∀ (k : Nat) (s : PS) (st : Nat → Nat), k ≤ 4 → OkS L b0 s → st (dd + 1) = k → FlN τ0 (rdK g k s) k152 k171 → (∀ s', rdK g k s = .inr s' → ∃ N, ∀ τ, RN τ0 τ s' (updN st (dd + 1) 0) (dd + 1) → wX12_readAll_L95 (nI b0) k224 k152 k171 Q N (nI (dd + 1)) τ) → ∃ N, ∀ τ, RN τ0 τ s st (dd + 1) → wX12_readAll_L95 (nI b0) k224 k152 k171 Q N (nI (dd + 1)) τ
  | 0, s, st, hk, ho, hst, hF, hS => by
    obtain ⟨N, hN⟩ := hS s rfl
    refine ⟨N, fun τ hτ => hN τ (RN_st (fun j hj => ?_) hτ)⟩
    by_cases c : j = dd + 1
    · rw [c, updN_s, hst]
    · rw [updN_n c]
  | k + 1, s, st, hk, ho, hst, hF, hS => by
    refine ih s st k (by omega) ho hst (fun c pl hc => hF c pl (rdK_f hc)) (fun s' hs' => ?_)
    unfold FlN at hF
    rw [rdK_s hs'] at hF hS
    refine p_rK hdd hg ih k s' (updN st (dd + 1) k) (by omega) (hg s s' ho hs') updN_s hF (fun s2 h2 => ?_)
    obtain ⟨N, hN⟩ := hS s2 h2
    refine ⟨N, fun τ hτ => hN τ (RN_st (fun j hj => ?_) hτ)⟩
    by_cases c : j = dd + 1
    · rw [c, updN_s, updN_s]
    · rw [updN_n c, updN_n c, updN_n c]
theorem p_rN (hL : L ≤ 300) (h5 : τ0 0 5 = nI L) (h4 : ∀ i, i < 300 → τ0 4 i = ta i) (hb0 : b0 + 20 ≤ 60) : ∀ (f dd : Nat) (s : PS) (st : Nat → Nat) (m : Nat), f + (dd + 1) = 9 → dd ≤ 6 → m ≤ 4 → OkS L b0 s → st dd = m + 1 → FlN τ0 (rdN ta L b0 f (dd + 1) s) k152 k171 → (∀ s', rdN ta L b0 f (dd + 1) s = .inr s' → ∃ N, ∀ τ, RN τ0 τ s' (updN st dd m) dd → wX12_readAll_L95 (nI b0) k224 k152 k171 Q N (nI dd) τ) → ∃ N, ∀ τ, RN τ0 τ s st dd → wX12_readAll_L95 (nI b0) k224 k152 k171 Q N (nI dd) τ
  | 0, dd, s, st, m, hf, hd, hm, ho, hst, hF, hS => by omega
  | f + 1, dd, s, st, m, hf, hd, hm, ho, hst, hF, hS => by
    by_cases c1 : 10 < tkC ta L s.1
    · exact ⟨1, fun τ hτ => p_step (N1 := 0) hL h5 h4 hb0 hd ho hst hm hτ (fun _ τ' f' v' => (hF 1 _ (rdN_1 c1) τ' f' v').1 rfl) (fun q => by omega) (fun q => by omega)⟩
    by_cases c2 : 6 < dd + 1 ∨ 20 ≤ s.2.1 - b0
    · exact ⟨1, fun τ hτ => p_step (N1 := 0) hL h5 h4 hb0 hd ho hst hm hτ (fun q => by omega) (fun _ _ τ' f' v' => (hF 3 _ (rdN_3 c1 c2) τ' f' v').2 rfl) (fun _ q => absurd c2 q)⟩
    have hprt : prt (tkC ta L s.1) ≤ 4 := by unfold prt; split; omega; split <;> omega
    have c3 : ¬ 20 ≤ s.2.1 - b0 := fun q => c2 (Or.inr q)
    have key : ∃ N, ∀ τ, RN τ0 τ (nxS ta L s) (updN (updN st dd m) (dd + 1) (prt (tkC ta L s.1))) (dd + 1) → wX12_readAll_L95 (nI b0) k224 k152 k171 Q N (nI (dd + 1)) τ := by
      refine p_rK (L := L) (b0 := b0) (g := rdN ta L b0 f (dd + 1 + 1)) (by omega) (fun a b ha hb => (rdN_ok f (dd + 1 + 1) a b ha hb).1) (fun s2 st2 m2 hm2 ho2 hst2 hF2 hS2 => p_rN hL h5 h4 hb0 f (dd + 1) s2 st2 m2 (by omega) (by omega) hm2 ho2 hst2 hF2 hS2) (prt (tkC ta L s.1)) (nxS ta L s) _ hprt (nxS_ok ho c3) updN_s (fun c pl hc => hF c pl (rdN_f c1 c2 hc)) (fun s' hs' => ?_)
      obtain ⟨N, hN⟩ := hS (clS s.2.1 s') (rdN_s c1 c2 hs')
      refine ⟨N + 1, fun τ hτ => p_pop hd updN_s hτ (hN τ ?_)⟩
      obtain ⟨n1, n2, n3, n4, n5, n6, n7⟩ := hτ
      refine ⟨n1, n2, n3, n4, n5, n6, fun j hj => ?_⟩
      rw [n7 j (by omega), updN_n (by omega), updN_n (by omega)]
    obtain ⟨N, hN⟩ := key
    exact ⟨N + 1, fun τ hτ => p_step hL h5 h4 hb0 hd ho hst hm hτ (fun q => by omega) (fun _ q => absurd q c2) (fun _ _ τ' h' => hN τ' h')⟩
end NODES
def RepM (τ0 τ : Sg) (t : TS) : Prop := FrM τ τ0 ∧ τ 0 18 = nI t.1 ∧ τ 0 17 = nI t.2.2.2.1 ∧ τ 0 13 = nI t.2.2.1 ∧ (∀ k, k < t.1 → τ 5 (4 + k) = nI (t.2.1 k)) ∧ NdS τ t.2.2.2.2.1 t.2.2.2.2.2.1 t.2.2.2.1
theorem FrM_tok {τ τ' : Sg} (f : ∀ j, j ≠ 0 → τ' j = τ j) (g : ∀ k, k ≠ 13 → k ≠ 14 → k ≠ 15 → τ' 0 k = τ 0 k) : FrM τ' τ := ⟨fun j q0 _ _ _ _ => f j q0, fun k q0 q1 q2 _ _ => g k q0 q1 q2, fun i _ => by rw [f 5 (by decide)], fun i _ => by rw [f 6 (by decide), f 7 (by decide)]; exact ⟨rfl, rfl⟩⟩
theorem p_L15 {ta : Nat → Int32} {L : Nat} {τ0 : Sg} {Q : Int32 → Sg → Prop} {k31 k1 k3 : Sg → Prop} (hL : L ≤ 300) (h5 : τ0 0 5 = nI L) (h4 : ∀ i, i < 300 → τ0 4 i = ta i) : ∀ (f : Nat) (t : TS) (τ : Sg), f + t.1 = 5 → OkT L t → RepM τ0 τ t → (∀ c pl, rdT ta L f t = .inl (c, pl) → ∀ τ', FrM τ' τ0 → τ' 0 14 = nI pl → (c = 1 → k1 τ') ∧ (c = 3 → k3 τ')) → (∀ t' τ', rdT ta L f t = .inr t' → OkT L t' → 0 < t'.1 → FrM τ' τ0 → τ' 0 18 = nI t'.1 → τ' 0 17 = nI t'.2.2.2.1 → (∀ k, k < t'.1 → τ' 5 (4 + k) = nI (t'.2.1 k)) → NdS τ' t'.2.2.2.2.1 t'.2.2.2.2.2.1 t'.2.2.2.1 → k31 τ') → wX12_readAll_L15 k31 k1 k3 k1 k3 k1 Q f τ
  | 0, t, τ, hf, ho, hR, hF, hS => by have := ho.1; omega
  | f + 1, t, τ, hf, ho, hR, hF, hS => by
    obtain ⟨r1, r2, r3, r4, r5, r6⟩ := hR
    have hns := ho.1
    have hpL := ho.2.1
    have k5 : τ 0 5 = nI L := by rw [r1.2.1 5 (by decide) (by decide) (by decide) (by decide) (by decide)]; exact h5
    have k4 : ∀ i, i < 300 → τ 4 i = ta i := fun i hi => by rw [r1.1 4 (by decide) (by decide) (by decide) (by decide) (by decide)]; exact h4 i hi
    unfold wX12_readAll_L15
    refine p_tok k5 hL k4 r4 hpL (fun τ5 r f5 g5 a13 a14 hR5 => ?_)
    have F5 : FrM τ5 τ0 := FrM_trans (FrM_tok f5 g5) r1
    have v18 : τ5 0 18 = nI t.1 := by rw [g5 18 (by decide) (by decide) (by decide)]; exact r2
    have v17 : τ5 0 17 = nI t.2.2.2.1 := by rw [g5 17 (by decide) (by decide) (by decide)]; exact r3
    have E := TkR_end hR5
    have C := TkR_cell hR5
    rw [v18]
    have le0 : nI t.1 ≤ 0 ↔ t.1 = 0 := by
      rw [show (0 : Int32) = nI 0 from rfl, nI_leI (by omega) (by decide)]; omega
    have b33 : ¬ (tkC ta L t.2.2.1 = 13 ∧ 0 < t.1) → wX12_readAll_b33 r τ5 k31 k1 k3 k1 k3 k1 (wX12_readAll_L15 k31 k1 k3 k1 k3 k1 Q f) Q := by
      intro ne
      have bad : tkC ta L t.2.2.1 ≠ 11 → k1 τ5 := fun q => (hF 1 _ (rdT_f ne (rdS_1 q)) τ5 F5 a14).1 rfl
      unfold wX12_readAll_b33
      refine ⟨fun z => p_wcell ⟨fun w => ?_, fun w => bad (fun q => w (C.mpr q).2)⟩, fun z => bad (fun q => z (C.mpr q).1)⟩
      have c11 := C.mp ⟨z, w⟩
      have e3 : nI t.1 = 3 ↔ t.1 = 3 := nI_eq (b := 3) (by omega) (by decide)
      rw [v18, v17]
      refine ⟨fun y => (hF 3 _ (rdT_f ne (rdS_3 c11 (by have := e3.mp y; omega))) τ5 F5 a14).2 rfl, fun y => ?_⟩
      have y' : ¬ 3 ≤ t.1 := fun q => y (e3.mpr (by omega))
      rw [show (4 : Int32) + nI t.1 = nI (4 + t.1) from nI_add 4 _, nI_clamp (by omega)]
      refine ⟨vp_in_nI (by omega) (by decide), fun τ12 e12 x2 ex2 => ⟨vin 0 8 (by decide) (by decide), fun τ14 e14 => ?_⟩⟩
      have v17' : τ12 0 17 = nI t.2.2.2.1 := by rw [e12, sto_ne _ _ _ (by decide)]; exact v17
      rw [v17', ← ho.2.2.2.1] at ex2
      rw [ex2]
      have f14 : ∀ j, j ≠ 5 → j ≠ 9 → τ14 j = τ5 j := fun j q1 q2 => by rw [e14, sto_ne _ _ _ q2, e12, sto_ne _ _ _ q1]
      have v5 : τ14 5 = upd (τ5 5) (4 + t.1) (nI (t.2.1 t.1)) := by rw [e14, sto_ne _ _ _ (by decide), e12, sto_same, ho.2.2.2.1]
      have F14 : FrM τ14 τ0 := FrM_trans ⟨fun j _ q1 _ _ q4 => f14 j q1 q4, fun k _ _ _ _ _ => by rw [f14 0 (by decide) (by decide)], fun i hi => by rw [v5, pk_un (by omega)], fun i _ => by rw [f14 6 (by decide) (by decide), f14 7 (by decide) (by decide)]; exact ⟨rfl, rfl⟩⟩ F5
      have b60 : t.2.1 t.1 + 20 ≤ 60 := by have := ho.2.2.2.1; have := ho.2.2.2.2.1; omega
      have hE := tkE_rng (ta := ta) hpL
      have hSs := OkT_S ho hE.2
      have hfl : FlN τ14 (rdN ta L (t.2.1 t.1) 8 (0 + 1) (tkE ta L t.2.2.1, t.2.2.2)) (fun σ_39 => k1 σ_39) (fun σ_40 => k3 σ_40) := fun c pl hc τ' f' v' => hF c pl (rdT_f ne (rdS_f c11 y' hc)) τ' (FrM_trans f' F14) v'
      have fin : ∃ N, ∀ τ, RN τ14 τ (tkE ta L t.2.2.1, t.2.2.2) (fun _ => 1) 0 → wX12_readAll_L95 (nI (t.2.1 t.1)) (fun σ_33 => (∀ σ_34, σ_34 = sto σ_33 0 18 ((σ_33 0 18) + 1) → (wX12_token σ_34 (fun r_35 σ_36 => ((r_35 = 3 → (((σ_36 0 15) = 59 → wX12_readAll_L15 k31 k1 k3 k1 k3 k1 Q f σ_36) ∧ (¬ (σ_36 0 15) = 59 → k1 σ_36))) ∧ (¬ r_35 = 3 → k1 σ_36)))))) (fun σ_39 => k1 σ_39) (fun σ_40 => k3 σ_40) Q N (nI 0) τ := by
        refine p_rN (τ0 := τ14) (Q := Q) hL (by rw [F14.2.1 5 (by decide) (by decide) (by decide) (by decide) (by decide)]; exact h5) (fun i hi => by rw [F14.1 4 (by decide) (by decide) (by decide) (by decide) (by decide)]; exact h4 i hi) b60 8 0 (tkE ta L t.2.2.1, t.2.2.2) (fun _ => 1) 0 (by decide) (by decide) (by decide) hSs rfl hfl (fun s' hs' => ⟨2, fun τ' hτ' => ?_⟩)
        -- the node has been read: pop, then ';'
        obtain ⟨n1, n2, n3, n4, n5, n6, n7⟩ := hτ'
        have h9 : τ' 9 0 = 0 := by rw [n7 0 (Nat.le_refl _), updN_s]; rfl
        obtain ⟨o', x', lt', -⟩ := rdN_ok 8 1 _ _ hSs hs'
        have hE' := tkE_rng (ta := ta) o'.1
        show wX12_readAll_L95 (nI (t.2.1 t.1)) _ _ _ Q 2 (nI 0) τ'
        unfold wX12_readAll_L95
        rw [nI_clamp (by decide), h9]
        refine ⟨fun z => absurd z (nI_pos (by decide)), fun _ => ⟨vin 0 8 (by decide) (by decide), fun _ x3 e3 => ?_, fun z => absurd rfl z⟩⟩
        rw [e3, add_m1]
        unfold wX12_readAll_L95
        refine ⟨fun _ τ34 e34 => ?_, fun z => absurd m1_lt z⟩
        have FT : FrM τ' τ0 := FrM_trans n1 F14
        have f34 : ∀ j, j ≠ 0 → τ34 j = τ' j := fun j hj => by rw [e34, sto_ne _ _ _ hj]
        have g34 : ∀ k, k ≠ 18 → τ34 0 k = τ' 0 k := fun k hk => by rw [e34, sto_off _ _ _ hk]
        have F34 : FrM τ34 τ0 := FrM_trans ⟨fun j q0 _ _ _ _ => f34 j q0, fun k _ _ _ _ q4 => g34 k q4, fun i _ => by rw [f34 5 (by decide)], fun i _ => by rw [f34 6 (by decide), f34 7 (by decide)]; exact ⟨rfl, rfl⟩⟩ FT
        have w18 : τ34 0 18 = nI (t.1 + 1) := by rw [e34, sto_at, n3, f14 0 (by decide) (by decide), v18, nI_1]
        refine p_tok (p := s'.1) (ta := ta) (by rw [F34.2.1 5 (by decide) (by decide) (by decide) (by decide) (by decide)]; exact h5) hL (fun i hi => by rw [F34.1 4 (by decide) (by decide) (by decide) (by decide) (by decide)]; exact h4 i hi) (by rw [g34 13 (by decide)]; exact n4) o'.1 (fun τ36 r36 f36 g36 b13 b14 hR36 => ?_)
        have S := TkR_semi hR36
        have F36 : FrM τ36 τ0 := FrM_trans (FrM_tok f36 g36) F34
        have bad2 : tkC ta L s'.1 ≠ 12 → k1 τ36 := fun q => (hF 1 _ (rdT_f ne (rdS_e c11 y' hs' q)) τ36 F36 b14).1 rfl
        refine ⟨fun z2 => ⟨fun w2 => ?_, fun w2 => bad2 (fun q => w2 (S.mpr q).2)⟩, fun z2 => bad2 (fun q => z2 (S.mpr q).1)⟩
        have c12 := S.mp ⟨z2, w2⟩
        have hs2 := rdS_s c11 y' hs' c12
        rw [rdT_s ne hs2] at hF hS
        have okt := rdS_ok ho y' hE.2 hs' hE'.2
        have w5 : ∀ q, τ36 5 q = upd (τ5 5) (4 + t.1) (nI (t.2.1 t.1)) q := fun q => by rw [f36 5 (by decide), f34 5 (by decide), n2, v5]
        refine p_L15 hL h5 h4 f _ τ36 (by show f + (t.1 + 1) = 5; omega) okt ⟨F36, ?_, ?_, b13, fun k hk => ?_, fun i hi => ?_⟩ hF hS
        · rw [g36 18 (by decide) (by decide) (by decide)]; exact w18
        · rw [g36 17 (by decide) (by decide) (by decide), g34 17 (by decide)]; exact n5
        · have hk' : k < t.1 + 1 := hk
          show τ36 5 (4 + k) = nI (updN t.2.1 (t.1 + 1) s'.2.1 k)
          rw [w5, updN_n (by omega)]
          by_cases e : k = t.1
          · rw [e, pk_us]
          · rw [pk_un (by omega), f5 5 (by decide)]; exact r5 k (by omega)
        · have := n6 i hi
          rw [f36 6 (by decide), f36 7 (by decide), f34 6 (by decide), f34 7 (by decide)]
          exact this
      obtain ⟨N, hN⟩ := fin
      refine ⟨N, hN τ14 ⟨FrM_refl _, rfl, rfl, ?_, ?_, fun i hi => ?_, fun j hj => ?_⟩⟩
      · rw [f14 0 (by decide) (by decide)]; exact a13
      · rw [f14 0 (by decide) (by decide)]; exact v17
      · have := r6 i hi
        rw [f14 6 (by decide) (by decide), f14 7 (by decide) (by decide), f5 6 (by decide), f5 7 (by decide)]
        exact this
      · rw [Nat.le_zero.mp hj, e14, sto_at]; rfl
    refine ⟨fun z => ⟨fun w => b33 (fun q => by have := le0.mp w; omega), fun w => ?_⟩, fun z => b33 (fun q => z (E.mpr q.1))⟩
    have w' : 0 < t.1 := by
      have : ¬ t.1 = 0 := fun q => w (le0.mpr q)
      omega
    refine hS t τ5 (rdT_e ⟨E.mp z, w'⟩) ho w' F5 v18 v17 (fun k hk => by rw [f5 5 (by decide)]; exact r5 k hk) (fun i hi => ?_)
    rw [f5 6 (by decide), f5 7 (by decide)]
    exact r6 i hi
