/-! slopes: the reference -/
theorem hS_3 (S : Nat → Int32) (c : Nat) (z : Nat → Int32) (v : Int32) : upd (hS S c z) c (hS S c z c + v) = hS S c (upd z 3 (z 3 + v)) := by
  funext j
  by_cases h : j = c
  · subst h; rw [pk_us]; unfold hS; rw [if_pos rfl, if_pos rfl, pk_us, Int32.add_assoc]
  · rw [pk_un h]; unfold hS; rw [if_neg h, if_neg h]
theorem hS_o (S : Nat → Int32) (c : Nat) (z : Nat → Int32) {o : Nat} (w : Int32) (h : o ≠ 3) : hS S c (upd z o w) = hS S c z := by
  funext j
  unfold hS
  rw [pk_un (Ne.symm h)]
theorem hA_3 (A : Nat → Int32) (c n : Nat) (z : Nat → Int32) (w : Int32) : hA A c n (upd z 3 w) = hA A c n z := by
  funext j
  unfold hA
  rw [pk_un (show (0 : Nat) ≠ 3 by decide), pk_un (show (1 : Nat) ≠ 3 by decide), pk_un (show (2 : Nat) ≠ 3 by decide)]
theorem hA_1 (A : Nat → Int32) (c n : Nat) (z : Nat → Int32) (v : Int32) : upd (hA A c n z) c (hA A c n z c + v) = hA A c n (upd z 1 (z 1 + v)) := by
  funext j
  by_cases h : j = c
  · subst h; rw [pk_us]; unfold hA; rw [if_pos rfl, if_pos rfl, pk_us, Int32.add_assoc]
  · rw [pk_un h]; unfold hA; rw [if_neg h, if_neg h, pk_un (show (0 : Nat) ≠ 1 by decide), pk_un (show (2 : Nat) ≠ 1 by decide)]
theorem hA_0 (A : Nat → Int32) {c : Nat} (n : Nat) (z : Nat → Int32) (v : Int32) (hc : c ≠ 0) : upd (hA A c n z) (c - 1) (hA A c n z (c - 1) + v) = hA A c n (upd z 0 (z 0 + v)) := by
  funext j
  by_cases h : j = c - 1
  · subst h; rw [pk_us]; unfold hA; rw [if_neg (by omega), if_pos (by omega), if_neg (by omega), if_pos (by omega), pk_us, Int32.add_assoc]
  · rw [pk_un h]; unfold hA; rw [pk_un (show (1 : Nat) ≠ 0 by decide), pk_un (show (2 : Nat) ≠ 0 by decide), if_neg (c := j + 1 = c) (by omega), if_neg (c := j + 1 = c) (by omega)]
theorem hA_0' (A : Nat → Int32) (n : Nat) (z : Nat → Int32) (w : Int32) : hA A 0 n (upd z 0 w) = hA A 0 n z := by
  funext j
  unfold hA
  rw [pk_un (show (1 : Nat) ≠ 0 by decide), pk_un (show (2 : Nat) ≠ 0 by decide), if_neg (c := j + 1 = 0) (by omega), if_neg (c := j + 1 = 0) (by omega)]
theorem hA_2 (A : Nat → Int32) {c n : Nat} (z : Nat → Int32) (v : Int32) (hc : c + 1 ≠ n) : upd (hA A c n z) (c + 1) (hA A c n z (c + 1) + v) = hA A c n (upd z 2 (z 2 + v)) := by
  funext j
  by_cases h : j = c + 1
  · subst h; rw [pk_us]; unfold hA; rw [if_neg (by omega), if_neg (by omega), if_pos ⟨rfl, hc⟩, if_neg (by omega), if_neg (by omega), if_pos ⟨rfl, hc⟩, pk_us, Int32.add_assoc]
  · have h2 : ¬ (j = c + 1 ∧ c + 1 ≠ n) := fun w => h w.1
    rw [pk_un h]; unfold hA; rw [pk_un (show (1 : Nat) ≠ 2 by decide), pk_un (show (0 : Nat) ≠ 2 by decide), if_neg h2, if_neg h2]
theorem hA_2' (A : Nat → Int32) {c n : Nat} (z : Nat → Int32) (w : Int32) (hc : c + 1 = n) : hA A c n (upd z 2 w) = hA A c n z := by
  funext j
  have h2 : ¬ (j = c + 1 ∧ c + 1 ≠ n) := fun w => w.2 hc
  unfold hA
  rw [pk_un (show (1 : Nat) ≠ 2 by decide), pk_un (show (0 : Nat) ≠ 2 by decide), if_neg h2, if_neg h2]
theorem hE_0 (E : Nat → Int32) (n : Nat) (z : Nat → Int32) (v : Int32) : upd (hE E 0 n z) 0 (hE E 0 n z 0 + v) = hE E 0 n (upd z 0 (z 0 + v)) := by
  funext j
  by_cases h : j = 0
  · subst h; rw [pk_us]; unfold hE; rw [if_pos rfl, if_pos rfl, if_pos rfl, if_pos rfl, pk_us, Int32.add_assoc]
  · rw [pk_un h]; unfold hE; rw [if_neg h, if_neg h, pk_un (show (2 : Nat) ≠ 0 by decide)]
theorem hE_0' (E : Nat → Int32) {c : Nat} (n : Nat) (z : Nat → Int32) (w : Int32) (hc : c ≠ 0) : hE E c n (upd z 0 w) = hE E c n z := by
  funext j
  unfold hE
  rw [if_neg hc, if_neg hc, pk_un (show (2 : Nat) ≠ 0 by decide)]
theorem hE_2 (E : Nat → Int32) {c n : Nat} (z : Nat → Int32) (v : Int32) (hc : c + 1 = n) : upd (hE E c n z) 1 (hE E c n z 1 + v) = hE E c n (upd z 2 (z 2 + v)) := by
  funext j
  by_cases h : j = 1
  · subst h; rw [pk_us]; unfold hE; rw [if_neg (by decide), if_pos rfl, if_pos hc, if_neg (by decide), if_pos rfl, if_pos hc, pk_us, Int32.add_assoc]
  · rw [pk_un h]; unfold hE; rw [if_neg h, if_neg h, pk_un (show (0 : Nat) ≠ 2 by decide)]
theorem hE_2' (E : Nat → Int32) {c n : Nat} (z : Nat → Int32) (w : Int32) (hc : c + 1 ≠ n) : hE E c n (upd z 2 w) = hE E c n z := by
  funext j
  unfold hE
  rw [if_neg hc, if_neg hc, pk_un (show (0 : Nat) ≠ 2 by decide)]
theorem hE_13 (E : Nat → Int32) (c n : Nat) (z : Nat → Int32) {o : Nat} (w : Int32) (h0 : o ≠ 0) (h2 : o ≠ 2) : hE E c n (upd z o w) = hE E c n z := by
  funext j
  unfold hE
  rw [pk_un (Ne.symm h0), pk_un (Ne.symm h2)]
/-- the reference's three arrays hold what z hands out -/
def Gv (τ : Sg) (S A E : Nat → Int32) (c n : Nat) (z : Nat → Int32) : Prop := τ 22 = hS S c z ∧ τ 24 = hA A c n z ∧ τ 25 = hE E c n z
theorem p_giveSeen {τ : Sg} {o c n : Nat} {v : Int32} {S A E z : Nat → Int32} {Q : Sg → Prop} (h19 : τ 0 19 = nI n) (hn : n ≤ 10) (hc : c < n) (ho : o ≤ 3) (hG : Gv τ S A E c n z) (hQ : ∀ τ', (∀ j, j ≠ 22 → j ≠ 24 → j ≠ 25 → τ' j = τ j) → Gv τ' S A E c n (upd z o (z o + v)) → Q τ') : wX12_giveSeen (nI o) (nI c) v τ Q := by
  obtain ⟨g1, g2, g3⟩ := hG
  have oe : ∀ d : Nat, d ≤ 10 → (nI o = nI d ↔ o = d) := fun d hd => oeq (by omega) hd
  have ce : nI c = nI n - 1 ↔ c + 1 = n := by
    rw [show nI n - 1 = nI (n - 1) from pk_sub (b := 1) (by omega), nI_eq (by omega) (by omega)]; omega
  have c0 : nI c = 0 ↔ c = 0 := nI_eq (b := 0) (by omega) (by decide)
  have ic : vp_in (nI c) 10 := vp_in_nI (by omega) (by decide)
  have oc : o = 0 ∨ o = 1 ∨ o = 2 ∨ o = 3 := by omega
  unfold wX12_giveSeen wX12_giveSeen_b39 wX12_giveSeen_b67 wX12_giveSeen_b81
  rw [h19, nI_clamp (by omega)]
  rcases oc with rfl | rfl | rfl | rfl
  · refine ⟨fun w => absurd ((oe 3 (by decide)).mp w) (by decide), fun _ => ⟨fun _ => ⟨fun w => ?_, fun w => ⟨fun w2 => absurd ((oe 2 (by decide)).mp w2) (by decide), fun _ => ?_⟩⟩, fun w => absurd rfl w⟩⟩
    · have w' := c0.mp w
      subst w'
      refine ⟨vin 0 2 (by decide) (by decide), vin 0 2 (by decide) (by decide), fun τ8 e8 => hQ τ8 (fun j q1 q2 q3 => by rw [e8, sto_ne _ _ _ q3]) ⟨?_, ?_, ?_⟩⟩
      · rw [e8, sto_ne _ _ _ (by decide), g1, hS_o _ _ _ _ (by decide)]
      · rw [e8, sto_ne _ _ _ (by decide), g2, hA_0']
      · rw [e8, sto_same, g3, hE_0]
    · have w' : c ≠ 0 := fun q => w (c0.mpr q)
      rw [nI_add, Nat.add_zero, show nI c - 1 = nI (c - 1) from pk_sub (b := 1) (by omega), nI_clamp (by omega)]
      refine ⟨vp_in_nI (by omega) (by decide), vp_in_nI (by omega) (by decide), fun τ8 e8 => hQ τ8 (fun j q1 q2 q3 => by rw [e8, sto_ne _ _ _ q2]) ⟨?_, ?_, ?_⟩⟩
      · rw [e8, sto_ne _ _ _ (by decide), g1, hS_o _ _ _ _ (by decide)]
      · rw [e8, sto_same, g2, hA_0 _ _ _ _ w']
      · rw [e8, sto_ne _ _ _ (by decide), g3, hE_0' _ _ _ _ w']
  · refine ⟨fun w => absurd ((oe 3 (by decide)).mp w) (by decide), fun _ => ⟨fun w => absurd ((oe 0 (by decide)).mp w) (by decide), fun _ => ⟨fun w => absurd ((oe 2 (by decide)).mp w) (by decide), fun _ => ?_⟩⟩⟩
    rw [nI_add, nI_sub1, nI_clamp (by omega)]
    refine ⟨ic, ic, fun τ8 e8 => hQ τ8 (fun j q1 q2 q3 => by rw [e8, sto_ne _ _ _ q2]) ⟨?_, ?_, ?_⟩⟩
    · rw [e8, sto_ne _ _ _ (by decide), g1, hS_o _ _ _ _ (by decide)]
    · rw [e8, sto_same, g2, hA_1]
    · rw [e8, sto_ne _ _ _ (by decide), g3, hE_13 _ _ _ _ _ (by decide) (by decide)]
  · refine ⟨fun w => absurd ((oe 3 (by decide)).mp w) (by decide), fun _ => ⟨fun w => absurd ((oe 0 (by decide)).mp w) (by decide), fun _ => ⟨fun _ => ⟨fun w => ?_, fun w => ?_⟩, fun w => absurd rfl w⟩⟩⟩
    · have w' := ce.mp w
      refine ⟨vin 1 2 (by decide) (by decide), vin 1 2 (by decide) (by decide), fun τ8 e8 => hQ τ8 (fun j q1 q2 q3 => by rw [e8, sto_ne _ _ _ q3]) ⟨?_, ?_, ?_⟩⟩
      · rw [e8, sto_ne _ _ _ (by decide), g1, hS_o _ _ _ _ (by decide)]
      · rw [e8, sto_ne _ _ _ (by decide), g2, hA_2' _ _ _ w']
      · rw [e8, sto_same, g3, hE_2 _ _ _ w']
    · have w' : c + 1 ≠ n := fun q => w (ce.mpr q)
      rw [nI_add, show c + 2 = (c + 1) + 1 from rfl, nI_sub1, nI_clamp (by omega)]
      refine ⟨vp_in_nI (by omega) (by decide), vp_in_nI (by omega) (by decide), fun τ8 e8 => hQ τ8 (fun j q1 q2 q3 => by rw [e8, sto_ne _ _ _ q2]) ⟨?_, ?_, ?_⟩⟩
      · rw [e8, sto_ne _ _ _ (by decide), g1, hS_o _ _ _ _ (by decide)]
      · rw [e8, sto_same, g2, hA_2 _ _ _ w']
      · rw [e8, sto_ne _ _ _ (by decide), g3, hE_2' _ _ _ w']
  · refine ⟨fun _ => ⟨ic, ic, fun τ8 e8 => hQ τ8 (fun j q1 q2 q3 => by rw [e8, sto_ne _ _ _ q1]) ⟨?_, ?_, ?_⟩⟩, fun w => absurd rfl w⟩
    · rw [e8, sto_same, g1, hS_3]
    · rw [e8, sto_ne _ _ _ (by decide), g2, hA_3]
    · rw [e8, sto_ne _ _ _ (by decide), g3, hE_13 _ _ _ _ _ (by decide) (by decide)]
theorem p_gv67 {τ0 : Sg} {st c n b e : Nat} {op : Nat → Nat} {nu : Nat → Int32} {sz : Nat → Nat} {S A E : Nat → Int32} (hst : st + 1 < 8) (he : e ≤ 60) (h5 : τ0 5 (st + 1) = nI e) (h19 : τ0 0 19 = nI n) (hn : n ≤ 10) (hc : c < n) (hN : ∀ i, b ≤ i → i < e → NdM τ0 op nu sz i) (hk : ∀ i, b ≤ i → i < e → Kid op sz e i) {K Q : Sg → Prop} :
    ∀ (d i : Nat) (τ : Sg) (z : Nat → Int32), b ≤ i → i + d = e → (∀ j, j ≠ 16 → j ≠ 22 → j ≠ 24 → j ≠ 25 → τ j = τ0 j) → Gv τ S A E c n z → (∀ τ', (∀ j, j ≠ 16 → j ≠ 22 → j ≠ 24 → j ≠ 25 → τ' j = τ0 j) → Gv τ' S A E c n (zgo op sz (τ0 14) d i (τ 16) z) → K τ') → wX12_giveBack_L67 (nI st) (nI c) K Q (d + 1) (nI i) τ
  | 0, i, τ, z, hbi, hi, h, hG, hK => by
    unfold wX12_giveBack_L67
    have e : i = e := by omega
    subst e
    rw [nI_1, nI_clamp (by omega), h 5 (by decide) (by decide) (by decide) (by decide), h5]
    exact ⟨vp_in_nI hst (by decide), fun _ => hK τ h hG, fun z => absurd (nI_le (Nat.le_refl _) (by omega)) z⟩
  | d + 1, i, τ, z, hbi, hi, h, hG, hK => by
    have hkid := hk i hbi (by omega)
    have ho := hkid.1
    have n0 := hN i hbi (by omega)
    have k1 := kd1 ⟨op i, by omega⟩
    have k2 := kd2 ⟨op i, by omega⟩
    have k3 := kd3 ⟨op i, by omega⟩
    have v14 := h 14 (by decide) (by decide) (by decide) (by decide)
    have nxt : ∀ (τ2 : Sg), (∀ j, j ≠ 16 → j ≠ 22 → j ≠ 24 → j ≠ 25 → τ2 j = τ0 j) → τ2 16 = gstep op sz (τ0 14) (τ 16) i → Gv τ2 S A E c n (zstep op (τ 16) z i) → wX12_giveBack_b269 (nI st) (nI c) (nI i) τ2 K (wX12_giveBack_L67 (nI st) (nI c) K Q (d + 1)) Q := by
      intro τ2 h2 l2 hG2
      unfold wX12_giveBack_b269
      intro x2 e2
      rw [nI_1] at e2
      subst e2
      refine p_gv67 hst he h5 h19 hn hc hN hk d (i + 1) τ2 _ (by omega) (by omega) h2 hG2 (fun τ' f' g' => hK τ' f' ?_)
      rw [l2] at g'
      exact g'
    unfold gstep zstep at nxt
    unfold wX12_giveBack_L67
    rw [nI_1, nI_clamp (by omega), nI_clamp (by omega), h 5 (by decide) (by decide) (by decide) (by decide), h5, h 6 (by decide) (by decide) (by decide) (by decide), n0.1]
    have i1 : vp_in (nI i) 60 := vp_in_nI (by omega) (by decide)
    have i2 : vp_in (nI i) 120 := vp_in_nI (by omega) (by decide)
    refine ⟨vp_in_nI hst (by decide), fun z => absurd z (nI_ge (by omega) (by omega)), fun _ => ⟨i1, fun x6 e6 => ⟨i2, fun w => nxt τ h ?_ ?_, fun w1 => ⟨fun w => ⟨i2, ?_⟩, fun w2 => ⟨fun w x7 e7 => ?_, fun w3 => ?_⟩⟩⟩⟩⟩
    · have o4 : op i = 4 := k1.mp w
      rw [if_pos (by omega)]
    · have o4 : op i = 4 := k1.mp w
      rw [if_neg (by omega)]; exact hG
    · have o3 : op i ≤ 3 := k2.mp w
      rw [h 7 (by decide) (by decide) (by decide) (by decide), n0.2.1 (by omega), mk03 _ o3, e6]
      refine p_giveSeen (by rw [h 0 (by decide) (by decide) (by decide) (by decide)]; exact h19) hn hc o3 hG (fun τ15 f15 g15 => nxt τ15 (fun j q1 q2 q3 q4 => by rw [f15 j q2 q3 q4]; exact h j q1 q2 q3 q4) ?_ ?_)
      · rw [if_pos (by omega), f15 16 (by decide) (by decide) (by decide)]
      · rw [if_pos o3]; exact g15
    · have o57 : 5 ≤ op i ∧ op i ≤ 7 := k3.mp w
      have a := hkid.2.2.2.1 o57.1
      have hs := (hN (i + 1) (by omega) a.1).2.2
      rw [nI_1] at e7
      subst e7
      refine p_second (by omega) (by rw [h 8 (by decide) (by decide) (by decide) (by decide)]; exact hs) ⟨vp_in_nI (by omega) (by decide), i2, ?_⟩
      rw [nI_clamp (by omega), nI_clamp (by omega), h 7 (by decide) (by decide) (by decide) (by decide), n0.2.1 (by omega), v14]
      have ib : vp_in (nI (s2 sz i)) 60 := vp_in_nI (by omega) (by decide)
      have ia : vp_in (nI (i + 1)) 60 := vp_in_nI (by omega) (by decide)
      have fin : ∀ (va vb : Int32) (τ21 : Sg), (∀ j, j ≠ 16 → τ21 j = τ j) → τ21 16 = upd (τ 16) (i + 1) (τ 16 (i + 1) + va) → (gstep op sz (τ0 14) (τ 16) i = upd (upd (τ 16) (i + 1) (τ 16 (i + 1) + va)) (s2 sz i) (upd (τ 16) (i + 1) (τ 16 (i + 1) + va) (s2 sz i) + vb)) → wX12_giveBack_b248 (nI st) (nI c) (nI i) vb (τ21 16 (s2 sz i)) (nI (s2 sz i)) τ21 K (wX12_giveBack_L67 (nI st) (nI c) K Q (d + 1)) Q := by
        intro va vb τ21 f21 l21 eg
        unfold wX12_giveBack_b248
        rw [nI_clamp (by omega)]
        refine ⟨ib, fun τ24 e24 => nxt τ24 (fun j q1 q2 q3 q4 => by rw [e24, sto_ne _ _ _ q1, f21 j q1]; exact h j q1 q2 q3 q4) ?_ ?_⟩
        · unfold gstep at eg
          rw [eg, e24, sto_same, l21]
        · rw [if_neg (by omega)]
          unfold Gv
          rw [e24, sto_ne _ _ _ (by decide), sto_ne _ _ _ (by decide), sto_ne _ _ _ (by decide), f21 22 (by decide), f21 24 (by decide), f21 25 (by decide)]
          exact hG
      have oc : op i = 5 ∨ op i = 6 ∨ op i = 7 := by omega
      have mt : ∀ τ21 : Sg, (∀ j, j ≠ 16 → τ21 j = τ j) → τ21 7 i = mkOf (op i) (nu i) := fun τ21 f21 => by rw [f21 7 (by decide), h 7 (by decide) (by decide) (by decide) (by decide), n0.2.1 (by omega)]
      unfold wX12_giveBack_b193
      rw [nI_clamp (by omega), nI_clamp (by omega), nI_clamp (by omega)]
      have e16 : ∀ (va : Int32) (τ21 : Sg), τ21 = sto τ 16 (i + 1) (τ 16 (i + 1) + va) → (∀ j, j ≠ 16 → τ21 j = τ j) ∧ τ21 16 = upd (τ 16) (i + 1) (τ 16 (i + 1) + va) := fun va τ21 e21 => ⟨fun j hj => by rw [e21, sto_ne _ _ _ hj], by rw [e21, sto_same]⟩
      rcases oc with oc | oc | oc
      · rw [oc, mk5]
        refine ⟨fun w => absurd w (by decide), fun _ => ⟨ia, fun τ21 e21 => ⟨ib, i2, ?_⟩⟩⟩
        obtain ⟨f21, l21⟩ := e16 _ _ e21
        rw [mt τ21 f21, oc, mk5, e6]
        refine ⟨fun w => absurd w (by decide), fun _ => ⟨i2, fun w => absurd w (by decide), fun _ => fin (τ 16 i) (τ 16 i) τ21 f21 (by rw [l21, e6]) ?_⟩⟩
        unfold gstep
        rw [if_neg (by omega), if_pos oc]
      · rw [oc, mk6]
        refine ⟨fun w => absurd w (by decide), fun _ => ⟨ia, fun τ21 e21 => ⟨ib, i2, ?_⟩⟩⟩
        obtain ⟨f21, l21⟩ := e16 _ _ e21
        rw [mt τ21 f21, oc, mk6, e6]
        refine ⟨fun w => absurd w (by decide), fun _ => ⟨i2, fun _ => fin (τ 16 i) (-(τ 16 i)) τ21 f21 (by rw [l21, e6]) ?_, fun w => absurd rfl w⟩⟩
        unfold gstep
        rw [if_neg (by omega), if_neg (by omega), if_pos oc]
      · rw [oc, mk7]
        refine ⟨fun _ => ⟨ib, ia, fun τ21 e21 => ⟨ib, i2, ?_⟩⟩, fun w => absurd rfl w⟩
        obtain ⟨f21, l21⟩ := e16 _ _ e21
        rw [mt τ21 f21, oc, mk7, e6, f21 14 (by decide), v14]
        refine ⟨fun _ => ⟨ia, fin (τ 16 i * τ0 14 (s2 sz i)) (τ 16 i * τ0 14 (i + 1)) τ21 f21 (by rw [l21, e6]) ?_⟩, fun w => absurd rfl w⟩
        unfold gstep
        rw [if_neg (by omega), if_neg (by omega), if_neg (by omega), if_pos oc]
    · have o8 : 8 ≤ op i := by
        have a1 : op i ≠ 4 := fun w => w1 (k1.mpr w)
        have a2 : ¬ op i ≤ 3 := fun w => w2 (k2.mpr w)
        have a3 : ¬ (5 ≤ op i ∧ op i ≤ 7) := fun w => w3 (k3.mpr w)
        omega
      have t := tkN_rng (V := τ0 14) hkid (by omega)
      refine p_takenM (fun q q1 q2 => NdM_fr (h 6 (by decide) (by decide) (by decide) (by decide)) (h 7 (by decide) (by decide) (by decide) (by decide)) (h 8 (by decide) (by decide) (by decide) (by decide)) (hN q (by omega) q2)) hkid o8 ?_
      rw [v14, nI_clamp (by omega)]
      refine ⟨vp_in_nI (by omega) (by decide), vp_in_nI (by omega) (by decide), fun τ27 e27 => nxt τ27 (fun j q1 q2 q3 q4 => by rw [e27, sto_ne _ _ _ q1]; exact h j q1 q2 q3 q4) ?_ ?_⟩
      · rw [if_neg (by omega), if_neg (by omega), if_neg (by omega), if_neg (by omega), e27, sto_same, e6]
      · rw [if_neg (by omega)]
        unfold Gv
        rw [e27, sto_ne _ _ _ (by decide), sto_ne _ _ _ (by decide), sto_ne _ _ _ (by decide)]
        exact hG
theorem gi_0 (b : Nat) (s : Int32) (old : Nat → Int32) : gi b b s old = old := by
  funext j
  unfold gi
  rw [if_neg (by omega)]
theorem gi_succ {b i : Nat} {s : Int32} (old : Nat → Int32) (h : b ≤ i) : upd (gi b i s old) i (if i = b then s else 0) = gi b (i + 1) s old := by
  funext j
  by_cases e : j = i
  · subst e
    rw [pk_us]
    unfold gi
    exact (if_pos ⟨h, Nat.lt_succ_self j⟩).symm
  · rw [pk_un e]
    unfold gi
    by_cases c : b ≤ j ∧ j < i
    · exact (if_pos c).trans (if_pos ⟨c.1, by omega⟩).symm
    · exact (if_neg c).trans (if_neg (by omega)).symm
theorem p_gv20 {τ0 : Sg} {st c b e : Nat} {old : Nat → Int32} (hst : st + 1 < 8) (hc : c < 10) (he : e ≤ 60) (h5 : τ0 5 (st + 1) = nI e) {K Q : Sg → Prop} (hK : ∀ τ, (∀ j, j ≠ 16 → τ j = τ0 j) → τ 16 = gi b e (τ0 23 c) old → K τ) : ∀ (d i : Nat) (τ : Sg), b ≤ i → i + d = e → (∀ j, j ≠ 16 → τ j = τ0 j) → τ 16 = gi b i (τ0 23 c) old → wX12_giveBack_L20 (nI st) (nI c) (nI b) K Q (d + 1) (nI i) τ
  | 0, i, τ, hbi, hi, h, hf => by
    unfold wX12_giveBack_L20
    have e : i = e := by omega
    subst e
    rw [nI_1, nI_clamp (by omega), h 5 (by decide), h5]
    exact ⟨vp_in_nI hst (by decide), fun _ => hK τ h hf, fun z => absurd (nI_le (Nat.le_refl _) (by omega)) z⟩
  | d + 1, i, τ, hbi, hi, h, hf => by
    unfold wX12_giveBack_L20 wX12_giveBack_b56
    have hib : nI i = nI b ↔ i = b := nI_eq (by omega) (by omega)
    rw [nI_1, nI_clamp (by omega), nI_clamp (by omega), nI_clamp (by omega), h 5 (by decide), h5, h 23 (by decide)]
    refine ⟨vp_in_nI hst (by decide), fun z => absurd z (nI_ge (by omega) (by omega)), fun _ => ⟨fun z => ⟨vp_in_nI hc (by decide), vp_in_nI (by omega) (by decide), fun τ4 e4 x2 e2 => ?_⟩, fun z => ⟨vp_in_nI (by omega) (by decide), fun τ4 e4 x2 e2 => ?_⟩⟩⟩
    · rw [nI_1] at e2
      subst e2
      have f := gi_succ (s := τ0 23 c) old hbi
      rw [if_pos (hib.mp z)] at f
      exact p_gv20 hst hc he h5 hK d (i + 1) τ4 (by omega) (by omega) (fun j hj => by rw [e4, sto_ne _ _ _ hj]; exact h j hj) (by rw [e4, sto_same, hf, f])
    · rw [nI_1] at e2
      subst e2
      have f := gi_succ (s := τ0 23 c) old hbi
      rw [if_neg (fun q => z (hib.mpr q))] at f
      exact p_gv20 hst hc he h5 hK d (i + 1) τ4 (by omega) (by omega) (fun j hj => by rw [e4, sto_ne _ _ _ hj]; exact h j hj) (by rw [e4, sto_same, hf, f])
theorem p_giveB {τ : Sg} {ns nn k q c n : Nat} {bg op : Nat → Nat} {nu : Nat → Int32} {sz : Nat → Nat} {Q : Sg → Prop} (hX : TX ns nn bg op sz) (hM : TM τ ns nn bg op nu sz) (hk : k < ns) (h19 : τ 0 19 = nI n) (hn : n ≤ 10) (hc : c < n) (hq : q ≤ 120)
    (hQ : ∀ (τ' : Sg) (z : Nat → Int32), (∀ j, j ≠ 14 → j ≠ 16 → j ≠ 22 → j ≠ 24 → j ≠ 25 → τ' j = τ j) → (∀ r, r ≤ 3 → z r = zgo op sz (evc op nu sz (seM τ q c n) (bg k) (bg (k + 1))) (bg (k + 1) - bg k) (bg k) (gi (bg k) (bg (k + 1)) (τ 23 c) (fun _ => 0)) (fun _ => 0) r) → Gv τ' (τ 22) (τ 24) (τ 25) c n z → Q τ') : wX12_giveBack (nI k) (nI q) (nI c) τ Q := by
  have hns := hX.1
  have h60 := hX.2.1
  have hen := TX_end hX hk
  have hlt := hX.2.2.2.2.1 k hk
  have hkid : ∀ i, bg k ≤ i → i < bg (k + 1) → Kid op sz (bg (k + 1)) i := fun i a b => TX_kid hX hk a b
  unfold wX12_giveBack
  refine p_workM hX hM hk h19 hn hc hq (fun τ2 f2 hE => ?_)
  have hM2 : TM τ2 ns nn bg op nu sz := TM_fr (by rw [f2 0 (by decide)]) (by rw [f2 0 (by decide)]) (f2 5 (by decide)) (f2 6 (by decide)) (f2 7 (by decide)) (f2 8 (by decide)) hM
  rw [nI_clamp (by omega), hM2.2.2.1 k (by omega)]
  refine ⟨vp_in_nI (by omega) (by decide), fun x4 e4 => ⟨bg (k + 1) - bg k + 1, ?_⟩⟩
  subst e4
  refine p_gv20 (τ0 := τ2) (b := bg k) (e := bg (k + 1)) (old := τ2 16) (by omega) (by omega) (by omega) (hM2.2.2.1 (k + 1) (by omega)) (fun τ8 f8 v8 => ⟨bg (k + 1) - bg k + 1, ?_⟩) (bg (k + 1) - bg k) (bg k) τ2 (Nat.le_refl _) (by omega) (fun _ _ => rfl) (gi_0 _ _ _).symm
  have hz0 : ∀ q : Nat, q ≤ 3 → (fun _ => 0 : Nat → Int32) q = 0 := fun _ _ => rfl
  refine p_gv67 (τ0 := τ2) (b := bg k) (nu := nu) (S := τ 22) (A := τ 24) (E := τ 25) (by omega) (by omega) (hM2.2.2.1 (k + 1) (by omega)) (by rw [f2 0 (by decide)]; exact h19) hn hc (fun i a b => TM_nd hM2 (by omega)) hkid (bg (k + 1) - bg k) (bg k) τ8 (fun _ => 0) (Nat.le_refl _) (by omega) (fun j q1 q2 q3 q4 => f8 j q1) ⟨?_, ?_, ?_⟩ (fun τ' f' g' => hQ τ' _ (fun j q1 q2 q3 q4 q5 => by rw [f' j q2 q3 q4 q5]; exact f2 j q1) ?_ g')
  · rw [f8 22 (by decide), f2 22 (by decide)]; funext j; exact (h0S hz0 j).symm
  · rw [f8 24 (by decide), f2 24 (by decide)]; funext j; exact (h0A hz0 j).symm
  · rw [f8 25 (by decide), f2 25 (by decide)]; funext j; exact (h0E hz0 j).symm
  · intro r hr
    rw [v8, f2 23 (by decide)]
    exact zgo_congr hkid (fun i a b => evc_eq hkid hE a b) _ _ _ _ _ _ (Nat.le_refl _) (by omega) (fun i a b => gi_in a b) (fun _ _ => rfl) r hr
