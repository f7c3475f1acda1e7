/-! the tape's tokens; the class's advance -/
def skp (ta : Nat → Int32) : Nat → Nat → Nat
  | 0, p => p
  | d + 1, p => if ta p = 32 ∨ ta p = 10 then skp ta d (p + 1) else p
def enn (lo hi : Int32) (ta : Nat → Int32) : Nat → Nat → Nat
  | 0, p => p
  | d + 1, p => if lo ≤ ta p ∧ ta p ≤ hi then enn lo hi ta d (p + 1) else p
theorem skp_rng (ta : Nat → Int32) : ∀ d p, p ≤ skp ta d p ∧ skp ta d p ≤ p + d
  | 0, p => ⟨Nat.le_refl _, Nat.le_refl _⟩
  | d + 1, p => by
    have := skp_rng ta d (p + 1)
    unfold skp
    split <;> omega
theorem enn_rng (lo hi : Int32) (ta : Nat → Int32) : ∀ d p, p ≤ enn lo hi ta d p ∧ enn lo hi ta d p ≤ p + d
  | 0, p => ⟨Nat.le_refl _, Nat.le_refl _⟩
  | d + 1, p => by
    have := enn_rng lo hi ta d (p + 1)
    unfold enn
    split <;> omega
theorem enn_all {lo hi : Int32} {ta : Nat → Int32} : ∀ d p, ∀ j, p ≤ j → j < enn lo hi ta d p → lo ≤ ta j ∧ ta j ≤ hi
  | 0, p, j, h1, h2 => by unfold enn at h2; omega
  | d + 1, p, j, h1, h2 => by
    unfold enn at h2
    by_cases c : lo ≤ ta p ∧ ta p ≤ hi
    · rw [if_pos c] at h2
      by_cases e : j = p
      · subst e; exact c
      · exact enn_all d (p + 1) j (by omega) h2
    · rw [if_neg c] at h2; omega
theorem enn_first {lo hi : Int32} {ta : Nat → Int32} {d p : Nat} (hd : 0 < d) (h : lo ≤ ta p ∧ ta p ≤ hi) : p < enn lo hi ta d p := by
  obtain ⟨k, rfl⟩ : ∃ k, d = k + 1 := ⟨d - 1, by omega⟩
  have := enn_rng lo hi ta k (p + 1)
  unfold enn
  rw [if_pos h]
  omega
def ltC (x : Int32) : Nat := if x = 99 then 1 else if x = 107 then 3 else if x = 108 then 0 else if x = 114 then 2 else 14
def sgC (x : Int32) : Nat := if x = 42 then 7 else if x = 43 then 5 else if x = 45 then 6 else if x = 59 then 12 else 14
def nm (ta : Nat → Int32) (b e i : Nat) : Prop := e = b + strL.getD i 0 ∧ ∀ k, k < strL.getD i 0 → ta (b + k) = (strB.getD i []).getD k 0
noncomputable def nmC (ta : Nat → Int32) (b e : Nat) : Nat :=
  if e = b + 1 then ltC (ta b) else @ite _ (nm ta b e 0) (Classical.propDecidable _) 11 (@ite _ (nm ta b e 1) (Classical.propDecidable _) 8 (@ite _ (nm ta b e 2) (Classical.propDecidable _) 9 (@ite _ (nm ta b e 3) (Classical.propDecidable _) 10 14)))
def dv (ta : Nat → Int32) (b : Nat) : Nat → Int32
  | 0 => 0
  | k + 1 => 10 * dv ta b k + ta (b + k) - 48
def tkB (ta : Nat → Int32) (L p : Nat) : Nat := skp ta (L - p) p
def tkE (ta : Nat → Int32) (L p : Nat) : Nat :=
  if tkB ta L p = L then L else if 97 ≤ ta (tkB ta L p) ∧ ta (tkB ta L p) ≤ 122 then enn 97 122 ta (L - tkB ta L p) (tkB ta L p) else if 48 ≤ ta (tkB ta L p) ∧ ta (tkB ta L p) ≤ 57 then enn 48 57 ta (L - tkB ta L p) (tkB ta L p) else tkB ta L p + 1
noncomputable def tkC (ta : Nat → Int32) (L p : Nat) : Nat :=
  if tkB ta L p = L then 13 else if 97 ≤ ta (tkB ta L p) ∧ ta (tkB ta L p) ≤ 122 then nmC ta (tkB ta L p) (tkE ta L p) else if 48 ≤ ta (tkB ta L p) ∧ ta (tkB ta L p) ≤ 57 then (if tkE ta L p ≤ tkB ta L p + 4 then 4 else 14) else sgC (ta (tkB ta L p))
def tkV (ta : Nat → Int32) (L p : Nat) : Int32 := dv ta (tkB ta L p) (tkE ta L p - tkB ta L p)
theorem tkB_rng {ta : Nat → Int32} {L p : Nat} (h : p ≤ L) : p ≤ tkB ta L p ∧ tkB ta L p ≤ L := by
  have := skp_rng ta (L - p) p
  unfold tkB
  omega
theorem tkE_rng {ta : Nat → Int32} {L p : Nat} (h : p ≤ L) : tkB ta L p ≤ tkE ta L p ∧ tkE ta L p ≤ L := by
  have := tkB_rng (ta := ta) h
  have e1 := enn_rng 97 122 ta (L - tkB ta L p) (tkB ta L p)
  have e2 := enn_rng 48 57 ta (L - tkB ta L p) (tkB ta L p)
  unfold tkE
  split
  · omega
  · split
    · omega
    · split <;> omega
-- the class
section ADV
variable {ta : Nat → Int32} {L : Nat} {σ : Sg}
theorem p_adL {K : Int32 → Sg → Prop} {Q : Sg → Prop} (h0 : σ 2 0 = nI L) (hL : L ≤ 300) (h3 : σ 3 = ta) : ∀ (d p : Nat), p + d = L → K (nI (skp ta d p)) σ → wX10_advance_L5 K Q (d + 1) (nI p) σ
  | 0, p, hp, hK => by
    unfold wX10_advance_L5
    have e : p = L := by omega
    rw [h0, e]
    unfold skp at hK
    rw [e] at hK
    exact ⟨fun _ => hK, fun z => absurd (nI_le (Nat.le_refl _) (by omega)) z⟩
  | d + 1, p, hp, hK => by
    unfold wX10_advance_L5 wX10_advance_b35
    rw [h0, nI_clamp (by omega), h3, nI_1]
    unfold skp at hK
    have ip : vp_in (nI p) 300 := vp_in_nI (by omega) (by decide)
    refine ⟨fun z => absurd z (nI_ge (by omega) (by omega)), fun _ => ⟨ip, fun z x e => ?_, fun z => ⟨ip, fun w x e => ?_, fun w => ?_⟩⟩⟩
    · rw [if_pos (Or.inl z)] at hK
      rw [e]; exact p_adL h0 hL h3 d (p + 1) (by omega) hK
    · rw [if_pos (Or.inr w)] at hK
      rw [e]; exact p_adL h0 hL h3 d (p + 1) (by omega) hK
    · rw [if_neg (fun q => q.elim z w)] at hK
      exact hK
theorem p_enL {lo hi : Int32} {K Q : Int32 → Sg → Prop} (h0 : σ 2 0 = nI L) (hL : L ≤ 300) (h3 : σ 3 = ta) : ∀ (d p : Nat), p + d = L → K (nI (enn lo hi ta d p)) σ → wX10_endOf_L5 lo hi K Q (d + 1) (nI p) σ
  | 0, p, hp, hK => by
    unfold wX10_endOf_L5
    have e : p = L := by omega
    rw [h0, e]
    unfold enn at hK
    rw [e] at hK
    exact ⟨fun _ => hK, fun z => absurd (nI_le (Nat.le_refl _) (by omega)) z⟩
  | d + 1, p, hp, hK => by
    unfold wX10_endOf_L5
    rw [h0, nI_clamp (by omega), h3, nI_1, p_isWithin, ite10]
    unfold enn at hK
    refine ⟨fun z => absurd z (nI_ge (by omega) (by omega)), fun _ => ⟨vp_in_nI (by omega) (by decide), fun z => ?_, fun z x e => ?_⟩⟩
    · rw [if_neg z] at hK; exact hK
    · rw [if_pos (Classical.not_not.mp z)] at hK
      rw [e]; exact p_enL h0 hL h3 d (p + 1) (by omega) hK
theorem p_endOf {b : Nat} {lo hi : Int32} {Q : Int32 → Sg → Prop} (h0 : σ 2 0 = nI L) (hL : L ≤ 300) (h3 : σ 3 = ta) (hb : σ 2 3 = nI b) (hbL : b ≤ L) (hQ : Q (nI (enn lo hi ta (L - b) b)) σ) : wX10_endOf lo hi σ Q := by
  unfold wX10_endOf wX10_endOf_b33
  intro x e
  rw [e, hb]
  exact ⟨_, p_enL (K := fun x σ => Q x σ) (Q := Q) h0 hL h3 (L - b) b (by omega) hQ⟩
theorem p_isN {i b e : Nat} {K1 K0 : Sg → Prop} {Q : Int32 → Sg → Prop} (hi : i < 4) (h3 : σ 3 = ta) (hb : σ 2 3 = nI b) (he : e = b + strL.getD i 0) (he3 : e ≤ 300) (h1 : nm ta b e i → K1 σ) (h0 : ¬ nm ta b e i → K0 σ) : ∀ (d k : Nat), k + d = strL.getD i 0 → (∀ q, q < k → ta (b + q) = (strB.getD i []).getD q 0) → wX10_isName_L20 i K1 K0 Q (d + 1) (nI k) σ
  | 0, k, hk, ha => by
    have hl := strL_le hi
    unfold wX10_isName_L20
    have e : k = strL.getD i 0 := by omega
    rw [← e]
    exact ⟨fun _ => h1 ⟨he, by rw [← e]; exact ha⟩, fun z => absurd (nI_le (Nat.le_refl _) (by omega)) z⟩
  | d + 1, k, hk, ha => by
    have hl := strL_le hi
    unfold wX10_isName_L20
    rw [hb, nI_add, nI_clamp (by omega), nI_clamp (by omega), h3, nI_1]
    refine ⟨fun z => absurd z (nI_ge (by omega) (by omega)), fun _ => ⟨vp_in_nI (by omega) (by decide), vp_in_nI (by omega) (by omega), fun z x ex => ?_, fun z => h0 (fun w => z (w.2 k (by omega)))⟩⟩
    rw [ex]
    refine p_isN hi h3 hb he he3 h1 h0 d (k + 1) (by omega) (fun q hq => ?_)
    by_cases c : q = k
    · rw [c]; exact z
    · exact ha q (by omega)
theorem p_isName {i b e : Nat} {Q : Int32 → Sg → Prop} (hi : i < 4) (h3 : σ 3 = ta) (hb : σ 2 3 = nI b) (he : σ 2 4 = nI e) (hbe : b ≤ e) (he3 : e ≤ 300) (h1 : nm ta b e i → Q 1 σ) (h0 : ¬ nm ta b e i → Q 0 σ) : wX10_isName i σ Q := by
  have hl := strL_le hi
  unfold wX10_isName
  rw [hb, he, pk_sub hbe]
  have q : nI (e - b) = nI (strL.getD i 0) ↔ e = b + strL.getD i 0 := by rw [nI_eq (by omega) (by omega)]; omega
  refine ⟨fun z => ⟨_, p_isN (K1 := fun σ => Q 1 σ) (K0 := fun σ => Q 0 σ) (Q := Q) hi h3 hb (q.mp z) he3 h1 h0 (strL.getD i 0) 0 (by omega) (fun q hq => by omega)⟩, fun z => h0 (fun w => z (q.mpr w.1))⟩
theorem p_letT {x : Int32} {Q : Int32 → Sg → Prop} (h : Q (nI (ltC x)) σ) : wX10_letterToken x σ Q := by
  unfold wX10_letterToken
  unfold ltC at h
  refine ⟨fun z => ?_, fun z1 => ⟨fun z => ?_, fun z2 => ⟨fun z => ?_, fun z3 => ⟨fun z => ?_, fun z4 => ?_⟩⟩⟩⟩
  · rw [if_pos z] at h; exact h
  · rw [if_neg z1, if_pos z] at h; exact h
  · rw [if_neg z1, if_neg z2, if_pos z] at h; exact h
  · rw [if_neg z1, if_neg z2, if_neg z3, if_pos z] at h; exact h
  · rw [if_neg z1, if_neg z2, if_neg z3, if_neg z4] at h; exact h
theorem p_sigT {x : Int32} {Q : Int32 → Sg → Prop} (h : Q (nI (sgC x)) σ) : wX10_signToken x σ Q := by
  unfold wX10_signToken
  unfold sgC at h
  refine ⟨fun z => ?_, fun z1 => ⟨fun z => ?_, fun z2 => ⟨fun z => ?_, fun z3 => ⟨fun z => ?_, fun z4 => ?_⟩⟩⟩⟩
  · rw [if_pos z] at h; exact h
  · rw [if_neg z1, if_pos z] at h; exact h
  · rw [if_neg z1, if_neg z2, if_pos z] at h; exact h
  · rw [if_neg z1, if_neg z2, if_neg z3, if_pos z] at h; exact h
  · rw [if_neg z1, if_neg z2, if_neg z3, if_neg z4] at h; exact h
theorem p_nameT {b e : Nat} {Q : Int32 → Sg → Prop} (h3 : σ 3 = ta) (hb : σ 2 3 = nI b) (he : σ 2 4 = nI e) (hbe : b < e) (he3 : e ≤ 300) (hQ : Q (nI (nmC ta b e)) σ) : wX10_nameToken σ Q := by
  unfold nmC at hQ
  unfold wX10_nameToken wX10_nameToken_b78
  have q : nI (e - b) = 1 ↔ e = b + 1 := by
    rw [show (1 : Int32) = nI 1 from rfl, nI_eq (by omega) (by decide)]; omega
  rw [he, hb, pk_sub (by omega), nI_clamp (by omega), h3]
  refine ⟨fun z => ⟨vp_in_nI (by omega) (by decide), p_letT ?_⟩, fun z => ?_⟩
  · rw [if_pos (q.mp z)] at hQ; exact hQ
  · rw [if_neg (fun w => z (q.mpr w))] at hQ
    refine p_isName (by decide) h3 hb he (by omega) he3 (fun c0 => ⟨fun w => absurd w one_ne, fun _ => ?_⟩) (fun c0 => ⟨fun _ => ?_, fun w => absurd rfl w⟩)
    · rw [if_pos c0] at hQ; exact hQ
    rw [if_neg c0] at hQ
    refine p_isName (by decide) h3 hb he (by omega) he3 (fun c1 => ⟨fun w => absurd w one_ne, fun _ => ?_⟩) (fun c1 => ⟨fun _ => ?_, fun w => absurd rfl w⟩)
    · rw [if_pos c1] at hQ; exact hQ
    rw [if_neg c1] at hQ
    refine p_isName (by decide) h3 hb he (by omega) he3 (fun c2 => ⟨fun w => absurd w one_ne, fun _ => ?_⟩) (fun c2 => ⟨fun _ => ?_, fun w => absurd rfl w⟩)
    · rw [if_pos c2] at hQ; exact hQ
    rw [if_neg c2] at hQ
    refine p_isName (by decide) h3 hb he (by omega) he3 (fun c3 => ⟨fun w => absurd w one_ne, fun _ => ?_⟩) (fun c3 => ⟨fun _ => ?_, fun w => absurd rfl w⟩)
    · rw [if_pos c3] at hQ; exact hQ
    · rw [if_neg c3] at hQ; exact hQ
end ADV
theorem p_nuL {σ0 : Sg} {ta : Nat → Int32} {b e : Nat} {K : Sg → Prop} {Q : Int32 → Sg → Prop} (h3 : σ0 3 = ta) (he : σ0 2 4 = nI e) (he3 : e ≤ 300) (hK : ∀ σ, (∀ j, j ≠ 2 → σ j = σ0 j) → (∀ k, k ≠ 5 → σ 2 k = σ0 2 k) → σ 2 5 = dv ta b (e - b) → K σ) : ∀ (d k : Nat) (σ : Sg), b + k + d = e → (∀ j, j ≠ 2 → σ j = σ0 j) → (∀ k, k ≠ 5 → σ 2 k = σ0 2 k) → σ 2 5 = dv ta b k → wX10_numberToken_L26 K Q (d + 1) (nI (b + k)) σ
  | 0, k, σ, hk, f1, f2, hv => by
    unfold wX10_numberToken_L26
    have e1 : b + k = e := by omega
    rw [f2 4 (by decide), he, e1]
    exact ⟨fun _ => hK σ f1 f2 (by rw [show e - b = k by omega]; exact hv), fun z => absurd (nI_le (Nat.le_refl _) (by omega)) z⟩
  | d + 1, k, σ, hk, f1, f2, hv => by
    unfold wX10_numberToken_L26
    rw [f2 4 (by decide), he, nI_clamp (by omega), f1 3 (by decide), h3, nI_1, hv]
    refine ⟨fun z => absurd z (nI_ge (by omega) (by omega)), fun _ => ⟨vp_in_nI (by omega) (by decide), fun σ5 e5 x1 e1 => ?_⟩⟩
    rw [e1, show b + k + 1 = b + (k + 1) from rfl]
    exact p_nuL h3 he he3 hK d (k + 1) σ5 (by omega) (fun j hj => by rw [e5, sto_ne _ _ _ hj]; exact f1 j hj) (fun q hq => by rw [e5, sto_off _ _ _ hq]; exact f2 q hq) (by rw [e5, sto_at]; rfl)
theorem p_numT {σ : Sg} {ta : Nat → Int32} {b e : Nat} {Q : Int32 → Sg → Prop} (h3 : σ 3 = ta) (hb : σ 2 3 = nI b) (he : σ 2 4 = nI e) (hbe : b ≤ e) (he3 : e ≤ 300) (hQ : ∀ σ', (∀ j, j ≠ 2 → σ' j = σ j) → (∀ k, k ≠ 5 → σ' 2 k = σ 2 k) → (e ≤ b + 4 → σ' 2 5 = dv ta b (e - b)) → Q (nI (if e ≤ b + 4 then 4 else 14)) σ') : wX10_numberToken σ Q := by
  unfold wX10_numberToken
  have q : nI (e - b) ≤ 4 ↔ e ≤ b + 4 := by
    rw [show (4 : Int32) = nI 4 from rfl, nI_leI (by omega) (by decide)]; omega
  rw [he, hb, pk_sub hbe]
  refine ⟨fun z σ2 e2 x1 e1 => ?_, fun z => ?_⟩
  · have f1 : ∀ j, j ≠ 2 → σ2 j = σ j := fun j hj => by rw [e2, sto_ne _ _ _ hj]
    have f2 : ∀ k, k ≠ 5 → σ2 2 k = σ 2 k := fun k hk => by rw [e2, sto_off _ _ _ hk]
    rw [f2 3 (by decide), hb] at e1
    rw [e1]
    refine ⟨e - b + 1, ?_⟩
    refine p_nuL (σ0 := σ2) (ta := ta) (b := b) (e := e) (by rw [f1 3 (by decide)]; exact h3) (by rw [f2 4 (by decide)]; exact he) he3 (fun σ7 g1 g2 g3 => ?_) (e - b) 0 σ2 (by omega) (fun _ _ => rfl) (fun _ _ => rfl) (by rw [e2, sto_at]; rfl)
    have := hQ σ7 (fun j hj => by rw [g1 j hj]; exact f1 j hj) (fun k hk => by rw [g2 k hk]; exact f2 k hk) (fun _ => g3)
    rw [if_pos (q.mp z)] at this
    exact this
  · have := hQ σ (fun _ _ => rfl) (fun _ _ => rfl) (fun w => absurd (q.mpr w) z)
    rw [if_neg (fun w => z (q.mpr w))] at this
    exact this
theorem p_adv {σ : Sg} {ta : Nat → Int32} {L p : Nat} {Q : Sg → Prop} (h0 : σ 2 0 = nI L) (hL : L ≤ 300) (h3 : σ 3 = ta) (h4 : σ 2 4 = nI p) (hp : p ≤ L) (hQ : ∀ σ', (∀ j, j ≠ 2 → σ' j = σ j) → (∀ k, k ≠ 2 → k ≠ 3 → k ≠ 4 → k ≠ 5 → σ' 2 k = σ 2 k) → σ' 2 2 = nI (tkC ta L p) → σ' 2 3 = nI (tkB ta L p) → σ' 2 4 = nI (tkE ta L p) → (tkC ta L p = 4 → σ' 2 5 = tkV ta L p) → Q σ') : wX10_advance σ Q := by
  have hB := tkB_rng (ta := ta) hp
  have hE := tkE_rng (ta := ta) hp
  unfold wX10_advance
  intro x1 e1
  rw [e1, h4]
  refine ⟨L - p + 1, p_adL h0 hL h3 (L - p) p (by omega) ?_⟩
  show wX10_advance_b41 (nI (tkB ta L p)) σ Q
  have eE : tkE ta L p = if tkB ta L p = L then L else if 97 ≤ ta (tkB ta L p) ∧ ta (tkB ta L p) ≤ 122 then enn 97 122 ta (L - tkB ta L p) (tkB ta L p) else if 48 ≤ ta (tkB ta L p) ∧ ta (tkB ta L p) ≤ 57 then enn 48 57 ta (L - tkB ta L p) (tkB ta L p) else tkB ta L p + 1 := rfl
  have eC : tkC ta L p = if tkB ta L p = L then 13 else if 97 ≤ ta (tkB ta L p) ∧ ta (tkB ta L p) ≤ 122 then nmC ta (tkB ta L p) (tkE ta L p) else if 48 ≤ ta (tkB ta L p) ∧ ta (tkB ta L p) ≤ 57 then (if tkE ta L p ≤ tkB ta L p + 4 then 4 else 14) else sgC (ta (tkB ta L p)) := rfl
  have eV : tkV ta L p = dv ta (tkB ta L p) (tkE ta L p - tkB ta L p) := rfl
  generalize tkB ta L p = b at hB hE eE eC eV hQ ⊢
  generalize tkE ta L p = e at hE eE eC eV hQ ⊢
  generalize tkC ta L p = c at eC hQ
  unfold wX10_advance_b41 wX10_advance_b166
  intro σ8 e8 σ9 e9
  have f9 : ∀ j, j ≠ 2 → σ9 j = σ j := fun j hj => by rw [e9, sto_ne _ _ _ hj, e8, sto_ne _ _ _ hj]
  have g9 : ∀ k, k ≠ 3 → k ≠ 4 → σ9 2 k = σ 2 k := fun k q1 q2 => by rw [e9, sto_off _ _ _ q2, e8, sto_off _ _ _ q1]
  have b9 : σ9 2 3 = nI b := by rw [e9, sto_off _ _ _ (by decide), e8, sto_at]
  have e94 : σ9 2 4 = nI (b + 1) := by rw [e9, sto_at, nI_1]
  have h39 : σ9 3 = ta := by rw [f9 3 (by decide)]; exact h3
  have h09 : σ9 2 0 = nI L := by rw [g9 0 (by decide) (by decide)]; exact h0
  rw [h09, nI_clamp (by omega), h39, p_isWithin, ite10]
  refine ⟨fun z => ?_, fun z σ32 e32 σ33 e33 => ?_⟩
  · have hbL : b < L := (nI_ltI (by omega) (by omega)).mp z
    have ib : vp_in (nI b) 300 := vp_in_nI (by omega) (by decide)
    rw [if_neg (by omega)] at eE eC
    refine ⟨ib, fun z1 => ⟨ib, ?_⟩, fun z1 => ?_⟩
    · rw [if_neg z1] at eE eC
      rw [h39, p_isWithin, ite10]
      refine ⟨fun z2 => ⟨ib, ?_⟩, fun z2 => ?_⟩
      · rw [if_neg z2] at eE eC
        rw [h39]
        refine p_sigT (fun σ19 e19 => hQ σ19 (fun j hj => by rw [e19, sto_ne _ _ _ hj]; exact f9 j hj) (fun k q1 q2 q3 q4 => by rw [e19, sto_off _ _ _ q1]; exact g9 k q2 q3) ?_ ?_ ?_ ?_)
        · rw [e19, sto_at, eC]
        · rw [e19, sto_off _ _ _ (by decide)]; exact b9
        · rw [e19, sto_off _ _ _ (by decide), eE]; exact e94
        · intro c4
          rw [eC] at c4
          unfold sgC at c4
          exfalso
          revert c4
          split
          · decide
          · split
            · decide
            · split
              · decide
              · split <;> decide
      · have z2' := Classical.not_not.mp z2
        rw [if_pos z2'] at eE eC
        refine p_endOf h09 hL h39 b9 (by omega) (fun σ22 e22 => ?_)
        have f22 : ∀ j, j ≠ 2 → σ22 j = σ j := fun j hj => by rw [e22, sto_ne _ _ _ hj]; exact f9 j hj
        have g22 : ∀ k, k ≠ 3 → k ≠ 4 → σ22 2 k = σ 2 k := fun k q1 q2 => by rw [e22, sto_off _ _ _ q2]; exact g9 k q1 q2
        have b22 : σ22 2 3 = nI b := by rw [e22, sto_off _ _ _ (by decide)]; exact b9
        have e224 : σ22 2 4 = nI e := by rw [e22, sto_at, eE]
        refine p_numT (ta := ta) (by rw [f22 3 (by decide)]; exact h3) b22 e224 (by omega) (by omega) (fun σ24 f24 g24 v24 σ25 e25 => hQ σ25 (fun j hj => by rw [e25, sto_ne _ _ _ hj, f24 j hj]; exact f22 j hj) (fun k q1 q2 q3 q4 => by rw [e25, sto_off _ _ _ q1, g24 k q4]; exact g22 k q2 q3) ?_ ?_ ?_ ?_)
        · rw [e25, sto_at, eC]
        · rw [e25, sto_off _ _ _ (by decide), g24 3 (by decide)]; exact b22
        · rw [e25, sto_off _ _ _ (by decide), g24 4 (by decide)]; exact e224
        · intro c4
          rw [e25, sto_off _ _ _ (by decide), eV]
          refine v24 ?_
          rw [eC] at c4
          exact Classical.byContradiction (fun w => by rw [if_neg w] at c4; exact absurd c4 (by decide))
    · have z1' := Classical.not_not.mp z1
      rw [if_pos z1'] at eE eC
      have hbe := enn_first (d := L - b) (by omega) z1'
      rw [← eE] at hbe
      refine p_endOf h09 hL h39 b9 (by omega) (fun σ28 e28 => ?_)
      have f28 : ∀ j, j ≠ 2 → σ28 j = σ j := fun j hj => by rw [e28, sto_ne _ _ _ hj]; exact f9 j hj
      have g28 : ∀ k, k ≠ 3 → k ≠ 4 → σ28 2 k = σ 2 k := fun k q1 q2 => by rw [e28, sto_off _ _ _ q2]; exact g9 k q1 q2
      have b28 : σ28 2 3 = nI b := by rw [e28, sto_off _ _ _ (by decide)]; exact b9
      have e284 : σ28 2 4 = nI e := by rw [e28, sto_at, eE]
      refine p_nameT (ta := ta) (by rw [f28 3 (by decide)]; exact h3) b28 e284 hbe (by omega) (fun σ31 e31 => hQ σ31 (fun j hj => by rw [e31, sto_ne _ _ _ hj]; exact f28 j hj) (fun k q1 q2 q3 q4 => by rw [e31, sto_off _ _ _ q1]; exact g28 k q2 q3) ?_ ?_ ?_ ?_)
      · rw [e31, sto_at, eC]
      · rw [e31, sto_off _ _ _ (by decide)]; exact b28
      · rw [e31, sto_off _ _ _ (by decide)]; exact e284
      · intro c4
        exfalso
        rw [eC] at c4
        unfold nmC ltC at c4
        revert c4
        split
        · split
          · decide
          · split
            · decide
            · split
              · decide
              · split <;> decide
        · split
          · decide
          · split
            · decide
            · split
              · decide
              · split <;> decide
  · have hbL : b = L := by
      have : ¬ b < L := fun w => z (nI_lt w (by omega))
      omega
    rw [if_pos hbL] at eE eC
    refine hQ σ33 (fun j hj => by rw [e33, sto_ne _ _ _ hj, e32, sto_ne _ _ _ hj]; exact f9 j hj) (fun k q1 q2 q3 q4 => by rw [e33, sto_off _ _ _ q1, e32, sto_off _ _ _ q3]; exact g9 k q2 q3) ?_ ?_ ?_ ?_
    · rw [e33, sto_at, eC]; rfl
    · rw [e33, sto_off _ _ _ (by decide), e32, sto_off _ _ _ (by decide)]; exact b9
    · rw [e33, sto_off _ _ _ (by decide), e32, sto_at, eE, hbL]
    · intro c4; rw [eC] at c4; exact absurd c4 (by decide)
