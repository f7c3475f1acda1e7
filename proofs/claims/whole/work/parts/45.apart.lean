/-! apart -/
def dAB (a b : Int32) : Int64 := if 0 < a.toInt64 - b.toInt64 then a.toInt64 - b.toInt64 else -(a.toInt64 - b.toInt64)
def fr1 (D : Nat → Int64) (s : Nat) (p : Int64 × Int32) : Nat → Int64 × Int32
  | 0 => p
  | c + 1 => if D c ≤ (fr1 D s p c).1 then fr1 D s p c else (D c, nI (16 * s + c))
def frS (D : Nat → Nat → Int64) (n : Nat) : Nat → Int64 × Int32
  | 0 => (0, -1000000)
  | s + 1 => fr1 (D s) s (frS D n s) n
theorem fr1_congr {D D' : Nat → Int64} {s : Nat} {p : Int64 × Int32} : ∀ c, (∀ i, i < c → D i = D' i) → fr1 D s p c = fr1 D' s p c
  | 0, _ => rfl
  | c + 1, h => by
    unfold fr1
    rw [fr1_congr c (fun i hi => h i (by omega)), h c (by omega)]
theorem frS_congr {D D' : Nat → Nat → Int64} {n : Nat} : ∀ S, (∀ s, s < S → ∀ i, i < n → D s i = D' s i) → frS D n S = frS D' n S
  | 0, _ => rfl
  | s + 1, h => by
    unfold frS
    rw [frS_congr s (fun r hr => h r (by omega)), fr1_congr n (fun i hi => h s (by omega) i hi)]
theorem ix16 (s c : Nat) : (16 : Int32) * nI s + nI c = nI (16 * s + c) := by
  show nI 16 * nI s + nI c = _
  rw [pk_mul, nI_add]
theorem dAB_ge {x : Int64} (h : 0 ≤ x) : (if 0 < x then x else -x) = x := by
  by_cases c : 0 < x
  · rw [if_pos c]
  · have e : x = 0 := by
      have h1 := (fa_le64 _ _).mp h
      have h2 : ¬ (0 : Int64).toInt < x.toInt := fun q => c ((fa_lt64 _ _).mpr q)
      rw [fa_eq64]
      omega
    rw [if_neg c, e]
    rfl
theorem dAB_lt {x : Int64} (h : ¬ 0 ≤ x) : (if 0 < x then x else -x) = -x := by
  rw [if_neg (fun q => h (Int64.le_of_lt q))]
section FARB
variable {σ : Sg} {u u2 n ns L : Nat} {D : Nat → Nat → Int64}
theorem p_far19 {s : Nat} {p : Int64 × Int32} {K : Int64 → Int64 → Sg → Prop} {Q : Int64 → Sg → Prop} (h4 : σ 4 0 = nI n) (hn : n ≤ 10) (hns : ns ≤ 3) (hs : s ≤ 40) (h1 : σ u 3 = nI ns) (h2 : σ u2 3 = nI ns) (hD : ∀ c, c < n → dAB (σ (u + 1) (10 * (s * ns) + c)) (σ (u2 + 1) (10 * (s * ns) + c)) = D s c) (hK : K (fr1 (D s) s p n).1 (fr1 (D s) s p n).2.toInt64 σ) :
    ∀ (d c : Nat), c + d = n → wX2_farthestFrom_L19 u u2 (nI L) (nI s) K Q (d + 1) (fr1 (D s) s p c).1 (fr1 (D s) s p c).2.toInt64 (nI c) σ
  | 0, c, hc => by
    unfold wX2_farthestFrom_L19
    have e : c = n := by omega
    rw [h4, e]
    exact ⟨fun _ => hK, fun z => absurd (nI_le (Nat.le_refl _) (by omega)) z⟩
  | d + 1, c, hc => by
    have ih := p_far19 (Q := Q) h4 hn hns hs h1 h2 hD hK d (c + 1) (by omega)
    unfold wX2_farthestFrom_L19 wX2_farthestFrom_b76
    rw [h4]
    refine ⟨fun z => absurd z (nI_ge (by omega) (by omega)), fun _ => p_behind h1 hns hs (by omega) (p_behind h2 hns hs (by omega) (fun x9 e9 => ?_))⟩
    have e9' : x9 = D s c := by rw [e9, ← hD c (by omega)]; rfl
    rw [e9', lg_cmp_le, ix16]
    unfold fr1 at ih
    refine ⟨fun z x8 e8 => ?_, fun z x5 e5 x8 e8 => ?_⟩
    · rw [if_pos z] at ih
      rw [e8, nI_1]
      exact ih
    · rw [if_neg z] at ih
      rw [e8, e5, nI_1]
      exact ih
theorem p_far10 {K : Int64 → Sg → Prop} {Q : Int64 → Sg → Prop} (h4 : σ 4 0 = nI n) (hn : n ≤ 10) (hns : ns ≤ 3) (hL : L ≤ 40) (h1 : σ u 3 = nI ns) (h2 : σ u2 3 = nI ns) (hD : ∀ s, s ≤ L → ∀ c, c < n → dAB (σ (u + 1) (10 * (s * ns) + c)) (σ (u2 + 1) (10 * (s * ns) + c)) = D s c) (hK : K (frS D n (L + 1)).2.toInt64 σ) :
    ∀ (d s : Nat), s + d = L + 1 → wX2_farthestFrom_L10 u u2 (nI L) K Q (d + 1) (frS D n s).1 (frS D n s).2.toInt64 (nI s) σ
  | 0, s, hs => by
    unfold wX2_farthestFrom_L10
    have e : s = L + 1 := by omega
    rw [e]
    exact ⟨fun _ => hK, fun z => absurd (nI_lt (by omega) (by omega)) z⟩
  | d + 1, s, hs => by
    unfold wX2_farthestFrom_L10
    refine ⟨fun z => absurd z (nI_nlt (by omega) (by omega)), fun _ => ⟨n + 1, ?_⟩⟩
    refine p_far19 (p := frS D n s) h4 hn hns (by omega) h1 h2 (fun c hc => hD s (by omega) c hc) (fun x7 e7 => ?_) n 0 (by omega)
    rw [e7, nI_1]
    exact p_far10 h4 hn hns hL h1 h2 hD hK d (s + 1) (by omega)
end FARB
theorem p_far {σ : Sg} {u u2 n ns L : Nat} {D : Nat → Nat → Int64} {Q : Int64 → Sg → Prop} (h4 : σ 4 0 = nI n) (hn : n ≤ 10) (hns : ns ≤ 3) (hL : L ≤ 40) (h1 : σ u 3 = nI ns) (h2 : σ u2 3 = nI ns) (hD : ∀ s, s ≤ L → ∀ c, c < n → dAB (σ (u + 1) (10 * (s * ns) + c)) (σ (u2 + 1) (10 * (s * ns) + c)) = D s c) (hQ : Q (frS D n (L + 1)).2.toInt64 σ) : wX2_farthestFrom u u2 (nI L) σ Q := by
  unfold wX2_farthestFrom
  exact ⟨_, p_far10 (K := fun x σ => Q x σ) (Q := Q) h4 hn hns hL h1 h2 hD hQ (L + 1) 0 (by omega)⟩
-- the reference
theorem p_a60 {τ0 : Sg} {x1 x2 x3 : Int32} {K : Sg → Prop} {Q : Int64 → Sg → Prop} (hK : ∀ τ, (∀ j, j ≠ 29 → τ j = τ0 j) → (∀ i, i < 10 → τ 29 i = τ0 11 i) → K τ) :
    ∀ (d i : Nat) (τ : Sg), i + d = 10 → (∀ j, j ≠ 29 → τ j = τ0 j) → (∀ q, q < i → τ 29 q = τ0 11 q) → wX12_apart_L60 x1 x2 x3 K Q (d + 1) (nI i) τ
  | 0, i, τ, hi, h1, h2 => by
    unfold wX12_apart_L60
    have e : i = 10 := by omega
    subst e
    exact ⟨fun _ => hK τ h1 h2, fun z => absurd (nI_le (a := 10) (Nat.le_refl _) (by decide)) z⟩
  | d + 1, i, τ, hi, h1, h2 => by
    unfold wX12_apart_L60
    rw [nI_clamp (by omega)]
    refine ⟨fun z => absurd z (nI_ge (b := 10) (by omega) (by decide)), fun _ => ⟨vp_in_nI (by omega) (by decide), vp_in_nI (by omega) (by decide), fun τ3 e3 x2 e2 => ?_⟩⟩
    rw [nI_1] at e2
    subst e2 e3
    refine p_a60 hK d (i + 1) _ (by omega) (fun j hj => by rw [sto_ne _ _ _ hj]; exact h1 j hj) (fun q hq => ?_)
    by_cases hic : q = i
    · subst hic; rw [sto_at, h1 11 (by decide)]
    · rw [sto_off _ _ _ hic]; exact h2 q (by omega)
theorem p_a270 {τ0 : Sg} {x6 : Int32} {K : Sg → Prop} {Q : Int64 → Sg → Prop} (hK : ∀ τ, (∀ j, j ≠ 11 → τ j = τ0 j) → (∀ i, i < 10 → τ 11 i = τ0 29 i) → K τ) :
    ∀ (d i : Nat) (τ : Sg), i + d = 10 → (∀ j, j ≠ 11 → τ j = τ0 j) → (∀ q, q < i → τ 11 q = τ0 29 q) → wX12_apart_L270 x6 K Q (d + 1) (nI i) τ
  | 0, i, τ, hi, h1, h2 => by
    unfold wX12_apart_L270
    have e : i = 10 := by omega
    subst e
    exact ⟨fun _ => hK τ h1 h2, fun z => absurd (nI_le (a := 10) (Nat.le_refl _) (by decide)) z⟩
  | d + 1, i, τ, hi, h1, h2 => by
    unfold wX12_apart_L270
    rw [nI_clamp (by omega)]
    refine ⟨fun z => absurd z (nI_ge (b := 10) (by omega) (by decide)), fun _ => ⟨vp_in_nI (by omega) (by decide), vp_in_nI (by omega) (by decide), fun τ3 e3 x2 e2 => ?_⟩⟩
    rw [nI_1] at e2
    subst e2 e3
    refine p_a270 hK d (i + 1) _ (by omega) (fun j hj => by rw [sto_ne _ _ _ hj]; exact h1 j hj) (fun q hq => ?_)
    by_cases hic : q = i
    · subst hic; rw [sto_at, h1 29 (by decide)]
    · rw [sto_off _ _ _ hic]; exact h2 q (by omega)
/-- the rows laid away: s whole rows, c cells of the next -/
def FI (τ0 τ : Sg) (ns n s c : Nat) : Prop := (∀ j, j ≠ 32 → τ j = τ0 j) ∧ (∀ r, r < s → ∀ i, i < n → τ 32 (10 * r + i) = τ0 13 (10 * (r * ns) + i)) ∧ ∀ i, i < c → τ 32 (10 * s + i) = τ0 13 (10 * (s * ns) + i)
theorem p_a109 {τ0 : Sg} {ns n s : Nat} {x2 x3 : Int32} {K : Sg → Prop} {Q : Int64 → Sg → Prop} (h6 : τ0 0 6 = nI ns) (h19 : τ0 0 19 = nI n) (hn : n ≤ 10) (hns : ns ≤ 3) (hs : s ≤ 20) (hK : ∀ τ, FI τ0 τ ns n s n → K τ) :
    ∀ (d c : Nat) (τ : Sg), c + d = n → FI τ0 τ ns n s c → wX12_apart_L109 x2 x3 (nI s) K Q (d + 1) (nI c) τ
  | 0, c, τ, hc, h => by
    unfold wX12_apart_L109
    have e : c = n := by omega
    subst e
    rw [h.1 0 (by decide), h19]
    exact ⟨fun _ => hK τ h, fun z => absurd (nI_le (Nat.le_refl _) (by omega)) z⟩
  | d + 1, c, τ, hc, h => by
    unfold wX12_apart_L109
    rw [h.1 0 (by decide), h19]
    refine ⟨fun z => absurd z (nI_ge (by omega) (by omega)), fun _ => p_stateAt (by rw [h.1 0 (by decide)]; exact h6) hns (by omega) (by omega) ?_⟩
    rw [ix10, nI_clamp (by omega)]
    refine ⟨vp_in_nI (by omega) (by decide), fun τ3 e3 x5 e5 => ?_⟩
    rw [nI_1] at e5
    subst e5
    refine p_a109 h6 h19 hn hns hs hK d (c + 1) τ3 (by omega) ⟨fun j hj => by rw [e3, sto_ne _ _ _ hj]; exact h.1 j hj, fun r hr i hi => ?_, fun i hi => ?_⟩
    · rw [e3, sto_off _ _ _ (by omega)]; exact h.2.1 r hr i hi
    · by_cases hic : i = c
      · subst hic; rw [e3, sto_at, h.1 13 (by decide)]
      · rw [e3, sto_off _ _ _ (by omega)]; exact h.2.2 i (by omega)
theorem p_a100 {τ0 : Sg} {ns n L : Nat} {x2 : Int32} {K : Sg → Prop} {Q : Int64 → Sg → Prop} (h6 : τ0 0 6 = nI ns) (h19 : τ0 0 19 = nI n) (hn : n ≤ 10) (hns : ns ≤ 3) (hL : L ≤ 20) (hK : ∀ τ, FI τ0 τ ns n (L + 1) 0 → K τ) :
    ∀ (d s : Nat) (τ : Sg), s + d = L + 1 → FI τ0 τ ns n s 0 → wX12_apart_L100 x2 (nI L) K Q (d + 1) (nI s) τ
  | 0, s, τ, hs, h => by
    unfold wX12_apart_L100
    have e : s = L + 1 := by omega
    subst e
    exact ⟨fun _ => hK τ h, fun z => absurd (nI_lt (by omega) (by omega)) z⟩
  | d + 1, s, τ, hs, h => by
    unfold wX12_apart_L100
    refine ⟨fun z => absurd z (nI_nlt (by omega) (by omega)), fun _ => ⟨n + 1, ?_⟩⟩
    refine p_a109 h6 h19 hn hns (by omega) (fun τ' h' x4 e4 => ?_) n 0 τ (by omega) h
    rw [e4, nI_1]
    refine p_a100 h6 h19 hn hns hL hK d (s + 1) τ' (by omega) ⟨h'.1, fun r hr i hi => ?_, fun i hi => by omega⟩
    by_cases e : r = s
    · subst e; exact h'.2.2 i hi
    · exact h'.2.1 r (by omega) i hi
theorem p_a181 {τ : Sg} {ns n s L : Nat} {D : Nat → Nat → Int64} {p : Int64 × Int32} {K : Int64 → Int32 → Sg → Prop} {Q : Int64 → Sg → Prop} (h6 : τ 0 6 = nI ns) (h19 : τ 0 19 = nI n) (hn : n ≤ 10) (hns : ns ≤ 3) (hs : s ≤ 20) (hD : ∀ c, c < n → dAB (τ 32 (10 * s + c)) (τ 13 (10 * (s * ns) + c)) = D s c) (hK : K (fr1 (D s) s p n).1 (fr1 (D s) s p n).2 τ) :
    ∀ (d c : Nat), c + d = n → wX12_apart_L181 (nI L) (nI s) K Q (d + 1) (fr1 (D s) s p c).1 (fr1 (D s) s p c).2 (nI c) τ
  | 0, c, hc => by
    unfold wX12_apart_L181
    have e : c = n := by omega
    rw [h19, e]
    exact ⟨fun _ => hK, fun z => absurd (nI_le (Nat.le_refl _) (by omega)) z⟩
  | d + 1, c, hc => by
    have ih := p_a181 (L := L) (Q := Q) h6 h19 hn hns hs hD hK d (c + 1) (by omega)
    unfold wX12_apart_L181
    rw [h19, ix10, nI_clamp (by omega)]
    refine ⟨fun z => absurd z (nI_ge (by omega) (by omega)), fun _ => ⟨vp_in_nI (by omega) (by decide), p_stateAt h6 hns (by omega) (by omega) (fun x9 e9 => ?_)⟩⟩
    have fin : ∀ y : Int64, y = D s c → wX12_apart_b231 (nI L) (fr1 (D s) s p c).1 (fr1 (D s) s p c).2 (nI s) (nI c) y τ K (wX12_apart_L181 (nI L) (nI s) K Q (d + 1)) Q := by
      intro y ey
      unfold wX12_apart_b231 wX12_apart_b255
      rw [ey, lg_cmp_le, ix16]
      unfold fr1 at ih
      refine ⟨fun z x8 e8 => ?_, fun z x6 e6 x8 e8 => ?_⟩
      · rw [if_pos z] at ih
        rw [e8, nI_1]
        exact ih
      · rw [if_neg z] at ih
        rw [e8, e6, nI_1]
        exact ih
    have hd := hD c (by omega)
    unfold dAB at hd
    rw [← e9] at hd
    rw [lg_cmp_ge]
    refine ⟨fun z => fin _ ?_, fun z => fin _ ?_⟩
    · rw [← hd, dAB_ge z]
    · rw [← hd, dAB_lt z]
theorem p_a172 {τ : Sg} {ns n L : Nat} {D : Nat → Nat → Int64} {K : Int32 → Sg → Prop} {Q : Int64 → Sg → Prop} (h6 : τ 0 6 = nI ns) (h19 : τ 0 19 = nI n) (hn : n ≤ 10) (hns : ns ≤ 3) (hL : L ≤ 20) (hD : ∀ s, s ≤ L → ∀ c, c < n → dAB (τ 32 (10 * s + c)) (τ 13 (10 * (s * ns) + c)) = D s c) (hK : K (frS D n (L + 1)).2 τ) :
    ∀ (d s : Nat), s + d = L + 1 → wX12_apart_L172 (nI L) K Q (d + 1) (frS D n s).1 (frS D n s).2 (nI s) τ
  | 0, s, hs => by
    unfold wX12_apart_L172
    have e : s = L + 1 := by omega
    rw [e]
    exact ⟨fun _ => hK, fun z => absurd (nI_lt (by omega) (by omega)) z⟩
  | d + 1, s, hs => by
    unfold wX12_apart_L172
    refine ⟨fun z => absurd z (nI_nlt (by omega) (by omega)), fun _ => ⟨n + 1, ?_⟩⟩
    refine p_a181 (p := frS D n s) h6 h19 hn hns (by omega) (fun c hc => hD s (by omega) c hc) (fun x7 e7 => ?_) n 0 (by omega)
    rw [e7, nI_1]
    exact p_a172 h6 h19 hn hns hL hD hK d (s + 1) (by omega)
/-- the reference's world as it was, but for scratch and the strips beyond ten -/
theorem Inv_strips {σ σ' τ τ' : Sg} (hs : SameB σ' σ) (h : ∀ j, j ≠ 0 → j ≠ 11 → ¬ scrM j → τ' j = τ j) (h0 : ∀ k, ¬ scrI k → τ' 0 k = τ 0 k) (h11 : ∀ i, i < 10 → τ' 11 i = τ 11 i) (hI : Inv σ τ) : Inv σ' τ' := by
  have hI2 : Inv σ (va_up τ 11 (τ' 11)) := by
    obtain ⟨⟨n, hn1, hn2, b1, b2⟩, b3, b4, b5⟩ := hI.2.2.2.2.1
    refine Inv_bay (σ := σ) (τ := τ) (fun _ _ => rfl) (fun j q1 q2 q3 q4 => va_up_ne _ _ q3) (fun k _ => by rw [va_up_ne _ _ (by decide)]) ?_ hI
    refine ⟨⟨n, hn1, hn2, b1, by rw [va_up_ne _ _ (by decide)]; exact b2⟩, fun i hi => ?_, fun i hi => ?_, fun i hi => ?_⟩
    · rw [va_up_ne _ _ (by decide)]; exact b3 i hi
    · rw [va_up_self, h11 i hi]; exact b4 i hi
    · rw [va_up_ne _ _ (by decide)]; exact b5 i hi
  refine Inv_fr hs ⟨fun j q1 q2 => ?_, fun k hk => ?_⟩ hI2
  · by_cases c : j = 11
    · rw [c, va_up_self]
    · rw [va_up_ne _ _ c]; exact h j q1 c q2
  · rw [va_up_ne _ _ (by decide)]; exact h0 k hk
theorem E_apart (x1 x2 : Int32) {σ τ : Sg} (hI : Inv σ τ) : wX11_apart x1 x2 σ (fun r σ' => wX12_apart x1 x2 τ (fun r' τ' => r = r' ∧ Inv σ' τ')) := by
  obtain ⟨T, ns, nn, bg, op, nu, sz, n, g, ou, ce, gs, wt, wa, hB, hM⟩ := Inv_C hI
  obtain ⟨a1, a2, a3, a4, a5, a6, a7, a8⟩ := id hB
  obtain ⟨-, m4, -, -, m7, m8⟩ := id hM
  obtain ⟨-, b3, b4, b5⟩ := hI.2.2.2.2.1
  obtain ⟨ms, hms, t1, t2, t3⟩ := hI.2.2.2.2.2.2.1
  have hl := gl_le (n := n) (ou := ou) (ce := ce) (fun j hj => (a8.2.2 j hj).2.2.2.2.1 : ∀ j, j < g → gs j ≤ 20)
  have hns := a3.1
  unfold wX11_apart wX12_apart wX11_apart_b22 wX12_apart_b16 wX11_apart_b64 wX12_apart_b47
  simp only [p_hasS, p_isStrip, p_refused, ite10, t1, t2]
  by_cases c1 : 0 ≤ x1 ∧ x1 ≤ nI ms - 1
  case neg =>
    simp only [c1, not_false_eq_true, true_implies, not_true_eq_false, false_implies, and_true]
    exact ⟨by decide, hI⟩
  by_cases c2 : 0 ≤ x2 ∧ x2 ≤ nI ms - 1
  case neg =>
    simp only [c1, c2, not_false_eq_true, true_implies, not_true_eq_false, false_implies, and_true, true_and]
    exact ⟨by decide, hI⟩
  simp only [c1, c2, not_false_eq_true, true_implies, not_true_eq_false, false_implies, and_true, true_and]
  obtain ⟨a, ha, rfl⟩ := rng0 (by omega) c1
  obtain ⟨b, hb, rfl⟩ := rng0 (by omega) c2
  obtain ⟨qa, ha1, ha2, ha3, ha4, ha5⟩ := t3 a ha
  obtain ⟨qb, hb1, hb2, hb3, hb4, hb5⟩ := t3 b hb
  have ina : vp_in (nI a) 6 := vp_in_nI (by omega) (by decide)
  have inb : vp_in (nI b) 6 := vp_in_nI (by omega) (by decide)
  rw [nI_clamp (by omega), nI_clamp (by omega), a7, m7, ha3, ha4, hb3, hb4]
  have eqa : nI qa = nI n ↔ qa = n := nI_eq (by omega) (by omega)
  have eqb : nI qb = nI n ↔ qb = n := nI_eq (by omega) (by omega)
  by_cases d1 : qa = n
  case neg =>
    have z : ¬ nI qa = nI n := fun w => d1 (eqa.mp w)
    simp only [z, ina, not_false_eq_true, true_implies, not_true_eq_false, false_implies, and_true, true_and]
    exact ⟨by decide, hI⟩
  by_cases d2 : qb = n
  case neg =>
    have z : ¬ nI qb = nI n := fun w => d2 (eqb.mp w)
    have z1 : nI qa = nI n := eqa.mpr d1
    simp only [z, z1, ina, inb, not_false_eq_true, true_implies, not_true_eq_false, false_implies, and_true, true_and]
    exact ⟨by decide, hI⟩
  subst d1
  rw [d2]
  refine ⟨ina, fun _ => ⟨inb, fun _ => p_lastB' a8 a6 (fun T11 eT => ?_), fun w => absurd rfl w⟩, fun w => absurd rfl w⟩
  rw [a2, Sten_clamp a1] at eT
  rw [eT]
  refine ⟨a1, ina, fun r12 e12 => ?_⟩
  rw [e12]
  refine p_runC (Or.inl rfl) a1 (Or.inr ⟨a, by omega, rfl⟩) a3 a4 a7 a6 (by omega) (fun σ14 f14 h14 T15 eT15 => ?_)
  have f14' : ∀ j, j ≠ 15 → j ≠ 18 → j ≠ 36 → j ≠ 37 → σ14 j = σ j := f14
  have s14 : SameB σ14 σ := sB_of (fun j q1 q2 q3 q4 q5 => f14' j q1 q3 q4 q5)
  obtain ⟨-, k2, -, k4, -, -, k7, -⟩ := CB_same s14 hB
  rw [k2, Sten_clamp a1] at eT15
  rw [eT15]
  refine ⟨a1, inb, fun r16 e16 => ?_⟩
  rw [e16]
  refine p_runC (Or.inr rfl) a1 (Or.inr ⟨b, by omega, rfl⟩) a3 k4 k7 a6 (by omega) (fun σ18 f18 h18 => ?_)
  have f18' : ∀ j, j ≠ 15 → j ≠ 18 → j ≠ 38 → j ≠ 39 → σ18 j = σ14 j := f18
  have s18 : SameB σ18 σ := fun j hj => by
    rw [f18' j (by unfold scrB at hj; omega) (by unfold scrB at hj; omega) (by unfold scrB at hj; omega) (by unfold scrB at hj; omega)]
    exact s14 j hj
  have r5 : σ14 5 = σ 5 := f14' 5 (by decide) (by decide) (by decide) (by decide)
  have r7 : σ14 7 = σ 7 := f14' 7 (by decide) (by decide) (by decide) (by decide)
  have u5 : σ18 5 = σ 5 := (f18' 5 (by decide) (by decide) (by decide) (by decide)).trans r5
  have u7 : σ18 7 = σ 7 := (f18' 7 (by decide) (by decide) (by decide) (by decide)).trans r7
  have rb : σ14 (51 + b) = σ (51 + b) := f14' (51 + b) (by omega) (by omega) (by omega) (by omega)
  have w36 : ∀ r, r ≤ gl qa ou ce gs g * ns → ∀ i, i < qa → σ18 (36 + 1) (10 * r + i) = rn ns bg op nu sz (σ 5) (σ 7) (σ (51 + a)) qa r i := fun r hr i hi => by
    rw [f18' (36 + 1) (by decide) (by decide) (by decide) (by decide), h14.2 r hr i hi, r5, r7]
  have w38 : ∀ r, r ≤ gl qa ou ce gs g * ns → ∀ i, i < qa → σ18 (38 + 1) (10 * r + i) = rn ns bg op nu sz (σ 5) (σ 7) (σ (51 + b)) qa r i := fun r hr i hi => by
    rw [h18.2 r hr i hi, u5, u7, rb]
  refine p_far (D := fun s c => dAB (rn ns bg op nu sz (σ 5) (σ 7) (σ (51 + a)) qa (s * ns) c) (rn ns bg op nu sz (σ 5) (σ 7) (σ (51 + b)) qa (s * ns) c)) (by rw [s18 4 (by unfold scrB; omega)]; exact a7) a6 hns (by omega) (by rw [f18' 36 (by decide) (by decide) (by decide) (by decide)]; exact h14.1) h18.1 (fun s hs c hc => ?_) ?_
  · rw [w36 (s * ns) (Nat.mul_le_mul_right ns hs) c hc, w38 (s * ns) (Nat.mul_le_mul_right ns hs) c hc]
  refine ⟨ina, fun _ => ⟨inb, fun _ => p_lastM' m8 m7 a6 ⟨11, ?_⟩, fun w => absurd rfl w⟩, fun w => absurd rfl w⟩
  refine p_a60 (τ0 := τ) (fun τ18 g18 v18 => ?_) 10 0 τ (by omega) (fun _ _ => rfl) (fun q hq => by omega)
  refine p_layS (n := qa) a6 (by omega) (by rw [g18 0 (by decide)]; exact m7) ?_
  have l1 : ∀ j, j ≠ 11 → j ≠ 29 → cpy τ18 30 11 (10 * a) 0 qa j = τ j := fun j q1 q2 => by rw [cpy_ne _ _ _ _ q1]; exact g18 j q2
  have l1s : ∀ i, i < qa → cpy τ18 30 11 (10 * a) 0 qa 11 i = τ 30 (10 * a + i) := fun i hi => by
    rw [cpy_same, if_pos (by omega), Nat.sub_zero, g18 30 (by decide)]
  have l1k : ∀ i, i < 10 → cpy τ18 30 11 (10 * a) 0 qa 29 i = τ 11 i := fun i hi => by rw [cpy_ne _ _ _ _ (by decide)]; exact v18 i hi
  generalize cpy τ18 30 11 (10 * a) 0 qa = τ20 at l1 l1s l1k ⊢
  have hM20 : TM τ20 ns nn bg op nu sz := TM_fr (by rw [l1 0 (by decide) (by decide)]) (by rw [l1 0 (by decide) (by decide)]) (l1 5 (by decide) (by decide)) (l1 6 (by decide) (by decide)) (l1 7 (by decide) (by decide)) (l1 8 (by decide) (by decide)) m4
  refine p_go a3 hM20 (by rw [l1 0 (by decide) (by decide)]; exact m7) a6 (by omega) (fun τ22 g22 g220 hR22 _ => ⟨gl qa ou ce gs g + 1 + 1, ?_⟩)
  have h0_22 : ∀ k, k ≠ 27 → τ22 0 k = τ 0 k := fun k hk => by rw [g220 k hk, l1 0 (by decide) (by decide)]
  refine p_a100 (τ0 := τ22) (by rw [h0_22 6 (by decide)]; exact m4.1) (by rw [h0_22 19 (by decide)]; exact m7) a6 hns (by omega) (fun τ31 h31 => ?_) (gl qa ou ce gs g + 1) 0 τ22 (by omega) ⟨fun _ _ => rfl, fun r hr => by omega, fun i hi => by omega⟩
  have g31 : ∀ j, j ≠ 0 → j ≠ 11 → j ≠ 13 → j ≠ 14 → j ≠ 15 → j ≠ 29 → j ≠ 32 → τ31 j = τ j := fun j q0 q1 q2 q3 q4 q5 q6 => by rw [h31.1 j q6, g22 j q0 q2 q3 q4, l1 j q1 q5]
  have h0_31 : ∀ k, k ≠ 27 → τ31 0 k = τ 0 k := fun k hk => by rw [h31.1 0 (by decide)]; exact h0_22 k hk
  have k31 : ∀ i, i < 10 → τ31 29 i = τ 11 i := fun i hi => by rw [h31.1 29 (by decide), g22 29 (by decide) (by decide) (by decide) (by decide)]; exact l1k i hi
  have v31 : ∀ s, s ≤ gl qa ou ce gs g → ∀ i, i < qa → τ31 32 (10 * s + i) = rn ns bg op nu sz (τ 10) (τ 12) (τ20 11) qa (s * ns) i := fun s hs i hi => by
    rw [h31.2.1 s (by omega) i hi, hR22 (s * ns) (Nat.mul_le_mul_right ns hs) i hi, l1 10 (by decide) (by decide), l1 12 (by decide) (by decide)]
  refine p_layS (n := qa) a6 (by omega) (by rw [h0_31 19 (by decide)]; exact m7) ?_
  have l2 : ∀ j, j ≠ 11 → cpy τ31 30 11 (10 * b) 0 qa j = τ31 j := fun j q1 => by rw [cpy_ne _ _ _ _ q1]
  have l2s : ∀ i, i < qa → cpy τ31 30 11 (10 * b) 0 qa 11 i = τ 30 (10 * b + i) := fun i hi => by
    rw [cpy_same, if_pos (by omega), Nat.sub_zero, g31 30 (by decide) (by decide) (by decide) (by decide) (by decide) (by decide) (by decide)]
  generalize cpy τ31 30 11 (10 * b) 0 qa = τ33 at l2 l2s ⊢
  have hM33 : TM τ33 ns nn bg op nu sz := TM_fr (by rw [l2 0 (by decide)]; exact h0_31 6 (by decide)) (by rw [l2 0 (by decide)]; exact h0_31 7 (by decide)) (by rw [l2 5 (by decide)]; exact g31 5 (by decide) (by decide) (by decide) (by decide) (by decide) (by decide) (by decide)) (by rw [l2 6 (by decide)]; exact g31 6 (by decide) (by decide) (by decide) (by decide) (by decide) (by decide) (by decide)) (by rw [l2 7 (by decide)]; exact g31 7 (by decide) (by decide) (by decide) (by decide) (by decide) (by decide) (by decide)) (by rw [l2 8 (by decide)]; exact g31 8 (by decide) (by decide) (by decide) (by decide) (by decide) (by decide) (by decide)) m4
  refine p_go a3 hM33 (by rw [l2 0 (by decide), h0_31 19 (by decide)]; exact m7) a6 (by omega) (fun τ35 g35 g350 hR35 _ => ⟨gl qa ou ce gs g + 1 + 1, ?_⟩)
  have h0_35 : ∀ k, k ≠ 27 → τ35 0 k = τ 0 k := fun k hk => by rw [g350 k hk, l2 0 (by decide)]; exact h0_31 k hk
  have v35 : ∀ s, s ≤ gl qa ou ce gs g → ∀ i, i < qa → τ35 13 (10 * (s * ns) + i) = rn ns bg op nu sz (τ 10) (τ 12) (τ33 11) qa (s * ns) i := fun s hs i hi => by
    rw [hR35 (s * ns) (Nat.mul_le_mul_right ns hs) i hi, l2 10 (by decide), l2 12 (by decide), g31 10 (by decide) (by decide) (by decide) (by decide) (by decide) (by decide) (by decide), g31 12 (by decide) (by decide) (by decide) (by decide) (by decide) (by decide) (by decide)]
  have v32 : τ35 32 = τ31 32 := by rw [g35 32 (by decide) (by decide) (by decide) (by decide), l2 32 (by decide)]
  have k35 : ∀ i, i < 10 → τ35 29 i = τ 11 i := fun i hi => by rw [g35 29 (by decide) (by decide) (by decide) (by decide), l2 29 (by decide)]; exact k31 i hi
  refine p_a172 (D := fun s c => dAB (rn ns bg op nu sz (σ 5) (σ 7) (σ (51 + a)) qa (s * ns) c) (rn ns bg op nu sz (σ 5) (σ 7) (σ (51 + b)) qa (s * ns) c)) (by rw [h0_35 6 (by decide)]; exact m4.1) (by rw [h0_35 19 (by decide)]; exact m7) a6 hns (by omega) (fun s hs c hc => ?_) ⟨11, ?_⟩ (gl qa ou ce gs g + 1) 0 (by omega)
  · rw [v32, v31 s hs c hc, v35 s hs c hc, rn_congr (st := σ 5) (ed := σ 7) (sp := σ (51 + a)) (st' := τ 10) (ed' := τ 12) (sp' := τ20 11) (fun i hi => b3 i (by omega)) b5 (fun i hi => by rw [l1s i hi]; exact ha5 i hi) (s * ns) c hc, rn_congr (st := σ 5) (ed := σ 7) (sp := σ (51 + b)) (st' := τ 10) (ed' := τ 12) (sp' := τ33 11) (fun i hi => b3 i (by omega)) b5 (fun i hi => by rw [l2s i hi]; exact hb5 i (by omega)) (s * ns) c hc]
  · refine p_a270 (τ0 := τ35) (fun τ54 g54 v54 => ⟨rfl, ?_⟩) 10 0 τ35 (by omega) (fun _ _ => rfl) (fun q hq => by omega)
    refine Inv_strips s18 (fun j q0 q1 q2 => ?_) (fun k hk => ?_) (fun i hi => ?_) hI
    · rw [g54 j q1, g35 j q0 (by unfold scrM at q2; omega) (by unfold scrM at q2; omega) (by unfold scrM at q2; omega), l2 j q1]
      exact g31 j q0 q1 (by unfold scrM at q2; omega) (by unfold scrM at q2; omega) (by unfold scrM at q2; omega) (by unfold scrM at q2; omega) (by unfold scrM at q2; omega)
    · rw [g54 0 (by decide)]; exact h0_35 k (by unfold scrI at hk; omega)
    · rw [v54 i hi]; exact k35 i hi
