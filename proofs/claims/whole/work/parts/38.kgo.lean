/-! a stencil's knots are one number -/
theorem kfl_congr {op sz : Nat → Nat} {V V' fl fl' : Nat → Int32} {e i : Nat} (hk : Kid op sz e i) (hV : ∀ q, i < q → q < e → V q = V' q) (hf : ∀ q, i ≤ q → q < e → fl q = fl' q) : ∀ q, i + 1 ≤ q → q < e → kfl op sz V fl i q = kfl op sz V' fl' i q := by
  intro q h1 h2
  have e0 := hf i (Nat.le_refl _) hk.2.1
  have eq := hf q (by omega) h2
  have up : ∀ (f f' : Nat → Int32) (p : Nat), f q = f' q → upd f p 1 q = upd f' p 1 q := fun f f' p h => by
    by_cases c : q = p
    · subst c; rw [pk_us, pk_us]
    · rw [pk_un c, pk_un c]; exact h
  unfold kfl
  rw [e0]
  by_cases c1 : fl' i = 0
  · rw [if_pos c1, if_pos c1]; exact eq
  · rw [if_neg c1, if_neg c1]
    by_cases c2 : op i ≤ 4
    · rw [if_pos c2, if_pos c2]; exact eq
    · rw [if_neg c2, if_neg c2]
      by_cases c3 : op i = 10
      · rw [if_pos c3, if_pos c3, tkN_congr hk (by omega) hV]
        exact up _ _ _ (up _ _ _ (up _ _ _ eq))
      · rw [if_neg c3, if_neg c3]
        exact up _ _ _ (up _ _ _ eq)
theorem kct_congr {op sz : Nat → Nat} {V V' fl fl' : Nat → Int32} {e i : Nat} (hk : Kid op sz e i) (hV : ∀ q, i < q → q < e → V q = V' q) (hf : ∀ q, i ≤ q → q < e → fl q = fl' q) : kct op sz V fl i = kct op sz V' fl' i := by
  have e0 := hf i (Nat.le_refl _) hk.2.1
  unfold kct
  rw [e0]
  by_cases c1 : fl' i = 0
  · rw [if_pos c1, if_pos c1]
  · rw [if_neg c1, if_neg c1]
    by_cases c2 : op i ≤ 7
    · rw [if_pos c2, if_pos c2]
    · rw [if_neg c2, if_neg c2]
      have a := hk.2.2.2.1 (by omega)
      rw [hV (i + 1) (by omega) a.1, hV (s2 sz i) a.2.1 a.2.2]
theorem kgo_congr {op sz : Nat → Nat} {V V' : Nat → Int32} {b e : Nat} (hk : ∀ i, b ≤ i → i < e → Kid op sz e i) (hV : ∀ q, b ≤ q → q < e → V q = V' q) : ∀ (d i : Nat) (fl fl' : Nat → Int32) (k : Int32), b ≤ i → i + d = e → (∀ q, i ≤ q → q < e → fl q = fl' q) → kgo op sz V d i fl k = kgo op sz V' d i fl' k
  | 0, i, fl, fl', k, hb, hi, hf => rfl
  | d + 1, i, fl, fl', k, hb, hi, hf => by
    have hki := hk i hb (by omega)
    have hVi : ∀ q, i < q → q < e → V q = V' q := fun q q1 q2 => hV q (by omega) q2
    unfold kgo
    rw [kct_congr hki hVi hf]
    exact kgo_congr hk hV d (i + 1) _ _ _ (by omega) (by omega) (kfl_congr hki hVi hf)
