/-! one stencil worked out for one cell -/
def tkN (op sz : Nat → Nat) (V : Nat → Int32) (i : Nat) : Nat :=
  if op i = 10 then (if V (i + 1) ≤ V (s2 sz i) then s4 sz i else s3 sz i)
  else if op i = 8 then (if V (s2 sz i) < V (i + 1) then s2 sz i else i + 1)
  else (if V (i + 1) < V (s2 sz i) then s2 sz i else i + 1)
def rhs (op : Nat → Nat) (nu : Nat → Int32) (sz : Nat → Nat) (se V : Nat → Int32) (i : Nat) : Int32 :=
  if op i ≤ 3 then se (op i) else if op i = 4 then nu i else if op i = 5 then V (i + 1) + V (s2 sz i) else if op i = 6 then V (i + 1) - V (s2 sz i) else if op i = 7 then V (i + 1) * V (s2 sz i) else V (tkN op sz V i)
def Evs (op : Nat → Nat) (nu : Nat → Int32) (sz : Nat → Nat) (se : Nat → Int32) (b e : Nat) (V : Nat → Int32) : Prop := ∀ j, b ≤ j → j < e → V j = rhs op nu sz se V j
/-- what a node's parts are, in the stencil [b, e) -/
def Kid (op sz : Nat → Nat) (e i : Nat) : Prop := op i ≤ 10 ∧ i < e ∧ e ≤ 60 ∧ (5 ≤ op i → i + 1 < e ∧ i < s2 sz i ∧ s2 sz i < e) ∧ (op i = 10 → i < s3 sz i ∧ s3 sz i < e ∧ i < s4 sz i ∧ s4 sz i < e)
theorem TX_mono {ns nn : Nat} {bg op sz : Nat → Nat} (h : TX ns nn bg op sz) : ∀ m, m ≤ ns → ∀ q, q ≤ m → bg q ≤ bg m := by
  intro m
  induction m with
  | zero => intro _ q hq; rw [Nat.le_zero.mp hq]; exact Nat.le_refl _
  | succ m ih =>
    intro hm q hq
    have := h.2.2.2.2.1 m (by omega)
    by_cases c : q = m + 1
    · rw [c]; exact Nat.le_refl _
    · have := ih (by omega) q (by omega); omega
theorem TX_end {ns nn : Nat} {bg op sz : Nat → Nat} (h : TX ns nn bg op sz) {k : Nat} (hk : k < ns) : bg (k + 1) ≤ nn := by
  have := TX_mono h ns (Nat.le_refl _) (k + 1) (by omega)
  rw [h.2.2.2.1] at this
  exact this
theorem TX_kid {ns nn : Nat} {bg op sz : Nat → Nat} (h : TX ns nn bg op sz) {k i : Nat} (hk : k < ns) (h1 : bg k ≤ i) (h2 : i < bg (k + 1)) : Kid op sz (bg (k + 1)) i := by
  have a := h.2.2.2.2.2 k hk i h1 h2
  have he := TX_end h hk
  have h60 := h.2.1
  refine ⟨a.1, h2, by omega, fun q => ?_, fun q => ?_⟩
  · have := a.2.2.2.1 q
    refine ⟨this.1, ?_, this.2⟩
    unfold s2
    omega
  · have := a.2.2.2.2 q
    refine ⟨?_, this.1, ?_, this.2⟩
    · unfold s3 s2; omega
    · unfold s4 s3 s2; omega
theorem tkN_rng {op sz : Nat → Nat} {V : Nat → Int32} {e i : Nat} (h : Kid op sz e i) (ho : 5 ≤ op i) : i < tkN op sz V i ∧ tkN op sz V i < e := by
  unfold tkN
  have a := h.2.2.2.1 ho
  by_cases c : op i = 10
  · have b := h.2.2.2.2 c
    rw [if_pos c]
    split <;> omega
  · rw [if_neg c]
    split
    · split <;> omega
    · split <;> omega
theorem tkN_congr {op sz : Nat → Nat} {V V' : Nat → Int32} {e i : Nat} (h : Kid op sz e i) (ho : 5 ≤ op i) (hV : ∀ q, i < q → q < e → V q = V' q) : tkN op sz V i = tkN op sz V' i := by
  have a := h.2.2.2.1 ho
  unfold tkN
  rw [hV (i + 1) (by omega) a.1, hV (s2 sz i) a.2.1 a.2.2]
theorem rhs_congr {op : Nat → Nat} {nu : Nat → Int32} {sz : Nat → Nat} {se se' V V' : Nat → Int32} {e i : Nat} (h : Kid op sz e i) (hs : ∀ q, q ≤ 3 → se q = se' q) (hV : ∀ q, i < q → q < e → V q = V' q) : rhs op nu sz se V i = rhs op nu sz se' V' i := by
  unfold rhs
  by_cases c : op i ≤ 3
  · rw [if_pos c, if_pos c]; exact hs _ c
  rw [if_neg c, if_neg c]
  by_cases c4 : op i = 4
  · rw [if_pos c4, if_pos c4]
  rw [if_neg c4, if_neg c4]
  have a := h.2.2.2.1 (by omega)
  have t := tkN_rng (V := V) h (by omega)
  rw [hV (i + 1) (by omega) a.1, hV (s2 sz i) a.2.1 a.2.2, hV _ t.1 t.2, tkN_congr h (by omega) hV]
theorem Evs_one {op : Nat → Nat} {nu : Nat → Int32} {sz : Nat → Nat} {se se' V V' : Nat → Int32} {b e : Nat} (hk : ∀ i, b ≤ i → i < e → Kid op sz e i) (hs : ∀ q, q ≤ 3 → se q = se' q) (h : Evs op nu sz se b e V) (h' : Evs op nu sz se' b e V') : ∀ (d i : Nat), i + d = e → ∀ q, b ≤ q → i ≤ q → q < e → V q = V' q
  | 0, i, hi, q, h1, h2, h3 => by omega
  | d + 1, i, hi, q, h1, h2, h3 => by
    have ih := Evs_one hk hs h h' d (i + 1) (by omega)
    by_cases c : q = i
    · subst c
      rw [h q h1 h3, h' q h1 h3]
      exact rhs_congr (hk q h1 h3) hs (fun r a b => ih r (by omega) (by omega) b)
    · exact ih q h1 (by omega) h3
theorem Evs_eq {op : Nat → Nat} {nu : Nat → Int32} {sz : Nat → Nat} {se se' V V' : Nat → Int32} {b e : Nat} (hk : ∀ i, b ≤ i → i < e → Kid op sz e i) (hs : ∀ q, q ≤ 3 → se q = se' q) (h : Evs op nu sz se b e V) (h' : Evs op nu sz se' b e V') {q : Nat} (h1 : b ≤ q) (h2 : q < e) : V q = V' q := Evs_one hk hs h h' (e - b) b (by omega) q h1 h1 h2
/-- what the class knows of a node -/
def NdB (σ : Sg) (T : Nat) (op : Nat → Nat) (nu : Nat → Int32) (sz : Nat → Nat) (i : Nat) : Prop :=
  σ (T + 2) i = nI (op i) ∧ (op i = 4 → σ (T + 3) i = nu i) ∧ (5 ≤ op i → σ (T + 5) i = nI (s2 sz i)) ∧ (op i = 10 → σ (T + 6) i = nI (s3 sz i) ∧ σ (T + 7) i = nI (s4 sz i))
def NdM (τ : Sg) (op : Nat → Nat) (nu : Nat → Int32) (sz : Nat → Nat) (i : Nat) : Prop :=
  τ 6 i = nI (kdOf (op i)) ∧ (op i ≠ 10 → τ 7 i = mkOf (op i) (nu i)) ∧ τ 8 i = nI (sz i)
theorem TB_nd {σ : Sg} {T ns nn : Nat} {bg op : Nat → Nat} {nu : Nat → Int32} {sz : Nat → Nat} (h : TB σ T ns nn bg op nu sz) {i : Nat} (hi : i < nn) : NdB σ T op nu sz i := ⟨(h.2.2.2 i hi).1, (h.2.2.2 i hi).2.1, (h.2.2.2 i hi).2.2.2.1, (h.2.2.2 i hi).2.2.2.2⟩
theorem TM_nd {τ : Sg} {ns nn : Nat} {bg op : Nat → Nat} {nu : Nat → Int32} {sz : Nat → Nat} (h : TM τ ns nn bg op nu sz) {i : Nat} (hi : i < nn) : NdM τ op nu sz i := h.2.2.2 i hi
theorem oeq {o c : Nat} (ho : o ≤ 10) (hc : c ≤ 10) : nI o = nI c ↔ o = c := nI_eq (by omega) (by omega)
theorem p_taken {σ : Sg} {T e i : Nat} {op : Nat → Nat} {nu : Nat → Int32} {sz : Nat → Nat} {Q : Int32 → Sg → Prop} (hN : NdB σ T op nu sz i) (hk : Kid op sz e i) (ho : 8 ≤ op i) (hQ : Q (nI (tkN op sz (σ 15) i)) σ) : wX3_taken T (nI i) σ Q := by
  have a := hk.2.2.2.1 (by omega)
  have e60 := hk.2.2.1
  unfold wX3_taken wX3_taken_b54 wX3_taken_b91 wX3_taken_b110
  rw [nI_1, nI_clamp (by omega), nI_clamp (by omega), hN.2.2.1 (by omega), nI_clamp (by omega), hN.1]
  have i1 : vp_in (nI i) 60 := vp_in_nI (by omega) (by decide)
  have i2 : vp_in (nI (i + 1)) 60 := vp_in_nI (by omega) (by decide)
  have i3 : vp_in (nI (s2 sz i)) 60 := vp_in_nI (by omega) (by decide)
  unfold tkN at hQ
  have o10 : nI (op i) = 10 ↔ op i = 10 := oeq hk.1 (by decide)
  have o8 : nI (op i) = 8 ↔ op i = 8 := oeq hk.1 (by decide)
  refine ⟨i2, fun x3 e3 => ⟨i1, i3, fun x4 e4 => ⟨i1, fun z => ?_, fun z => ⟨i1, fun y => ?_, fun y => ?_⟩⟩⟩⟩
  · have b := o10.mp z
    rw [if_pos b] at hQ
    subst e3 e4
    refine ⟨fun x => ⟨i1, ?_⟩, fun x => ⟨i1, ?_⟩⟩
    · rw [if_pos x] at hQ; rw [(hN.2.2.2 b).2]; exact hQ
    · rw [if_neg x] at hQ; rw [(hN.2.2.2 b).1]; exact hQ
  · have b : ¬ op i = 10 := fun q => z (o10.mpr q)
    rw [if_neg b, if_pos (o8.mp y)] at hQ
    subst e3 e4
    refine ⟨fun x => ⟨fun _ => ⟨i1, ?_⟩, fun w => absurd rfl w⟩, fun x => ⟨fun w => absurd w one_ne, fun _ => ?_⟩⟩
    · rw [if_pos x] at hQ; exact hQ
    · rw [if_neg x] at hQ; exact hQ
  · have b : ¬ op i = 10 := fun q => z (o10.mpr q)
    have b2 : ¬ op i = 8 := fun q => y (o8.mpr q)
    rw [if_neg b, if_neg b2] at hQ
    subst e3 e4
    refine ⟨fun x => ⟨fun _ => ⟨i1, ?_⟩, fun w => absurd rfl w⟩, fun x => ⟨fun w => absurd w one_ne, fun _ => ?_⟩⟩
    · rw [if_pos x] at hQ; exact hQ
    · rw [if_neg x] at hQ; exact hQ
theorem p_worth {σ : Sg} {T e i : Nat} {op : Nat → Nat} {nu : Nat → Int32} {sz : Nat → Nat} {Q : Int32 → Sg → Prop} (hN : NdB σ T op nu sz i) (hk : Kid op sz e i) (hQ : Q (rhs op nu sz (σ 18) (σ 15) i) σ) : wX3_worthOf T (nI i) σ Q := by
  have e60 := hk.2.2.1
  have hie := hk.2.1
  have i1 : vp_in (nI i) 60 := vp_in_nI (by omega) (by decide)
  have oe : ∀ c : Nat, c ≤ 10 → (nI (op i) = nI c ↔ op i = c) := fun c hc => oeq hk.1 hc
  have tk : 8 ≤ op i → wX3_worthOf_b122 T (nI i) σ Q := by
    intro h8
    unfold wX3_worthOf_b122
    refine p_taken hN hk h8 ?_
    have t := tkN_rng (V := σ 15) hk (by omega)
    rw [nI_clamp (by omega)]
    refine ⟨vp_in_nI (by omega) (by decide), ?_⟩
    unfold rhs at hQ
    rw [if_neg (by omega), if_neg (by omega), if_neg (by omega), if_neg (by omega), if_neg (by omega)] at hQ
    exact hQ
  unfold wX3_worthOf
  rw [nI_clamp (by omega), hN.1]
  refine ⟨i1, fun x3 e3 => ?_⟩
  subst e3
  unfold rhs at hQ
  refine ⟨fun z => ?_, fun z4 => ⟨fun z => ?_, fun z5 => ⟨fun z => ?_, fun z6 => ⟨fun z => ?_, fun z7 => ⟨fun z => tk (by have := (oe 8 (by decide)).mp z; omega), fun z8 => ⟨fun z => tk (by have := (oe 9 (by decide)).mp z; omega), fun z9 => ⟨fun z => tk (by have := (oe 10 (by decide)).mp z; omega), fun z10 => ?_⟩⟩⟩⟩⟩⟩⟩
  · have c := (oe 4 (by decide)).mp z
    rw [if_neg (by omega), if_pos c] at hQ
    rw [hN.2.1 c]
    exact ⟨i1, hQ⟩
  · have c := (oe 5 (by decide)).mp z
    have a := hk.2.2.2.1 (by omega)
    rw [if_neg (by omega), if_neg (by omega), if_pos c] at hQ
    rw [nI_1, nI_clamp (by omega), hN.2.2.1 (by omega), nI_clamp (by omega)]
    exact ⟨vp_in_nI (by omega) (by decide), i1, vp_in_nI (by omega) (by decide), hQ⟩
  · have c := (oe 6 (by decide)).mp z
    have a := hk.2.2.2.1 (by omega)
    rw [if_neg (by omega), if_neg (by omega), if_neg (by omega), if_pos c] at hQ
    rw [nI_1, nI_clamp (by omega), hN.2.2.1 (by omega), nI_clamp (by omega)]
    exact ⟨vp_in_nI (by omega) (by decide), i1, vp_in_nI (by omega) (by decide), hQ⟩
  · have c := (oe 7 (by decide)).mp z
    have a := hk.2.2.2.1 (by omega)
    rw [if_neg (by omega), if_neg (by omega), if_neg (by omega), if_neg (by omega), if_pos c] at hQ
    rw [nI_1, nI_clamp (by omega), hN.2.2.1 (by omega), nI_clamp (by omega)]
    exact ⟨vp_in_nI (by omega) (by decide), i1, vp_in_nI (by omega) (by decide), hQ⟩
  · have c : op i ≤ 3 := by
      have a4 : op i ≠ 4 := fun q => z4 ((oe 4 (by decide)).mpr q)
      have a5 : op i ≠ 5 := fun q => z5 ((oe 5 (by decide)).mpr q)
      have a6 : op i ≠ 6 := fun q => z6 ((oe 6 (by decide)).mpr q)
      have a7 : op i ≠ 7 := fun q => z7 ((oe 7 (by decide)).mpr q)
      have a8 : op i ≠ 8 := fun q => z8 ((oe 8 (by decide)).mpr q)
      have a9 : op i ≠ 9 := fun q => z9 ((oe 9 (by decide)).mpr q)
      have a10 : op i ≠ 10 := fun q => z10 ((oe 10 (by decide)).mpr q)
      have := hk.1
      omega
    rw [if_pos c] at hQ
    rw [nI_clamp (by omega)]
    exact ⟨vp_in_nI (by omega) (by decide), hQ⟩
