/-! THE COUPLING of the class's world σ and the reference's world τ -/
def IRow (σ τ : Sg) (k : Nat) : Prop :=
  (∀ i, i < 20 → σ (59 + 2 * k + 1) i = τ 3 (20 * k + i)) ∧ (∃ n, n ≤ 20 ∧ σ (59 + 2 * k) 3 = nI n ∧ τ 2 k = nI n) ∧
  ((σ (59 + 2 * k) 1 = 0 ∧ τ 1 k = -1) ∨ (σ (59 + 2 * k) 1 = 1 ∧ ∃ l, l ≤ 2 ∧ σ (59 + 2 * k) 2 = nI l ∧ τ 1 k = nI l))
def IRows (σ τ : Sg) : Prop := ∀ k, k < 8 → IRow σ τ k
def ITape (σ τ : Sg) : Prop := (∃ n, n ≤ 300 ∧ σ 2 0 = nI n ∧ τ 0 5 = nI n) ∧ (∀ i, i < 300 → σ 3 i = τ 4 i) ∧ σ 2 6 = τ 0 12
-- texts: ns stencils, nn nodes, where each begins, what each node is (0 .. 10), its number, how many nodes it has
def s2 (sz : Nat → Nat) (i : Nat) : Nat := i + 1 + sz (i + 1)
def s3 (sz : Nat → Nat) (i : Nat) : Nat := s2 sz i + sz (s2 sz i)
def s4 (sz : Nat → Nat) (i : Nat) : Nat := s3 sz i + sz (s3 sz i)
def TX (ns nn : Nat) (bg op sz : Nat → Nat) : Prop :=
  ns ≤ 3 ∧ nn ≤ 60 ∧ bg 0 = 0 ∧ bg ns = nn ∧ (∀ k, k < ns → bg k < bg (k + 1)) ∧
  ∀ k, k < ns → ∀ i, bg k ≤ i → i < bg (k + 1) → op i ≤ 10 ∧ 1 ≤ sz i ∧ i + sz i ≤ bg (k + 1) ∧ (5 ≤ op i → i + 1 < bg (k + 1) ∧ s2 sz i < bg (k + 1)) ∧ (op i = 10 → s3 sz i < bg (k + 1) ∧ s4 sz i < bg (k + 1))
def TB (σ : Sg) (T ns nn : Nat) (bg op : Nat → Nat) (nu : Nat → Int32) (sz : Nat → Nat) : Prop :=
  σ T 0 = nI ns ∧ σ T 1 = nI nn ∧ (∀ k, k ≤ ns → σ (T + 1) k = nI (bg k)) ∧
  ∀ i, i < nn → σ (T + 2) i = nI (op i) ∧ (op i = 4 → σ (T + 3) i = nu i) ∧ σ (T + 4) i = nI (sz i) ∧ (5 ≤ op i → σ (T + 5) i = nI (s2 sz i)) ∧ (op i = 10 → σ (T + 6) i = nI (s3 sz i) ∧ σ (T + 7) i = nI (s4 sz i))
def kdOf (o : Nat) : Nat := if o ≤ 3 then 2 else if o = 4 then 1 else if o ≤ 7 then 3 else if o ≤ 9 then 4 else 5
def mkOf (o : Nat) (v : Int32) : Int32 := if o ≤ 3 then nI o else if o = 4 then v else if o = 5 then 43 else if o = 6 then 45 else if o = 7 then 42 else if o = 8 then 1 else 2
def TM (τ : Sg) (ns nn : Nat) (bg op : Nat → Nat) (nu : Nat → Int32) (sz : Nat → Nat) : Prop :=
  τ 0 6 = nI ns ∧ τ 0 7 = nI nn ∧ (∀ k, k ≤ ns → τ 5 k = nI (bg k)) ∧
  ∀ i, i < nn → τ 6 i = nI (kdOf (op i)) ∧ (op i ≠ 10 → τ 7 i = mkOf (op i) (nu i)) ∧ τ 8 i = nI (sz i)
def ITxt (σ τ : Sg) (T ns nn : Nat) (bg op : Nat → Nat) (nu : Nat → Int32) (sz : Nat → Nat) : Prop :=
  isSten T ∧ σ 0 3 = nI T ∧ σ 0 4 = nI (48 - T) ∧ σ 21 0 = 0 ∧ σ 29 0 = 0 ∧ TX ns nn bg op sz ∧ TB σ T ns nn bg op nu sz ∧ TM τ ns nn bg op nu sz
def IText (σ τ : Sg) : Prop := ∃ (T ns nn : Nat) (bg op : Nat → Nat) (nu : Nat → Int32) (sz : Nat → Nat), ITxt σ τ T ns nn bg op nu sz
def IBay (σ τ : Sg) : Prop := (∃ n, 2 ≤ n ∧ n ≤ 10 ∧ σ 4 0 = nI n ∧ τ 0 19 = nI n) ∧ (∀ i, i < 10 → σ 5 i = τ 10 i) ∧ (∀ i, i < 10 → σ 6 i = τ 11 i) ∧ (∀ i, i < 2 → σ 7 i = τ 12 i)
def IGau (σ τ : Sg) : Prop :=
  ∃ n, n ≤ 12 ∧ σ 8 0 = nI n ∧ τ 0 28 = nI n ∧ (∀ i, i < 12 → σ 9 i = τ 21 i ∧ (σ 9 i = 0 ∨ σ 9 i = 1)) ∧ (∀ i, n ≤ i → i < 12 → σ 9 i = 0) ∧
    ∀ i, i < n → (∃ q, q < 10 ∧ σ 10 i = nI q ∧ τ 17 i = nI q) ∧ (∃ q, q ≤ 20 ∧ σ 11 i = nI q ∧ τ 18 i = nI q) ∧ σ 12 i = τ 19 i ∧ σ 13 i = τ 20 i
def IStp (σ τ : Sg) : Prop :=
  ∃ n, n ≤ 6 ∧ σ 48 0 = nI n ∧ τ 0 42 = nI n ∧ ∀ k, k < n → ∃ q, 2 ≤ q ∧ q ≤ 10 ∧ σ 49 k = nI q ∧ τ 31 k = nI q ∧ ∀ c, c < q → σ (51 + k) c = τ 30 (10 * k + c)
def IAsk (σ τ : Sg) : Prop := ∃ n, n ≤ 16 ∧ σ 57 1 = nI n ∧ τ 0 47 = nI n ∧ ∀ i, i < n → σ 58 i = τ 33 i
/-- FEWEST, WHERE, as numbers of 32 bits: the least of m + a m + b m for m 1 .. M, and its first m -/
def fwB (a b : Nat → Int32) : Nat → Int32 × Int32
  | 0 => (0, -1000000)
  | 1 => (nI 1 + a 1 + b 1, nI 1)
  | m + 2 => if nI (m + 2) + a (m + 2) + b (m + 2) < (fwB a b (m + 1)).1 then (nI (m + 2) + a (m + 2) + b (m + 2), nI (m + 2)) else fwB a b (m + 1)
/-- the table of all n up to N -/
def fwT : Nat → Nat → Nat → Int32
  | 0 => fun _ _ => 0
  | N + 1 => fun n k => if n = N + 1 then (if N = 0 then 0 else if k = 0 then nI (N + 1) * (nI (N + 1) - 1) / 2 else (fwB (fun m => fwT N (N + 1 - m) (k - 1)) (fun m => fwT N m k) N).1) else fwT N n k
def fwF (n k : Nat) : Int32 := fwT n n k
def fwW (n k : Nat) : Int32 := if k = 0 then -1000000 else (fwB (fun m => fwF (n - m) (k - 1)) (fun m => fwF m k) (n - 1)).2
def IRed (σ : Sg) : Prop := (σ 45 2 = 0 ∧ ∀ i, i < 287 → σ 46 i = 0) ∨ (σ 45 2 = 1 ∧ ∀ n k, 1 ≤ n → n ≤ 40 → k ≤ 6 → σ 46 (41 * k + n) = fwF n k ∧ σ 47 (41 * k + n) = fwW n k)
def scrB (j : Nat) : Prop := (14 ≤ j ∧ j ≤ 19) ∨ (36 ≤ j ∧ j ≤ 44)
def scrM (j : Nat) : Prop := j = 9 ∨ (13 ≤ j ∧ j ≤ 16) ∨ (22 ≤ j ∧ j ≤ 29) ∨ j = 32
def scrI (k : Nat) : Prop := (13 ≤ k ∧ k ≤ 15) ∨ k = 17 ∨ k = 18 ∨ k = 27
def SameB (σ' σ : Sg) : Prop := ∀ j, ¬ scrB j → σ' j = σ j
def SameM (τ' τ : Sg) : Prop := (∀ j, j ≠ 0 → ¬ scrM j → τ' j = τ j) ∧ ∀ k, ¬ scrI k → τ' 0 k = τ 0 k
theorem IRows_fr {σ σ' τ τ' : Sg} (h1 : ∀ j, 59 ≤ j → j < 75 → σ' j = σ j) (h2 : τ' 1 = τ 1) (h3 : τ' 2 = τ 2) (h4 : τ' 3 = τ 3) (h : IRows σ τ) : IRows σ' τ' := by
  intro k hk
  have := h k hk
  unfold IRow at this ⊢
  rw [h1 (59 + 2 * k + 1) (by omega) (by omega), h1 (59 + 2 * k) (by omega) (by omega), h2, h3, h4]
  exact this
theorem ITape_fr {σ σ' τ τ' : Sg} (h1 : σ' 2 = σ 2) (h2 : σ' 3 = σ 3) (h3 : τ' 0 5 = τ 0 5) (h4 : τ' 0 12 = τ 0 12) (h5 : τ' 4 = τ 4) (h : ITape σ τ) : ITape σ' τ' := by
  unfold ITape at h ⊢
  rw [h1, h2, h3, h4, h5]
  exact h
theorem ITxt_fr {σ σ' τ τ' : Sg} {T ns nn : Nat} {bg op : Nat → Nat} {nu : Nat → Int32} {sz : Nat → Nat} (h1 : σ' 0 3 = σ 0 3) (h2 : σ' 0 4 = σ 0 4) (h3 : ∀ j, 20 ≤ j → j < 36 → σ' j = σ j) (h4 : τ' 0 6 = τ 0 6) (h5 : τ' 0 7 = τ 0 7) (h6 : τ' 5 = τ 5) (h7 : τ' 6 = τ 6) (h8 : τ' 7 = τ 7) (h9 : τ' 8 = τ 8) (h : ITxt σ τ T ns nn bg op nu sz) : ITxt σ' τ' T ns nn bg op nu sz := by
  obtain ⟨a1, a2, a3, a4, a5, a6, a7, a8⟩ := h
  have hT : 20 ≤ T ∧ T < 29 := by rcases a1 with rfl | rfl <;> omega
  refine ⟨a1, h1.trans a2, h2.trans a3, ?_, ?_, a6, ?_, ?_⟩
  · rw [h3 21 (by omega) (by omega)]; exact a4
  · rw [h3 29 (by omega) (by omega)]; exact a5
  · unfold TB at a7 ⊢
    rw [h3 T (by omega) (by omega), h3 (T + 1) (by omega) (by omega), h3 (T + 2) (by omega) (by omega), h3 (T + 3) (by omega) (by omega), h3 (T + 4) (by omega) (by omega), h3 (T + 5) (by omega) (by omega), h3 (T + 6) (by omega) (by omega), h3 (T + 7) (by omega) (by omega)]
    exact a7
  · unfold TM at a8 ⊢
    rw [h4, h5, h6, h7, h8, h9]
    exact a8
theorem IText_fr {σ σ' τ τ' : Sg} (h1 : σ' 0 3 = σ 0 3) (h2 : σ' 0 4 = σ 0 4) (h3 : ∀ j, 20 ≤ j → j < 36 → σ' j = σ j) (h4 : τ' 0 6 = τ 0 6) (h5 : τ' 0 7 = τ 0 7) (h6 : τ' 5 = τ 5) (h7 : τ' 6 = τ 6) (h8 : τ' 7 = τ 7) (h9 : τ' 8 = τ 8) (h : IText σ τ) : IText σ' τ' := by
  obtain ⟨T, ns, nn, bg, op, nu, sz, h⟩ := h
  exact ⟨T, ns, nn, bg, op, nu, sz, ITxt_fr h1 h2 h3 h4 h5 h6 h7 h8 h9 h⟩
theorem IBay_fr {σ σ' τ τ' : Sg} (h1 : σ' 4 = σ 4) (h2 : σ' 5 = σ 5) (h3 : σ' 6 = σ 6) (h4 : σ' 7 = σ 7) (h5 : τ' 0 19 = τ 0 19) (h6 : τ' 10 = τ 10) (h7 : τ' 11 = τ 11) (h8 : τ' 12 = τ 12) (h : IBay σ τ) : IBay σ' τ' := by
  unfold IBay at h ⊢
  rw [h1, h2, h3, h4, h5, h6, h7, h8]
  exact h
theorem IGau_fr {σ σ' τ τ' : Sg} (h1 : σ' 8 = σ 8) (h2 : σ' 9 = σ 9) (h3 : σ' 10 = σ 10) (h4 : σ' 11 = σ 11) (h5 : σ' 12 = σ 12) (h6 : σ' 13 = σ 13) (g0 : τ' 0 28 = τ 0 28) (g1 : τ' 17 = τ 17) (g2 : τ' 18 = τ 18) (g3 : τ' 19 = τ 19) (g4 : τ' 20 = τ 20) (g5 : τ' 21 = τ 21) (h : IGau σ τ) : IGau σ' τ' := by
  unfold IGau at h ⊢
  rw [h1, h2, h3, h4, h5, h6, g0, g1, g2, g3, g4, g5]
  exact h
theorem IStp_fr {σ σ' τ τ' : Sg} (h1 : ∀ j, 48 ≤ j → j < 57 → σ' j = σ j) (h2 : τ' 0 42 = τ 0 42) (h3 : τ' 30 = τ 30) (h4 : τ' 31 = τ 31) (h : IStp σ τ) : IStp σ' τ' := by
  obtain ⟨n, hn, a, b, c⟩ := h
  refine ⟨n, hn, ?_, h2.trans b, fun k hk => ?_⟩
  · rw [h1 48 (by omega) (by omega)]; exact a
  · obtain ⟨q, d1, d2, d3, d4, d5⟩ := c k hk
    refine ⟨q, d1, d2, ?_, ?_, fun c hc => ?_⟩
    · rw [h1 49 (by omega) (by omega)]; exact d3
    · rw [h4]; exact d4
    · rw [h1 (51 + k) (by omega) (by omega), h3]; exact d5 c hc
theorem IAsk_fr {σ σ' τ τ' : Sg} (h1 : σ' 57 = σ 57) (h2 : σ' 58 = σ 58) (h3 : τ' 0 47 = τ 0 47) (h4 : τ' 33 = τ 33) (h : IAsk σ τ) : IAsk σ' τ' := by
  unfold IAsk at h ⊢
  rw [h1, h2, h3, h4]
  exact h
theorem IRed_fr {σ σ' : Sg} (h1 : σ' 45 = σ 45) (h2 : σ' 46 = σ 46) (h3 : σ' 47 = σ 47) (h : IRed σ) : IRed σ' := by
  unfold IRed at h ⊢
  rw [h1, h2, h3]
  exact h
def Inv (σ τ : Sg) : Prop := IRows σ τ ∧ σ 0 1 = τ 0 0 ∧ ITape σ τ ∧ IText σ τ ∧ IBay σ τ ∧ IGau σ τ ∧ IStp σ τ ∧ IAsk σ τ ∧ IRed σ
theorem Inv_fr {σ σ' τ τ' : Sg} (hB : SameB σ' σ) (hM : SameM τ' τ) (h : Inv σ τ) : Inv σ' τ' := by
  obtain ⟨a1, a2, a3, a4, a5, a6, a7, a8, a9⟩ := h
  have b : ∀ j, ¬ scrB j → σ' j = σ j := hB
  have m : ∀ j, j ≠ 0 → ¬ scrM j → τ' j = τ j := hM.1
  have i : ∀ k, ¬ scrI k → τ' 0 k = τ 0 k := hM.2
  refine ⟨IRows_fr (fun j h1 h2 => b j (by unfold scrB; omega)) (m 1 (by decide) (by unfold scrM; omega)) (m 2 (by decide) (by unfold scrM; omega)) (m 3 (by decide) (by unfold scrM; omega)) a1, ?_, ?_, ?_, ?_, ?_, ?_, ?_, ?_⟩
  · rw [b 0 (by unfold scrB; omega), i 0 (by unfold scrI; omega)]; exact a2
  · exact ITape_fr (b 2 (by unfold scrB; omega)) (b 3 (by unfold scrB; omega)) (i 5 (by unfold scrI; omega)) (i 12 (by unfold scrI; omega)) (m 4 (by decide) (by unfold scrM; omega)) a3
  · exact IText_fr (by rw [b 0 (by unfold scrB; omega)]) (by rw [b 0 (by unfold scrB; omega)]) (fun j h1 h2 => b j (by unfold scrB; omega)) (i 6 (by unfold scrI; omega)) (i 7 (by unfold scrI; omega)) (m 5 (by decide) (by unfold scrM; omega)) (m 6 (by decide) (by unfold scrM; omega)) (m 7 (by decide) (by unfold scrM; omega)) (m 8 (by decide) (by unfold scrM; omega)) a4
  · exact IBay_fr (b 4 (by unfold scrB; omega)) (b 5 (by unfold scrB; omega)) (b 6 (by unfold scrB; omega)) (b 7 (by unfold scrB; omega)) (i 19 (by unfold scrI; omega)) (m 10 (by decide) (by unfold scrM; omega)) (m 11 (by decide) (by unfold scrM; omega)) (m 12 (by decide) (by unfold scrM; omega)) a5
  · exact IGau_fr (b 8 (by unfold scrB; omega)) (b 9 (by unfold scrB; omega)) (b 10 (by unfold scrB; omega)) (b 11 (by unfold scrB; omega)) (b 12 (by unfold scrB; omega)) (b 13 (by unfold scrB; omega)) (i 28 (by unfold scrI; omega)) (m 17 (by decide) (by unfold scrM; omega)) (m 18 (by decide) (by unfold scrM; omega)) (m 19 (by decide) (by unfold scrM; omega)) (m 20 (by decide) (by unfold scrM; omega)) (m 21 (by decide) (by unfold scrM; omega)) a6
  · exact IStp_fr (fun j h1 h2 => b j (by unfold scrB; omega)) (i 42 (by unfold scrI; omega)) (m 30 (by decide) (by unfold scrM; omega)) (m 31 (by decide) (by unfold scrM; omega)) a7
  · exact IAsk_fr (b 57 (by unfold scrB; omega)) (b 58 (by unfold scrB; omega)) (i 47 (by unfold scrI; omega)) (m 33 (by decide) (by unfold scrM; omega)) a8
  · exact IRed_fr (b 45 (by unfold scrB; omega)) (b 46 (by unfold scrB; omega)) (b 47 (by unfold scrB; omega)) a9
