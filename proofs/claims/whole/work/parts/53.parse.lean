/-! the parser, as one function -/
abbrev PS : Type := Nat × Nat × (Nat → Nat) × (Nat → Int32) × (Nat → Nat)
abbrev PR : Type := (Nat × Nat) ⊕ PS
def updN (f : Nat → Nat) (k v : Nat) : Nat → Nat := fun j => if j = k then v else f j
theorem updN_s {f : Nat → Nat} {k v : Nat} : updN f k v k = v := if_pos rfl
theorem updN_n {f : Nat → Nat} {k v j : Nat} (h : j ≠ k) : updN f k v j = f j := if_neg h
def prt (c : Nat) : Nat := if c ≤ 4 then 0 else if c ≤ 9 then 2 else 4
def rdK (g : PS → PR) : Nat → PS → PR
  | 0, s => .inr s
  | k + 1, s => match g s with
    | .inl f => .inl f
    | .inr s' => rdK g k s'
/-- a node's first state behind its own token -/
noncomputable def nxS (ta : Nat → Int32) (L : Nat) (s : PS) : PS := (tkE ta L s.1, s.2.1 + 1, updN s.2.2.1 s.2.1 (tkC ta L s.1), upd s.2.2.2.1 s.2.1 (tkV ta L s.1), s.2.2.2.2)
def clS (a : Nat) (s : PS) : PS := (s.1, s.2.1, s.2.2.1, s.2.2.2.1, updN s.2.2.2.2 a (s.2.1 - a))
noncomputable def rdN (ta : Nat → Int32) (L b0 : Nat) : Nat → Nat → PS → PR
  | 0, _, _ => .inl (0, 0)
  | f + 1, dep, s =>
    if 10 < tkC ta L s.1 then .inl (1, tkB ta L s.1)
    else if 6 < dep ∨ 20 ≤ s.2.1 - b0 then .inl (3, tkB ta L s.1)
    else match rdK (rdN ta L b0 f (dep + 1)) (prt (tkC ta L s.1)) (nxS ta L s) with
      | .inl e => .inl e
      | .inr s' => .inr (clS s.2.1 s')
theorem rdK_f {g : PS → PR} {k : Nat} {s : PS} {e : Nat × Nat} (h : g s = .inl e) : rdK g (k + 1) s = .inl e := by
  unfold rdK; rw [h]
theorem rdK_s {g : PS → PR} {k : Nat} {s s' : PS} (h : g s = .inr s') : rdK g (k + 1) s = rdK g k s' := by
  show (match g s with | Sum.inl f => (Sum.inl f : PR) | Sum.inr s' => rdK g k s') = _
  rw [h]
theorem rdN_1 {ta : Nat → Int32} {L b0 f dep : Nat} {s : PS} (h : 10 < tkC ta L s.1) : rdN ta L b0 (f + 1) dep s = .inl (1, tkB ta L s.1) := by
  unfold rdN; rw [if_pos h]
theorem rdN_3 {ta : Nat → Int32} {L b0 f dep : Nat} {s : PS} (h : ¬ 10 < tkC ta L s.1) (h2 : 6 < dep ∨ 20 ≤ s.2.1 - b0) : rdN ta L b0 (f + 1) dep s = .inl (3, tkB ta L s.1) := by
  unfold rdN; rw [if_neg h, if_pos h2]
theorem rdN_f {ta : Nat → Int32} {L b0 f dep : Nat} {s : PS} {e : Nat × Nat} (h : ¬ 10 < tkC ta L s.1) (h2 : ¬ (6 < dep ∨ 20 ≤ s.2.1 - b0)) (h3 : rdK (rdN ta L b0 f (dep + 1)) (prt (tkC ta L s.1)) (nxS ta L s) = .inl e) : rdN ta L b0 (f + 1) dep s = .inl e := by
  unfold rdN; rw [if_neg h, if_neg h2, h3]
theorem rdN_s {ta : Nat → Int32} {L b0 f dep : Nat} {s s' : PS} (h : ¬ 10 < tkC ta L s.1) (h2 : ¬ (6 < dep ∨ 20 ≤ s.2.1 - b0)) (h3 : rdK (rdN ta L b0 f (dep + 1)) (prt (tkC ta L s.1)) (nxS ta L s) = .inr s') : rdN ta L b0 (f + 1) dep s = .inr (clS s.2.1 s') := by
  unfold rdN; rw [if_neg h, if_neg h2, h3]
-- what a text read is
def ch (sz : Nat → Nat) (i : Nat) : Nat → Nat
  | 0 => 1
  | k + 1 => ch sz i k + sz (i + ch sz i k)
theorem ch_congr {sz sz' : Nat → Nat} {i e : Nat} (h1 : ∀ j, 1 ≤ sz j) (h : ∀ j, i < j → j < e → sz j = sz' j) : ∀ k, i + ch sz i k ≤ e → ch sz i k = ch sz' i k
  | 0, _ => rfl
  | k + 1, hk => by
    have hs := h1 (i + ch sz i k)
    unfold ch at hk
    have ih := ch_congr h1 h k (by omega)
    have pos : ∀ m, 1 ≤ ch sz i m := by
      intro m
      induction m with
      | zero => exact Nat.le_refl _
      | succ m ih => unfold ch; omega
    have := pos k
    unfold ch
    rw [← ih, h (i + ch sz i k) (by omega) (by omega)]
theorem ch_pos (sz : Nat → Nat) (i : Nat) : ∀ k, 1 ≤ ch sz i k
  | 0 => Nat.le_refl _
  | k + 1 => by
    have := ch_pos sz i k
    unfold ch
    omega
def WFn (op sz : Nat → Nat) (a e : Nat) : Prop := ∀ i, a ≤ i → i < e → op i ≤ 10 ∧ i + sz i ≤ e ∧ sz i = ch sz i (prt (op i))
theorem WFn_fr {op op' sz sz' : Nat → Nat} {a e e' : Nat} (h1 : ∀ j, 1 ≤ sz j) (hop : ∀ j, a ≤ j → j < e → op' j = op j) (hsz : ∀ j, a ≤ j → j < e → sz' j = sz j) (hee : e ≤ e') (h : WFn op sz a e) : ∀ i, a ≤ i → i < e → op' i ≤ 10 ∧ i + sz' i ≤ e' ∧ sz' i = ch sz' i (prt (op' i)) := by
  intro i hi he
  obtain ⟨a1, a2, a3⟩ := h i hi he
  rw [hop i hi he, hsz i hi he]
  refine ⟨a1, by omega, ?_⟩
  rw [a3]
  exact ch_congr h1 (fun j q1 q2 => (hsz j (by omega) q2).symm) _ (by rw [← a3]; exact a2)
def OkS (L b0 : Nat) (s : PS) : Prop := s.1 ≤ L ∧ b0 ≤ s.2.1 ∧ s.2.1 ≤ b0 + 20 ∧ ∀ j, 1 ≤ s.2.2.2.2 j
def Ext (s s' : PS) : Prop := s.2.1 ≤ s'.2.1 ∧ (∀ i, i < s.2.1 → s'.2.2.1 i = s.2.2.1 i ∧ s'.2.2.2.1 i = s.2.2.2.1 i ∧ s'.2.2.2.2 i = s.2.2.2.2 i) ∧ WFn s'.2.2.1 s'.2.2.2.2 s.2.1 s'.2.1
theorem Ext_refl (s : PS) : Ext s s := ⟨Nat.le_refl _, fun _ _ => ⟨rfl, rfl, rfl⟩, fun i h1 h2 => by omega⟩
theorem Ext_trans {L b0 : Nat} {a b c : PS} (hb : OkS L b0 b) (h : Ext a b) (h' : Ext b c) : Ext a c := by
  obtain ⟨a1, a2, a3⟩ := h
  obtain ⟨b1, b2, b3⟩ := h'
  refine ⟨by omega, fun i hi => ?_, fun i h1 h2 => ?_⟩
  · have x := a2 i hi
    have y := b2 i (by omega)
    exact ⟨y.1.trans x.1, y.2.1.trans x.2.1, y.2.2.trans x.2.2⟩
  · by_cases c1 : i < b.2.1
    · exact WFn_fr hb.2.2.2 (fun j _ q => (b2 j q).1) (fun j _ q => (b2 j q).2.2) b1 a3 i h1 c1
    · exact b3 i (by omega) h2
theorem rdK_ok {L b0 : Nat} {g : PS → PR} (hg : ∀ s s', OkS L b0 s → g s = .inr s' → OkS L b0 s' ∧ Ext s s' ∧ s.2.1 < s'.2.1 ∧ s.2.1 + s'.2.2.2.2 s.2.1 = s'.2.1) : ∀ (k : Nat) (s s' : PS), OkS L b0 s → rdK g k s = .inr s' → OkS L b0 s' ∧ Ext s s' ∧ ∀ i m, i < s.2.1 → i + ch s.2.2.2.2 i m = s.2.1 → i + ch s'.2.2.2.2 i (m + k) = s'.2.1
  | 0, s, s', hs, h => by
    unfold rdK at h
    cases h
    exact ⟨hs, Ext_refl _, fun i m _ e => e⟩
  | k + 1, s, s', hs, h => by
    rcases hgs : g s with e | s1
    · rw [rdK_f hgs] at h; cases h
    · rw [rdK_s hgs] at h
      obtain ⟨o1, x1, l1, r1⟩ := hg s s1 hs hgs
      obtain ⟨o2, x2, c2⟩ := rdK_ok hg k s1 s' o1 h
      refine ⟨o2, Ext_trans o1 x1 x2, fun i m hi e => ?_⟩
      rw [show m + (k + 1) = (m + 1) + k by omega]
      refine c2 i (m + 1) (by omega) ?_
      have ec : ch s.2.2.2.2 i m = ch s1.2.2.2.2 i m := ch_congr (e := s.2.1) hs.2.2.2 (fun j _ q2 => ((x1.2.1 j q2).2.2).symm) m (by omega)
      show i + (ch s1.2.2.2.2 i m + s1.2.2.2.2 (i + ch s1.2.2.2.2 i m)) = _
      rw [← ec, e]
      omega
theorem nxS_ok {ta : Nat → Int32} {L b0 : Nat} {s : PS} (h : OkS L b0 s) (h2 : ¬ 20 ≤ s.2.1 - b0) : OkS L b0 (nxS ta L s) :=
  ⟨(tkE_rng h.1).2, Nat.le_succ_of_le h.2.1, by show s.2.1 + 1 ≤ b0 + 20; have := h.2.1; omega, h.2.2.2⟩
theorem cl_ok {ta : Nat → Int32} {L b0 : Nat} {s s' : PS} (hs : OkS L b0 s) (hc : ¬ 10 < tkC ta L s.1) (h2 : ¬ 20 ≤ s.2.1 - b0) (o : OkS L b0 s') (x : Ext (nxS ta L s) s') (c : ∀ i m, i < (nxS ta L s).2.1 → i + ch (nxS ta L s).2.2.2.2 i m = (nxS ta L s).2.1 → i + ch s'.2.2.2.2 i (m + prt (tkC ta L s.1)) = s'.2.1) : OkS L b0 (clS s.2.1 s') ∧ Ext s (clS s.2.1 s') ∧ s.2.1 < (clS s.2.1 s').2.1 ∧ s.2.1 + (clS s.2.1 s').2.2.2.2 s.2.1 = (clS s.2.1 s').2.1 := by
  have hn : s.2.1 + 1 ≤ s'.2.1 := x.1
  have c0 := c s.2.1 0 (Nat.lt_succ_self _) rfl
  rw [Nat.zero_add] at c0
  have hop : s'.2.2.1 s.2.1 = tkC ta L s.1 := ((x.2.1 s.2.1 (Nat.lt_succ_self _)).1).trans updN_s
  have fr : ∀ i, i < s.2.1 → s'.2.2.1 i = s.2.2.1 i ∧ s'.2.2.2.1 i = s.2.2.2.1 i ∧ s'.2.2.2.2 i = s.2.2.2.2 i := fun i hi => by
    have y := x.2.1 i (Nat.lt_succ_of_lt hi)
    exact ⟨y.1.trans (updN_n (by omega)), y.2.1.trans (pk_un (by omega)), y.2.2⟩
  refine ⟨⟨o.1, o.2.1, o.2.2.1, fun j => ?_⟩, ⟨by show s.2.1 ≤ s'.2.1; omega, fun i hi => ?_, fun i h1 h2 => ?_⟩, hn, ?_⟩
  · show 1 ≤ updN s'.2.2.2.2 s.2.1 (s'.2.1 - s.2.1) j
    unfold updN
    split
    · omega
    · exact o.2.2.2 j
  · have y := fr i hi
    exact ⟨y.1, y.2.1, (updN_n (by omega)).trans y.2.2⟩
  · show s'.2.2.1 i ≤ 10 ∧ i + updN s'.2.2.2.2 s.2.1 (s'.2.1 - s.2.1) i ≤ s'.2.1 ∧ updN s'.2.2.2.2 s.2.1 (s'.2.1 - s.2.1) i = ch (updN s'.2.2.2.2 s.2.1 (s'.2.1 - s.2.1)) i (prt (s'.2.2.1 i))
    by_cases e : i = s.2.1
    · subst e
      rw [updN_s, hop]
      refine ⟨by omega, by omega, ?_⟩
      rw [← ch_congr (sz := s'.2.2.2.2) (e := s'.2.1) o.2.2.2 (fun j q1 q2 => (updN_n (by omega)).symm) _ (by omega)]
      omega
    · have w := x.2.2 i (show s.2.1 + 1 ≤ i by omega) h2
      rw [updN_n e]
      refine ⟨w.1, w.2.1, ?_⟩
      rw [← ch_congr (sz := s'.2.2.2.2) (e := s'.2.1) o.2.2.2 (fun j q1 q2 => (updN_n (by omega)).symm) _ (by rw [← w.2.2]; exact w.2.1)]
      exact w.2.2
  · show s.2.1 + updN s'.2.2.2.2 s.2.1 (s'.2.1 - s.2.1) s.2.1 = s'.2.1
    rw [updN_s]
    omega
theorem rdN_ok {ta : Nat → Int32} {L b0 : Nat} : ∀ (f dep : Nat) (s s' : PS), OkS L b0 s → rdN ta L b0 f dep s = .inr s' → OkS L b0 s' ∧ Ext s s' ∧ s.2.1 < s'.2.1 ∧ s.2.1 + s'.2.2.2.2 s.2.1 = s'.2.1
  | 0, dep, s, s', hs, h => by unfold rdN at h; cases h
  | f + 1, dep, s, s', hs, h => by
    by_cases c1 : 10 < tkC ta L s.1
    · rw [rdN_1 c1] at h; cases h
    by_cases c2 : 6 < dep ∨ 20 ≤ s.2.1 - b0
    · rw [rdN_3 c1 c2] at h; cases h
    have c3 : ¬ 20 ≤ s.2.1 - b0 := fun q => c2 (Or.inr q)
    rcases hk : rdK (rdN ta L b0 f (dep + 1)) (prt (tkC ta L s.1)) (nxS ta L s) with e | s1
    · rw [rdN_f c1 c2 hk] at h; cases h
    · rw [rdN_s c1 c2 hk] at h
      cases h
      obtain ⟨o, x, c⟩ := rdK_ok (fun a b ha hb => rdN_ok f (dep + 1) a b ha hb) _ _ _ (nxS_ok hs c3) hk
      exact cl_ok hs c1 c3 o x c
-- a text's stencils
/-- ns stencils read, where each begins, and the rest as of a node -/
abbrev TS : Type := Nat × (Nat → Nat) × PS
noncomputable def rdS (ta : Nat → Int32) (L : Nat) (t : TS) : (Nat × Nat) ⊕ TS :=
  if tkC ta L t.2.2.1 ≠ 11 then .inl (1, tkB ta L t.2.2.1)
  else if 3 ≤ t.1 then .inl (3, tkB ta L t.2.2.1)
  else match rdN ta L (t.2.1 t.1) 8 1 (tkE ta L t.2.2.1, t.2.2.2) with
    | .inl e => .inl e
    | .inr s => if tkC ta L s.1 ≠ 12 then .inl (1, tkB ta L s.1) else .inr (t.1 + 1, updN t.2.1 (t.1 + 1) s.2.1, tkE ta L s.1, s.2)
noncomputable def rdT (ta : Nat → Int32) (L : Nat) : Nat → TS → (Nat × Nat) ⊕ TS
  | 0, _ => .inl (0, 0)
  | f + 1, t => if tkC ta L t.2.2.1 = 13 ∧ 0 < t.1 then .inr t else match rdS ta L t with
    | .inl e => .inl e
    | .inr t' => rdT ta L f t'
theorem rdS_1 {ta : Nat → Int32} {L : Nat} {t : TS} (h : tkC ta L t.2.2.1 ≠ 11) : rdS ta L t = .inl (1, tkB ta L t.2.2.1) := by
  unfold rdS; rw [if_pos h]
theorem rdS_3 {ta : Nat → Int32} {L : Nat} {t : TS} (h : tkC ta L t.2.2.1 = 11) (h2 : 3 ≤ t.1) : rdS ta L t = .inl (3, tkB ta L t.2.2.1) := by
  unfold rdS; rw [if_neg (fun w => w h), if_pos h2]
theorem rdS_f {ta : Nat → Int32} {L : Nat} {t : TS} {e : Nat × Nat} (h : tkC ta L t.2.2.1 = 11) (h2 : ¬ 3 ≤ t.1) (h3 : rdN ta L (t.2.1 t.1) 8 1 (tkE ta L t.2.2.1, t.2.2.2) = .inl e) : rdS ta L t = .inl e := by
  unfold rdS; rw [if_neg (fun w => w h), if_neg h2, h3]
theorem rdS_e {ta : Nat → Int32} {L : Nat} {t : TS} {s : PS} (h : tkC ta L t.2.2.1 = 11) (h2 : ¬ 3 ≤ t.1) (h3 : rdN ta L (t.2.1 t.1) 8 1 (tkE ta L t.2.2.1, t.2.2.2) = .inr s) (h4 : tkC ta L s.1 ≠ 12) : rdS ta L t = .inl (1, tkB ta L s.1) := by
  unfold rdS; rw [if_neg (fun w => w h), if_neg h2, h3]
  exact if_pos h4
theorem rdS_s {ta : Nat → Int32} {L : Nat} {t : TS} {s : PS} (h : tkC ta L t.2.2.1 = 11) (h2 : ¬ 3 ≤ t.1) (h3 : rdN ta L (t.2.1 t.1) 8 1 (tkE ta L t.2.2.1, t.2.2.2) = .inr s) (h4 : tkC ta L s.1 = 12) : rdS ta L t = .inr (t.1 + 1, updN t.2.1 (t.1 + 1) s.2.1, tkE ta L s.1, s.2) := by
  unfold rdS; rw [if_neg (fun w => w h), if_neg h2, h3]
  exact if_neg (fun w => w h4)
/-- a text read so far -/
def OkT (L : Nat) (t : TS) : Prop := t.1 ≤ 3 ∧ t.2.2.1 ≤ L ∧ t.2.1 0 = 0 ∧ t.2.1 t.1 = t.2.2.2.1 ∧ t.2.2.2.1 ≤ 20 * t.1 ∧ (∀ j, 1 ≤ t.2.2.2.2.2.2 j) ∧ (∀ k, k < t.1 → t.2.1 k < t.2.1 (k + 1)) ∧ ∀ k, k < t.1 → WFn t.2.2.2.2.1 t.2.2.2.2.2.2 (t.2.1 k) (t.2.1 (k + 1))
theorem OkT_S {L : Nat} {t : TS} (h : OkT L t) {p : Nat} (hp : p ≤ L) : OkS L (t.2.1 t.1) (p, t.2.2.2) := by
  obtain ⟨h1, h2, h3, h4, h5, h6, h7, h8⟩ := h
  exact ⟨hp, Nat.le_of_eq h4, by show t.2.2.2.1 ≤ _; omega, h6⟩
theorem OkT_mono {L : Nat} {t : TS} (h : OkT L t) : ∀ m, m ≤ t.1 → ∀ q, q ≤ m → t.2.1 q ≤ t.2.1 m := by
  intro m
  induction m with
  | zero => intro _ q hq; rw [Nat.le_zero.mp hq]; exact Nat.le_refl _
  | succ m ih =>
    intro hm q hq
    have := h.2.2.2.2.2.2.1 m (by omega)
    by_cases c : q = m + 1
    · rw [c]; exact Nat.le_refl _
    · have := ih (by omega) q (by omega); omega
theorem rdS_ok {ta : Nat → Int32} {L : Nat} {t : TS} {s : PS} (hT : OkT L t) (h2 : ¬ 3 ≤ t.1) {p : Nat} (hp : p ≤ L) (h3 : rdN ta L (t.2.1 t.1) 8 1 (p, t.2.2.2) = .inr s) {p' : Nat} (hp' : p' ≤ L) : OkT L (t.1 + 1, updN t.2.1 (t.1 + 1) s.2.1, p', s.2) := by
  obtain ⟨o, x, l, r⟩ := rdN_ok 8 1 _ _ (OkT_S hT hp) h3
  have mono := OkT_mono hT
  obtain ⟨t1, t2, t3, t4, t5, t6, t7, t8⟩ := hT
  have l' : t.2.2.2.1 < s.2.1 := l
  have o2 : s.2.1 ≤ t.2.1 t.1 + 20 := o.2.2.1
  refine ⟨by show t.1 + 1 ≤ 3; omega, hp', ?_, ?_, ?_, o.2.2.2, fun k hk => ?_, fun k hk => ?_⟩
  · show updN t.2.1 (t.1 + 1) s.2.1 0 = 0
    rw [updN_n (by omega)]; exact t3
  · show updN t.2.1 (t.1 + 1) s.2.1 (t.1 + 1) = s.2.1
    rw [updN_s]
  · show s.2.1 ≤ 20 * (t.1 + 1)
    omega
  · have hk' : k < t.1 + 1 := hk
    show updN t.2.1 (t.1 + 1) s.2.1 k < updN t.2.1 (t.1 + 1) s.2.1 (k + 1)
    rw [updN_n (by omega)]
    by_cases e : k = t.1
    · subst e; rw [updN_s]; omega
    · rw [updN_n (by omega)]; exact t7 k (by omega)
  · have hk' : k < t.1 + 1 := hk
    show WFn s.2.2.1 s.2.2.2.2 (updN t.2.1 (t.1 + 1) s.2.1 k) (updN t.2.1 (t.1 + 1) s.2.1 (k + 1))
    rw [updN_n (by omega)]
    by_cases e : k = t.1
    · subst e; rw [updN_s, t4]; exact x.2.2
    · rw [updN_n (by omega)]
      have hm := mono t.1 (Nat.le_refl _) (k + 1) (by omega)
      have fr := x.2.1
      exact WFn_fr t6 (fun j _ q => (fr j (show j < t.2.2.2.1 by omega)).1) (fun j _ q => (fr j (show j < t.2.2.2.1 by omega)).2.2) (Nat.le_refl _) (t8 k (by omega))
theorem prt_c {o : Nat} (h : o ≤ 10) (h5 : 5 ≤ o) : (o ≤ 9 → prt o = 2) ∧ (o = 10 → prt o = 4) := by
  unfold prt
  refine ⟨fun q => ?_, fun q => ?_⟩
  · rw [if_neg (by omega), if_pos q]
  · rw [if_neg (by omega), if_neg (by omega)]
/-- a node's parts lie within it -/
theorem WFn_kid {op sz : Nat → Nat} {a e i : Nat} (h1 : ∀ j, 1 ≤ sz j) (h : WFn op sz a e) (hi : a ≤ i) (he : i < e) : (5 ≤ op i → i + 1 < e ∧ s2 sz i < e) ∧ (op i = 10 → s3 sz i < e ∧ s4 sz i < e) := by
  obtain ⟨a1, a2, a3⟩ := h i hi he
  have e1 : s2 sz i = i + ch sz i 1 := by show i + 1 + sz (i + 1) = i + (1 + sz (i + 1)); omega
  have e2 : s3 sz i = i + ch sz i 2 := by
    show s2 sz i + sz (s2 sz i) = i + (ch sz i 1 + sz (i + ch sz i 1))
    rw [e1]; omega
  have e3 : s4 sz i = i + ch sz i 3 := by
    show s3 sz i + sz (s3 sz i) = i + (ch sz i 2 + sz (i + ch sz i 2))
    rw [e2]; omega
  have g : ∀ k, ch sz i (k + 1) = ch sz i k + sz (i + ch sz i k) := fun _ => rfl
  have p0 := h1 (i + ch sz i 0)
  have p1 := h1 (i + ch sz i 1)
  have p2 := h1 (i + ch sz i 2)
  have p3 := h1 (i + ch sz i 3)
  have g0 : ch sz i 1 = ch sz i 0 + sz (i + ch sz i 0) := g 0
  have g1 : ch sz i 2 = ch sz i 1 + sz (i + ch sz i 1) := g 1
  have g2 : ch sz i 3 = ch sz i 2 + sz (i + ch sz i 2) := g 2
  have g3 : ch sz i 4 = ch sz i 3 + sz (i + ch sz i 3) := g 3
  have z : ch sz i 0 = 1 := rfl
  refine ⟨fun h5 => ?_, fun h10 => ?_⟩
  · by_cases c : op i ≤ 9
    · rw [(prt_c a1 h5).1 c] at a3; omega
    · rw [(prt_c a1 h5).2 (by omega)] at a3; omega
  · rw [(prt_c a1 (by omega)).2 h10] at a3; omega
theorem OkT_TX {L : Nat} {t : TS} (h : OkT L t) : TX t.1 t.2.2.2.1 t.2.1 t.2.2.2.2.1 t.2.2.2.2.2.2 := by
  obtain ⟨t1, t2, t3, t4, t5, t6, t7, t8⟩ := h
  refine ⟨t1, by omega, t3, t4, t7, fun k hk i h1 h2 => ?_⟩
  obtain ⟨a1, a2, a3⟩ := t8 k hk i h1 h2
  have := WFn_kid t6 (t8 k hk) h1 h2
  exact ⟨a1, t6 i, a2, this.1, this.2⟩
