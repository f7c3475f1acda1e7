/-! slopes: hand out, a row, all rows; canonical and the class -/
def hS (S : Nat → Int32) (c : Nat) (z : Nat → Int32) : Nat → Int32 := fun j => if j = c then S j + z 3 else S j
def hA (A : Nat → Int32) (c n : Nat) (z : Nat → Int32) : Nat → Int32 := fun j => if j = c then A j + z 1 else if j + 1 = c then A j + z 0 else if j = c + 1 ∧ c + 1 ≠ n then A j + z 2 else A j
def hE (E : Nat → Int32) (c n : Nat) (z : Nat → Int32) : Nat → Int32 := fun j => if j = 0 then (if c = 0 then E j + z 0 else E j) else if j = 1 then (if c + 1 = n then E j + z 2 else E j) else E j
def hT (M : Nat → Nat → Int32) (c n : Nat) (z : Nat → Int32) : Nat → Nat → Int32 := fun k => if k = 0 then hS (M 0) c z else if k = 1 then hA (M 1) c n z else hE (M 2) c n z
def cf (Z : Nat → Nat → Int32) (n : Nat) (M : Nat → Nat → Int32) : Nat → Nat → Nat → Int32
  | 0 => M
  | c + 1 => hT (cf Z n M c) c n (Z c)
noncomputable def zc (ns : Nat) (bg op : Nat → Nat) (nu : Nat → Int32) (sz : Nat → Nat) (st ed sp : Nat → Int32) (n q c : Nat) (s : Int32) : Nat → Int32 :=
  zgo op sz (evc op nu sz (sRow (rn ns bg op nu sz st ed sp n q) ed sp n c) (bg (q % ns)) (bg (q % ns + 1))) (bg (q % ns + 1) - bg (q % ns)) (bg (q % ns)) (gi (bg (q % ns)) (bg (q % ns + 1)) s (fun _ => 0)) (fun _ => 0)
/-- a row gone back over: 0 strips, 1 the row, 2 the edges -/
noncomputable def rst (ns : Nat) (bg op : Nat → Nat) (nu : Nat → Int32) (sz : Nat → Nat) (st ed sp : Nat → Int32) (n q : Nat) (P : Nat → Nat → Int32) : Nat → Nat → Int32 :=
  cf (fun c => zc ns bg op nu sz st ed sp n q c (P 1 c)) n (fun k => if k = 1 then fun _ => 0 else P k) n
noncomputable def rws (ns : Nat) (bg op : Nat → Nat) (nu : Nat → Int32) (sz : Nat → Nat) (st ed sp : Nat → Int32) (n B : Nat) : Nat → (Nat → Nat → Int32) → (Nat → Nat → Int32)
  | 0, P => P
  | k + 1, P => rws ns bg op nu sz st ed sp n B k (rst ns bg op nu sz st ed sp n (B + k) P)
noncomputable def ga (R : Nat → Nat → Int32) (ns n : Nat) (ou : Nat → Int32) (ce gs : Nat → Nat) (wt wa : Nat → Int32) (s : Nat) (B : Nat → Int32) : Nat → Nat → Int32
  | 0 => B
  | i + 1 => if (ou i = 0 ∧ ce i < n) ∧ gs i = s then upd (ga R ns n ou ce gs wt wa s B i) (ce i) (ga R ns n ou ce gs wt wa s B i (ce i) + 2 * wt i * (R (gs i * ns) (ce i) - wa i)) else ga R ns n ou ce gs wt wa s B i
noncomputable def gag (R : Nat → Nat → Int32) (ns n g : Nat) (ou : Nat → Int32) (ce gs : Nat → Nat) (wt wa : Nat → Int32) (s : Nat) (P : Nat → Nat → Int32) : Nat → Nat → Int32 := fun k => if k = 1 then ga R ns n ou ce gs wt wa s (P 1) g else P k
noncomputable def sps (ns : Nat) (bg op : Nat → Nat) (nu : Nat → Int32) (sz : Nat → Nat) (st ed sp : Nat → Int32) (n g : Nat) (ou : Nat → Int32) (ce gs : Nat → Nat) (wt wa : Nat → Int32) : Nat → (Nat → Nat → Int32) → (Nat → Nat → Int32)
  | 0, P => P
  | s + 1, P => sps ns bg op nu sz st ed sp n g ou ce gs wt wa s (rws ns bg op nu sz st ed sp n (s * ns) ns (gag (rn ns bg op nu sz st ed sp n) ns n g ou ce gs wt wa (s + 1) P))
noncomputable def FP (ns : Nat) (bg op : Nat → Nat) (nu : Nat → Int32) (sz : Nat → Nat) (st ed sp : Nat → Int32) (n g : Nat) (ou : Nat → Int32) (ce gs : Nat → Nat) (wt wa : Nat → Int32) : Nat → Nat → Int32 :=
  gag (rn ns bg op nu sz st ed sp n) ns n g ou ce gs wt wa 0 (sps ns bg op nu sz st ed sp n g ou ce gs wt wa (gl n ou ce gs g) (fun _ _ => 0))
-- one bay, one canonical answer
section CG
variable {ns : Nat} {bg op : Nat → Nat} {nu : Nat → Int32} {sz : Nat → Nat} {st st' ed ed' sp sp' : Nat → Int32} {n : Nat}
theorem zc_congr (h1 : ∀ c, c < n → st c = st' c) (h2 : ∀ i, i < 2 → ed i = ed' i) (h3 : ∀ c, c < n → sp c = sp' c) {q c : Nat} {s : Int32} (hc : c < n) : zc ns bg op nu sz st ed sp n q c s = zc ns bg op nu sz st' ed' sp' n q c s := by
  unfold zc
  rw [sRow_congr hc (fun i hi => rn_congr h1 h2 h3 q i hi) h2 (h3 c hc)]
theorem cf_congr {Z Z' : Nat → Nat → Int32} {M : Nat → Nat → Int32} : ∀ c, (∀ i, i < c → Z i = Z' i) → cf Z n M c = cf Z' n M c
  | 0, _ => rfl
  | c + 1, h => by
    unfold cf
    rw [cf_congr c (fun i hi => h i (by omega)), h c (by omega)]
theorem rst_congr (h1 : ∀ c, c < n → st c = st' c) (h2 : ∀ i, i < 2 → ed i = ed' i) (h3 : ∀ c, c < n → sp c = sp' c) (q : Nat) (P : Nat → Nat → Int32) : rst ns bg op nu sz st ed sp n q P = rst ns bg op nu sz st' ed' sp' n q P := by
  unfold rst
  exact cf_congr n (fun i hi => zc_congr h1 h2 h3 hi)
theorem rws_congr (h1 : ∀ c, c < n → st c = st' c) (h2 : ∀ i, i < 2 → ed i = ed' i) (h3 : ∀ c, c < n → sp c = sp' c) (B : Nat) : ∀ k P, rws ns bg op nu sz st ed sp n B k P = rws ns bg op nu sz st' ed' sp' n B k P
  | 0, P => rfl
  | k + 1, P => by
    unfold rws
    rw [rst_congr h1 h2 h3, rws_congr h1 h2 h3 B k]
theorem ga_congr {R R' : Nat → Nat → Int32} {ou : Nat → Int32} {ce gs : Nat → Nat} {wt wa : Nat → Int32} {s : Nat} {B : Nat → Int32} (h : ∀ q c, c < n → R q c = R' q c) : ∀ i, ga R ns n ou ce gs wt wa s B i = ga R' ns n ou ce gs wt wa s B i
  | 0 => rfl
  | i + 1 => by
    unfold ga
    rw [ga_congr h i]
    by_cases c : (ou i = 0 ∧ ce i < n) ∧ gs i = s
    · rw [if_pos c, if_pos c, h _ _ c.1.2]
    · rw [if_neg c, if_neg c]
theorem gag_congr {R R' : Nat → Nat → Int32} {g : Nat} {ou : Nat → Int32} {ce gs : Nat → Nat} {wt wa : Nat → Int32} (h : ∀ q c, c < n → R q c = R' q c) (s : Nat) (P : Nat → Nat → Int32) : gag R ns n g ou ce gs wt wa s P = gag R' ns n g ou ce gs wt wa s P := by
  unfold gag
  rw [ga_congr h g]
theorem sps_congr (h1 : ∀ c, c < n → st c = st' c) (h2 : ∀ i, i < 2 → ed i = ed' i) (h3 : ∀ c, c < n → sp c = sp' c) {g : Nat} {ou : Nat → Int32} {ce gs : Nat → Nat} {wt wa : Nat → Int32} : ∀ s P, sps ns bg op nu sz st ed sp n g ou ce gs wt wa s P = sps ns bg op nu sz st' ed' sp' n g ou ce gs wt wa s P
  | 0, P => rfl
  | s + 1, P => by
    unfold sps
    rw [gag_congr (fun q c hc => rn_congr h1 h2 h3 q c hc), rws_congr h1 h2 h3, sps_congr h1 h2 h3 s]
theorem FP_congr (h1 : ∀ c, c < n → st c = st' c) (h2 : ∀ i, i < 2 → ed i = ed' i) (h3 : ∀ c, c < n → sp c = sp' c) {g : Nat} {ou : Nat → Int32} {ce gs : Nat → Nat} {wt wa : Nat → Int32} : FP ns bg op nu sz st ed sp n g ou ce gs wt wa = FP ns bg op nu sz st' ed' sp' n g ou ce gs wt wa := by
  unfold FP
  rw [sps_congr h1 h2 h3, gag_congr (fun q c hc => rn_congr h1 h2 h3 q c hc)]
end CG
theorem hS_cg {S S' : Nat → Int32} {c : Nat} {z z' : Nat → Int32} {j : Nat} (h : S j = S' j) (hz : ∀ q, q ≤ 3 → z q = z' q) : hS S c z j = hS S' c z' j := by
  unfold hS
  rw [h, hz 3 (by decide)]
theorem hA_cg {S S' : Nat → Int32} {c n : Nat} {z z' : Nat → Int32} {j : Nat} (h : S j = S' j) (hz : ∀ q, q ≤ 3 → z q = z' q) : hA S c n z j = hA S' c n z' j := by
  unfold hA
  rw [h, hz 0 (by decide), hz 1 (by decide), hz 2 (by decide)]
theorem hE_cg {S S' : Nat → Int32} {c n : Nat} {z z' : Nat → Int32} {j : Nat} (h : S j = S' j) (hz : ∀ q, q ≤ 3 → z q = z' q) : hE S c n z j = hE S' c n z' j := by
  unfold hE
  rw [h, hz 0 (by decide), hz 2 (by decide)]
theorem h0S {S : Nat → Int32} {c : Nat} {z : Nat → Int32} (hz : ∀ q, q ≤ 3 → z q = 0) (j : Nat) : hS S c z j = S j := by
  unfold hS
  rw [hz 3 (by decide), i32_add0, ite_self]
theorem h0A {S : Nat → Int32} {c n : Nat} {z : Nat → Int32} (hz : ∀ q, q ≤ 3 → z q = 0) (j : Nat) : hA S c n z j = S j := by
  unfold hA
  rw [hz 0 (by decide), hz 1 (by decide), hz 2 (by decide), i32_add0, ite_self, ite_self, ite_self]
theorem h0E {S : Nat → Int32} {c n : Nat} {z : Nat → Int32} (hz : ∀ q, q ≤ 3 → z q = 0) (j : Nat) : hE S c n z j = S j := by
  unfold hE
  rw [hz 0 (by decide), hz 2 (by decide), i32_add0, ite_self, ite_self, ite_self, ite_self]
/-- arrays of strips' slopes, a row's slopes, edges' slopes hold M -/
def Ag (σ : Sg) (jS jA jE : Nat) (M : Nat → Nat → Int32) : Prop := (∀ j, j < 10 → σ jS j = M 0 j) ∧ (∀ j, j < 10 → σ jA j = M 1 j) ∧ ∀ j, j < 2 → σ jE j = M 2 j
theorem p_handOut {σ : Sg} {c n : Nat} {Q : Sg → Prop} (hc : c < n) (hn : n ≤ 10) (hQ : ∀ σ', (∀ j, j ≠ 41 → j ≠ 43 → j ≠ 44 → σ' j = σ j) → σ' 41 = hS (σ 41) c (σ 19) → σ' 44 = hA (σ 44) c n (σ 19) → σ' 43 = hE (σ 43) c n (σ 19) → Q σ') : wX7_handOut (nI c) (nI n - 1) σ Q := by
  have c0 : nI c ≤ 0 ↔ c = 0 := by
    rw [show (0 : Int32) = nI 0 from rfl, nI_leI (by omega) (by decide)]; omega
  have cn : nI n - 1 ≤ nI c ↔ c + 1 = n := by
    rw [show nI n - 1 = nI (n - 1) from pk_sub (b := 1) (by omega), nI_leI (by omega) (by omega)]; omega
  have ic : vp_in (nI c) 10 := vp_in_nI (by omega) (by decide)
  unfold wX7_handOut
  rw [nI_clamp (by omega)]
  refine ⟨ic, vin 1 4 (by decide) (by decide), ic, fun σ1 e1 => ⟨ic, vin 3 4 (by decide) (by decide), ic, fun σ2 e2 => ?_⟩⟩
  have fin : ∀ σ4, (∀ j, j ≠ 41 → j ≠ 43 → j ≠ 44 → σ4 j = σ j) → σ4 41 = hS (σ 41) c (σ 19) → (∀ j, σ4 44 j = if j = c then σ 44 j + σ 19 1 else if j + 1 = c then σ 44 j + σ 19 0 else σ 44 j) → (∀ j, σ4 43 j = if j = 0 then (if c = 0 then σ 43 j + σ 19 0 else σ 43 j) else σ 43 j) → wX7_handOut_b57 (nI c) (nI n - 1) σ4 Q := by
    intro σ4 f4 a4 b4 d4
    unfold wX7_handOut_b57 wX7_handOut_b91
    rw [nI_1, nI_clamp (by omega), f4 19 (by decide) (by decide) (by decide)]
    refine ⟨fun z => ⟨vin 1 2 (by decide) (by decide), vin 2 4 (by decide) (by decide), vin 1 2 (by decide) (by decide), fun σ6 e6 => ?_⟩, fun z => ?_⟩
    · have z' := cn.mp z
      refine hQ σ6 (fun j q1 q2 q3 => by rw [e6, sto_ne _ _ _ q2]; exact f4 j q1 q2 q3) (by rw [e6, sto_ne _ _ _ (by decide)]; exact a4) ?_ ?_
      · funext j
        rw [e6, sto_ne _ _ _ (by decide), b4]
        unfold hA
        rw [if_neg (c := j = c + 1 ∧ c + 1 ≠ n) (fun w => w.2 z')]
      · funext j
        unfold hE
        rw [e6]
        by_cases j1 : j = 1
        · subst j1
          rw [sto_at, d4, if_neg (by decide), if_neg (by decide), if_pos rfl, if_pos z']
        · rw [sto_off _ _ _ j1, d4, if_neg (c := j = 1) j1]
    · have z' : c + 1 ≠ n := fun w => z (cn.mpr w)
      refine ⟨vp_in_nI (by omega) (by decide), vin 2 4 (by decide) (by decide), vp_in_nI (by omega) (by decide), fun σ6 e6 => ?_⟩
      refine hQ σ6 (fun j q1 q2 q3 => by rw [e6, sto_ne _ _ _ q3]; exact f4 j q1 q2 q3) (by rw [e6, sto_ne _ _ _ (by decide)]; exact a4) ?_ ?_
      · funext j
        unfold hA
        rw [e6]
        by_cases j1 : j = c + 1
        · subst j1
          rw [sto_at, b4, if_neg (by omega), if_neg (by omega), if_neg (by omega), if_neg (by omega), if_pos ⟨rfl, z'⟩]
        · rw [sto_off _ _ _ j1, b4, if_neg (c := j = c + 1 ∧ c + 1 ≠ n) (fun w => j1 w.1)]
      · funext j
        unfold hE
        rw [e6, sto_ne _ _ _ (by decide), d4, if_neg (c := c + 1 = n) z', ite_self]
  have f2 : ∀ j, j ≠ 41 → j ≠ 44 → σ2 j = σ j := fun j q1 q2 => by rw [e2, sto_ne _ _ _ q1, e1, sto_ne _ _ _ q2]
  have a2 : σ2 41 = hS (σ 41) c (σ 19) := by
    funext j
    unfold hS
    rw [e2, e1, sto_ne (j' := 19) _ _ _ (by decide)]
    by_cases jc : j = c
    · subst jc; rw [sto_at, if_pos rfl, sto_ne _ _ _ (by decide)]
    · rw [sto_off _ _ _ jc, if_neg jc, sto_ne _ _ _ (by decide)]
  have b2 : ∀ j, σ2 44 j = if j = c then σ 44 j + σ 19 1 else σ 44 j := fun j => by
    rw [e2, sto_ne _ _ _ (by decide), e1]
    by_cases jc : j = c
    · subst jc; rw [sto_at, if_pos rfl]
    · rw [sto_off _ _ _ jc, if_neg jc]
  rw [f2 19 (by decide) (by decide)]
  refine ⟨fun z => ⟨vin 0 2 (by decide) (by decide), vin 0 4 (by decide) (by decide), vin 0 2 (by decide) (by decide), fun σ4 e4 => ?_⟩, fun z => ?_⟩
  · have z' := c0.mp z
    refine fin σ4 (fun j q1 q2 q3 => by rw [e4, sto_ne _ _ _ q2]; exact f2 j q1 q3) (by rw [e4, sto_ne _ _ _ (by decide)]; exact a2) (fun j => ?_) (fun j => ?_)
    · rw [e4, sto_ne _ _ _ (by decide), b2, if_neg (c := j + 1 = c) (by omega)]
    · rw [e4]
      by_cases j1 : j = 0
      · subst j1
        rw [sto_at, if_pos rfl, if_pos z', f2 43 (by decide) (by decide)]
      · rw [sto_off _ _ _ j1, if_neg j1, f2 43 (by decide) (by decide)]
  · have z' : c ≠ 0 := fun w => z (c0.mpr w)
    rw [show nI c - 1 = nI (c - 1) from pk_sub (b := 1) (by omega), nI_clamp (by omega)]
    refine ⟨vp_in_nI (by omega) (by decide), vin 0 4 (by decide) (by decide), vp_in_nI (by omega) (by decide), fun σ4 e4 => ?_⟩
    refine fin σ4 (fun j q1 q2 q3 => by rw [e4, sto_ne _ _ _ q3]; exact f2 j q1 q3) (by rw [e4, sto_ne _ _ _ (by decide)]; exact a2) (fun j => ?_) (fun j => ?_)
    · rw [e4]
      by_cases j1 : j = c - 1
      · subst j1
        rw [sto_at, b2, if_neg (by omega), if_neg (by omega), if_pos (by omega)]
      · rw [sto_off _ _ _ j1, b2, if_neg (c := j + 1 = c) (by omega)]
    · rw [e4, sto_ne _ _ _ (by decide), f2 43 (by decide) (by decide), if_neg z', ite_self]
/-- all that goBack leaves -/
def frG (σ σ0 : Sg) : Prop := ∀ j, j ≠ 15 → j ≠ 16 → j ≠ 18 → j ≠ 19 → j ≠ 41 → j ≠ 42 → j ≠ 43 → j ≠ 44 → σ j = σ0 j
theorem zc_zero {ns nn : Nat} {bg op : Nat → Nat} {nu : Nat → Int32} {sz : Nat → Nat} {st ed sp : Nat → Int32} {n q c : Nat} (hX : TX ns nn bg op sz) (hns : 0 < ns) : ∀ r, zc ns bg op nu sz st ed sp n q c 0 r = 0 := by
  intro r
  have hk : q % ns < ns := Nat.mod_lt _ hns
  have hlt := hX.2.2.2.2.1 (q % ns) hk
  unfold zc
  rw [zgo_zero (b := bg (q % ns)) (e := bg (q % ns + 1)) (fun i a b => TX_kid hX hk a b) _ _ _ _ (Nat.le_refl _) (by omega) (fun i a b => ?_)]
  have cc : bg (q % ns) ≤ i ∧ i < bg (q % ns + 1) := ⟨a, b⟩
  unfold gi
  rw [if_pos cc, ite_self]
theorem p_gbo11 {σ0 : Sg} {T ns nn n q N : Nat} {bg op : Nat → Nat} {nu : Nat → Int32} {sz : Nat → Nat} {M P : Nat → Nat → Int32} {K Q : Sg → Prop} (hT : isSten T) (hX : TX ns nn bg op sz) (hB : TB σ0 T ns nn bg op nu sz) (hns : 0 < ns) (h4 : σ0 4 0 = nI n) (hn : n ≤ 10) (hq : q < 120) (hqN : q ≤ N) (hC : CouOk σ0 36 (σ0 6) ns bg op nu sz n N) (hP : ∀ j, j < 10 → σ0 42 j = P 1 j)
    (hK : ∀ σ, frG σ σ0 → σ 42 = σ0 42 → Ag σ 41 44 43 (cf (fun c => zc ns bg op nu sz (σ0 5) (σ0 7) (σ0 6) n q c (P 1 c)) n M n) → K σ) :
    ∀ (d c : Nat) (σ : Sg), c + d = n → frG σ σ0 → σ 42 = σ0 42 → Ag σ 41 44 43 (cf (fun c => zc ns bg op nu sz (σ0 5) (σ0 7) (σ0 6) n q c (P 1 c)) n M c) → wX7_goBackOver_L11 T 36 (nI q) (nI (q % ns)) K Q (d + 1) (nI c) σ
  | 0, c, σ, hc, h, h42, hA => by
    unfold wX7_goBackOver_L11
    have e : c = n := by omega
    subst e
    rw [h 4 (by decide) (by decide) (by decide) (by decide) (by decide) (by decide) (by decide) (by decide), h4]
    exact ⟨fun _ => hK σ h h42 hA, fun z => absurd (nI_le (Nat.le_refl _) (by omega)) z⟩
  | d + 1, c, σ, hc, h, h42, hA => by
    have hk : q % ns < ns := Nat.mod_lt _ hns
    have hkid : ∀ i, bg (q % ns) ≤ i → i < bg (q % ns + 1) → Kid op sz (bg (q % ns + 1)) i := fun i a b => TX_kid hX hk a b
    have hlt := hX.2.2.2.2.1 (q % ns) hk
    have hb : 20 ≤ T ∧ T < 29 := by rcases hT with rfl | rfl <;> omega
    unfold wX7_goBackOver_L11 wX7_goBackOver_b82
    rw [h 4 (by decide) (by decide) (by decide) (by decide) (by decide) (by decide) (by decide) (by decide), h4, nI_clamp (by omega), h42, hP c (by omega)]
    refine ⟨fun z => absurd z (nI_ge (by omega) (by omega)), fun _ => ⟨vp_in_nI (by omega) (by decide), fun z x6 e6 => ?_, fun z => ?_⟩⟩
    · rw [nI_1] at e6
      subst e6
      have hz : ∀ r, r ≤ 3 → zc ns bg op nu sz (σ0 5) (σ0 7) (σ0 6) n q c (P 1 c) r = 0 := fun r _ => by rw [z]; exact zc_zero hX hns r
      refine p_gbo11 hT hX hB hns h4 hn hq hqN hC hP hK d (c + 1) σ (by omega) h h42 ⟨fun j hj => ?_, fun j hj => ?_, fun j hj => ?_⟩
      · exact (hA.1 j hj).trans (h0S hz j).symm
      · exact (hA.2.1 j hj).trans (h0A hz j).symm
      · exact (hA.2.2 j hj).trans (h0E hz j).symm
    · have hBt : TB σ T ns nn bg op nu sz := TB_fr hT (fun j q1 q2 => h j (by omega) (by omega) (by omega) (by omega) (by omega) (by omega) (by omega) (by omega)) hB
      refine p_cwork (n := n) hT hX hBt hk (by rw [h 4 (by decide) (by decide) (by decide) (by decide) (by decide) (by decide) (by decide) (by decide)]; exact h4) hn (by omega) hq (fun σ7 f7 hE => ⟨vp_in_nI (by omega) (by decide), ?_⟩)
      have hE' : Evs op nu sz (sRow (fun i => σ (36 + 1) (10 * q + i)) (σ 7) (σ 6) n c) (bg (q % ns)) (bg (q % ns + 1)) (σ7 15) := hE
      rw [h 7 (by decide) (by decide) (by decide) (by decide) (by decide) (by decide) (by decide) (by decide), h 6 (by decide) (by decide) (by decide) (by decide) (by decide) (by decide) (by decide) (by decide), h (36 + 1) (by decide) (by decide) (by decide) (by decide) (by decide) (by decide) (by decide) (by decide), sRow_congr (r' := rn ns bg op nu sz (σ0 5) (σ0 7) (σ0 6) n q) (by omega) (fun i hi => hC.2 q hqN i hi) (fun _ _ => rfl) rfl] at hE'
      rw [f7 42 (by decide) (by decide), h42, hP c (by omega)]
      refine p_gbD hT hX (TB_fr hT (fun j q1 q2 => f7 j (by omega) (by omega)) hBt) hk (fun σ9 f9 v9 => ?_)
      have v9' : ∀ r, r ≤ 3 → σ9 19 r = zc ns bg op nu sz (σ0 5) (σ0 7) (σ0 6) n q c (P 1 c) r := fun r hr => by
        rw [v9 r hr]
        unfold zc
        exact zgo_congr hkid (fun i a b => evc_eq hkid hE' a b) _ _ _ _ _ _ (Nat.le_refl _) (by omega) (fun _ _ _ => rfl) (fun _ _ => rfl) r hr
      rw [f9 4 (by decide) (by decide), f7 4 (by decide) (by decide), h 4 (by decide) (by decide) (by decide) (by decide) (by decide) (by decide) (by decide) (by decide), h4]
      refine p_handOut (by omega) hn (fun σ11 f11 w41 w44 w43 x6 e6 => ?_)
      rw [nI_1] at e6
      subst e6
      refine p_gbo11 hT hX hB hns h4 hn hq hqN hC hP hK d (c + 1) σ11 (by omega) (fun j q1 q2 q3 q4 q5 q6 q7 q8 => by rw [f11 j q5 q7 q8, f9 j q2 q4, f7 j q1 q3]; exact h j q1 q2 q3 q4 q5 q6 q7 q8) (by rw [f11 42 (by decide) (by decide) (by decide), f9 42 (by decide) (by decide), f7 42 (by decide) (by decide)]; exact h42) ⟨fun j hj => ?_, fun j hj => ?_, fun j hj => ?_⟩
      · rw [w41, f9 41 (by decide) (by decide), f7 41 (by decide) (by decide)]; exact hS_cg (hA.1 j hj) v9'
      · rw [w44, f9 44 (by decide) (by decide), f7 44 (by decide) (by decide)]; exact hA_cg (hA.2.1 j hj) v9'
      · rw [w43, f9 43 (by decide) (by decide), f7 43 (by decide) (by decide)]; exact hE_cg (hA.2.2 j hj) v9'
theorem CouOk_fr {σ σ' : Sg} {ns : Nat} {bg op : Nat → Nat} {nu : Nat → Int32} {sz : Nat → Nat} {n N : Nat} (h : frG σ' σ) (hC : CouOk σ 36 (σ 6) ns bg op nu sz n N) : CouOk σ' 36 (σ' 6) ns bg op nu sz n N := by
  unfold CouOk at hC ⊢
  rw [h 36 (by decide) (by decide) (by decide) (by decide) (by decide) (by decide) (by decide) (by decide), h (36 + 1) (by decide) (by decide) (by decide) (by decide) (by decide) (by decide) (by decide) (by decide), h 5 (by decide) (by decide) (by decide) (by decide) (by decide) (by decide) (by decide) (by decide), h 6 (by decide) (by decide) (by decide) (by decide) (by decide) (by decide) (by decide) (by decide), h 7 (by decide) (by decide) (by decide) (by decide) (by decide) (by decide) (by decide) (by decide)]
  exact hC
theorem p_gbOver {σ : Sg} {T ns nn n q N : Nat} {bg op : Nat → Nat} {nu : Nat → Int32} {sz : Nat → Nat} {P : Nat → Nat → Int32} {Q : Sg → Prop} (hT : isSten T) (hX : TX ns nn bg op sz) (hB : TB σ T ns nn bg op nu sz) (hns : 0 < ns) (h4 : σ 4 0 = nI n) (hn : n ≤ 10) (hq : q < 120) (hqN : q ≤ N) (hC : CouOk σ 36 (σ 6) ns bg op nu sz n N) (hP : Ag σ 41 42 43 P)
    (hQ : ∀ σ', frG σ' σ → Ag σ' 41 42 43 (rst ns bg op nu sz (σ 5) (σ 7) (σ 6) n q P) → Q σ') : wX7_goBackOver T 36 (nI q) (nI (q % ns)) σ Q := by
  have hb : 20 ≤ T ∧ T < 29 := by rcases hT with rfl | rfl <;> omega
  unfold wX7_goBackOver
  refine p_fill (by decide) ⟨n + 1, ?_⟩
  have f1 : ∀ j, j ≠ 44 → fil σ 44 0 10 0 j = σ j := fun j hj => fil_ne _ _ _ _ hj
  have hC1 : CouOk (fil σ 44 0 10 0) 36 (fil σ 44 0 10 0 6) ns bg op nu sz n N := CouOk_fr (fun j _ _ _ _ _ _ _ q8 => f1 j q8) hC
  have hL := p_gbo11 (σ0 := fil σ 44 0 10 0) (q := q) (N := N) (Q := Q) (M := fun k => if k = 1 then fun _ => 0 else P k) (P := P) (K := fun σ_12 => (cpok 0 0 10 10 10 ∧ ∀ σ_13, σ_13 = cpy σ_12 44 42 0 0 10 → Q σ_13)) hT hX (TB_fr hT (fun j q1 q2 => f1 j (by omega)) hB) hns (by rw [f1 4 (by decide)]; exact h4) hn hq hqN hC1 (fun j hj => by rw [f1 42 (by decide)]; exact hP.2.1 j hj) (fun σ12 h12 h42 hA12 => ⟨cpok_of (a := 0) (b := 0) (c := 10) (by decide) (by decide) (by decide) (by decide), fun σ13 e13 => ?_⟩) n 0 (fil σ 44 0 10 0) (by omega) (fun _ _ _ _ _ _ _ _ _ => rfl) rfl ⟨fun j hj => ?_, fun j hj => ?_, fun j hj => ?_⟩
  · exact hL
  · have f13 : ∀ j, j ≠ 42 → σ13 j = σ12 j := fun j hj => by rw [e13, cpy_ne _ _ _ _ hj]
    rw [f1 5 (by decide), f1 6 (by decide), f1 7 (by decide)] at hA12
    refine hQ σ13 (fun j q1 q2 q3 q4 q5 q6 q7 q8 => by rw [f13 j q6, h12 j q1 q2 q3 q4 q5 q6 q7 q8]; exact f1 j q8) ⟨fun j hj => ?_, fun j hj => ?_, fun j hj => ?_⟩
    · rw [f13 41 (by decide)]; exact hA12.1 j hj
    · rw [e13, cpy_same, if_pos (by omega), Nat.zero_add, Nat.sub_zero]; exact hA12.2.1 j hj
    · rw [f13 43 (by decide)]; exact hA12.2.2 j hj
  · rw [f1 41 (by decide)]; exact hP.1 j hj
  · rw [fil_same, if_pos (by omega)]; rfl
  · rw [f1 43 (by decide)]; exact hP.2.2 j hj
theorem CB_frG {σ σ' : Sg} {T ns nn : Nat} {bg op : Nat → Nat} {nu : Nat → Int32} {sz : Nat → Nat} {n g : Nat} {ou : Nat → Int32} {ce gs : Nat → Nat} {wt wa : Nat → Int32} (h : frG σ' σ) (hC : CB σ T ns nn bg op nu sz n g ou ce gs wt wa) : CB σ' T ns nn bg op nu sz n g ou ce gs wt wa := CB_fr (fun j _ _ _ q => h j (by unfold scrB at q; omega) (by unfold scrB at q; omega) (by unfold scrB at q; omega) (by unfold scrB at q; omega) (by unfold scrB at q; omega) (by unfold scrB at q; omega) (by unfold scrB at q; omega) (by unfold scrB at q; omega)) hC
theorem frG_trans {a b c : Sg} (h : frG a b) (h' : frG b c) : frG a c := fun j q1 q2 q3 q4 q5 q6 q7 q8 => (h j q1 q2 q3 q4 q5 q6 q7 q8).trans (h' j q1 q2 q3 q4 q5 q6 q7 q8)
theorem p_addS {σ0 : Sg} {T ns nn : Nat} {bg op : Nat → Nat} {nu : Nat → Int32} {sz : Nat → Nat} {n g s : Nat} {ou : Nat → Int32} {ce gs : Nat → Nat} {wt wa B : Nat → Int32} {R : Nat → Nat → Int32} {K Q : Sg → Prop} (hC : CB σ0 T ns nn bg op nu sz n g ou ce gs wt wa) (hs : s ≤ 20) (hu : σ0 36 3 = nI ns) (hR : ∀ i, i < g → gc n ou ce i → σ0 37 (10 * (gs i * ns) + ce i) = R (gs i * ns) (ce i)) (hK : ∀ σ, (∀ j, j ≠ 42 → σ j = σ0 j) → (∀ j, j < 10 → σ 42 j = ga R ns n ou ce gs wt wa s B g j) → K σ) :
    ∀ (d i : Nat) (σ : Sg), i + d = g → (∀ j, j ≠ 42 → σ j = σ0 j) → (∀ j, j < 10 → σ 42 j = ga R ns n ou ce gs wt wa s B i j) → wX4_addSlopes_L3 36 (nI s) (nI n) K Q (d + 1) (nI i) σ
  | 0, i, σ, hi, h, hB => by
    have hG := hC.2.2.2.2.2.2.2
    have hg := hG.1
    unfold wX4_addSlopes_L3
    have e : i = g := by omega
    rw [h 8 (by decide), hG.2.1, e]
    exact ⟨fun _ => hK σ h (by rw [← e]; exact hB), fun z => absurd (nI_le (Nat.le_refl _) (by omega)) z⟩
  | d + 1, i, σ, hi, h, hB => by
    have hG0 := hC.2.2.2.2.2.2.2
    have hn := hC.2.2.2.2.2.1
    have hns := hC.2.2.1.1
    have hg := hG0.1
    have hG : GaB σ g ou ce gs wt wa := by
      unfold GaB at hG0 ⊢
      rw [h 8 (by decide), h 9 (by decide), h 10 (by decide), h 11 (by decide), h 12 (by decide), h 13 (by decide)]
      exact hG0
    obtain ⟨a1, a2, a3, a4, a5, a6, a7⟩ := hG.2.2 i (by omega)
    have i1 : vp_in (nI i) 12 := vp_in_nI (by omega) (by decide)
    have nxt : ∀ σ2, (∀ j, j ≠ 42 → σ2 j = σ0 j) → (∀ j, j < 10 → σ2 42 j = ga R ns n ou ce gs wt wa s B (i + 1) j) → wX4_addSlopes_b63 36 (nI s) (nI n) (nI i) σ2 K (wX4_addSlopes_L3 36 (nI s) (nI n) K Q (d + 1)) Q := by
      intro σ2 h2 hB2
      unfold wX4_addSlopes_b63
      intro x5 e5
      rw [e5, nI_1]
      exact p_addS hC hs hu hR hK d (i + 1) σ2 (by omega) h2 hB2
    unfold ga at nxt
    unfold wX4_addSlopes_L3
    rw [hG.2.1, nI_clamp (by omega), a4]
    have es : nI (gs i) = nI s ↔ gs i = s := nI_eq (by omega) (by omega)
    refine ⟨fun z => absurd z (nI_ge (by omega) (by omega)), fun _ => ⟨i1, fun z => ?_, fun z => nxt σ h (fun j hj => ?_)⟩⟩
    · refine p_countsB hG (by omega) hn (fun c => ⟨fun w => absurd w one_ne, fun _ => ⟨i1, ?_⟩⟩) (fun c => ⟨fun _ => nxt σ h (fun j hj => ?_), fun w => absurd rfl w⟩)
      · rw [a2, nI_clamp (by omega), a6]
        refine ⟨vp_in_nI a3 (by decide), i1, p_offBy hG (by omega) (by rw [h 36 (by decide)]; exact hu) hns ⟨vp_in_nI a3 (by decide), fun σ9 e9 => nxt σ9 (fun j hj => by rw [e9, sto_ne _ _ _ hj]; exact h j hj) (fun j hj => ?_)⟩⟩
        rw [if_pos ⟨c, es.mp z⟩, e9, sto_same, h 37 (by decide), hR i (by omega) c]
        exact upd_c (hB j hj) (by rw [hB (ce i) a3])
      · rw [if_neg (fun w => c w.1)]; exact hB j hj
    · rw [if_neg (fun w => z (es.mpr w.2))]; exact hB j hj
theorem p_addS' {σ : Sg} {T ns nn : Nat} {bg op : Nat → Nat} {nu : Nat → Int32} {sz : Nat → Nat} {n g s : Nat} {ou : Nat → Int32} {ce gs : Nat → Nat} {wt wa : Nat → Int32} {P : Nat → Nat → Int32} {Q : Sg → Prop} (hC : CB σ T ns nn bg op nu sz n g ou ce gs wt wa) (hs : s ≤ 20) (hCo : CouOk σ 36 (σ 6) ns bg op nu sz n (gl n ou ce gs g * ns)) (hP : Ag σ 41 42 43 P) (hQ : ∀ σ', frG σ' σ → Ag σ' 41 42 43 (gag (rn ns bg op nu sz (σ 5) (σ 7) (σ 6) n) ns n g ou ce gs wt wa s P) → Q σ') : wX4_addSlopes 36 (nI s) (σ 4 0) σ Q := by
  unfold wX4_addSlopes
  rw [hC.2.2.2.2.2.2.1]
  refine ⟨g + 1, p_addS (B := P 1) (R := rn ns bg op nu sz (σ 5) (σ 7) (σ 6) n) hC hs hCo.1 (fun i hi c => hCo.2 _ (Nat.mul_le_mul_right ns (gl_ge c hi)) _ c.2) (fun σ' f' v' => hQ σ' (fun j _ _ _ _ _ q6 _ _ => f' j q6) ⟨fun j hj => ?_, fun j hj => ?_, fun j hj => ?_⟩) g 0 σ (by omega) (fun _ _ => rfl) (fun j hj => hP.2.1 j hj)⟩
  · rw [f' 41 (by decide)]; exact hP.1 j hj
  · rw [v' j hj]; rfl
  · rw [f' 43 (by decide)]; exact hP.2.2 j hj
theorem p_gb76 {σ0 : Sg} {T ns nn : Nat} {bg op : Nat → Nat} {nu : Nat → Int32} {sz : Nat → Nat} {n N s : Nat} {x7 : Int32} {K : Int32 → Sg → Prop} {Q : Sg → Prop} (hT : isSten T) (hX : TX ns nn bg op sz) (hB : TB σ0 T ns nn bg op nu sz) (h4 : σ0 4 0 = nI n) (hn : n ≤ 10) (hs : s * ns + ns ≤ 120) (hsN : s * ns + ns ≤ N) (hC : CouOk σ0 36 (σ0 6) ns bg op nu sz n N) :
    ∀ (k : Nat) (σ : Sg) (P : Nat → Nat → Int32), k ≤ ns → frG σ σ0 → Ag σ 41 42 43 P → (∀ σ', frG σ' σ0 → Ag σ' 41 42 43 (rws ns bg op nu sz (σ0 5) (σ0 7) (σ0 6) n (s * ns) k P) → K (nI (s * ns)) σ') → wX7_goBack_L76 T 36 x7 K Q (k + 1) (nI (s * ns + k)) (nI k - 1) σ
  | 0, σ, P, hk, h, hP, hK => by
    unfold wX7_goBack_L76
    exact ⟨fun _ => hK σ h hP, fun z => absurd m1_lt z⟩
  | k + 1, σ, P, hk, h, hP, hK => by
    have h3 := hX.1
    unfold wX7_goBack_L76
    rw [nI_sub1]
    refine ⟨fun z => absurd z (nI_pos (by omega)), fun _ x6 e6 => ?_⟩
    rw [show s * ns + (k + 1) = s * ns + k + 1 from rfl, add_m1, nI_sub1] at e6
    subst e6
    have r5 : σ 5 = σ0 5 := h 5 (by decide) (by decide) (by decide) (by decide) (by decide) (by decide) (by decide) (by decide)
    have r6 : σ 6 = σ0 6 := h 6 (by decide) (by decide) (by decide) (by decide) (by decide) (by decide) (by decide) (by decide)
    have r7 : σ 7 = σ0 7 := h 7 (by decide) (by decide) (by decide) (by decide) (by decide) (by decide) (by decide) (by decide)
    have hL := p_gbOver (q := s * ns + k) (N := N) (P := P) (Q := fun σ_17 => (∀ x8_18 : Int32, x8_18 = nI k + (-1) → wX7_goBack_L76 T 36 x7 K Q (k + 1) (nI (s * ns + k)) x8_18 σ_17)) hT hX (TB_fr hT (fun j q1 q2 => h j (by omega) (by omega) (by omega) (by omega) (by omega) (by omega) (by omega) (by omega)) hB) (by omega) (by rw [h 4 (by decide) (by decide) (by decide) (by decide) (by decide) (by decide) (by decide) (by decide)]; exact h4) hn (by omega) (by omega) (CouOk_fr h hC) hP (fun σ17 f17 hA17 x8 e8 => by
      rw [add_m1] at e8
      rw [e8]
      rw [r5, r6, r7] at hA17
      exact p_gb76 hT hX hB h4 hn hs hsN hC k σ17 _ (by omega) (frG_trans f17 h) hA17 hK)
    rw [mod_sk (by omega)] at hL
    exact hL
theorem p_gb47 {σ0 : Sg} {T ns nn : Nat} {bg op : Nat → Nat} {nu : Nat → Int32} {sz : Nat → Nat} {n g : Nat} {ou : Nat → Int32} {ce gs : Nat → Nat} {wt wa : Nat → Int32} {K Q : Sg → Prop} (hCB : CB σ0 T ns nn bg op nu sz n g ou ce gs wt wa) (hC : CouOk σ0 36 (σ0 6) ns bg op nu sz n (gl n ou ce gs g * ns)) :
    ∀ (s : Nat) (σ : Sg) (P : Nat → Nat → Int32), s ≤ gl n ou ce gs g → frG σ σ0 → Ag σ 41 42 43 P → (∀ σ', frG σ' σ0 → Ag σ' 41 42 43 (sps ns bg op nu sz (σ0 5) (σ0 7) (σ0 6) n g ou ce gs wt wa s P) → K σ') → wX7_goBack_L47 T 36 K Q (s + 1) (nI (s * ns)) (nI s) σ
  | 0, σ, P, hs, h, hP, hK => by
    unfold wX7_goBack_L47
    exact ⟨fun _ => hK σ h hP, fun z => absurd (nI_le (b := 0) (Nat.le_refl _) (by decide)) z⟩
  | s + 1, σ, P, hs, h, hP, hK => by
    obtain ⟨a1, a2, a3, a4, a5, a6, a7, a8⟩ := id hCB
    have hl := gl_le (n := n) (ou := ou) (ce := ce) (fun j hj => (a8.2.2 j hj).2.2.2.2.1 : ∀ j, j < g → gs j ≤ 20)
    have h3 := a3.1
    have r5 : σ 5 = σ0 5 := h 5 (by decide) (by decide) (by decide) (by decide) (by decide) (by decide) (by decide) (by decide)
    have r6 : σ 6 = σ0 6 := h 6 (by decide) (by decide) (by decide) (by decide) (by decide) (by decide) (by decide) (by decide)
    have r7 : σ 7 = σ0 7 := h 7 (by decide) (by decide) (by decide) (by decide) (by decide) (by decide) (by decide) (by decide)
    have hm : (s + 1) * ns ≤ gl n ou ce gs g * ns := Nat.mul_le_mul_right ns hs
    have hm2 : (s + 1) * ns ≤ 40 * 3 := Nat.mul_le_mul (by omega) h3
    have es : (s + 1) * ns = s * ns + ns := Nat.succ_mul s ns
    rw [es] at hm hm2
    unfold wX7_goBack_L47
    refine ⟨fun z => absurd z (nI_ge (a := 0) (by omega) (by omega)), fun _ => ?_⟩
    refine p_addS' (CB_frG h hCB) (by omega) (CouOk_fr h hC) hP (fun σ12 f12 hA12 x8 e8 => ⟨ns + 1, ?_⟩)
    have h12 := frG_trans f12 h
    obtain ⟨-, -, -, b4, -, -, b7, -⟩ := CB_frG h12 hCB
    rw [b4.1] at e8
    rw [e8, es]
    rw [r5, r6, r7] at hA12
    refine p_gb76 (σ0 := σ0) (N := gl n ou ce gs g * ns) a1 a3 a4 a7 a6 hm2 hm hC ns σ12 _ (Nat.le_refl _) h12 hA12 (fun σ20 f20 hA20 x7 e7 => ?_)
    rw [add_m1, nI_sub1] at e7
    rw [e7]
    exact p_gb47 hCB hC s σ20 _ (by omega) f20 hA20 hK
theorem p_goBack {σ : Sg} {T ns nn : Nat} {bg op : Nat → Nat} {nu : Nat → Int32} {sz : Nat → Nat} {n g : Nat} {ou : Nat → Int32} {ce gs : Nat → Nat} {wt wa : Nat → Int32} {Q : Sg → Prop} (hCB : CB σ T ns nn bg op nu sz n g ou ce gs wt wa) (hC : CouOk σ 36 (σ 6) ns bg op nu sz n (gl n ou ce gs g * ns)) (hQ : ∀ σ', frG σ' σ → Ag σ' 41 42 43 (FP ns bg op nu sz (σ 5) (σ 7) (σ 6) n g ou ce gs wt wa) → Q σ') : wX7_goBack T 36 σ Q := by
  obtain ⟨a1, a2, a3, a4, a5, a6, a7, a8⟩ := id hCB
  unfold wX7_goBack
  refine p_fill (by decide) (p_fill (by decide) (p_fill (by decide) ?_))
  have f6 : ∀ j, j ≠ 41 → j ≠ 42 → j ≠ 43 → fil (fil (fil σ 41 0 10 0) 42 0 10 0) 43 0 2 0 j = σ j := fun j q1 q2 q3 => by rw [fil_ne _ _ _ _ q3, fil_ne _ _ _ _ q2, fil_ne _ _ _ _ q1]
  have hA : Ag (fil (fil (fil σ 41 0 10 0) 42 0 10 0) 43 0 2 0) 41 42 43 (fun _ _ => 0) := by
    refine ⟨fun j hj => ?_, fun j hj => ?_, fun j hj => ?_⟩
    · rw [fil_ne _ _ _ _ (by decide), fil_ne _ _ _ _ (by decide), fil_same, if_pos (by omega)]
    · rw [fil_ne _ _ _ _ (by decide), fil_same, if_pos (by omega)]
    · rw [fil_same, if_pos (by omega)]
  generalize fil (fil (fil σ 41 0 10 0) 42 0 10 0) 43 0 2 0 = σ6 at f6 hA ⊢
  have h6 : frG σ6 σ := fun j _ _ _ _ q5 q6 q7 _ => f6 j q5 q6 q7
  have hCB6 := CB_frG h6 hCB
  obtain ⟨-, -, -, b4, -, -, b7, b8⟩ := id hCB6
  rw [b7]
  refine p_lastB' b8 a6 (fun x6 e6 => ⟨gl n ou ce gs g + 1, ?_⟩)
  rw [b4.1, pk_mul] at e6
  rw [e6]
  have r5 : σ6 5 = σ 5 := f6 5 (by decide) (by decide) (by decide)
  have r6 : σ6 6 = σ 6 := f6 6 (by decide) (by decide) (by decide)
  have r7 : σ6 7 = σ 7 := f6 7 (by decide) (by decide) (by decide)
  refine p_gb47 (σ0 := σ6) hCB6 (CouOk_fr h6 hC) (gl n ou ce gs g) σ6 _ (Nat.le_refl _) (fun _ _ _ _ _ _ _ _ _ => rfl) hA (fun σ22 f22 hA22 => ?_)
  have s5 : σ22 5 = σ 5 := (f22 5 (by decide) (by decide) (by decide) (by decide) (by decide) (by decide) (by decide) (by decide)).trans r5
  have s6 : σ22 6 = σ 6 := (f22 6 (by decide) (by decide) (by decide) (by decide) (by decide) (by decide) (by decide) (by decide)).trans r6
  have s7 : σ22 7 = σ 7 := (f22 7 (by decide) (by decide) (by decide) (by decide) (by decide) (by decide) (by decide) (by decide)).trans r7
  have h22 := frG_trans f22 h6
  refine p_addS' (s := 0) (CB_frG h22 hCB) (by decide) (CouOk_fr h22 hC) hA22 (fun σ24 f24 hA24 => hQ σ24 (frG_trans f24 h22) ?_)
  rw [s5, s6, s7, r5, r6, r7] at hA24
  exact hA24
