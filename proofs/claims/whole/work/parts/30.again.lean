/-! again: FEWEST, WHERE -/
theorem fwB_congr {a b a' b' : Nat → Int32} : ∀ {M : Nat}, (∀ m, 1 ≤ m → m ≤ M → a m = a' m ∧ b m = b' m) → fwB a b M = fwB a' b' M
  | 0, _ => rfl
  | 1, h => by unfold fwB; rw [(h 1 (by omega) (by omega)).1, (h 1 (by omega) (by omega)).2]
  | m + 2, h => by
    unfold fwB
    rw [fwB_congr (fun k h1 h2 => h k h1 (by omega)), (h (m + 2) (by omega) (by omega)).1, (h (m + 2) (by omega) (by omega)).2]
theorem fwB_ne {a b : Nat → Int32} : ∀ {M : Nat}, 1 ≤ M → ∃ q, q ≤ M ∧ (fwB a b M).2 = nI q
  | 0, h => absurd h (by omega)
  | 1, _ => ⟨1, by omega, rfl⟩
  | m + 2, _ => by
    unfold fwB
    split
    · exact ⟨m + 2, by omega, rfl⟩
    · obtain ⟨q, h1, h2⟩ := fwB_ne (a := a) (b := b) (M := m + 1) (by omega)
      exact ⟨q, by omega, h2⟩
theorem fwT_st (k : Nat) : ∀ (N n : Nat), n ≤ N → fwT N n k = fwT n n k
  | 0, n, h => by rw [Nat.le_zero.mp h]
  | N + 1, n, h => by
    by_cases e : n = N + 1
    · rw [e]
    · have : fwT (N + 1) n k = fwT N n k := by
        show (if n = N + 1 then _ else fwT N n k) = _
        rw [if_neg e]
      rw [this, fwT_st k N n (by omega)]
theorem fwF_1 (k : Nat) : fwF 1 k = 0 := by
  unfold fwF fwT
  rw [if_pos rfl, if_pos rfl]
theorem fwF_k0 (N : Nat) (h : 1 ≤ N) : fwF (N + 1) 0 = nI (N + 1) * (nI (N + 1) - 1) / 2 := by
  show (if N + 1 = N + 1 then (if N = 0 then (0 : Int32) else if 0 = 0 then _ else _) else _) = _
  rw [if_pos rfl, if_neg (by omega), if_pos rfl]
theorem fwF_n0 {n : Nat} (h : 1 ≤ n) : fwF n 0 = nI n * (nI n - 1) / 2 := by
  by_cases e : n = 1
  · subst e
    rw [fwF_1]
    decide
  · obtain ⟨N, rfl⟩ : ∃ N, n = N + 1 := ⟨n - 1, by omega⟩
    exact fwF_k0 N (by omega)
theorem fwF_nk {n k : Nat} (hn : 2 ≤ n) (hk : 1 ≤ k) : fwF n k = (fwB (fun m => fwF (n - m) (k - 1)) (fun m => fwF m k) (n - 1)).1 := by
  obtain ⟨N, rfl⟩ : ∃ N, n = N + 1 := ⟨n - 1, by omega⟩
  have : fwF (N + 1) k = (fwB (fun m => fwT N (N + 1 - m) (k - 1)) (fun m => fwT N m k) N).1 := by
    show (if N + 1 = N + 1 then (if N = 0 then (0 : Int32) else if k = 0 then _ else _) else _) = _
    rw [if_pos rfl, if_neg (by omega), if_neg (by omega)]
  rw [this, show N + 1 - 1 = N from rfl]
  rw [fwB_congr (fun m h1 h2 => ⟨fwT_st (k - 1) N (N + 1 - m) (by omega), fwT_st k N m h2⟩)]
  rfl
theorem ix7 (k i : Nat) : (7 : Int32) * nI k + nI i = nI (7 * k + i) := by
  show nI 7 * nI k + nI i = _
  rw [pk_mul, nI_add]
/-- the reference's table up to (n, k) -/
def LFok (τ0 τ : Sg) (n k : Nat) : Prop :=
  (∀ a b, 1 ≤ a → b ≤ 6 → (a < n ∨ (a = n ∧ b < k)) → τ 26 (7 * a + b) = fwF a b ∧ τ 27 (7 * a + b) = fwW a b) ∧ ∀ j, j ≠ 26 → j ≠ 27 → τ j = τ0 j
def lfP (a b : Nat → Int32) (v : Int32) (M : Nat) : Int32 × Int32 := if M = 0 then (v, -1000000) else fwB a b M
theorem p_lfI {n k : Nat} (hn : n ≤ 40) (hk1 : 1 ≤ k) (hk : k ≤ 6) {x1 v : Int32} {K : Int32 → Int32 → Sg → Prop} {Q : Sg → Prop} {τ0 τ : Sg} (h : LFok τ0 τ n k) (hK : K (lfP (fun m => fwF (n - m) (k - 1)) (fun m => fwF m k) v (n - 1)).1 (lfP (fun m => fwF (n - m) (k - 1)) (fun m => fwF m k) v (n - 1)).2 τ) :
    ∀ (d M : Nat), M + 1 + d = n → wX12_layFewest_L32 x1 (nI n) (nI k) K Q (d + 1) (lfP (fun m => fwF (n - m) (k - 1)) (fun m => fwF m k) v M).1 (lfP (fun m => fwF (n - m) (k - 1)) (fun m => fwF m k) v M).2 (nI (M + 1)) τ
  | 0, M, hM => by
    unfold wX12_layFewest_L32
    have e : M = n - 1 := by omega
    subst e
    exact ⟨fun _ => hK, fun z => absurd (nI_le (by omega) (by omega)) z⟩
  | d + 1, M, hM => by
    unfold wX12_layFewest_L32 wX12_layFewest_b91 wX12_layFewest_b99
    refine ⟨fun z => absurd z (nI_ge (by omega) (by omega)), fun _ => ⟨fun z => absurd z (nI_ge (a := 0) (by omega) (by omega)), fun _ => ?_⟩⟩
    have e1 : (7 : Int32) * (nI n - nI (M + 1)) + nI k - 1 = nI (7 * (n - (M + 1)) + (k - 1)) := by
      rw [pk_sub (by omega), ix7, show nI (7 * (n - (M + 1)) + k) - 1 = nI (7 * (n - (M + 1)) + k - 1) from pk_sub (b := 1) (by omega), show 7 * (n - (M + 1)) + k - 1 = 7 * (n - (M + 1)) + (k - 1) by omega]
    rw [e1, ix7]
    refine ⟨vp_in_nI (by omega) (by decide), vp_in_nI (by omega) (by decide), fun x7 e7 => ?_⟩
    rw [nI_clamp (by omega), nI_clamp (by omega), (h.1 (n - (M + 1)) (k - 1) (by omega) (by omega) (by omega)).1, (h.1 (M + 1) k (by omega) hk (by omega)).1] at e7
    have ih := p_lfI hn hk1 hk (x1 := x1) (v := v) (Q := Q) h hK d (M + 1) (by omega)
    have step : (lfP (fun m => fwF (n - m) (k - 1)) (fun m => fwF m k) v (M + 1)) = if M = 0 then (x7, nI (M + 1)) else if x7 < (lfP (fun m => fwF (n - m) (k - 1)) (fun m => fwF m k) v M).1 then (x7, nI (M + 1)) else lfP (fun m => fwF (n - m) (k - 1)) (fun m => fwF m k) v M := by
      unfold lfP
      rw [if_neg (by omega)]
      by_cases c : M = 0
      · subst c
        rw [if_pos rfl, e7]
        rfl
      · obtain ⟨m, rfl⟩ : ∃ m, M = m + 1 := ⟨M - 1, by omega⟩
        rw [if_neg c, if_neg c, e7]
        rfl
    rw [step] at ih
    by_cases c : M = 0
    · subst c
      rw [if_pos rfl] at ih
      refine ⟨fun _ x6 e6 => ?_, fun z => absurd rfl z⟩
      rw [nI_1] at e6
      subst e6
      exact ih
    · rw [if_neg c] at ih
      have hne : ¬ (lfP (fun m => fwF (n - m) (k - 1)) (fun m => fwF m k) v M).2 = (-1000000) := by
        unfold lfP
        rw [if_neg c]
        obtain ⟨q, hq, e⟩ := fwB_ne (a := fun m => fwF (n - m) (k - 1)) (b := fun m => fwF m k) (M := M) (by omega)
        rw [e]
        exact nI_nNone (by omega)
      refine ⟨fun z => absurd z hne, fun _ => ⟨fun z x6 e6 => ?_, fun z x6 e6 => ?_⟩⟩
      · rw [nI_1] at e6
        subst e6
        rw [if_neg (i32_nlt.mpr z)] at ih
        exact ih
      · rw [nI_1] at e6
        subst e6
        rw [if_pos (i32_nle.mp z)] at ih
        exact ih
theorem LFok_up {τ0 τ : Sg} {n k : Nat} {y x : Int32} (hk : k ≤ 6) (h : LFok τ0 τ n k) (h1 : y = fwF n k) (h2 : x = fwW n k) : LFok τ0 (sto (sto τ 26 (7 * n + k) y) 27 (7 * n + k) x) n (k + 1) := by
  refine ⟨fun a b ha hb hc => ?_, fun j q1 q2 => ?_⟩
  · by_cases e : a = n ∧ b = k
    · obtain ⟨rfl, rfl⟩ := e
      rw [sto_ne (j' := 26) _ _ _ (by decide), sto_at, sto_at]
      exact ⟨h1, h2⟩
    · rw [sto_ne (j' := 26) _ _ _ (by decide), sto_off _ _ _ (by omega), sto_off _ _ _ (by omega), sto_ne _ _ _ (by decide)]
      exact h.1 a b ha hb (by omega)
  · rw [sto_ne _ _ _ q2, sto_ne _ _ _ q1]
    exact h.2 j q1 q2
theorem p_lfK {n : Nat} (hn1 : 1 ≤ n) (hn : n ≤ 40) {x1 : Int32} {K Q : Sg → Prop} {τ0 : Sg} (hK : ∀ τ, LFok τ0 τ n 7 → K τ) : ∀ (d k : Nat) (τ : Sg), k + d = 7 → LFok τ0 τ n k → wX12_layFewest_L9 x1 (nI n) K Q (d + 1) (nI k) τ
  | 0, k, τ, hk, h => by
    unfold wX12_layFewest_L9
    have e : k = 7 := by omega
    subst e
    exact ⟨fun _ => hK τ h, fun z => absurd (nI_le (a := 7) (Nat.le_refl _) (by decide)) z⟩
  | d + 1, k, τ, hk, h => by
    unfold wX12_layFewest_L9
    refine ⟨fun z => absurd z (nI_ge (b := 7) (by omega) (by decide)), fun _ => ⟨by decide, fun x4 e4 => ?_⟩⟩
    have fin : ∀ (y x : Int32), (n = 1 → x = fwW n k) → (n ≠ 1 → y = fwF n k ∧ x = fwW n k) → wX12_layFewest_b105 x1 (nI n) (nI k) y x τ K (wX12_layFewest_L9 x1 (nI n) K Q (d + 1)) Q := by
      intro y x h1 h2
      unfold wX12_layFewest_b105 wX12_layFewest_b126
      rw [ix7, nI_clamp (by omega)]
      have hin : vp_in (nI (7 * n + k)) 287 := vp_in_nI (by omega) (by decide)
      have hnn : nI n = 1 ↔ n = 1 := nI_eq (b := 1) (by omega) (by decide)
      refine ⟨fun z => ⟨hin, fun a ea => ⟨hin, fun b eb x3 e3 => ?_⟩⟩, fun z => ⟨hin, fun a ea => ⟨hin, fun b eb x3 e3 => ?_⟩⟩⟩
      · rw [nI_1] at e3
        subst e3 eb ea
        have hn1' := hnn.mp z
        exact p_lfK hn1 hn hK d (k + 1) _ (by omega) (LFok_up (by omega) h (by rw [hn1', fwF_1]) (h1 hn1'))
      · rw [nI_1] at e3
        subst e3 eb ea
        have hz : n ≠ 1 := fun q => z (hnn.mpr q)
        exact p_lfK hn1 hn hK d (k + 1) _ (by omega) (LFok_up (by omega) h (h2 hz).1 (h2 hz).2)
    by_cases ck : k = 0
    · subst ck
      refine ⟨1, ?_⟩
      unfold wX12_layFewest_L32
      have hf := fin x4 (-1000000) (fun _ => rfl) (fun _ => ⟨by rw [fwF_n0 hn1]; exact e4, rfl⟩)
      exact ⟨fun _ => hf, fun _ => ⟨fun _ => hf, fun z => absurd (nI_le (a := 0) (b := 0) (Nat.le_refl _) (by decide)) z⟩⟩
    · refine ⟨n - 1 + 1, ?_⟩
      have hL := p_lfI (n := n) (k := k) hn (by omega) (by omega) (x1 := x1) (v := x4) (K := fun x4_10 x5_11 σ_12 => wX12_layFewest_b105 x1 (nI n) (nI k) x4_10 x5_11 σ_12 K (wX12_layFewest_L9 x1 (nI n) K Q (d + 1)) Q) (Q := Q) h (by
        refine fin _ _ (fun z => ?_) (fun z => ?_)
        · subst z
          unfold fwW
          rw [if_neg ck]
          rfl
        · unfold lfP fwW
          rw [if_neg (by omega), if_neg ck, fwF_nk (by omega) (by omega)]
          exact ⟨rfl, rfl⟩) (n - 1) 0 (by omega)
      exact hL
theorem LFok_row {τ0 τ : Sg} {n : Nat} (h : LFok τ0 τ n 7) : LFok τ0 τ (n + 1) 0 := ⟨fun a b ha hb hc => h.1 a b ha hb (by omega), h.2⟩
theorem p_lfN {N : Nat} (hN : N ≤ 40) {K Q : Sg → Prop} {τ0 : Sg} (hK : ∀ τ, LFok τ0 τ (N + 1) 0 → K τ) : ∀ (d n : Nat) (τ : Sg), 1 ≤ n → n + d = N + 1 → LFok τ0 τ n 0 → wX12_layFewest_L2 (nI N) K Q (d + 1) (nI n) τ
  | 0, n, τ, h1, hn, h => by
    unfold wX12_layFewest_L2
    have e : n = N + 1 := by omega
    subst e
    exact ⟨fun _ => hK τ h, fun z => absurd (nI_lt (by omega) (by omega)) z⟩
  | d + 1, n, τ, h1, hn, h => by
    unfold wX12_layFewest_L2
    refine ⟨fun z => absurd z (nI_nlt (by omega) (by omega)), fun _ => ⟨8, ?_⟩⟩
    refine p_lfK h1 (by omega) (fun τ' h' => ?_) 7 0 τ (by omega) h
    intro x2 e2
    rw [nI_1] at e2
    subst e2
    exact p_lfN hN hK d (n + 1) τ' (by omega) (by omega) (LFok_row h')
theorem p_layF {N : Nat} (h1 : 1 ≤ N) (hN : N ≤ 40) {Q : Sg → Prop} {τ : Sg} (hQ : ∀ τ', LFok τ τ' (N + 1) 0 → Q τ') : wX12_layFewest (nI N) τ Q := by
  unfold wX12_layFewest
  exact ⟨N + 1, p_lfN hN (fun τ' h => hQ τ' h) N 1 τ (by omega) (by omega) ⟨fun a b ha hb hc => by omega, fun _ _ _ => rfl⟩⟩
/-- the class's table up to (k, n): all rows of fewer places; of k those below n; the first column; nothing else changed -/
def CFok (σ0 σ : Sg) (k n : Nat) : Prop :=
  (∀ a b, 1 ≤ a → a ≤ 40 → b ≤ 6 → (b < k ∨ (b = k ∧ a < n) ∨ a = 1) → σ 46 (41 * b + a) = fwF a b ∧ σ 47 (41 * b + a) = fwW a b) ∧ (∀ j, j ≠ 46 → j ≠ 47 → σ j = σ0 j)
theorem ix41 (k n : Nat) : nI k * (41 : Int32) + nI n = nI (41 * k + n) := by
  show nI k * nI 41 + nI n = _
  rw [pk_mul, nI_add, Nat.mul_comm]
theorem p_f1 {n k : Nat} (hn2 : 2 ≤ n) (hn : n ≤ 40) (hk1 : 1 ≤ k) (hk : k ≤ 6) {K Q : Sg → Prop} {σ0 : Sg} (hK : ∀ σ, CFok σ0 σ k (n + 1) → K σ) : ∀ (d M : Nat) (σ : Sg), M + 1 + d = n → CFok σ0 σ k n → (1 ≤ M → σ 46 (41 * k + n) = (fwB (fun m => fwF (n - m) (k - 1)) (fun m => fwF m k) M).1 ∧ σ 47 (41 * k + n) = (fwB (fun m => fwF (n - m) (k - 1)) (fun m => fwF m k) M).2) → wX5_fillOne_L9 (nI n) (nI k) (nI (41 * k + n)) K Q (d + 1) (nI (M + 1)) σ
  | 0, M, σ, hM, h, hv => by
    unfold wX5_fillOne_L9
    have e : M = n - 1 := by omega
    subst e
    refine ⟨fun _ => hK σ ⟨fun a b ha ha2 hb hc => ?_, h.2⟩, fun z => absurd (nI_le (by omega) (by omega)) z⟩
    by_cases e : b = k ∧ a = n
    · obtain ⟨rfl, rfl⟩ := e
      rw [(hv (by omega)).1, (hv (by omega)).2, fwF_nk hn2 hk1]
      unfold fwW
      rw [if_neg (by omega)]
      exact ⟨rfl, rfl⟩
    · exact h.1 a b ha ha2 hb (by omega)
  | d + 1, M, σ, hM, h, hv => by
    unfold wX5_fillOne_L9 wX5_at wX5_fillOne_b64 wX5_fillOne_b80
    refine ⟨fun z => absurd z (nI_ge (by omega) (by omega)), fun _ => ?_⟩
    have e1 : (nI k - 1) * 41 + (nI n - nI (M + 1)) = nI (41 * (k - 1) + (n - (M + 1))) := by
      rw [show nI k - 1 = nI (k - 1) from pk_sub (b := 1) hk1, pk_sub (by omega), ix41]
    rw [e1, ix41]
    refine ⟨vp_in_nI (by omega) (by decide), vp_in_nI (by omega) (by decide), fun x5 e5 => ?_⟩
    rw [nI_clamp (by omega), nI_clamp (by omega), (h.1 (n - (M + 1)) (k - 1) (by omega) (by omega) (by omega) (by omega)).1, (h.1 (M + 1) k (by omega) (by omega) hk (by omega)).1] at e5
    have hin : vp_in (nI (41 * k + n)) 287 := vp_in_nI (by omega) (by decide)
    rw [nI_clamp (by omega)]
    have put : (fwB (fun m => fwF (n - m) (k - 1)) (fun m => fwF m k) (M + 1)) = (x5, nI (M + 1)) → wX5_fillOne_L9 (nI n) (nI k) (nI (41 * k + n)) K Q (d + 1) (nI (M + 1 + 1)) (sto (sto σ 46 (41 * k + n) x5) 47 (41 * k + n) (nI (M + 1))) := by
      intro e
      refine p_f1 hn2 hn hk1 hk hK d (M + 1) _ (by omega) ⟨fun a b ha ha2 hb hc => ?_, fun j q1 q2 => ?_⟩ (fun _ => ?_)
      · have hne : 41 * b + a ≠ 41 * k + n := by omega
        rw [sto_ne (j' := 46) _ _ _ (by decide), sto_off _ _ _ hne, sto_off _ _ _ hne, sto_ne _ _ _ (by decide)]
        exact h.1 a b ha ha2 hb hc
      · rw [sto_ne _ _ _ q2, sto_ne _ _ _ q1]; exact h.2 j q1 q2
      · rw [sto_ne (j' := 46) _ _ _ (by decide), sto_at, sto_at, e]
        exact ⟨rfl, rfl⟩
    have hone : nI (M + 1) = 1 ↔ M = 0 := by
      rw [show (1 : Int32) = nI 1 from rfl, nI_eq (by omega) (by decide)]; omega
    refine ⟨fun z => ⟨hin, fun a ea => ⟨hin, fun b eb x4 e4 => ?_⟩⟩, fun z => ⟨hin, ?_⟩⟩
    · have hM0 := hone.mp z
      subst hM0
      rw [nI_1] at e4
      subst e4 eb ea
      exact put (by rw [e5]; rfl)
    · have hM0 : M ≠ 0 := fun q => z (hone.mpr q)
      obtain ⟨m, rfl⟩ : ∃ m, M = m + 1 := ⟨M - 1, by omega⟩
      have hv2 := hv (by omega)
      have step : fwB (fun m => fwF (n - m) (k - 1)) (fun m => fwF m k) (m + 1 + 1) = if x5 < (fwB (fun m => fwF (n - m) (k - 1)) (fun m => fwF m k) (m + 1)).1 then (x5, nI (m + 1 + 1)) else fwB (fun m => fwF (n - m) (k - 1)) (fun m => fwF m k) (m + 1) := by
        rw [e5]
        rfl
      rw [hv2.1]
      refine ⟨fun y x4 e4 => ?_, fun y => ⟨hin, fun a ea => ⟨hin, fun b eb x4 e4 => ?_⟩⟩⟩
      · rw [nI_1] at e4
        subst e4
        refine p_f1 hn2 hn hk1 hk hK d (m + 1 + 1) σ (by omega) h (fun _ => ?_)
        rw [step, if_neg (i32_nlt.mpr y)]
        exact hv2
      · rw [nI_1] at e4
        subst e4 eb ea
        exact put (by rw [step, if_pos (i32_nle.mp y)])
theorem p_fillOne {n k : Nat} (hn2 : 2 ≤ n) (hn : n ≤ 40) (hk1 : 1 ≤ k) (hk : k ≤ 6) {Q : Sg → Prop} {σ0 σ : Sg} (h : CFok σ0 σ k n) (hQ : ∀ σ, CFok σ0 σ k (n + 1) → Q σ) : wX5_fillOne (nI n) (nI k) σ Q := by
  unfold wX5_fillOne wX5_at
  rw [ix41]
  exact ⟨n - 1 + 1, p_f1 hn2 hn hk1 hk (fun σ h => hQ σ h) (n - 1) 0 σ (by omega) h (fun z => absurd z (by omega))⟩
theorem p_f63 {k : Nat} (hk1 : 1 ≤ k) (hk : k ≤ 6) {K Q : Sg → Prop} {σ0 : Sg} (hK : ∀ σ, CFok σ0 σ k 41 → K σ) : ∀ (d n : Nat) (σ : Sg), 2 ≤ n → n + d = 41 → CFok σ0 σ k n → wX5_fill_L63 (nI k) K Q (d + 1) (nI n) σ
  | 0, n, σ, h2, hn, h => by
    unfold wX5_fill_L63
    have e : n = 41 := by omega
    subst e
    exact ⟨fun _ => hK σ h, fun z => absurd (nI_lt (a := 40) (b := 41) (by decide) (by decide)) z⟩
  | d + 1, n, σ, h2, hn, h => by
    unfold wX5_fill_L63
    refine ⟨fun z => absurd z (nI_nlt (a := 40) (by omega) (by decide)), fun _ => ?_⟩
    refine p_fillOne h2 (by omega) hk1 hk h (fun σ' h' x2 e2 => ?_)
    rw [nI_1] at e2
    subst e2
    exact p_f63 hk1 hk hK d (n + 1) σ' (by omega) (by omega) h'
theorem CFok_row {σ0 σ : Sg} {k : Nat} (h : CFok σ0 σ k 41) : CFok σ0 σ (k + 1) 2 := ⟨fun a b ha ha2 hb hc => h.1 a b ha ha2 hb (by omega), h.2⟩
theorem p_f55 {K Q : Sg → Prop} {σ0 : Sg} (hK : ∀ σ, CFok σ0 σ 7 2 → K σ) : ∀ (d k : Nat) (σ : Sg), 1 ≤ k → k + d = 7 → CFok σ0 σ k 2 → wX5_fill_L55 K Q (d + 1) (nI k) σ
  | 0, k, σ, h1, hk, h => by
    unfold wX5_fill_L55
    have e : k = 7 := by omega
    subst e
    exact ⟨fun _ => hK σ h, fun z => absurd (nI_lt (a := 6) (b := 7) (by decide) (by decide)) z⟩
  | d + 1, k, σ, h1, hk, h => by
    unfold wX5_fill_L55
    refine ⟨fun z => absurd z (nI_nlt (a := 6) (by omega) (by decide)), fun _ => ⟨40, ?_⟩⟩
    refine p_f63 h1 (by omega) (fun σ' h' x1 e1 => ?_) 39 2 σ (by decide) (by decide) h
    rw [nI_1] at e1
    subst e1
    exact p_f55 hK d (k + 1) σ' (by omega) (by omega) (CFok_row h')
/-- behind the filling with NONE, while the first row is laid -/
def C0ok (σ0 σ : Sg) (n : Nat) : Prop :=
  (∀ a, 1 ≤ a → a < n → σ 46 a = fwF a 0) ∧ (∀ i, i < 287 → (i = 0 ∨ n ≤ i) → σ 46 i = 0) ∧ (∀ i, i < 287 → σ 47 i = -1000000) ∧ ∀ j, j ≠ 46 → j ≠ 47 → σ j = σ0 j
theorem p_f24 {K Q : Sg → Prop} {σ0 : Sg} (hK : ∀ σ, C0ok σ0 σ 41 → K σ) : ∀ (d n : Nat) (σ : Sg), 1 ≤ n → n + d = 41 → C0ok σ0 σ n → wX5_fill_L24 K Q (d + 1) (nI n) σ
  | 0, n, σ, h1, hn, h => by
    unfold wX5_fill_L24
    have e : n = 41 := by omega
    subst e
    exact ⟨fun _ => hK σ h, fun z => absurd (nI_lt (a := 40) (b := 41) (by decide) (by decide)) z⟩
  | d + 1, n, σ, h1, hn, h => by
    unfold wX5_fill_L24 wX5_at
    refine ⟨fun z => absurd z (nI_nlt (a := 40) (by omega) (by decide)), fun _ => ⟨by decide, ?_⟩⟩
    rw [show (0 : Int32) * 41 + nI n = nI n by rw [show (0 : Int32) = nI 0 from rfl, ix41, Nat.mul_zero, Nat.zero_add], nI_clamp (by omega)]
    refine ⟨vp_in_nI (by omega) (by decide), fun σ8 e8 x1 e1 => ?_⟩
    rw [nI_1] at e1
    subst e1 e8
    obtain ⟨a1, a2, a3, a4⟩ := h
    refine p_f24 hK d (n + 1) _ (by omega) (by omega) ⟨fun a q1 q2 => ?_, fun i q1 q2 => ?_, fun i q1 => ?_, fun j q1 q2 => ?_⟩
    · by_cases e : a = n
      · subst e; rw [sto_at, fwF_n0 h1]
      · rw [sto_off _ _ _ e]; exact a1 a q1 (by omega)
    · rw [sto_off _ _ _ (by omega)]; exact a2 i q1 (by omega)
    · rw [sto_ne _ _ _ (by decide)]; exact a3 i q1
    · rw [sto_ne _ _ _ q1]; exact a4 j q1 q2
theorem fwW_1 (k : Nat) : fwW 1 k = -1000000 := by
  unfold fwW
  split <;> rfl
theorem p_fillR {σ : Sg} {Q : Sg → Prop} (hR : IRed σ) (hQ : ∀ σ', IRed σ' → σ' 45 2 = 1 → (∀ j, j ≠ 45 → j ≠ 46 → j ≠ 47 → σ' j = σ j) → Q σ') : wX5_fill σ Q := by
  unfold wX5_fill
  rcases hR with ⟨h1, h2⟩ | ⟨h1, h2⟩
  · refine ⟨fun _ σ2 e2 => ?_, fun z => absurd h1 z⟩
    refine p_fill (by decide) ?_
    refine ⟨41, p_f24 (σ0 := σ2) (fun σ' h' => ?_) 40 1 _ (by decide) (by decide) ?_⟩
    · refine ⟨7, p_f55 (σ0 := σ2) (fun σ3 h3 => ?_) 6 1 σ' (by decide) (by decide) ?_⟩
      · have f45 : σ3 45 2 = 1 := by rw [h3.2 45 (by decide) (by decide), e2, sto_at]
        refine hQ σ3 (Or.inr ⟨f45, fun n k q1 q2 q3 => h3.1 n k q1 q2 q3 (Or.inl (by omega))⟩) f45 (fun j q1 q2 q3 => ?_)
        rw [h3.2 j q2 q3, e2, sto_ne _ _ _ q1]
      · obtain ⟨a1, a2, a3, a4⟩ := h'
        refine ⟨fun a b ha ha2 hb hc => ?_, a4⟩
        by_cases e : b = 0
        · subst e
          rw [Nat.mul_zero, Nat.zero_add, a1 a ha (by omega), a3 a (by omega)]
          exact ⟨rfl, rfl⟩
        · have e1 : a = 1 := by omega
          subst e1
          rw [a2 (41 * b + 1) (by omega) (by omega), a3 (41 * b + 1) (by omega), fwF_1, fwW_1]
          exact ⟨rfl, rfl⟩
    · refine ⟨fun a q1 q2 => by omega, fun i q1 q2 => ?_, fun i q1 => ?_, fun j q1 q2 => ?_⟩
      · rw [fil_ne _ _ _ _ (by decide), e2, sto_ne _ _ _ (by decide)]; exact h2 i q1
      · rw [fil_same, if_pos (by omega)]
      · rw [fil_ne _ _ _ _ q2]
  · refine ⟨fun z => absurd (z.symm.trans h1) (by decide), fun _ => hQ σ (Or.inr ⟨h1, h2⟩) h1 (fun _ _ _ _ => rfl)⟩
theorem E_again (x1 x2 x3 : Int32) {σ τ : Sg} (hI : Inv σ τ) : wX11_again x1 x2 x3 σ (fun r σ' => wX12_again x1 x2 x3 τ (fun r' τ' => r = r' ∧ Inv σ' τ')) := by
  unfold wX11_again wX12_again wX11_again_b29 wX12_again_b29 wX11_again_b76 wX12_again_b70 wX5_at
  simp only [p_isWithin, p_within, p_refused, ite10]
  by_cases c1 : 1 ≤ x1 ∧ x1 ≤ 40
  case neg =>
    simp only [c1, not_false_eq_true, true_implies, not_true_eq_false, false_implies, and_true]
    exact ⟨by decide, hI⟩
  by_cases c2 : 0 ≤ x2 ∧ x2 ≤ 6
  case neg =>
    simp only [c1, c2, not_false_eq_true, true_implies, not_true_eq_false, false_implies, and_true, true_and]
    exact ⟨by decide, hI⟩
  by_cases c3 : 0 ≤ x3 ∧ x3 ≤ 1
  case neg =>
    simp only [c1, c2, c3, not_false_eq_true, true_implies, not_true_eq_false, false_implies, and_true, true_and]
    exact ⟨by decide, hI⟩
  simp only [c1, c2, c3, not_false_eq_true, true_implies, not_true_eq_false, false_implies, and_true, true_and]
  have c4 : 0 ≤ x1 := Int32.le_trans (by decide) c1.1
  obtain ⟨n, hn, rfl⟩ := x_le 40 (by decide) ⟨c4, c1.2⟩
  have hn1 : 1 ≤ n := (nI_leI (a := 1) (by decide) (by omega)).mp c1.1
  obtain ⟨k, hk, rfl⟩ := x_le 6 (by decide) c2
  refine p_fillR hI.2.2.2.2.2.2.2.2 (fun σ' hR h45 hfr => ?_)
  rw [ix41, ix7, nI_clamp (by omega), nI_clamp (by omega)]
  have i1 : vp_in (nI (41 * k + n)) 287 := vp_in_nI (by omega) (by decide)
  have i2 : vp_in (nI (7 * n + k)) 287 := vp_in_nI (by omega) (by decide)
  have hT : σ' 46 (41 * k + n) = fwF n k ∧ σ' 47 (41 * k + n) = fwW n k := by
    rcases hR with ⟨a, -⟩ | ⟨-, b⟩
    · rw [h45] at a; exact absurd a one_ne
    · exact b n k hn1 hn hk
  have fin : ∀ τ', LFok τ τ' (n + 1) 0 → Inv σ' τ' := fun τ' h => by
    have h1 : Inv σ' τ := Inv_red (σ := σ) (τ := τ) (fun j q => hfr j (by omega) (by omega) (by omega)) (fun _ _ _ => rfl) (fun _ _ => rfl) hR hI
    exact Inv_fr (σ := σ') (τ := τ) (fun _ _ => rfl) ⟨fun j q1 q2 => h.2 j (fun e => q2 (by unfold scrM; omega)) (fun e => q2 (by unfold scrM; omega)), fun q _ => by rw [h.2 0 (by decide) (by decide)]⟩ h1
  refine ⟨fun z => ⟨i1, p_layF hn1 hn (fun τ' h => ⟨fun _ => ⟨i2, ?_, fin τ' h⟩, fun y => absurd z y⟩)⟩, fun z => ⟨i1, p_layF hn1 hn (fun τ' h => ⟨fun y => absurd y z, fun _ => ⟨i2, ?_, fin τ' h⟩⟩)⟩⟩
  · rw [hT.1, (h.1 n k hn1 hk (by omega)).1]
  · rw [hT.2, (h.1 n k hn1 hk (by omega)).2]
