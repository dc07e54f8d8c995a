/-! ===== plain facts on the functions: loops, sums, sets ===== -/
theorem pp_loop {σ ρ : Type} (L : Nat → σ → Option ρ) (N : Nat) (P : Nat → σ → Prop) (Qf : ρ → Prop)
    (step : ∀ f k x, k < N → P k x → (∃ x', L (f + 1) x = L f x' ∧ P (k + 1) x') ∨ (∃ r, L (f + 1) x = some r ∧ Qf r))
    (fin : ∀ f x, P N x → ∃ r, L (f + 1) x = some r ∧ Qf r) :
    ∀ d k x f, k + d = N → P k x → d < f → ∃ r, L f x = some r ∧ Qf r := by
  intro d
  induction d with
  | zero =>
    intro k x f hk hp hf
    obtain ⟨f, rfl⟩ : ∃ g, f = g + 1 := ⟨f - 1, by omega⟩
    have : k = N := by omega
    subst this
    exact fin f x hp
  | succ d ih =>
    intro k x f hk hp hf
    obtain ⟨f, rfl⟩ : ∃ g, f = g + 1 := ⟨f - 1, by omega⟩
    rcases step f k x (by omega) hp with ⟨x', e, hp'⟩ | h
    · rw [e]
      exact ih (k + 1) x' f (by omega) hp' (by omega)
    · exact h
def sm (g : Nat → Int64) : Nat → Int64
  | 0 => 0
  | k + 1 => sm g k + g k
theorem sm_cong {g h : Nat → Int64} : ∀ {N : Nat}, (∀ k, k < N → g k = h k) → sm g N = sm h N
  | 0, _ => rfl
  | N + 1, e => by rw [sm, sm, sm_cong (fun k hk => e k (Nat.lt_succ_of_lt hk)), e N (Nat.lt_succ_self N)]
theorem pp_sum (L : Nat → Int64 → Int32 → Option Int64) (N : Nat) (hN : N < 1000) (g : Nat → Int64) (h1 : ∀ f acc k, k < N → L (f + 1) acc (nI k) = L f (acc + g k) (nI (k + 1))) (h2 : ∀ f acc, L (f + 1) acc (nI N) = some acc) : L FU 0 0 = some (sm g N) := by
  have key : ∀ d k f, k + d = N → d < f → L f (sm g k) (nI k) = some (sm g N) := by
    intro d
    induction d with
    | zero =>
      intro k f hk hf
      obtain ⟨f, rfl⟩ : ∃ g, f = g + 1 := ⟨f - 1, by omega⟩
      have : k = N := by omega
      subst this
      exact h2 f _
    | succ d ih =>
      intro k f hk hf
      obtain ⟨f, rfl⟩ : ∃ g, f = g + 1 := ⟨f - 1, by omega⟩
      rw [h1 f _ k (by omega)]
      exact ih (k + 1) f (by omega) (by omega)
  have h0 := key N 0 FU (by omega) hN
  exact h0
theorem lt31 {k : Nat} (h : k < 1000) : k < 2 ^ 31 := Nat.lt_trans h (by decide)
theorem inb_nI {k N : Nat} (h : k < N) (hk : k < 1000) : inb (nI k) N = true := by
  simp only [inb, Bool.and_eq_true, Bool.not_eq_true', decide_eq_false_iff_not, decide_eq_true_eq]
  exact ⟨nI_pos (lt31 hk), by rw [nI_clamp (lt31 hk)]; exact h⟩
theorem cl_nI {k : Nat} (hk : k < 1000) : Int32.toNatClampNeg (nI k) = k := nI_clamp (lt31 hk)
theorem pw_le {n : Nat} (hn : n ≤ 6) : 2 ^ n ≤ 64 := Nat.pow_le_pow_right (by decide) hn
theorem pw_pos {n : Nat} : 0 < 2 ^ n := Nat.two_pow_pos n
theorem nI_and (a b : Nat) : nI a &&& nI b = nI (a &&& b) := by
  apply Int32.toBitVec_inj.mp
  simp [nI]
theorem nI_or (a b : Nat) : nI a ||| nI b = nI (a ||| b) := by
  apply Int32.toBitVec_inj.mp
  simp [nI]
theorem nI_xor (a b : Nat) : nI a ^^^ nI b = nI (a ^^^ b) := by
  apply Int32.toBitVec_inj.mp
  simp [nI]
theorem and_lt64 {a b : Nat} (h : a < 64) : a &&& b < 64 := Nat.lt_of_le_of_lt Nat.and_le_left h
theorem and_ltN {a b N : Nat} (h : a < N) : a &&& b < N := Nat.lt_of_le_of_lt Nat.and_le_left h
def fitb (s a b : Nat) : Bool := decide (s &&& a = a) && decide (s &&& b = 0)
theorem fits_eq {s a b : Nat} (hs : s < 1000) (ha : a < 1000) : fX4_fits (nI s) (nI a) (nI b) = some (fitb s a b) := by
  have h1 : (nI (s &&& a) = nI a) ↔ s &&& a = a := nI_eq (lt31 (and_ltN hs)) (lt31 ha)
  have h2 : (nI (s &&& b) = 0) ↔ s &&& b = 0 := nI_eq (a := s &&& b) (b := 0) (lt31 (and_ltN hs)) (by decide)
  unfold fX4_fits fitb
  rw [nI_and, nI_and]
  by_cases c1 : s &&& a = a
  · rw [if_pos (h1.mpr c1)]
    by_cases c2 : s &&& b = 0
    · rw [if_pos (h2.mpr c2)]; simp [c1, c2]
    · rw [if_neg (fun q => c2 (h2.mp q))]; simp [c1, c2]
  · rw [if_neg (fun q => c1 (h1.mp q))]; simp [c1]
def pop (s : Nat) : Nat := s % 2 + s / 2 % 2 + s / 4 % 2 + s / 8 % 2 + s / 16 % 2 + s / 32 % 2
theorem bitCount_eq : ∀ s, s < 64 → fJ6_bitCount_0f7a4 (nI s) = some (nI (pop s)) := by decide +kernel
theorem sizeOf_eq : ∀ s, s < 64 → fX5_sizeOf (nI s) = some (nI (pop s)) := by decide +kernel
theorem has_eq : ∀ s, s < 64 → ∀ i, i < 6 → fX4_has (nI s) (nI i) = some (s.testBit i) := by decide +kernel
theorem bit_eq : ∀ s, s < 64 → ∀ i, i < 6 → (((nI s >>> (nI i &&& 31)) &&& (1 : Int32)) = 0 ↔ s.testBit i = false) := by decide +kernel
theorem bit_one : ∀ s, s < 64 → ∀ i, i < 6 → (((nI s >>> (nI i &&& 31)) &&& (1 : Int32)) = 1 ↔ s.testBit i = true) := by decide +kernel
theorem shl_eq : ∀ i, i < 7 → ((1 : Int32) <<< (nI i &&& 31)) = nI (2 ^ i) := by decide +kernel
theorem pop_le : ∀ s, s < 64 → pop s ≤ 6 := by decide +kernel
theorem sumFit_eq {n lw a b : Nat} {S : St} (hn : n ≤ 6) (ha : a < 64) (hb : b < 64) : fX0_sumFitting n lw (nI a) (nI b) S = some (sm (fun s => bif fitb s a b then S.2 (31 + lw) s else 0) (2 ^ n)) := by
  have hN := pw_le hn
  unfold fX0_sumFitting
  rw [pp_sum (lX0_sumFitting_1 n lw (nI a) (nI b) S) (2 ^ n) (by omega) (fun s => bif fitb s a b then S.2 (31 + lw) s else 0)]
  · rfl
  · intro f acc k hk
    show bX0_sumFitting_1 n lw (nI a) (nI b) S (lX0_sumFitting_1 n lw (nI a) (nI b) S f) acc (nI k) = _
    unfold bX0_sumFitting_1
    rw [if_neg (nI_ge hk (by omega)), fits_eq (by omega) (by omega), inb_nI hk (by omega), cl_nI (by omega)]
    show (bif fitb k a b then _ else _) = _
    cases fitb k a b with
    | true => exact congrArg _ (nI_1 k)
    | false => show lX0_sumFitting_1 n lw (nI a) (nI b) S f acc (nI k + 1) = lX0_sumFitting_1 n lw (nI a) (nI b) S f (acc + 0) (nI (k + 1)); rw [nI_1, Int64.add_zero]
  · intro f acc
    show bX0_sumFitting_1 n lw (nI a) (nI b) S (lX0_sumFitting_1 n lw (nI a) (nI b) S f) acc (nI (2 ^ n)) = _
    unfold bX0_sumFitting_1
    rw [if_pos (nI_le (Nat.le_refl _) (by omega))]
