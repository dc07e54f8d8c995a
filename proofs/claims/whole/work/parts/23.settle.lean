/-! ===== a law is made: settle and become, makes ===== -/
theorem pp_fill (L : Nat → Int32 → St → Option (Unit × St)) (N k0 : Nat) (hN : N < 1000) (hk0 : k0 ≤ N) (P : Nat → St → Prop) (h1 : ∀ f k S, k < N → P k S → ∃ S', L (f + 1) (nI k) S = L f (nI (k + 1)) S' ∧ P (k + 1) S') (h2 : ∀ f S, L (f + 1) (nI N) S = some ((), S)) (S0 : St) (h0 : P k0 S0) : ∃ S', L FU (nI k0) S0 = some ((), S') ∧ P N S' := by
  have key : ∀ d k f S, k + d = N → d < f → P k S → ∃ S', L f (nI k) S = some ((), S') ∧ P N S' := by
    intro d
    induction d with
    | zero =>
      intro k f S hk hf hp
      obtain ⟨f, rfl⟩ : ∃ g, f = g + 1 := ⟨f - 1, by omega⟩
      have : k = N := by omega
      subst this
      exact ⟨S, h2 f S, hp⟩
    | succ d ih =>
      intro k f S hk hf hp
      obtain ⟨f, rfl⟩ : ∃ g, f = g + 1 := ⟨f - 1, by omega⟩
      obtain ⟨S', e, hp'⟩ := h1 f k S (by omega) hp
      rw [e]
      exact ih (k + 1) f S' (by omega) (by omega) hp'
  exact key (N - k0) k0 FU S0 (by omega) (by show N - k0 < 1000; omega) h0
theorem pp_fillx {ρ : Type} (L : Nat → Int32 → St → Option ((Unit ⊕ ρ) × St)) (N : Nat) (hN : N < 1000) (P : Nat → St → Prop) (X : ρ → St → Prop) (h1 : ∀ f k S, k < N → P k S → (∃ S', L (f + 1) (nI k) S = L f (nI (k + 1)) S' ∧ P (k + 1) S') ∨ (∃ r S', L (f + 1) (nI k) S = some (.inr r, S') ∧ X r S')) (h2 : ∀ f S, L (f + 1) (nI N) S = some (.inl (), S)) (S0 : St) (h0 : P 0 S0) : (∃ S', L FU 0 S0 = some (.inl (), S') ∧ P N S') ∨ (∃ r S', L FU 0 S0 = some (.inr r, S') ∧ X r S') := by
  have key : ∀ d k f S, k + d = N → d < f → P k S → (∃ S', L f (nI k) S = some (.inl (), S') ∧ P N S') ∨ (∃ r S', L f (nI k) S = some (.inr r, S') ∧ X r S') := by
    intro d
    induction d with
    | zero =>
      intro k f S hk hf hp
      obtain ⟨f, rfl⟩ : ∃ g, f = g + 1 := ⟨f - 1, by omega⟩
      have : k = N := by omega
      subst this
      exact Or.inl ⟨S, h2 f S, hp⟩
    | succ d ih =>
      intro k f S hk hf hp
      obtain ⟨f, rfl⟩ : ∃ g, f = g + 1 := ⟨f - 1, by omega⟩
      rcases h1 f k S (by omega) hp with ⟨S', e, hp'⟩ | ⟨r, S', e, hx⟩
      · rw [e]
        exact ih (k + 1) f S' (by omega) (by omega) hp'
      · exact Or.inr ⟨r, S', e, hx⟩
  exact key N 0 FU S0 (by omega) hN h0
theorem become_eq {n m : Nat} {S : St} (hn : n ≤ 6) : ∃ S1, fX0_become n m S = some ((), S1) ∧ (∀ q, q ≠ 31 + m → q ≠ 25 + m → S1.2 q = S.2 q) ∧ (∀ q, q ≠ 25 + m → S1.1 q = S.1 q) ∧ (31 + m ≠ 5 → 25 + m ≠ 5 → (∀ s, s < 2 ^ n → S1.2 (31 + m) s = S.2 5 s) ∧ S1.2 (25 + m) 0 = sm (S.2 5) (2 ^ n)) ∧ S1.1 (25 + m) 0 = 1 := by
  have hN := pw_le hn
  obtain ⟨S', e, p1, p2, p3⟩ := pp_fill (lX0_become_1 n m) (2 ^ n) 0 (by omega) (Nat.zero_le _) (fun k X => (∀ q, q ≠ 31 + m → q ≠ 25 + m → X.2 q = S.2 q) ∧ X.1 = S.1 ∧ (31 + m ≠ 5 → 25 + m ≠ 5 → (∀ s, s < k → X.2 (31 + m) s = S.2 5 s) ∧ X.2 (25 + m) 0 = sm (S.2 5) k))
    (by
      intro f k X hk ⟨p1, p2, p3⟩
      refine ⟨sJ (sJ X (31 + m) k (X.2 5 k)) (25 + m) 0 ((sJ X (31 + m) k (X.2 5 k)).2 (25 + m) 0 + (sJ X (31 + m) k (X.2 5 k)).2 5 k), ?_, ?_, ?_, ?_⟩
      · show bX0_become_1 n m (lX0_become_1 n m f) (nI k) X = _
        unfold bX0_become_1
        rw [if_neg (nI_ge hk (by omega)), inb_nI hk (by omega), cl_nI (by omega), nI_1]
        first | rfl | (rw [if_neg (nI_ge hk (by omega))]; rfl)
      · intro q h1 h2
        rw [sJ_r h2, sJ_r h1]
        exact p1 q h1 h2
      · exact p2
      · intro g1 g2
        obtain ⟨a, b⟩ := p3 g1 g2
        have e5 : X.2 5 = S.2 5 := p1 5 (by omega) (by omega)
        refine ⟨fun s hs => ?_, ?_⟩
        · rw [sJ_r (by omega)]
          by_cases c : s = k
          · subst c
            rw [sJ_at, e5]
          · rw [sJ_k c]
            exact a s (by omega)
        · rw [sJ_at, sJ_r (by omega), sJ_r (by omega), e5, b]
          rfl)
    (by
      intro f X
      show bX0_become_1 n m (lX0_become_1 n m f) (nI (2 ^ n)) X = _
      unfold bX0_become_1
      rw [if_pos (nI_le (Nat.le_refl _) (by omega))])
    (sJ S (25 + m) 0 (0 : Int64)) ⟨fun q h1 h2 => by rw [sJ_r h2], rfl, fun _ _ => ⟨fun s hs => absurd hs (Nat.not_lt_zero s), by rw [sJ_at]; rfl⟩⟩
  refine ⟨sI S' (25 + m) 0 1, ?_, ?_, ?_, ?_, ?_⟩
  · unfold fX0_become
    rw [show (0 : Int32) = nI 0 from rfl, e]
    rfl
  · exact p1
  · intro q hq
    rw [sI_r hq, p2]
  · exact p3
  · exact sI_at
def gf (d : Nat → Nat) : Nat → Nat
  | 0 => 0
  | k + 1 => Nat.gcd (d k) (gf d k)
theorem gf_lt {d : Nat → Nat} : ∀ {N : Nat}, (∀ s, s < N → d s < 2 ^ 63) → gf d N < 2 ^ 63
  | 0, _ => (show 0 < 2 ^ 63 by decide)
  | N + 1, h => by
    have ih := gf_lt (d := d) (N := N) (fun s hs => h s (by omega))
    have hd := h N (by omega)
    rw [gf]
    rcases Nat.eq_zero_or_pos (gf d N) with q | q
    · rw [q, Nat.gcd_zero_right]; exact hd
    · exact Nat.lt_of_le_of_lt (Nat.gcd_le_right _ q) ih
def okd (d : Nat → Nat) (N : Nat) : Bool := decide (gf d N ≠ 0) && allb (fun s => decide (d s / gf d N ≤ 4000000)) N
theorem settle1 {n : Nat} {S : St} {w : Int32} {d : Nat → Nat} (hn : n ≤ 6) (hd : ∀ s, s < 2 ^ n → S.2 5 s = lN (d s) ∧ d s < 2 ^ 63) : lX4_settle_1 n w S FU (0 : Int64) (0 : Int32) = some (lN (gf d (2 ^ n))) := by
  have hN := pw_le hn
  have key : ∀ e k f, k + e = 2 ^ n → e < f → lX4_settle_1 n w S f (lN (gf d k)) (nI k) = some (lN (gf d (2 ^ n))) := by
    intro e
    induction e with
    | zero =>
      intro k f hk hf
      obtain ⟨f, rfl⟩ : ∃ g, f = g + 1 := ⟨f - 1, by omega⟩
      have : k = 2 ^ n := by omega
      subst this
      show bX4_settle_1 n w S (lX4_settle_1 n w S f) _ (nI (2 ^ n)) = _
      unfold bX4_settle_1
      rw [if_pos (nI_le (Nat.le_refl _) (by omega))]
    | succ e ih =>
      intro k f hk hf
      obtain ⟨f, rfl⟩ : ∃ g, f = g + 1 := ⟨f - 1, by omega⟩
      show bX4_settle_1 n w S (lX4_settle_1 n w S f) _ (nI k) = _
      unfold bX4_settle_1
      obtain ⟨a, b⟩ := hd k (by omega)
      rw [if_neg (nI_ge (show k < 2 ^ n by omega) (by omega)), inb_nI (show k < 2 ^ n by omega) (by omega), cl_nI (by omega), a, cd_eq b (gf_lt (fun s hs => (hd s (by omega)).2)), nI_1]
      exact ih (k + 1) f (by omega) (by omega)
  exact key (2 ^ n) 0 FU (by omega) (by show 2 ^ n < 1000; omega)
theorem makes1 {n : Nat} {S : St} {w : Int32} {d : Nat → Nat} (hn : n ≤ 6) (hd : ∀ s, s < 2 ^ n → S.2 41 s = lN (d s) ∧ d s < 2 ^ 63) : lX5_makes_1 n w S FU (0 : Int64) (0 : Int32) = some (lN (gf d (2 ^ n))) := by
  have hN := pw_le hn
  have key : ∀ e k f, k + e = 2 ^ n → e < f → lX5_makes_1 n w S f (lN (gf d k)) (nI k) = some (lN (gf d (2 ^ n))) := by
    intro e
    induction e with
    | zero =>
      intro k f hk hf
      obtain ⟨f, rfl⟩ : ∃ g, f = g + 1 := ⟨f - 1, by omega⟩
      have : k = 2 ^ n := by omega
      subst this
      show bX5_makes_1 n w S (lX5_makes_1 n w S f) _ (nI (2 ^ n)) = _
      unfold bX5_makes_1
      rw [if_pos (nI_le (Nat.le_refl _) (by omega))]
    | succ e ih =>
      intro k f hk hf
      obtain ⟨f, rfl⟩ : ∃ g, f = g + 1 := ⟨f - 1, by omega⟩
      show bX5_makes_1 n w S (lX5_makes_1 n w S f) _ (nI k) = _
      unfold bX5_makes_1
      obtain ⟨a, b⟩ := hd k (by omega)
      rw [if_neg (nI_ge (show k < 2 ^ n by omega) (by omega)), inb_nI (show k < 64 by omega) (by omega), cl_nI (by omega), a, cmn_eq b (gf_lt (fun s hs => (hd s (by omega)).2)), nI_1]
      exact ih (k + 1) f (by omega) (by omega)
  exact key (2 ^ n) 0 FU (by omega) (by show 2 ^ n < 1000; omega)
theorem le4m {x : Nat} (h : x < 2 ^ 63) : lg_cmp (lN x) (4000000 : Int64) ≤ 0 ↔ x ≤ 4000000 := (lg_cmp_le _ _).trans (pk_lLE (a := x) (b := 4000000) h (by decide))
/-- what settle does -/
theorem settle_eq {n m : Nat} {S : St} {d : Nat → Nat} (hn : n ≤ 6) (hm : m < 6) (hd : ∀ s, s < 2 ^ n → S.2 5 s = lN (d s) ∧ d s < 2 ^ 63) : ∃ S1, fX4_settle n (nI m) S = some (okd d (2 ^ n), S1) ∧ (∀ q, q ≠ 5 → q ≠ 31 + m → q ≠ 25 + m → S1.2 q = S.2 q) ∧ (∀ q, q ≠ 25 + m → S1.1 q = S.1 q) ∧ (okd d (2 ^ n) = true → (∀ s, s < 2 ^ n → S1.2 (31 + m) s = lN (d s / gf d (2 ^ n))) ∧ S1.2 (25 + m) 0 = sm (S1.2 (31 + m)) (2 ^ n) ∧ S1.1 (25 + m) 0 = 1) ∧ (okd d (2 ^ n) = false → S1.2 (31 + m) = S.2 (31 + m) ∧ S1.2 (25 + m) = S.2 (25 + m) ∧ S1.1 (25 + m) = S.1 (25 + m)) := by
  have hN := pw_le hn
  have hG := gf_lt (d := d) (N := 2 ^ n) (fun s hs => (hd s hs).2)
  unfold fX4_settle
  rw [settle1 hn hd]
  by_cases c : gf d (2 ^ n) = 0
  · have ho : okd d (2 ^ n) = false := by simp [okd, c]
    rw [ho]
    have hlt : ¬ (0 ≤ lg_cmp (lN (gf d (2 ^ n))) (1 : Int64)) := fun z => by
      have := (lg_cmp_ge _ _).mp z
      have := (pk_lLE (a := 1) (b := gf d (2 ^ n)) (by decide) hG).mp this
      omega
    refine ⟨S, ?_, fun _ _ _ _ => rfl, fun _ _ => rfl, fun q => (by cases q), fun _ => ⟨rfl, rfl, rfl⟩⟩
    show (if 0 ≤ lg_cmp (lN (gf d (2 ^ n))) (1 : Int64) then _ else _) = _
    rw [if_neg hlt]
  · have hge : (0 ≤ lg_cmp (lN (gf d (2 ^ n))) (1 : Int64)) := (lg_cmp_ge _ _).mpr ((pk_lLE (a := 1) (b := gf d (2 ^ n)) (by decide) hG).mpr (by omega))
    generalize hGe : gf d (2 ^ n) = G at c hge hG
    have hok : okd d (2 ^ n) = allb (fun s => decide (d s / G ≤ 4000000)) (2 ^ n) := by simp [okd, hGe, c]
    have loop := pp_fillx (lX4_settle_2 n (nI m) (lN G)) (2 ^ n) (by omega) (fun k X => (∀ q, q ≠ 5 → X.2 q = S.2 q) ∧ X.1 = S.1 ∧ (∀ s, s < k → X.2 5 s = lN (d s / G) ∧ d s / G ≤ 4000000) ∧ (∀ s, k ≤ s → X.2 5 s = S.2 5 s)) (fun r X => r = false ∧ (∀ q, q ≠ 5 → X.2 q = S.2 q) ∧ X.1 = S.1 ∧ ∃ s, s < 2 ^ n ∧ ¬ d s / G ≤ 4000000)
      (by
        intro f k X hk ⟨p1, p2, p3, p4⟩
        obtain ⟨a, b⟩ := hd k hk
        have hq : d k / G < 2 ^ 63 := Nat.lt_of_le_of_lt (Nat.div_le_self _ _) b
        have step : lX4_settle_2 n (nI m) (lN G) (f + 1) (nI k) X = if lg_cmp (lN (d k / G)) (4000000 : Int64) ≤ 0 then lX4_settle_2 n (nI m) (lN G) f (nI (k + 1)) (sJ X 5 k (lN (d k / G))) else some (.inr false, sJ X 5 k (lN (d k / G))) := by
          show bX4_settle_2 n (nI m) (lN G) (lX4_settle_2 n (nI m) (lN G) f) (nI k) X = _
          unfold bX4_settle_2
          rw [if_neg (nI_ge hk (by omega)), inb_nI hk (by omega), cl_nI (by omega), lN_nz hG c, p4 k (Nat.le_refl _), a, pk_lDiv b (by omega) hG, nI_1, sJ_at]
          rfl
        have keep : (∀ q, q ≠ 5 → (sJ X 5 k (lN (d k / G))).2 q = S.2 q) := fun q hq => by rw [sJ_r hq]; exact p1 q hq
        by_cases c2 : d k / G ≤ 4000000
        · refine Or.inl ⟨sJ X 5 k (lN (d k / G)), ?_, keep, p2, ?_, ?_⟩
          · rw [step, if_pos ((le4m hq).mpr c2)]
          · intro s hs
            by_cases c3 : s = k
            · subst c3
              rw [sJ_at]
              exact ⟨rfl, c2⟩
            · rw [sJ_k c3]
              exact p3 s (by omega)
          · intro s hs
            rw [sJ_k (show s ≠ k by omega)]
            exact p4 s (by omega)
        · refine Or.inr ⟨false, sJ X 5 k (lN (d k / G)), ?_, rfl, keep, p2, k, hk, c2⟩
          rw [step, if_neg (fun z => c2 ((le4m hq).mp z))])
      (by
        intro f X
        show bX4_settle_2 n (nI m) (lN G) (lX4_settle_2 n (nI m) (lN G) f) (nI (2 ^ n)) X = _
        unfold bX4_settle_2
        rw [if_pos (nI_le (Nat.le_refl _) (by omega))])
      S ⟨fun _ _ => rfl, rfl, fun s hs => absurd hs (Nat.not_lt_zero s), fun _ _ => rfl⟩
    rcases loop with ⟨X, e, p1, p2, p3, p4⟩ | ⟨r, X, e, hr, p1, p2, s0, hs0, hbad⟩
    · have ho : okd d (2 ^ n) = true := by
        rw [hok]
        exact allb_iff.mpr (fun k hk => decide_eq_true (p3 k hk).2)
      obtain ⟨S1, b1, b2, b3, b4, b5⟩ := become_eq (m := m) (S := X) hn
      obtain ⟨b6, b7⟩ := b4 (by omega) (by omega)
      rw [ho]
      refine ⟨S1, ?_, ?_, ?_, fun _ => ⟨?_, ?_, b5⟩, fun q => (by cases q)⟩
      · show (if 0 ≤ lg_cmp (lN G) (1 : Int64) then bsw (lX4_settle_2 n (nI m) (lN G) FU (0 : Int32) S) (fun q8 S10 => gd (inb (nI m) 6) (bw (fX0_become n (Int32.toNatClampNeg (nI m)) S10) (fun r11 S13 => some (true, S13)))) (fun r9 S9 => some (r9, S9)) else _) = _
        rw [if_pos hge, e]
        show gd (inb (nI m) 6) (bw (fX0_become n (Int32.toNatClampNeg (nI m)) X) (fun r11 S13 => some (true, S13))) = _
        rw [inb_nI hm (by omega), cl_nI (by omega), b1]
        rfl
      · intro q h1 h2 h3
        rw [b2 q h2 h3]
        exact p1 q h1
      · intro q hq
        rw [b3 q hq, p2]
      · intro s hs
        rw [b6 s hs]
        exact (p3 s hs).1
      · rw [b7]
        exact sm_cong (fun k hk => (b6 k hk).symm)
    · have ho : okd d (2 ^ n) = false := by
        rw [hok]
        exact allb_no (decide_eq_false hbad) hs0
      subst hr
      rw [ho]
      refine ⟨X, ?_, fun q h1 _ _ => p1 q h1, fun q _ => by rw [p2], fun q => (by cases q), fun _ => ⟨p1 _ (by omega), p1 _ (by omega), by rw [p2]⟩⟩
      show (if 0 ≤ lg_cmp (lN G) (1 : Int64) then bsw (lX4_settle_2 n (nI m) (lN G) FU (0 : Int32) S) (fun q8 S10 => gd (inb (nI m) 6) (bw (fX0_become n (Int32.toNatClampNeg (nI m)) S10) (fun r11 S13 => some (true, S13)))) (fun r9 S9 => some (r9, S9)) else _) = _
      rw [if_pos hge, e]
      rfl
/-- what makes does -/
theorem makes_eq {n m : Nat} {S : St} {d : Nat → Nat} (hn : n ≤ 6) (hm : m < 6) (hd : ∀ s, s < 2 ^ n → S.2 41 s = lN (d s) ∧ d s < 2 ^ 63) : ∃ S2, fX5_makes n (nI m) S = some (okd d (2 ^ n), S2) ∧ (∀ q, q ≠ 40 → S2.2 q = S.2 q) ∧ (∀ q, q ≠ 43 → S2.1 q = S.1 q) ∧ (okd d (2 ^ n) = true → (∀ s, s < 2 ^ n → S2.2 40 (64 * m + s) = lN (d s / gf d (2 ^ n))) ∧ (∀ j, (j < 64 * m ∨ 64 * m + 64 ≤ j) → S2.2 40 j = S.2 40 j) ∧ S2.1 43 m = 1 ∧ (∀ j, j ≠ m → S2.1 43 j = S.1 43 j)) ∧ (okd d (2 ^ n) = false → S2 = S) := by
  have hN := pw_le hn
  have hG := gf_lt (d := d) (N := 2 ^ n) (fun s hs => (hd s hs).2)
  unfold fX5_makes
  rw [makes1 hn hd]
  by_cases c : gf d (2 ^ n) = 0
  · have ho : okd d (2 ^ n) = false := by simp [okd, c]
    rw [ho]
    refine ⟨S, ?_, fun _ _ => rfl, fun _ _ => rfl, fun q => (by cases q), fun _ => rfl⟩
    show (if lg_cmp (lN (gf d (2 ^ n))) (0 : Int64) = 0 then _ else _) = _
    rw [if_pos ((lN_z hG).mpr c)]
  · generalize hGe : gf d (2 ^ n) = G at c hG
    have hok : okd d (2 ^ n) = allb (fun s => decide (d s / G ≤ 4000000)) (2 ^ n) := by simp [okd, hGe, c]
    have hc : ¬ lg_cmp (lN G) (0 : Int64) = 0 := fun z => c ((lN_z hG).mp z)
    have l2 : lX5_makes_2 n (nI m) (lN G) S FU (0 : Int32) = some (bif allb (fun s => decide (d s / G ≤ 4000000)) (2 ^ n) then .inl () else .inr false) := by
      refine all_core (lX5_makes_2 n (nI m) (lN G) S) (2 ^ n) 0 (by omega) (Nat.zero_le _) (fun s => decide (d s / G ≤ 4000000)) false rfl ?_ ?_
      · intro f k hk
        obtain ⟨a, b⟩ := hd k hk
        have hq : d k / G < 2 ^ 63 := Nat.lt_of_le_of_lt (Nat.div_le_self _ _) b
        show bX5_makes_2 n (nI m) (lN G) S (lX5_makes_2 n (nI m) (lN G) S f) (nI k) = _
        unfold bX5_makes_2
        rw [if_neg (nI_ge hk (by omega)), inb_nI (show k < 64 by omega) (by omega), cl_nI (by omega), lN_nz hG c, a, pk_lDiv b (by omega) hG, nI_1]
        show (if lg_cmp (lN (d k / G)) (4000000 : Int64) ≤ 0 then _ else _) = _
        by_cases c2 : d k / G ≤ 4000000
        · rw [if_pos ((le4m hq).mpr c2), decide_eq_true c2]; rfl
        · rw [if_neg (fun z => c2 ((le4m hq).mp z)), decide_eq_false c2]; rfl
      · intro f
        show bX5_makes_2 n (nI m) (lN G) S (lX5_makes_2 n (nI m) (lN G) S f) (nI (2 ^ n)) = _
        unfold bX5_makes_2
        rw [if_pos (nI_le (Nat.le_refl _) (by omega))]
    rw [hok]
    cases ho : allb (fun s => decide (d s / G ≤ 4000000)) (2 ^ n) with
    | false =>
      rw [ho] at l2
      refine ⟨S, ?_, fun _ _ => rfl, fun _ _ => rfl, fun q => (by cases q), fun _ => rfl⟩
      show (if lg_cmp (lN G) (0 : Int64) = 0 then _ else bs (lX5_makes_2 n (nI m) (lN G) S FU (0 : Int32)) _ _) = _
      rw [if_neg hc, l2]
      rfl
    | true =>
      rw [ho] at l2
      obtain ⟨X, e, p1, p2, p3, p4⟩ := pp_fill (lX5_makes_3 n (nI m) (lN G)) (2 ^ n) 0 (by omega) (Nat.zero_le _) (fun k X => (∀ q, q ≠ 40 → X.2 q = S.2 q) ∧ X.1 = S.1 ∧ (∀ s, s < k → X.2 40 (64 * m + s) = lN (d s / G)) ∧ (∀ j, (j < 64 * m ∨ 64 * m + 64 ≤ j) → X.2 40 j = S.2 40 j))
        (by
          intro f k X hk ⟨p1, p2, p3, p4⟩
          obtain ⟨a, b⟩ := hd k hk
          refine ⟨sJ X 40 (64 * m + k) (lN (d k / G)), ?_, ?_, p2, ?_, ?_⟩
          · show bX5_makes_3 n (nI m) (lN G) (lX5_makes_3 n (nI m) (lN G) f) (nI k) X = _
            unfold bX5_makes_3
            rw [if_neg (nI_ge hk (by omega)), inb_nI (show k < 64 by omega) (by omega), cl_nI (by omega), lN_nz hG c, ix64, (law_ix hm hk hN).1, (law_ix hm hk hN).2, p1 41 (by decide), a, pk_lDiv b (by omega) hG, nI_1]
            rfl
          · intro q hq
            rw [sJ_r hq]
            exact p1 q hq
          · intro s hs
            by_cases c3 : s = k
            · subst c3
              rw [sJ_at]
            · rw [sJ_k (show 64 * m + s ≠ 64 * m + k by omega)]
              exact p3 s (by omega)
          · intro j hj
            rw [sJ_k (show j ≠ 64 * m + k by omega)]
            exact p4 j hj)
        (by
          intro f X
          show bX5_makes_3 n (nI m) (lN G) (lX5_makes_3 n (nI m) (lN G) f) (nI (2 ^ n)) X = _
          unfold bX5_makes_3
          rw [if_pos (nI_le (Nat.le_refl _) (by omega))])
        S ⟨fun _ _ => rfl, rfl, fun s hs => absurd hs (Nat.not_lt_zero s), fun _ _ => rfl⟩
      refine ⟨sI X 43 m 1, ?_, p1, ?_, fun _ => ⟨p3, p4, sI_at, ?_⟩, fun q => (by cases q)⟩
      · show (if lg_cmp (lN G) (0 : Int64) = 0 then _ else bs (lX5_makes_2 n (nI m) (lN G) S FU (0 : Int32)) (fun q8 => bw (lX5_makes_3 n (nI m) (lN G) FU (0 : Int32) S) (fun q11 S13 => gd (inb (nI m) 6) (some (true, (sI S13 43 (Int32.toNatClampNeg (nI m)) (1 : Int32)))))) _) = _
        rw [if_neg hc, l2]
        simp only [cond_true, bs]
        rw [show (0 : Int32) = nI 0 from rfl, e]
        simp only [bw, gd, inb_nI hm (show m < 1000 by omega), cl_nI (show m < 1000 by omega), cond_true]
      · intro q hq
        rw [sI_r hq, p2]
      · intro j hj
        rw [sI_k hj, p2]
/-! frames: the scratch of the class, that of the reference -/
def fr4 (S S' : St) : Prop := (∀ q, q ≠ 5 → q ≠ 10 → q ≠ 11 → S'.2 q = S.2 q) ∧ (∀ q, q ≠ 6 → S'.1 q = S.1 q)
def fr5 (S S' : St) : Prop := (∀ q, q ≠ 39 → q ≠ 41 → S'.2 q = S.2 q) ∧ (∀ q, q ≠ 38 → q ≠ 47 → S'.1 q = S.1 q)
theorem fr4.rf {S : St} : fr4 S S := ⟨fun _ _ _ _ => rfl, fun _ _ => rfl⟩
theorem fr5.rf {S : St} : fr5 S S := ⟨fun _ _ _ => rfl, fun _ _ _ => rfl⟩
theorem fr4.tr {S T U : St} (h : fr4 S T) (k : fr4 T U) : fr4 S U := ⟨fun q a b c => (k.1 q a b c).trans (h.1 q a b c), fun q a => (k.2 q a).trans (h.2 q a)⟩
theorem fr5.tr {S T U : St} (h : fr5 S T) (k : fr5 T U) : fr5 S U := ⟨fun q a b => (k.1 q a b).trans (h.1 q a b), fun q a b => (k.2 q a b).trans (h.2 q a b)⟩
theorem Rel.fr4 {n : Nat} {S S' : St} (h : Rel n S) (f : fr4 S S') : Rel n S' := by
  obtain ⟨h2, h6, hT, hE, hH, hL⟩ := h
  refine ⟨h2, h6, hT.cong (fun t ht => f.2 _ (by omega)) (f.2 _ (by omega)), hE.cong ⟨f.2 _ (by omega), f.2 _ (by omega), f.2 _ (by omega), f.2 _ (by omega), f.2 _ (by omega), f.2 _ (by omega)⟩, hH.cong (f.1 _ (by omega) (by omega) (by omega)) (f.1 _ (by omega) (by omega) (by omega)), hL.cong (fun l hl => ⟨f.1 _ (by omega) (by omega) (by omega), f.1 _ (by omega) (by omega) (by omega), f.2 _ (by omega)⟩) (f.1 _ (by omega) (by omega) (by omega)) (f.2 _ (by omega))⟩
theorem Rel.fr5 {n : Nat} {S S' : St} (h : Rel n S) (f : fr5 S S') : Rel n S' := by
  obtain ⟨h2, h6, hT, hE, hH, hL⟩ := h
  refine ⟨h2, h6, hT.cong (fun t ht => f.2 _ (by omega) (by omega)) (f.2 _ (by omega) (by omega)), hE.cong ⟨f.2 _ (by omega) (by omega), f.2 _ (by omega) (by omega), f.2 _ (by omega) (by omega), f.2 _ (by omega) (by omega), f.2 _ (by omega) (by omega), f.2 _ (by omega) (by omega)⟩, hH.cong (f.1 _ (by omega) (by omega)) (f.1 _ (by omega) (by omega)), hL.cong (fun l hl => ⟨f.1 _ (by omega) (by omega), f.1 _ (by omega) (by omega), f.2 _ (by omega) (by omega)⟩) (f.1 _ (by omega) (by omega)) (f.2 _ (by omega) (by omega))⟩
/-- a place becomes a law on both sides -/
theorem commit_rel {n m : Nat} {S : St} {d : Nat → Nat} (h : Rel n S) (hm : m < 6) (hd : ∀ s, s < 2 ^ n → S.2 5 s = lN (d s) ∧ d s < 2 ^ 63) : ∃ r S1, fX4_settle n (nI m) S = some (r, S1) ∧ (∀ q, 37 ≤ q → S1.2 q = S.2 q ∧ S1.1 q = S.1 q) ∧ ∀ Sb, fr5 S1 Sb → (∀ s, s < 2 ^ n → Sb.2 41 s = lN (d s)) → ∃ S2, fX5_makes n (nI m) Sb = some (r, S2) ∧ Rel n S2 := by
  obtain ⟨h2, h6, hT, hE, hH, hL⟩ := h
  have hN := pw_le h6
  obtain ⟨S1, e, a1, a2, a3, a4⟩ := settle_eq h6 hm hd
  refine ⟨_, S1, e, fun q hq => ⟨a1 q (by omega) (by omega) (by omega), a2 q (by omega)⟩, fun Sb hb hf => ?_⟩
  obtain ⟨S2, e2, b1, b2, b3, b4⟩ := makes_eq (S := Sb) (d := d) h6 hm (fun s hs => ⟨hf s hs, (hd s hs).2⟩)
  refine ⟨S2, e2, h2, h6, ?_, ?_, ?_, ?_⟩
  · refine hT.cong (fun t ht => ?_) ?_
    · rw [b2 _ (by omega), hb.2 _ (by omega) (by omega), a2 _ (by omega)]
    · rw [b2 _ (by omega), hb.2 _ (by omega) (by omega), a2 _ (by omega)]
  · refine hE.cong ⟨?_, ?_, ?_, ?_, ?_, ?_⟩ <;> rw [b2 _ (by omega), hb.2 _ (by omega) (by omega), a2 _ (by omega)]
  · refine hH.cong ?_ ?_ <;> rw [b1 _ (by omega), hb.1 _ (by omega) (by omega), a1 _ (by omega) (by omega) (by omega)]
  · intro l hl
    obtain ⟨g1, g2⟩ := hL l hl
    cases ho : okd d (2 ^ n) with
    | false =>
      obtain ⟨x1, x2, x3⟩ := a4 ho
      have e3 := b4 ho
      subst e3
      have y1 : S2.1 (25 + l) = S.1 (25 + l) := by
        rw [hb.2 _ (by omega) (by omega)]
        by_cases c : l = m
        · subst c; exact x3
        · exact a2 _ (by omega)
      have y2 : S2.1 43 = S.1 43 := by rw [hb.2 _ (by omega) (by omega), a2 _ (by omega)]
      have y3 : S2.2 (31 + l) = S.2 (31 + l) := by
        rw [hb.1 _ (by omega) (by omega)]
        by_cases c : l = m
        · subst c; exact x1
        · exact a1 _ (by omega) (by omega) (by omega)
      have y4 : S2.2 (25 + l) = S.2 (25 + l) := by
        rw [hb.1 _ (by omega) (by omega)]
        by_cases c : l = m
        · subst c; exact x2
        · exact a1 _ (by omega) (by omega) (by omega)
      have y5 : S2.2 40 = S.2 40 := by rw [hb.1 _ (by omega) (by omega), a1 _ (by omega) (by omega) (by omega)]
      rw [y1, y2]
      exact ⟨g1, fun q => (g2 q).cong y3 (by rw [y4]) (fun s _ => by rw [y5])⟩
    | true =>
      obtain ⟨x1, x2, x3⟩ := a3 ho
      obtain ⟨z1, z2, z3, z4⟩ := b3 ho
      by_cases c : l = m
      · subst c
        have y1 : S2.1 (25 + l) 0 = 1 := by rw [b2 _ (by omega), hb.2 _ (by omega) (by omega)]; exact x3
        have y3 : S2.2 (31 + l) = S1.2 (31 + l) := by rw [b1 _ (by omega), hb.1 _ (by omega) (by omega)]
        have y4 : S2.2 (25 + l) = S1.2 (25 + l) := by rw [b1 _ (by omega), hb.1 _ (by omega) (by omega)]
        have hok : gf d (2 ^ n) ≠ 0 ∧ ∀ s, s < 2 ^ n → d s / gf d (2 ^ n) ≤ 4000000 := by
          unfold okd at ho
          rw [Bool.and_eq_true] at ho
          exact ⟨of_decide_eq_true ho.1, fun s hs => of_decide_eq_true (allb_iff.mp ho.2 s hs)⟩
        refine ⟨by rw [y1, z3], fun _ => ⟨fun s hs => ?_, ?_, ?_⟩⟩
        · rw [y3, x1 s hs, z1 s hs]
          exact ⟨rfl, _, hok.2 s hs, rfl⟩
        · rw [y3, y4]
          exact x2
        · -- not all are 0
          have hdv : ∀ N, (∀ s, s < N → gf d N ∣ d s) := by
            intro N
            induction N with
            | zero => intro s hs; exact absurd hs (Nat.not_lt_zero s)
            | succ N ih =>
              intro s hs
              rw [gf]
              by_cases e1 : s = N
              · subst e1; exact Nat.gcd_dvd_left _ _
              · exact Nat.dvd_trans (Nat.gcd_dvd_right _ _) (ih s (by omega))
          have hnz : ∃ s, s < 2 ^ n ∧ d s ≠ 0 := by
            have gen : ∀ N, gf d N ≠ 0 → ∃ s, s < N ∧ d s ≠ 0 := by
              intro N
              induction N with
              | zero => intro q; exact absurd rfl q
              | succ N ih =>
                intro q
                by_cases e1 : d N = 0
                · rw [gf, e1, Nat.gcd_zero_left] at q
                  obtain ⟨s, hs, h1⟩ := ih q
                  exact ⟨s, by omega, h1⟩
                · exact ⟨N, by omega, e1⟩
            exact gen _ hok.1
          obtain ⟨s, hs, hne⟩ := hnz
          refine ⟨s, hs, ?_⟩
          rw [y3, x1 s hs]
          intro q
          have hq : d s / gf d (2 ^ n) = 0 := (pk_lEQ (a := d s / gf d (2 ^ n)) (b := 0) (by have := hok.2 s hs; omega) (by decide)).mp q
          have := Nat.div_mul_cancel (hdv (2 ^ n) s hs)
          rw [hq, Nat.zero_mul] at this
          exact hne this.symm
      · have y1 : S2.1 (25 + l) = S.1 (25 + l) := by rw [b2 _ (by omega), hb.2 _ (by omega) (by omega)]; exact a2 _ (by omega)
        have y2 : S2.1 43 l = S.1 43 l := by rw [z4 l c, hb.2 _ (by omega) (by omega), a2 _ (by omega)]
        have y3 : S2.2 (31 + l) = S.2 (31 + l) := by rw [b1 _ (by omega), hb.1 _ (by omega) (by omega)]; exact a1 _ (by omega) (by omega) (by omega)
        have y4 : S2.2 (25 + l) = S.2 (25 + l) := by rw [b1 _ (by omega), hb.1 _ (by omega) (by omega)]; exact a1 _ (by omega) (by omega) (by omega)
        rw [y1, y2]
        refine ⟨g1, fun q => (g2 q).cong y3 (by rw [y4]) (fun s hs => ?_)⟩
        rw [z2 (64 * l + s) (by omega), hb.1 _ (by omega) (by omega), a1 _ (by omega) (by omega) (by omega)]
