/-! ===== common divisors, fractions ===== -/
def fbp : Nat → Nat × Nat
  | 0 => (0, 1)
  | k + 1 => match fbp k with
    | (a, b) => (b, a + b)
def fb (k : Nat) : Nat := (fbp k).1
theorem fb_1 (k : Nat) : fb (k + 1) = (fbp k).2 := by
  show (fbp (k + 1)).1 = _
  rfl
theorem fb_2 (k : Nat) : fb (k + 2) = fb k + fb (k + 1) := by
  rw [fb_1 k]
  show (fbp (k + 2)).1 = (fbp k).1 + (fbp k).2
  rfl
theorem fb_93 : 2 ^ 63 ≤ fb 93 := by decide +kernel
theorem gcd_step {A B : Nat} : Nat.gcd A B = Nat.gcd B (A % B) := by
  rw [Nat.gcd_comm A B, Nat.gcd_rec B A, Nat.gcd_comm]
theorem lN_z {B : Nat} (hB : B < 2 ^ 63) : (lg_cmp (lN B) (0 : Int64) = 0) ↔ B = 0 := by
  rw [lg_cmp_eq]
  exact pk_lEQ (a := B) (b := 0) hB (by decide)
theorem lN_nz {B : Nat} (hB : B < 2 ^ 63) (h : B ≠ 0) : (!(decide (lN B = 0))) = true := by
  have : ¬ lN B = 0 := fun q => h ((pk_lEQ (a := B) (b := 0) hB (by decide)).mp q)
  simp [this]
theorem cdL {k : Nat} : (∀ (A B st f : Nat), A < 2 ^ 63 → B < fb k → B < 2 ^ 63 → st + k ≤ 100 → k < f → lX4_commonDivisor_1 f (lN A) (lN B) (nI st) = some (lN (Nat.gcd A B))) ∧ (∀ (A B st f : Nat), A < 2 ^ 63 → B < fb (k + 1) → B < 2 ^ 63 → st + (k + 1) ≤ 100 → k + 1 < f → lX4_commonDivisor_1 f (lN A) (lN B) (nI st) = some (lN (Nat.gcd A B))) := by
  have stop : ∀ (A st f : Nat), st ≤ 100 → lX4_commonDivisor_1 (f + 1) (lN A) (lN 0) (nI st) = some (lN (Nat.gcd A 0)) := by
    intro A st f hs
    show bX4_commonDivisor_1 (lX4_commonDivisor_1 f) (lN A) (lN 0) (nI st) = _
    unfold bX4_commonDivisor_1
    rw [Nat.gcd_zero_right]
    by_cases c : (100 : Int32) ≤ nI st
    · rw [if_pos c]
    · rw [if_neg c, if_pos ((lN_z (by decide)).mpr rfl)]
  have go : ∀ (A B st f : Nat), B ≠ 0 → A < 2 ^ 63 → B < 2 ^ 63 → st < 100 → lX4_commonDivisor_1 (f + 1) (lN A) (lN B) (nI st) = lX4_commonDivisor_1 f (lN B) (lN (A % B)) (nI (st + 1)) := by
    intro A B st f h0 hA hB hs
    show bX4_commonDivisor_1 (lX4_commonDivisor_1 f) (lN A) (lN B) (nI st) = _
    unfold bX4_commonDivisor_1
    rw [if_neg (show ¬ ((100 : Int32) ≤ nI st) from nI_ge (a := st) (b := 100) hs (by decide)), if_neg (fun q => h0 ((lN_z hB).mp q)), lN_nz hB h0, pk_lRem hA (by omega) hB, nI_1]
    rfl
  induction k with
  | zero =>
    refine ⟨fun A B st f _ hB _ _ _ => absurd hB (Nat.not_lt_zero B), fun A B st f hA hB _ hs hf => ?_⟩
    have : fb (0 + 1) = 1 := rfl
    have hB0 : B = 0 := by omega
    subst hB0
    obtain ⟨f, rfl⟩ : ∃ g, f = g + 1 := ⟨f - 1, by omega⟩
    exact stop A st f (by omega)
  | succ k ih =>
    refine ⟨ih.2, fun A B st f hA hB hB2 hs hf => ?_⟩
    obtain ⟨f, rfl⟩ : ∃ g, f = g + 1 := ⟨f - 1, by omega⟩
    by_cases h0 : B = 0
    · subst h0
      exact stop A st f (by omega)
    · rw [go A B st f h0 hA hB2 (by omega), gcd_step (A := A)]
      have hr : A % B < B := Nat.mod_lt _ (by omega)
      by_cases h1 : A % B < fb (k + 1)
      · exact ih.2 B (A % B) (st + 1) f hB2 h1 (by omega) (by omega) (by omega)
      · have e2 := fb_2 k
        rw [show k + 1 + 1 = k + 2 from rfl] at hB
        have hk : fb k ≠ 0 := by omega
        by_cases h2 : A % B = 0
        · rw [h2]
          obtain ⟨f, rfl⟩ : ∃ g, f = g + 1 := ⟨f - 1, by omega⟩
          exact stop B (st + 1) f (by omega)
        · obtain ⟨f, rfl⟩ : ∃ g, f = g + 1 := ⟨f - 1, by omega⟩
          rw [go B (A % B) (st + 1) f h2 hB2 (by omega) (by omega), gcd_step (A := B)]
          have hr2 : B % (A % B) < fb k := by
            have h3 : B % (A % B) ≤ B - A % B := by
              have e3 : B % (A % B) = (B - A % B) % (A % B) := by
                rw [Nat.mod_eq_sub_mod (by omega)]
              rw [e3]
              exact Nat.mod_le _ _
            omega
          exact ih.1 (A % B) (B % (A % B)) (st + 1 + 1) f (by omega) hr2 (Nat.lt_of_le_of_lt (Nat.mod_le _ _) hB2) (by omega) (by omega)
theorem cd_eq {A B : Nat} (hA : A < 2 ^ 63) (hB : B < 2 ^ 63) : fX4_commonDivisor (lN A) (lN B) = some (lN (Nat.gcd A B)) := by
  unfold fX4_commonDivisor
  rw [show (0 : Int32) = nI 0 from rfl, (cdL (k := 93)).1 A B 0 FU hA (Nat.lt_of_lt_of_le hB fb_93) hB (by decide) (by decide)]
  rfl
theorem cmL {k : Nat} : (∀ (A B f : Nat), A < 2 ^ 63 → B < fb k → B < 2 ^ 63 → k < f → lX5_common_1 f (lN A) (lN B) = some (lN (Nat.gcd A B))) ∧ (∀ (A B f : Nat), A < 2 ^ 63 → B < fb (k + 1) → B < 2 ^ 63 → k + 1 < f → lX5_common_1 f (lN A) (lN B) = some (lN (Nat.gcd A B))) := by
  have stop : ∀ (A f : Nat), lX5_common_1 (f + 1) (lN A) (lN 0) = some (lN (Nat.gcd A 0)) := by
    intro A f
    show bX5_common_1 (lX5_common_1 f) (lN A) (lN 0) = _
    unfold bX5_common_1
    rw [Nat.gcd_zero_right, if_pos ((lN_z (by decide)).mpr rfl)]
  have go : ∀ (A B f : Nat), B ≠ 0 → A < 2 ^ 63 → B < 2 ^ 63 → lX5_common_1 (f + 1) (lN A) (lN B) = lX5_common_1 f (lN B) (lN (A % B)) := by
    intro A B f h0 hA hB
    show bX5_common_1 (lX5_common_1 f) (lN A) (lN B) = _
    unfold bX5_common_1
    rw [if_neg (fun q => h0 ((lN_z hB).mp q)), lN_nz hB h0, pk_lRem hA (by omega) hB]
    rfl
  induction k with
  | zero =>
    refine ⟨fun A B f _ hB _ _ => absurd hB (Nat.not_lt_zero B), fun A B f hA hB _ hf => ?_⟩
    have : fb (0 + 1) = 1 := rfl
    have hB0 : B = 0 := by omega
    subst hB0
    obtain ⟨f, rfl⟩ : ∃ g, f = g + 1 := ⟨f - 1, by omega⟩
    exact stop A f
  | succ k ih =>
    refine ⟨ih.2, fun A B f hA hB hB2 hf => ?_⟩
    obtain ⟨f, rfl⟩ : ∃ g, f = g + 1 := ⟨f - 1, by omega⟩
    by_cases h0 : B = 0
    · subst h0
      exact stop A f
    · rw [go A B f h0 hA hB2, gcd_step (A := A)]
      have hr : A % B < B := Nat.mod_lt _ (by omega)
      by_cases h1 : A % B < fb (k + 1)
      · exact ih.2 B (A % B) f hB2 h1 (by omega) (by omega)
      · have e2 := fb_2 k
        rw [show k + 1 + 1 = k + 2 from rfl] at hB
        by_cases h2 : A % B = 0
        · rw [h2]
          obtain ⟨f, rfl⟩ : ∃ g, f = g + 1 := ⟨f - 1, by omega⟩
          exact stop B f
        · obtain ⟨f, rfl⟩ : ∃ g, f = g + 1 := ⟨f - 1, by omega⟩
          rw [go B (A % B) f h2 hB2 (by omega), gcd_step (A := B)]
          have hr2 : B % (A % B) < fb k := by
            have h3 : B % (A % B) ≤ B - A % B := by
              have e3 : B % (A % B) = (B - A % B) % (A % B) := by
                rw [Nat.mod_eq_sub_mod (by omega)]
              rw [e3]
              exact Nat.mod_le _ _
            omega
          exact ih.1 (A % B) (B % (A % B)) f (by omega) hr2 (Nat.lt_of_le_of_lt (Nat.mod_le _ _) hB2) (by omega)
theorem cmn_eq {A B : Nat} (hA : A < 2 ^ 63) (hB : B < 2 ^ 63) : fX5_common (lN A) (lN B) = some (lN (Nat.gcd A B)) := by
  unfold fX5_common
  rw [(cmL (k := 93)).1 A B FU hA (Nat.lt_of_lt_of_le hB fb_93) hB (by decide)]
  rfl
theorem lN_neg_pos {U : Nat} (hU : U < 2 ^ 63) (h0 : 0 < U) : -(lN U) < 0 := by
  rw [Int64.lt_iff_toInt_lt, Int64.toInt_neg, pk_lT hU]
  show Int.bmod (-(U : Int)) (2 ^ 64) < 0
  rw [Int.bmod_eq_of_le (by omega) (by omega)]
  omega
/-- the size of a number, as both programs take it -/
theorem abs_eq {u : Int64} {U : Nat} (hU : U < 2 ^ 63) (h : u = lN U ∨ u = -(lN U)) : (if 0 < u then u else -u) = lN U ∧ (if 0 ≤ lg_cmp u (0 : Int64) then u else -u) = lN U := by
  have p1 : (0 < lN U) ↔ 0 < U := pk_lLT (a := 0) (b := U) (by decide) hU
  have p2 : (0 : Int64) ≤ lN U := (pk_lLE (a := 0) (b := U) (by decide) hU).mpr (Nat.zero_le U)
  rcases h with rfl | rfl
  · refine ⟨?_, if_pos ((lg_cmp_ge _ _).mpr p2)⟩
    by_cases c : 0 < U
    · rw [if_pos (p1.mpr c)]
    · have : U = 0 := by omega
      subst this
      rfl
  · by_cases c : 0 < U
    · have q := lN_neg_pos hU c
      refine ⟨?_, ?_⟩
      · rw [if_neg (fun z => Int64.lt_irrefl (Int64.lt_trans q z)), Int64.neg_neg]
      · rw [if_neg (fun z => absurd ((lg_cmp_ge _ _).mp z) (Int64.not_le.mpr q)), Int64.neg_neg]
    · have : U = 0 := by omega
      subst this
      exact ⟨rfl, rfl⟩
theorem frac_eq {u : Int64} {U L : Nat} (w : Int32) (hU : U < 2 ^ 63) (h : u = lN U ∨ u = -(lN U)) (h0 : 0 < L) (hL : L < 2 ^ 63) : ∃ r, fX4_lowest u (lN L) w = some r ∧ fX5_fraction u (lN L) w = some r := by
  obtain ⟨a1, a2⟩ := abs_eq hU h
  have hg : Nat.gcd U L < 2 ^ 63 := Nat.lt_of_le_of_lt (Nat.gcd_le_right U h0) hL
  have hg0 : 0 < Nat.gcd U L := Nat.gcd_pos_of_pos_right U h0
  have hnz := lN_nz hg (by omega)
  have hge : (0 ≤ lg_cmp (lN (Nat.gcd U L)) (1 : Int64)) := (lg_cmp_ge _ _).mpr ((pk_lLE (a := 1) (b := Nat.gcd U L) (by decide) hg).mpr hg0)
  refine ⟨if w = 0 then u / lN (Nat.gcd U L) else lN L / lN (Nat.gcd U L), ?_, ?_⟩
  · unfold fX4_lowest
    rw [a1, cd_eq hU hL]
    show (if 0 ≤ lg_cmp (lN (Nat.gcd U L)) (1 : Int64) then _ else _) = _
    rw [if_pos hge, hnz]
    by_cases c : w = 0
    · rw [if_pos c, if_pos c]; rfl
    · rw [if_neg c, if_neg c]; rfl
  · unfold fX5_fraction
    by_cases c1 : 0 ≤ lg_cmp u (0 : Int64)
    · rw [if_pos c1] at a2 ⊢
      rw [show fX5_common (lN L) u = some (lN (Nat.gcd U L)) from by rw [a2, cmn_eq hL hU, Nat.gcd_comm]]
      show (if w = 0 then gd (!(decide (lN (Nat.gcd U L) = 0))) _ else gd (!(decide (lN (Nat.gcd U L) = 0))) _) = _
      rw [hnz]
      by_cases c : w = 0
      · rw [if_pos c, if_pos c]; rfl
      · rw [if_neg c, if_neg c]; rfl
    · rw [if_neg c1] at a2 ⊢
      rw [show fX5_common (lN L) (-u) = some (lN (Nat.gcd U L)) from by rw [a2, cmn_eq hL hU, Nat.gcd_comm]]
      show (if w = 0 then gd (!(decide (lN (Nat.gcd U L) = 0))) _ else gd (!(decide (lN (Nat.gcd U L) = 0))) _) = _
      rw [hnz]
      by_cases c : w = 0
      · rw [if_pos c, if_pos c]; rfl
      · rw [if_neg c, if_neg c]; rfl
