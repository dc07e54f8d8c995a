/-! ===== hand, given, part, other, mix ===== -/
theorem clear_eq {n : Nat} {S : St} : ∃ Sc, fX5_clear n S = some ((), Sc) ∧ (∀ q, q ≠ 41 → Sc.2 q = S.2 q) ∧ Sc.1 = S.1 ∧ ∀ s, s < 64 → Sc.2 41 s = 0 := by
  obtain ⟨X, e, p1, p2, p3⟩ := pp_fill (lX5_clear_1 n) 64 0 (by decide) (by decide) (fun k X => (∀ q, q ≠ 41 → X.2 q = S.2 q) ∧ X.1 = S.1 ∧ ∀ s, s < k → X.2 41 s = 0)
    (by
      intro f k X hk ⟨p1, p2, p3⟩
      refine ⟨sJ X 41 k 0, ?_, fun q hq => by rw [sJ_r hq]; exact p1 q hq, p2, fun s hs => ?_⟩
      · show bX5_clear_1 n (lX5_clear_1 n f) (nI k) X = _
        unfold bX5_clear_1
        rw [if_neg (show ¬ ((64 : Int32) ≤ nI k) from nI_ge (a := k) (b := 64) hk (by decide)), inb_nI hk (by omega), cl_nI (by omega), nI_1]
        rfl
      · by_cases c : s = k
        · subst c; exact sJ_at
        · rw [sJ_k c]; exact p3 s (by omega))
    (by
      intro f X
      show bX5_clear_1 n (lX5_clear_1 n f) (nI 64) X = _
      unfold bX5_clear_1
      rw [if_pos (show (64 : Int32) ≤ nI 64 from nI_le (a := 64) (b := 64) (Nat.le_refl _) (by decide))])
    S ⟨fun _ _ => rfl, rfl, fun s hs => absurd hs (Nat.not_lt_zero s)⟩
  refine ⟨X, ?_, p1, p2, p3⟩
  unfold fX5_clear
  rw [show (0 : Int32) = nI 0 from rfl, e]
  rfl
theorem isLaw_cong {n : Nat} {S S' : St} {p : Int32} (h : S'.1 43 = S.1 43) : fX5_isLaw n p S' = fX5_isLaw n p S := by
  unfold fX5_isLaw
  rw [h]
theorem cpok_eq {n : Nat} (hn : n ≤ 6) : cpok (0 : Int32) (0 : Int32) (nI (2 ^ n)) (2 ^ n) (2 ^ n) = true := by
  have hN := pw_le hn
  simp only [cpok, Bool.and_eq_true, Bool.not_eq_true', decide_eq_false_iff_not, decide_eq_true_eq]
  refine ⟨⟨⟨⟨by decide, by decide⟩, nI_pos (by omega)⟩, ?_⟩, ?_⟩ <;> rw [cl_nI (by omega)] <;> exact Nat.le_of_eq (Nat.zero_add _)
theorem cpy_eq {n : Nat} (hn : n ≤ 6) (f g : Nat → Int64) {s : Nat} (hs : s < 2 ^ n) : va_cpy f g (Int32.toNatClampNeg (0 : Int32)) (Int32.toNatClampNeg (0 : Int32)) (Int32.toNatClampNeg (nI (2 ^ n))) s = f s := by
  have hN := pw_le hn
  rw [cl_nI (by omega), show Int32.toNatClampNeg (0 : Int32) = 0 from rfl]
  unfold va_cpy
  rw [if_pos ⟨Nat.zero_le _, by omega⟩]
  simp
theorem t_hand {n : Nat} {S : St} (h : Rel n S) (p0 : Int32) : ∃ r S1 S2, fX4_hand n p0 S = some (r, S1) ∧ fX5_hand n p0 S1 = some (r, S2) ∧ Rel n S2 := by
  have hR := h
  obtain ⟨h2, h6, hT, hE, hH, hL⟩ := h
  have hN := pw_le h6
  unfold fX4_hand fX5_hand
  rcases place_cases p0 with ⟨m, hm, rfl, e4, e5⟩ | ⟨e4, e5⟩
  · have hd : ∀ s, s < 2 ^ n → S.2 42 s = lN ((S.2 42 s).toInt.toNat) ∧ (S.2 42 s).toInt.toNat < 2 ^ 63 := by
      intro s hs
      obtain ⟨-, v, hv, e⟩ := hH s hs
      have : (S.2 42 s).toInt.toNat = v := by rw [e, pk_lT (by omega)]; rfl
      rw [this]
      exact ⟨e, by omega⟩
    generalize hde : (fun s => (S.2 42 s).toInt.toNat) = d at hd
    have hd : ∀ s, s < 2 ^ n → S.2 42 s = lN (d s) ∧ d s < 2 ^ 63 := by rw [← hde]; exact hd
    have fA : fr4 S (sC S 5 (va_cpy (S.2 4) (S.2 5) (Int32.toNatClampNeg (0 : Int32)) (Int32.toNatClampNeg (0 : Int32)) (Int32.toNatClampNeg (nI (2 ^ n))))) := ⟨fun q a _ _ => sC_r a, fun _ _ => rfl⟩
    obtain ⟨r, S1, q4, q37, qb⟩ := commit_rel (d := d) (hR.fr4 fA) hm (fun s hs => by
      rw [sC_at, cpy_eq h6 _ _ hs, (hH s hs).1]
      exact hd s hs)
    obtain ⟨Sc, c1, c2, c3, c4⟩ := clear_eq (n := n) (S := S1)
    obtain ⟨X, e, x1, x2, x3⟩ := pp_fill (lX5_hand_1 n (nI m)) (2 ^ n) 0 (by omega) (Nat.zero_le _) (fun k X => (∀ q, q ≠ 41 → X.2 q = S1.2 q) ∧ X.1 = S1.1 ∧ ∀ s, s < k → X.2 41 s = lN (d s))
      (by
        intro f k X hk ⟨p1, p2, p3⟩
        refine ⟨sJ X 41 k (X.2 42 k), ?_, fun q hq => by rw [sJ_r hq]; exact p1 q hq, p2, fun s hs => ?_⟩
        · show bX5_hand_1 n (nI m) (lX5_hand_1 n (nI m) f) (nI k) X = _
          unfold bX5_hand_1
          rw [if_neg (nI_ge hk (by omega)), inb_nI (show k < 64 by omega) (by omega), cl_nI (by omega), nI_1]
          rfl
        · by_cases c : s = k
          · subst c
            rw [sJ_at, p1 42 (by omega), (q37 42 (by omega)).1, sC_r (by omega)]
            exact (hd s hk).1
          · rw [sJ_k c]; exact p3 s (by omega))
      (by
        intro f X
        show bX5_hand_1 n (nI m) (lX5_hand_1 n (nI m) f) (nI (2 ^ n)) X = _
        unfold bX5_hand_1
        rw [if_pos (nI_le (Nat.le_refl _) (by omega))])
      Sc ⟨c2, c3, fun s hs => absurd hs (Nat.not_lt_zero s)⟩
    obtain ⟨S2, m5, hS2⟩ := qb X ⟨fun q _ b => x1 q b, fun q _ _ => by rw [x2]⟩ x3
    rw [show nI 0 = (0 : Int32) from rfl] at e
    refine ⟨r, S1, S2, ?_, ?_, hS2⟩
    · simp only [e4, bo, bw, gd, cond_true, cpok_eq h6, q4]
    · simp only [e5, bo, bw, cond_true, c1, e, m5]
  · exact ⟨false, S, S, by simp only [e4, bo, cond_false], by simp only [e5, bo, cond_false], hR⟩
theorem t_given {n : Nat} {S : St} (h : Rel n S) (p0 p1 p2 p3 : Int32) : ∃ r S1 S2, fX4_given n p0 p1 p2 p3 S = some (r, S1) ∧ fX5_given n p0 p1 p2 p3 S1 = some (r, S2) ∧ Rel n S2 := by
  have hR := h
  obtain ⟨h2, h6, hT, hE, hH, hL⟩ := h
  have hN := pw_le h6
  unfold fX4_given fX5_given
  rcases law_cases hL p0 with ⟨l, hl, rfl, ok, e4, e5⟩ | ⟨e4, e5⟩
  · rcases set_cases h6 p1 S S with ⟨a, ha, rfl, g4, g5⟩ | ⟨g4, g5⟩
    · rcases set_cases h6 p2 S S with ⟨b, hb, rfl, k4, k5⟩ | ⟨k4, k5⟩
      · rcases place_cases p3 with ⟨m, hm, rfl, w4, w5⟩ | ⟨w4, w5⟩
        · obtain ⟨v, hv, -, -, -⟩ := ok.nat h6
          obtain ⟨Sa, ea, a1, a2, a3⟩ := pp_fill (lX4_given_1 n (nI a) (nI b) (nI m) l) (2 ^ n) 0 (by omega) (Nat.zero_le _) (fun k X => (∀ q, q ≠ 5 → X.2 q = S.2 q) ∧ X.1 = S.1 ∧ ∀ s, s < k → X.2 5 s = lN (bif fitb s a b then v s else 0))
            (by
              intro f k X hk ⟨x1, x2, x3⟩
              refine ⟨sJ X 5 k (lN (bif fitb k a b then v k else 0)), ?_, fun q hq => by rw [sJ_r hq]; exact x1 q hq, x2, fun s hs => ?_⟩
              · show bX4_given_1 n (nI a) (nI b) (nI m) l (lX4_given_1 n (nI a) (nI b) (nI m) l f) (nI k) X = _
                unfold bX4_given_1
                rw [if_neg (nI_ge hk (by omega)), fits_eq (by omega) (by omega), inb_nI hk (by omega), cl_nI (by omega), nI_1, x1 (31 + l) (by omega), (hv k hk).2]
                cases fitb k a b <;> rfl
              · by_cases c : s = k
                · subst c; exact sJ_at
                · rw [sJ_k c]; exact x3 s (by omega))
            (by
              intro f X
              show bX4_given_1 n (nI a) (nI b) (nI m) l (lX4_given_1 n (nI a) (nI b) (nI m) l f) (nI (2 ^ n)) X = _
              unfold bX4_given_1
              rw [if_pos (nI_le (Nat.le_refl _) (by omega))])
            S ⟨fun _ _ => rfl, rfl, fun s hs => absurd hs (Nat.not_lt_zero s)⟩
          have fA : fr4 S Sa := ⟨fun q z _ _ => a1 q z, fun _ _ => by rw [a2]⟩
          obtain ⟨r, S1, q4, q37, qb⟩ := commit_rel (d := fun s => bif fitb s a b then v s else 0) (hR.fr4 fA) hm (fun s hs => ⟨a3 s hs, by
            have := (hv s hs).1
            cases fitb s a b
            · show 0 < 2 ^ 63; decide
            · show v s < 2 ^ 63; omega⟩)
          obtain ⟨Sc, c1, c2, c3, c4⟩ := clear_eq (n := n) (S := S1)
          obtain ⟨X, e, x1, x2, x3⟩ := pp_fill (lX5_given_1 n (nI l) (nI a) (nI b) (nI m)) (2 ^ n) 0 (by omega) (Nat.zero_le _) (fun k X => (∀ q, q ≠ 41 → X.2 q = S1.2 q) ∧ X.1 = S1.1 ∧ (∀ s, s < k → X.2 41 s = lN (bif fitb s a b then v s else 0)) ∧ ∀ s, k ≤ s → s < 64 → X.2 41 s = 0)
            (by
              intro f k X hk ⟨x1, x2, x3, x4⟩
              have hval : X.2 40 (64 * l + k) = lN (v k) := by
                rw [x1 40 (by omega), (q37 40 (by omega)).1, a1 40 (by omega), ← (ok.1 k hk).1, (hv k hk).2]
              have step : lX5_given_1 n (nI l) (nI a) (nI b) (nI m) (f + 1) (nI k) X = lX5_given_1 n (nI l) (nI a) (nI b) (nI m) f (nI (k + 1)) (bif fitb k a b then sJ X 41 k (lN (v k)) else X) := by
                show bX5_given_1 n (nI l) (nI a) (nI b) (nI m) (lX5_given_1 n (nI l) (nI a) (nI b) (nI m) f) (nI k) X = _
                unfold bX5_given_1 fitb
                rw [if_neg (nI_ge hk (by omega)), ix64, (law_ix hl hk hN).1, (law_ix hl hk hN).2, inb_nI (show k < 64 by omega) (by omega), cl_nI (by omega), nI_1, nI_and, nI_and, hval]
                by_cases d1 : k &&& a = a
                · rw [if_pos ((nI_inj (and_ltN (by omega)) (by omega)).mpr d1)]
                  by_cases d2 : k &&& b = 0
                  · rw [if_pos ((nI_z (and_ltN (by omega))).mpr d2)]; simp [d1, d2, gd]
                  · rw [if_neg (fun z => d2 ((nI_z (and_ltN (by omega))).mp z))]; simp [d1, d2]
                · rw [if_neg (fun z => d1 ((nI_inj (and_ltN (by omega)) (by omega)).mp z))]; simp [d1]
              refine ⟨_, step, ?_, ?_, ?_, ?_⟩
              · intro q hq
                cases fitb k a b
                · exact x1 q hq
                · show (sJ X 41 k (lN (v k))).2 q = _
                  rw [sJ_r hq]; exact x1 q hq
              · cases fitb k a b
                · exact x2
                · exact x2
              · intro s hs
                by_cases c : s = k
                · subst c
                  cases fitb s a b
                  · exact x4 s (Nat.le_refl _) (by omega)
                  · exact sJ_at
                · cases fitb k a b
                  · exact x3 s (by omega)
                  · show (sJ X 41 k (lN (v k))).2 41 s = _
                    rw [sJ_k c]; exact x3 s (by omega)
              · intro s hs1 hs2
                cases fitb k a b
                · exact x4 s (by omega) hs2
                · show (sJ X 41 k (lN (v k))).2 41 s = _
                  rw [sJ_k (by omega)]; exact x4 s (by omega) hs2)
            (by
              intro f X
              show bX5_given_1 n (nI l) (nI a) (nI b) (nI m) (lX5_given_1 n (nI l) (nI a) (nI b) (nI m) f) (nI (2 ^ n)) X = _
              unfold bX5_given_1
              rw [if_pos (nI_le (Nat.le_refl _) (by omega))])
            Sc ⟨c2, c3, fun s hs => absurd hs (Nat.not_lt_zero s), fun s _ hs => c4 s hs⟩
          obtain ⟨S2, m5, hS2⟩ := qb X ⟨fun q _ z => x1 q z, fun q _ _ => by rw [x2]⟩ x3.1
          rw [show nI 0 = (0 : Int32) from rfl] at e ea
          refine ⟨r, S1, S2, ?_, ?_, hS2⟩
          · simp only [e4, g4, k4, w4, bo, bw, mo, gd, decide_eq_true hl, cond_true, ea, q4]
          · have i5 : fX5_isLaw n (nI l) S1 = some true := (isLaw_cong ((q37 43 (by omega)).2.trans (by rw [a2]))).trans e5
            have g5' : ∀ S', fX5_isSet n (nI a) S' = some true := fun _ => g5
            have k5' : ∀ S', fX5_isSet n (nI b) S' = some true := fun _ => k5
            simp only [i5, g5', k5', w5, bo, bw, cond_true, c1, e, m5]
        · exact ⟨false, S, S, by simp only [e4, g4, k4, w4, bo, mo, gd, decide_eq_true hl, cond_true, cond_false], by simp only [e5, g5, k5, w5, bo, cond_true, cond_false], hR⟩
      · exact ⟨false, S, S, by simp only [e4, g4, k4, bo, mo, gd, decide_eq_true hl, cond_true, cond_false], by simp only [e5, g5, k5, bo, cond_true, cond_false], hR⟩
    · exact ⟨false, S, S, by simp only [e4, g4, bo, mo, gd, decide_eq_true hl, cond_true, cond_false], by simp only [e5, g5, bo, cond_true, cond_false], hR⟩
  · exact ⟨false, S, S, by simp only [e4, bo, mo], by simp only [e5, bo, cond_false], hR⟩
