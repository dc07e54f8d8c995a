/-! ===== what is read of a law: share, chance, within, out, size, mean, spread, both ===== -/
def ns (f : Nat → Nat) : Nat → Nat
  | 0 => 0
  | k + 1 => ns f k + f k
theorem ns_le {f : Nat → Nat} {c : Nat} : ∀ {N : Nat}, (∀ k, k < N → f k ≤ c) → ns f N ≤ N * c
  | 0, _ => Nat.zero_le _
  | N + 1, h => by
    have h1 := ns_le (N := N) (fun k hk => h k (Nat.lt_succ_of_lt hk))
    have h2 := h N (Nat.lt_succ_self N)
    rw [ns, Nat.succ_mul]
    omega
theorem ns_part {f : Nat → Nat} {s : Nat} : ∀ {N : Nat}, s < N → f s ≤ ns f N
  | 0, h => absurd h (Nat.not_lt_zero s)
  | N + 1, h => by
    rw [ns]
    rcases Nat.lt_or_ge s N with q | q
    · have := ns_part (f := f) q
      omega
    · have : s = N := by omega
      subst this
      omega
theorem smN {g : Nat → Int64} {w : Nat → Nat} : ∀ {N : Nat}, (∀ s, s < N → g s = lN (w s)) → sm g N = lN (ns w N)
  | 0, _ => rfl
  | N + 1, h => by rw [sm, ns, smN (fun s hs => h s (Nat.lt_succ_of_lt hs)), h N (Nat.lt_succ_self N), lN_add]
theorem LawOk.nat {n l : Nat} {S : St} (hn : n ≤ 6) (h : LawOk n S l) : ∃ v : Nat → Nat, (∀ s, s < 2 ^ n → v s ≤ 4000000 ∧ S.2 (31 + l) s = lN (v s)) ∧ S.2 (25 + l) 0 = lN (ns v (2 ^ n)) ∧ 0 < ns v (2 ^ n) ∧ ns v (2 ^ n) ≤ 256000000 := by
  obtain ⟨h1, h2, s0, hs0, hne⟩ := h
  have hN := pw_le hn
  have hv : ∀ s, s < 2 ^ n → (S.2 (31 + l) s).toInt.toNat ≤ 4000000 ∧ S.2 (31 + l) s = lN ((S.2 (31 + l) s).toInt.toNat) := by
    intro s hs
    obtain ⟨-, v, hv, e⟩ := h1 s hs
    have : (S.2 (31 + l) s).toInt.toNat = v := by rw [e, pk_lT (by omega)]; rfl
    rw [this]
    exact ⟨hv, e⟩
  refine ⟨fun s => (S.2 (31 + l) s).toInt.toNat, hv, ?_, ?_, ?_⟩
  · rw [h2]
    exact smN (fun s hs => (hv s hs).2)
  · have h3 := ns_part (f := fun s => (S.2 (31 + l) s).toInt.toNat) hs0
    have h4 : (S.2 (31 + l) s0).toInt.toNat ≠ 0 := fun q => hne (by rw [(hv s0 hs0).2, q]; rfl)
    omega
  · have := ns_le (f := fun s => (S.2 (31 + l) s).toInt.toNat) (c := 4000000) (N := 2 ^ n) (fun s hs => (hv s hs).1)
    have h5 : 2 ^ n * 4000000 ≤ 64 * 4000000 := Nat.mul_le_mul_right _ hN
    omega
theorem LawOk.sum {n l : Nat} {S : St} (hn : n ≤ 6) (hl : l < 6) (h : LawOk n S l) : fX5_sum n (nI l) S = some (S.2 (25 + l) 0) := by
  rw [msum_eq hn hl, h.2.1]
  exact congrArg some (sm_cong (fun k hk => ((h.1 k hk).1).symm))
theorem LawOk.sumOf {n l a b : Nat} {S : St} (hn : n ≤ 6) (hl : l < 6) (ha : a < 64) (hb : b < 64) (h : LawOk n S l) : fX5_sumOf n (nI l) (nI a) (nI b) S = fX0_sumFitting n l (nI a) (nI b) S := by
  rw [msumOf_eq hn hl ha, sumFit_eq hn ha hb]
  exact congrArg some (sm_cong (fun k hk => by rw [(h.1 k hk).1]))
theorem LawOk.ofSize {n l q : Nat} {S : St} (hn : n ≤ 6) (hl : l < 6) (hq : q < 64) (h : LawOk n S l) : fX5_ofSize n (nI l) (nI q) S = fX0_sumOfSize n l (nI q) S := by
  rw [mofSize_eq hn hl hq, sumSize_eq hn hq]
  exact congrArg some (sm_cong (fun k hk => by rw [(h.1 k hk).1]))
theorem t_share {n : Nat} {S : St} (h : Rel n S) (p0 p1 : Int32) : ∃ r, fX4_share n p0 p1 S = some r ∧ fX5_share n p0 p1 S = some r := by
  obtain ⟨h2, h6, -, -, -, hL⟩ := h
  have hN := pw_le h6
  unfold fX4_share fX5_share
  rcases law_cases hL p0 with ⟨l, hl, rfl, ok, e4, e5⟩ | ⟨e4, e5⟩
  · rcases set_cases h6 p1 S S with ⟨s, hs, rfl, g4, g5⟩ | ⟨g4, g5⟩
    · refine ⟨S.2 (31 + l) s, ?_, ?_⟩
      · simp only [e4, g4, bo, mo, gd, decide_eq_true hl, inb_nI hs (by omega), cond_true, cl_nI (show s < 1000 by omega)]
      · simp only [e5, g5, bo, gd, ix64, (law_ix hl hs hN).1, (law_ix hl hs hN).2, cond_true, (ok.1 s hs).1]
    · exact ⟨-1, by simp only [e4, g4, bo, mo, gd, decide_eq_true hl, cond_true, cond_false], by simp only [e5, g5, bo, cond_true, cond_false]⟩
  · exact ⟨-1, by simp only [e4, bo, mo], by simp only [e5, bo, cond_false]⟩
theorem t_chance {n : Nat} {S : St} (h : Rel n S) (p0 p1 p2 : Int32) : ∃ r, fX4_chance n p0 p1 p2 S = some r ∧ fX5_chance n p0 p1 p2 S = some r := by
  obtain ⟨h2, h6, -, -, -, hL⟩ := h
  have hN := pw_le h6
  unfold fX4_chance fX5_chance
  rcases law_cases hL p0 with ⟨l, hl, rfl, ok, e4, e5⟩ | ⟨e4, e5⟩
  · rcases set_cases h6 p1 S S with ⟨s, hs, rfl, g4, g5⟩ | ⟨g4, g5⟩
    · rcases what_cases p2 with ⟨w4, w5⟩ | ⟨w4, w5⟩
      · obtain ⟨v, hv, hT, hT0, hTm⟩ := ok.nat h6
        obtain ⟨r, r4, r5⟩ := frac_eq (u := S.2 (31 + l) s) (U := v s) (L := ns v (2 ^ n)) p2 (by have := (hv s hs).1; omega) (Or.inl (hv s hs).2) hT0 (by omega)
        rw [← hT] at r4 r5
        refine ⟨r, ?_, ?_⟩
        · simp only [e4, g4, w4, bo, mo, gd, decide_eq_true hl, inb_nI hs (by omega), cond_true, cl_nI (show s < 1000 by omega), r4]
        · simp only [e5, g5, w5, bo, gd, ix64, (law_ix hl hs hN).1, (law_ix hl hs hN).2, cond_true, ← (ok.1 s hs).1, ok.sum h6 hl, r5]
      · exact ⟨-1, by simp only [e4, g4, w4, bo, mo, gd, decide_eq_true hl, cond_true, cond_false], by simp only [e5, g5, w5, bo, cond_true, cond_false]⟩
    · exact ⟨-1, by simp only [e4, g4, bo, mo, gd, decide_eq_true hl, cond_true, cond_false], by simp only [e5, g5, bo, cond_true, cond_false]⟩
  · exact ⟨-1, by simp only [e4, bo, mo], by simp only [e5, bo, cond_false]⟩
/-- a sum of some of a law's shares -/
theorem fit_nat {n l a b : Nat} {S : St} (hn : n ≤ 6) (ha : a < 64) (hb : b < 64) {v : Nat → Nat} (hv : ∀ s, s < 2 ^ n → v s ≤ 4000000 ∧ S.2 (31 + l) s = lN (v s)) : fX0_sumFitting n l (nI a) (nI b) S = some (lN (ns (fun s => bif fitb s a b then v s else 0) (2 ^ n))) ∧ ns (fun s => bif fitb s a b then v s else 0) (2 ^ n) ≤ 256000000 := by
  have hN := pw_le hn
  refine ⟨?_, ?_⟩
  · rw [sumFit_eq hn ha hb]
    refine congrArg some (smN (fun s hs => ?_))
    cases fitb s a b with
    | true => exact (hv s hs).2
    | false => rfl
  · have := ns_le (f := fun s => bif fitb s a b then v s else 0) (c := 4000000) (N := 2 ^ n) (fun s hs => by
      cases fitb s a b with
      | true => exact (hv s hs).1
      | false => exact Nat.zero_le _)
    have h5 : 2 ^ n * 4000000 ≤ 64 * 4000000 := Nat.mul_le_mul_right _ hN
    omega
theorem size_nat {n l q : Nat} {S : St} (hn : n ≤ 6) (hq : q < 64) {v : Nat → Nat} (hv : ∀ s, s < 2 ^ n → v s ≤ 4000000 ∧ S.2 (31 + l) s = lN (v s)) : fX0_sumOfSize n l (nI q) S = some (lN (ns (fun s => if pop s = q then v s else 0) (2 ^ n))) ∧ ns (fun s => if pop s = q then v s else 0) (2 ^ n) ≤ 256000000 := by
  have hN := pw_le hn
  refine ⟨?_, ?_⟩
  · rw [sumSize_eq hn hq]
    refine congrArg some (smN (fun s hs => ?_))
    by_cases c : pop s = q
    · rw [if_pos c, if_pos c]; exact (hv s hs).2
    · rw [if_neg c, if_neg c]; rfl
  · have := ns_le (f := fun s => if pop s = q then v s else 0) (c := 4000000) (N := 2 ^ n) (fun s hs => by
      by_cases c : pop s = q
      · rw [if_pos c]; exact (hv s hs).1
      · rw [if_neg c]; exact Nat.zero_le _)
    have h5 : 2 ^ n * 4000000 ≤ 64 * 4000000 := Nat.mul_le_mul_right _ hN
    omega
theorem t_within {n : Nat} {S : St} (h : Rel n S) (p0 p1 p2 : Int32) : ∃ r, fX4_within n p0 p1 p2 S = some r ∧ fX5_within n p0 p1 p2 S = some r := by
  obtain ⟨h2, h6, -, -, -, hL⟩ := h
  have hN := pw_le h6
  unfold fX4_within fX5_within
  rcases law_cases hL p0 with ⟨l, hl, rfl, ok, e4, e5⟩ | ⟨e4, e5⟩
  · rcases set_cases h6 p1 S S with ⟨s, hs, rfl, g4, g5⟩ | ⟨g4, g5⟩
    · rcases what_cases p2 with ⟨w4, w5⟩ | ⟨w4, w5⟩
      · obtain ⟨v, hv, hT, hT0, hTm⟩ := ok.nat h6
        obtain ⟨f1, f2⟩ := fit_nat (a := s) (b := 0) h6 (by omega) (by omega) hv
        obtain ⟨r, r4, r5⟩ := frac_eq (U := ns (fun x => bif fitb x s 0 then v x else 0) (2 ^ n)) (L := ns v (2 ^ n)) p2 (by omega) (Or.inl rfl) hT0 (by omega)
        rw [← hT] at r4 r5
        have f3 := ok.sumOf h6 hl (a := s) (b := 0) (by omega) (by omega)
        rw [f1] at f3
        rw [show nI 0 = (0 : Int32) from rfl] at f1 f3
        refine ⟨r, ?_, ?_⟩
        · simp only [e4, g4, w4, bo, mo, gd, decide_eq_true hl, cond_true, f1, r4]
        · simp only [e5, g5, w5, bo, cond_true, f3, ok.sum h6 hl, r5]
      · exact ⟨-1, by simp only [e4, g4, w4, bo, mo, gd, decide_eq_true hl, cond_true, cond_false], by simp only [e5, g5, w5, bo, cond_true, cond_false]⟩
    · exact ⟨-1, by simp only [e4, g4, bo, mo, gd, decide_eq_true hl, cond_true, cond_false], by simp only [e5, g5, bo, cond_true, cond_false]⟩
  · exact ⟨-1, by simp only [e4, bo, mo], by simp only [e5, bo, cond_false]⟩
theorem t_out {n : Nat} {S : St} (h : Rel n S) (p0 p1 p2 : Int32) : ∃ r, fX4_out n p0 p1 p2 S = some r ∧ fX5_out n p0 p1 p2 S = some r := by
  obtain ⟨h2, h6, -, -, -, hL⟩ := h
  have hN := pw_le h6
  unfold fX4_out fX5_out
  rcases law_cases hL p0 with ⟨l, hl, rfl, ok, e4, e5⟩ | ⟨e4, e5⟩
  · rcases set_cases h6 p1 S S with ⟨s, hs, rfl, g4, g5⟩ | ⟨g4, g5⟩
    · rcases what_cases p2 with ⟨w4, w5⟩ | ⟨w4, w5⟩
      · obtain ⟨v, hv, hT, hT0, hTm⟩ := ok.nat h6
        obtain ⟨f1, f2⟩ := fit_nat (a := 0) (b := s) h6 (by omega) (by omega) hv
        obtain ⟨r, r4, r5⟩ := frac_eq (U := ns (fun x => bif fitb x 0 s then v x else 0) (2 ^ n)) (L := ns v (2 ^ n)) p2 (by omega) (Or.inl rfl) hT0 (by omega)
        rw [← hT] at r4 r5
        have f3 := ok.sumOf h6 hl (a := 0) (b := s) (by omega) (by omega)
        rw [f1] at f3
        rw [show nI 0 = (0 : Int32) from rfl] at f1 f3
        refine ⟨r, ?_, ?_⟩
        · simp only [e4, g4, w4, bo, mo, gd, decide_eq_true hl, cond_true, f1, r4]
        · simp only [e5, g5, w5, bo, cond_true, f3, ok.sum h6 hl, r5]
      · exact ⟨-1, by simp only [e4, g4, w4, bo, mo, gd, decide_eq_true hl, cond_true, cond_false], by simp only [e5, g5, w5, bo, cond_true, cond_false]⟩
    · exact ⟨-1, by simp only [e4, g4, bo, mo, gd, decide_eq_true hl, cond_true, cond_false], by simp only [e5, g5, bo, cond_true, cond_false]⟩
  · exact ⟨-1, by simp only [e4, bo, mo], by simp only [e5, bo, cond_false]⟩
theorem t_size {n : Nat} {S : St} (h : Rel n S) (p0 p1 p2 : Int32) : ∃ r, fX4_size n p0 p1 p2 S = some r ∧ fX5_size n p0 p1 p2 S = some r := by
  obtain ⟨h2, h6, -, -, -, hL⟩ := h
  have hN := pw_le h6
  unfold fX4_size fX5_size
  rcases law_cases hL p0 with ⟨l, hl, rfl, ok, e4, e5⟩ | ⟨e4, e5⟩
  · rcases count_cases h6 p1 S with ⟨s, hs, rfl, g4, g5⟩ | ⟨g4, g5⟩
    · rcases what_cases p2 with ⟨w4, w5⟩ | ⟨w4, w5⟩
      · obtain ⟨v, hv, hT, hT0, hTm⟩ := ok.nat h6
        obtain ⟨f1, f2⟩ := size_nat (q := s) h6 (by omega) hv
        obtain ⟨r, r4, r5⟩ := frac_eq (U := ns (fun x => if pop x = s then v x else 0) (2 ^ n)) (L := ns v (2 ^ n)) p2 (by omega) (Or.inl rfl) hT0 (by omega)
        rw [← hT] at r4 r5
        have f3 := ok.ofSize h6 hl (q := s) (by omega)
        rw [f1] at f3
        refine ⟨r, ?_, ?_⟩
        · simp only [e4, g4, w4, bo, mo, gd, decide_eq_true hl, cond_true, f1, r4]
        · simp only [e5, g5, w5, bo, cond_true, f3, ok.sum h6 hl, r5]
      · exact ⟨-1, by simp only [e4, g4, w4, bo, mo, gd, decide_eq_true hl, cond_true, cond_false], by simp only [e5, g5, w5, bo, cond_true, cond_false]⟩
    · exact ⟨-1, by simp only [e4, g4, bo, mo, gd, decide_eq_true hl, cond_true, cond_false], by simp only [e5, g5, bo, cond_true, cond_false]⟩
  · exact ⟨-1, by simp only [e4, bo, mo], by simp only [e5, bo, cond_false]⟩
/-! the mean: by sets, and by sizes -/
theorem sm_add (g h : Nat → Int64) : ∀ N, sm (fun k => g k + h k) N = sm g N + sm h N
  | 0 => rfl
  | N + 1 => by
    rw [sm, sm, sm, sm_add g h N]
    rw [Int64.add_assoc, Int64.add_assoc, ← Int64.add_assoc (sm h N), Int64.add_comm (sm h N) (g N), Int64.add_assoc]
theorem sm_zero (N : Nat) : sm (fun _ => 0) N = 0 := by
  induction N with
  | zero => rfl
  | succ N ih => rw [sm, ih]; rfl
theorem sm_single (w : Nat → Int64) (x : Int64) (q : Nat) : ∀ N, sm (fun k => w k * (if q = k then x else 0)) N = if q < N then w q * x else 0
  | 0 => rfl
  | N + 1 => by
    rw [sm, sm_single w x q N]
    by_cases c : q = N
    · subst c
      rw [if_neg (Nat.lt_irrefl _), if_pos rfl, if_pos (Nat.lt_succ_self _), Int64.zero_add]
    · rw [if_neg c, Int64.mul_zero, Int64.add_zero]
      by_cases d : q < N
      · rw [if_pos d, if_pos (by omega)]
      · rw [if_neg d, if_neg (by omega)]
theorem pop_n : ∀ n, n ≤ 6 → ∀ s, s < 2 ^ n → pop s ≤ n := by decide +kernel
theorem by_sizes {n : Nat} (hn : n ≤ 6) (w : Nat → Int64) (x : Nat → Int64) : ∀ N, N ≤ 2 ^ n → sm (fun k => w k * sm (fun s => if pop s = k then x s else 0) N) (n + 1) = sm (fun s => w (pop s) * x s) N
  | 0, _ => by
    show sm (fun k => w k * 0) (n + 1) = 0
    rw [sm_cong (h := fun _ => 0) (fun k _ => Int64.mul_zero)]
    exact sm_zero _
  | N + 1, h => by
    have ih := by_sizes hn w x N (by omega)
    have hp := pop_n n hn N (by omega)
    rw [show sm (fun s => w (pop s) * x s) (N + 1) = sm (fun s => w (pop s) * x s) N + w (pop N) * x N from rfl, ← ih]
    rw [sm_cong (g := fun k => w k * sm (fun s => if pop s = k then x s else 0) (N + 1)) (h := fun k => w k * sm (fun s => if pop s = k then x s else 0) N + w k * (if pop N = k then x N else 0)) (fun k _ => by rw [sm, Int64.mul_add])]
    rw [sm_add, sm_single w (x N) (pop N) (n + 1), if_pos (by omega)]
theorem mean_loop {n l : Nat} {S : St} {w : Int32} (hn : n ≤ 6) (hl : l < 6) (ok : LawOk n S l) : lX5_mean_1 n (nI l) w S FU (0 : Int64) (0 : Int32) = fX0_sumOfCounts n l S := by
  rw [sumCounts_eq hn, pp_sum (lX5_mean_1 n (nI l) w S) (n + 1) (by omega) (fun k => lN k * sm (fun s => if pop s = k then S.2 (31 + l) s else 0) (2 ^ n))]
  · exact congrArg some (by_sizes hn lN (S.2 (31 + l)) (2 ^ n) (Nat.le_refl _))
  · intro f acc k hk
    show bX5_mean_1 n (nI l) w S (lX5_mean_1 n (nI l) w S f) acc (nI k) = _
    unfold bX5_mean_1
    rw [if_neg (nI_nlt (show k ≤ n by omega) (by omega)), ok.ofSize hn hl (by omega), sumSize_eq hn (by omega), nI_1, toL (by omega)]
    rfl
  · intro f acc
    show bX5_mean_1 n (nI l) w S (lX5_mean_1 n (nI l) w S f) acc (nI (n + 1)) = _
    unfold bX5_mean_1
    rw [if_pos (nI_lt (Nat.lt_succ_self n) (by omega))]
theorem t_mean {n : Nat} {S : St} (h : Rel n S) (p0 p1 : Int32) : ∃ r, fX4_mean n p0 p1 S = some r ∧ fX5_mean n p0 p1 S = some r := by
  obtain ⟨h2, h6, -, -, -, hL⟩ := h
  have hN := pw_le h6
  unfold fX4_mean fX5_mean
  rcases law_cases hL p0 with ⟨l, hl, rfl, ok, e4, e5⟩ | ⟨e4, e5⟩
  · rcases what_cases p1 with ⟨w4, w5⟩ | ⟨w4, w5⟩
    · obtain ⟨v, hv, hT, hT0, hTm⟩ := ok.nat h6
      have f1 : fX0_sumOfCounts n l S = some (lN (ns (fun s => pop s * v s) (2 ^ n))) := by
        rw [sumCounts_eq h6]
        exact congrArg some (smN (fun s hs => by rw [(hv s hs).2, lN_mul]))
      have f2 := ns_le (f := fun s => pop s * v s) (c := 6 * 4000000) (N := 2 ^ n) (fun s hs => Nat.mul_le_mul (pop_le s (by omega)) (hv s hs).1)
      have f3 : 2 ^ n * (6 * 4000000) ≤ 64 * (6 * 4000000) := Nat.mul_le_mul_right _ hN
      obtain ⟨r, r4, r5⟩ := frac_eq (U := ns (fun s => pop s * v s) (2 ^ n)) (L := ns v (2 ^ n)) p1 (by omega) (Or.inl rfl) hT0 (by omega)
      rw [← hT] at r4 r5
      refine ⟨r, ?_, ?_⟩
      · simp only [e4, w4, bo, mo, gd, decide_eq_true hl, cond_true, f1, r4]
      · simp only [e5, w5, bo, cond_true, mean_loop h6 hl ok, f1, ok.sum h6 hl, r5]
    · exact ⟨-1, by simp only [e4, w4, bo, mo, gd, decide_eq_true hl, cond_true, cond_false], by simp only [e5, w5, bo, cond_true, cond_false]⟩
  · exact ⟨-1, by simp only [e4, bo, mo], by simp only [e5, bo, cond_false]⟩
/-! the spread, and two things together -/
theorem pm_sub {A B : Nat} (hA : A < 2 ^ 62) (hB : B < 2 ^ 62) : ∃ U, U < 2 ^ 63 ∧ (lN A - lN B = lN U ∨ lN A - lN B = -(lN U)) := by
  rcases Nat.le_total B A with h | h
  · exact ⟨A - B, by omega, Or.inl (lN_sub h)⟩
  · refine ⟨B - A, by omega, Or.inr ?_⟩
    rw [← lN_sub h, Int64.neg_sub]
theorem spread_loop {n l : Nat} {S : St} {w : Int32} (hn : n ≤ 6) (hl : l < 6) (ok : LawOk n S l) : lX5_spread_1 n (nI l) w S FU (0 : Int64) (0 : Int64) (0 : Int32) = some (sm (fun s => lN (pop s) * S.2 (31 + l) s) (2 ^ n), sm (fun s => lN (pop s) * lN (pop s) * S.2 (31 + l) s) (2 ^ n)) := by
  have key : ∀ d k f, k + d = n + 1 → d < f → lX5_spread_1 n (nI l) w S f (sm (fun k => lN k * sm (fun s => if pop s = k then S.2 (31 + l) s else 0) (2 ^ n)) k) (sm (fun k => lN (k * k) * sm (fun s => if pop s = k then S.2 (31 + l) s else 0) (2 ^ n)) k) (nI k) = some (sm (fun k => lN k * sm (fun s => if pop s = k then S.2 (31 + l) s else 0) (2 ^ n)) (n + 1), sm (fun k => lN (k * k) * sm (fun s => if pop s = k then S.2 (31 + l) s else 0) (2 ^ n)) (n + 1)) := by
    intro d
    induction d with
    | zero =>
      intro k f hk hf
      obtain ⟨f, rfl⟩ : ∃ g, f = g + 1 := ⟨f - 1, by omega⟩
      have : k = n + 1 := by omega
      subst this
      show bX5_spread_1 n (nI l) w S (lX5_spread_1 n (nI l) w S f) _ _ (nI (n + 1)) = _
      unfold bX5_spread_1
      rw [if_pos (nI_lt (Nat.lt_succ_self n) (by omega))]
    | succ d ih =>
      intro k f hk hf
      obtain ⟨f, rfl⟩ : ∃ g, f = g + 1 := ⟨f - 1, by omega⟩
      have ih := ih (k + 1) f (by omega) (by omega)
      show bX5_spread_1 n (nI l) w S (lX5_spread_1 n (nI l) w S f) _ _ (nI k) = _
      unfold bX5_spread_1
      have hkk : k * k ≤ 6 * 6 := Nat.mul_le_mul (by omega) (by omega)
      rw [if_neg (nI_nlt (show k ≤ n by omega) (by omega)), ok.ofSize hn hl (by omega), sumSize_eq hn (by omega), nI_1, pk_mul, toL (by omega), toL (by omega)]
      exact ih
  have h0 := key (n + 1) 0 FU (by omega) (by show n + 1 < 1000; omega)
  rw [by_sizes hn lN (S.2 (31 + l)) (2 ^ n) (Nat.le_refl _), by_sizes hn (fun k => lN (k * k)) (S.2 (31 + l)) (2 ^ n) (Nat.le_refl _)] at h0
  rw [sm_cong (g := fun s => lN (pop s) * lN (pop s) * S.2 (31 + l) s) (h := fun s => lN (pop s * pop s) * S.2 (31 + l) s) (fun k _ => by rw [lN_mul])]
  exact h0
theorem t_spread {n : Nat} {S : St} (h : Rel n S) (p0 p1 : Int32) : ∃ r, fX4_spread n p0 p1 S = some r ∧ fX5_spread n p0 p1 S = some r := by
  obtain ⟨h2, h6, -, -, -, hL⟩ := h
  have hN := pw_le h6
  unfold fX4_spread fX5_spread
  rcases law_cases hL p0 with ⟨l, hl, rfl, ok, e4, e5⟩ | ⟨e4, e5⟩
  · rcases what_cases p1 with ⟨w4, w5⟩ | ⟨w4, w5⟩
    · obtain ⟨v, hv, hT, hT0, hTm⟩ := ok.nat h6
      have a1 : sm (fun s => lN (pop s) * S.2 (31 + l) s) (2 ^ n) = lN (ns (fun s => pop s * v s) (2 ^ n)) := smN (fun s hs => by rw [(hv s hs).2, lN_mul])
      have a2 : sm (fun s => lN (pop s) * lN (pop s) * S.2 (31 + l) s) (2 ^ n) = lN (ns (fun s => pop s * pop s * v s) (2 ^ n)) := smN (fun s hs => by rw [(hv s hs).2, lN_mul, lN_mul])
      have f2 := ns_le (f := fun s => pop s * v s) (c := 6 * 4000000) (N := 2 ^ n) (fun s hs => Nat.mul_le_mul (pop_le s (by omega)) (hv s hs).1)
      have f3 : 2 ^ n * (6 * 4000000) ≤ 64 * (6 * 4000000) := Nat.mul_le_mul_right _ hN
      have f4 := ns_le (f := fun s => pop s * pop s * v s) (c := 36 * 4000000) (N := 2 ^ n) (fun s hs => Nat.mul_le_mul (Nat.mul_le_mul (pop_le s (by omega)) (pop_le s (by omega))) (hv s hs).1)
      have f5 : 2 ^ n * (36 * 4000000) ≤ 64 * (36 * 4000000) := Nat.mul_le_mul_right _ hN
      have b1 : ns (fun s => pop s * pop s * v s) (2 ^ n) * ns v (2 ^ n) ≤ (64 * (36 * 4000000)) * 256000000 := Nat.mul_le_mul (Nat.le_trans f4 f5) hTm
      have b2 : ns (fun s => pop s * v s) (2 ^ n) * ns (fun s => pop s * v s) (2 ^ n) ≤ (64 * (6 * 4000000)) * (64 * (6 * 4000000)) := Nat.mul_le_mul (Nat.le_trans f2 f3) (Nat.le_trans f2 f3)
      have b3 : ns v (2 ^ n) * ns v (2 ^ n) ≤ 256000000 * 256000000 := Nat.mul_le_mul hTm hTm
      obtain ⟨U, hU, hpm⟩ := pm_sub (A := ns (fun s => pop s * pop s * v s) (2 ^ n) * ns v (2 ^ n)) (B := ns (fun s => pop s * v s) (2 ^ n) * ns (fun s => pop s * v s) (2 ^ n)) (by omega) (by omega)
      obtain ⟨r, r4, r5⟩ := frac_eq (U := U) (L := ns v (2 ^ n) * ns v (2 ^ n)) p1 hU hpm (Nat.mul_pos hT0 hT0) (by omega)
      rw [← lN_mul, ← lN_mul, ← lN_mul, ← hT] at r4 r5
      refine ⟨r, ?_, ?_⟩
      · simp only [e4, w4, bo, mo, gd, decide_eq_true hl, cond_true, sumCounts_eq h6, sumSquares_eq h6, a1, a2, r4]
      · simp only [e5, w5, bo, cond_true, spread_loop h6 hl ok, a1, a2, ok.sum h6 hl, r5]
    · exact ⟨-1, by simp only [e4, w4, bo, mo, gd, decide_eq_true hl, cond_true, cond_false], by simp only [e5, w5, bo, cond_true, cond_false]⟩
  · exact ⟨-1, by simp only [e4, bo, mo], by simp only [e5, bo, cond_false]⟩
/-- both programs' number for two things, and its size -/
theorem apart_eq {n l i j : Nat} {S : St} (hn : n ≤ 6) (hl : l < 6) (hi : i < n) (hj : j < n) (ok : LawOk n S l) : ∃ (a : Int64) (U : Nat), U < 2 ^ 63 ∧ (a = lN U ∨ a = -(lN U)) ∧ fX0_apartness n l ((1 : Int32) <<< (nI i &&& 31)) ((1 : Int32) <<< (nI j &&& 31)) S = some a ∧ fX5_shunning n (nI l) (nI i) (nI j) S = some a := by
  obtain ⟨v, hv, hT, hT0, hTm⟩ := ok.nat hn
  have p1 : 2 ^ i < 64 := Nat.lt_of_lt_of_le (Nat.pow_lt_pow_right (by decide) (show i < 6 by omega)) (by decide)
  have p2 : 2 ^ j < 64 := Nat.lt_of_lt_of_le (Nat.pow_lt_pow_right (by decide) (show j < 6 by omega)) (by decide)
  have p3 : 2 ^ i ||| 2 ^ j < 64 := Nat.or_lt_two_pow (n := 6) p1 p2
  unfold fX0_apartness fX5_shunning
  rw [shl_eq i (by omega), shl_eq j (by omega), nI_or, show (0 : Int32) = nI 0 from rfl]
  rw [ok.sumOf hn hl p1 (by decide), ok.sumOf hn hl p2 (by decide), ok.sumOf hn hl p3 (by decide), ok.sum hn hl]
  obtain ⟨x1, y1⟩ := fit_nat (a := 2 ^ i) (b := 0) hn p1 (by decide) hv
  obtain ⟨x2, y2⟩ := fit_nat (a := 2 ^ j) (b := 0) hn p2 (by decide) hv
  obtain ⟨x3, y3⟩ := fit_nat (a := 2 ^ i ||| 2 ^ j) (b := 0) hn p3 (by decide) hv
  rw [x1, x2, x3, hT]
  have b1 := Nat.mul_le_mul y1 y2
  have b2 := Nat.mul_le_mul y3 hTm
  obtain ⟨U, hU, hpm⟩ := pm_sub (A := ns (fun s => bif fitb s (2 ^ i) 0 then v s else 0) (2 ^ n) * ns (fun s => bif fitb s (2 ^ j) 0 then v s else 0) (2 ^ n)) (B := ns (fun s => bif fitb s (2 ^ i ||| 2 ^ j) 0 then v s else 0) (2 ^ n) * ns v (2 ^ n)) (by omega) (by omega)
  rw [← lN_mul, ← lN_mul] at hpm
  exact ⟨_, U, hU, hpm, rfl, rfl⟩
theorem t_both {n : Nat} {S : St} (h : Rel n S) (p0 p1 p2 p3 : Int32) : ∃ r, fX4_both n p0 p1 p2 p3 S = some r ∧ fX5_both n p0 p1 p2 p3 S = some r := by
  obtain ⟨h2, h6, -, -, -, hL⟩ := h
  unfold fX4_both fX5_both
  rcases law_cases hL p0 with ⟨l, hl, rfl, ok, e4, e5⟩ | ⟨e4, e5⟩
  · rcases thing_cases h2 h6 p1 S S with ⟨i, hi, rfl, g4, g5⟩ | ⟨g4, g5⟩
    · rcases thing_cases h2 h6 p2 S S with ⟨j, hj, rfl, k4, k5⟩ | ⟨k4, k5⟩
      · by_cases c : nI i = nI j
        · exact ⟨0, by simp only [e4, g4, k4, bo, mo, gd, decide_eq_true hl, cond_true, c, if_true], by simp only [e5, g5, k5, bo, cond_true, c, if_true]⟩
        · rcases what_cases p3 with ⟨w4, w5⟩ | ⟨w4, w5⟩
          · obtain ⟨v, hv, hT, hT0, hTm⟩ := ok.nat h6
            obtain ⟨a, U, hU, hpm, q4, q5⟩ := apart_eq h6 hl hi hj ok
            have b3 : ns v (2 ^ n) * ns v (2 ^ n) ≤ 256000000 * 256000000 := Nat.mul_le_mul hTm hTm
            obtain ⟨r, r4, r5⟩ := frac_eq (U := U) (L := ns v (2 ^ n) * ns v (2 ^ n)) p3 hU hpm (Nat.mul_pos hT0 hT0) (by omega)
            rw [← lN_mul, ← hT] at r4 r5
            exact ⟨r, by simp only [e4, g4, k4, w4, bo, mo, gd, decide_eq_true hl, cond_true, c, if_false, q4, r4], by simp only [e5, g5, k5, w5, bo, cond_true, c, if_false, q5, ok.sum h6 hl, r5]⟩
          · exact ⟨0, by simp only [e4, g4, k4, w4, bo, mo, gd, decide_eq_true hl, cond_true, cond_false, c, if_false], by simp only [e5, g5, k5, w5, bo, cond_true, cond_false, c, if_false]⟩
      · exact ⟨0, by simp only [e4, g4, k4, bo, mo, gd, decide_eq_true hl, cond_true, cond_false], by simp only [e5, g5, k5, bo, cond_true, cond_false]⟩
    · exact ⟨0, by simp only [e4, g4, bo, mo, gd, decide_eq_true hl, cond_true, cond_false], by simp only [e5, g5, bo, cond_true, cond_false]⟩
  · exact ⟨0, by simp only [e4, bo, mo], by simp only [e5, bo, cond_false]⟩
