/-! ===== part, other, mix ===== -/
theorem lN_zero : lN 0 = (0 : Int64) := rfl
theorem t_part {n : Nat} {S : St} (h : Rel n S) (p0 p1 p2 : Int32) : ∃ r S1 S2, fX4_part n p0 p1 p2 S = some (r, S1) ∧ fX5_part n p0 p1 p2 S1 = some (r, S2) ∧ Rel n S2 := by
  have hR := h
  obtain ⟨h2, h6, hT, hE, hH, hL⟩ := h
  have hN := pw_le h6
  unfold fX4_part fX5_part fX5_canBe
  rcases law_cases hL p0 with ⟨l, hl, rfl, ok, e4, e5⟩ | ⟨e4, e5⟩
  · rcases set_cases h6 p1 S S with ⟨a, ha, rfl, g4, g5⟩ | ⟨g4, g5⟩
    · rcases place_cases p2 with ⟨m, hm, rfl, w4, w5⟩ | ⟨w4, w5⟩
      · obtain ⟨v, hv, -, -, -⟩ := ok.nat h6
        obtain ⟨Sz, ez, z1, z2, z3⟩ := pp_fill (lX4_part_1 n (nI a) (nI m) l) (2 ^ n) 0 (by omega) (Nat.zero_le _) (fun k X => (∀ q, q ≠ 5 → X.2 q = S.2 q) ∧ X.1 = S.1 ∧ ∀ s, s < k → X.2 5 s = 0)
          (by
            intro f k X hk ⟨x1, x2, x3⟩
            refine ⟨sJ X 5 k 0, ?_, fun q hq => by rw [sJ_r hq]; exact x1 q hq, x2, fun s hs => ?_⟩
            · show bX4_part_1 n (nI a) (nI m) l (lX4_part_1 n (nI a) (nI m) l f) (nI k) X = _
              unfold bX4_part_1
              rw [if_neg (nI_ge hk (by omega)), inb_nI hk (by omega), cl_nI (by omega), nI_1]
              rfl
            · by_cases c : s = k
              · subst c; exact sJ_at
              · rw [sJ_k c]; exact x3 s (by omega))
          (by
            intro f X
            show bX4_part_1 n (nI a) (nI m) l (lX4_part_1 n (nI a) (nI m) l f) (nI (2 ^ n)) X = _
            unfold bX4_part_1
            rw [if_pos (nI_le (Nat.le_refl _) (by omega))])
          S ⟨fun _ _ => rfl, rfl, fun s hs => absurd hs (Nat.not_lt_zero s)⟩
        obtain ⟨Sa, ea, a1, a2, a3⟩ := pp_fill (lX4_part_2 n (nI a) (nI m) l) (2 ^ n) 0 (by omega) (Nat.zero_le _) (fun k X => (∀ q, q ≠ 5 → X.2 q = S.2 q) ∧ X.1 = S.1 ∧ ∀ t, t < 2 ^ n → X.2 5 t = lN (ns (fun s => if s &&& a = t then v s else 0) k))
          (by
            intro f k X hk ⟨x1, x2, x3⟩
            have hka : k &&& a < 2 ^ n := and_ltN hk
            refine ⟨sJ X 5 (k &&& a) (X.2 5 (k &&& a) + lN (v k)), ?_, fun q hq => by rw [sJ_r hq]; exact x1 q hq, x2, fun t ht => ?_⟩
            · show bX4_part_2 n (nI a) (nI m) l (lX4_part_2 n (nI a) (nI m) l f) (nI k) X = _
              unfold bX4_part_2
              rw [if_neg (nI_ge hk (by omega)), nI_and, inb_nI hk (by omega), inb_nI hka (by omega), cl_nI (by omega), cl_nI (by omega), nI_1, x1 (31 + l) (by omega), (hv k hk).2]
              rfl
            · rw [ns]
              by_cases c : t = k &&& a
              · subst c
                rw [sJ_at, x3 _ ht, if_pos rfl, lN_add]
              · rw [sJ_k c, x3 t ht, if_neg (fun q => c q.symm), Nat.add_zero])
          (by
            intro f X
            show bX4_part_2 n (nI a) (nI m) l (lX4_part_2 n (nI a) (nI m) l f) (nI (2 ^ n)) X = _
            unfold bX4_part_2
            rw [if_pos (nI_le (Nat.le_refl _) (by omega))])
          Sz ⟨z1, z2, fun t ht => by rw [z3 t ht]; rfl⟩
        have fA : fr4 S Sa := ⟨fun q z _ _ => a1 q z, fun _ _ => by rw [a2]⟩
        have hbd : ∀ t, ns (fun s => if s &&& a = t then v s else 0) (2 ^ n) < 2 ^ 63 := by
          intro t
          have := ns_le (f := fun s => if s &&& a = t then v s else 0) (c := 4000000) (N := 2 ^ n) (fun s hs => by
            by_cases c : s &&& a = t
            · rw [if_pos c]; exact (hv s hs).1
            · rw [if_neg c]; exact Nat.zero_le _)
          have h5 : 2 ^ n * 4000000 ≤ 64 * 4000000 := Nat.mul_le_mul_right _ hN
          omega
        obtain ⟨r, S1, q4, q37, qb⟩ := commit_rel (d := fun t => ns (fun s => if s &&& a = t then v s else 0) (2 ^ n)) (hR.fr4 fA) hm (fun t ht => ⟨a3 t ht, hbd t⟩)
        obtain ⟨Sc, c1, c2, c3, c4⟩ := clear_eq (n := n) (S := S1)
        obtain ⟨X, e, x1, x2, x3⟩ := pp_fill (lX5_part_1 n (nI l) (nI a) (nI m)) (2 ^ n) 0 (by omega) (Nat.zero_le _) (fun k X => (∀ q, q ≠ 41 → X.2 q = S1.2 q) ∧ X.1 = S1.1 ∧ ∀ t, t < 2 ^ n → X.2 41 t = lN (ns (fun s => if s &&& a = t then v s else 0) k))
          (by
            intro f k X hk ⟨x1, x2, x3⟩
            have hka : k &&& a < 2 ^ n := and_ltN hk
            have hval : X.2 40 (64 * l + k) = lN (v k) := by
              rw [x1 40 (by omega), (q37 40 (by omega)).1, a1 40 (by omega), ← (ok.1 k hk).1, (hv k hk).2]
            refine ⟨sJ X 41 (k &&& a) (X.2 41 (k &&& a) + lN (v k)), ?_, fun q hq => by rw [sJ_r hq]; exact x1 q hq, x2, fun t ht => ?_⟩
            · show bX5_part_1 n (nI l) (nI a) (nI m) (lX5_part_1 n (nI l) (nI a) (nI m) f) (nI k) X = _
              unfold bX5_part_1
              rw [if_neg (nI_ge hk (by omega)), nI_and, ix64, (law_ix hl hk hN).1, (law_ix hl hk hN).2, inb_nI (show k &&& a < 64 by omega) (by omega), cl_nI (show k &&& a < 1000 by omega), nI_1, hval]
              rfl
            · rw [ns]
              by_cases c : t = k &&& a
              · subst c
                rw [sJ_at, x3 _ ht, if_pos rfl, lN_add]
              · rw [sJ_k c, x3 t ht, if_neg (fun q => c q.symm), Nat.add_zero])
          (by
            intro f X
            show bX5_part_1 n (nI l) (nI a) (nI m) (lX5_part_1 n (nI l) (nI a) (nI m) f) (nI (2 ^ n)) X = _
            unfold bX5_part_1
            rw [if_pos (nI_le (Nat.le_refl _) (by omega))])
          Sc ⟨c2, c3, fun t ht => by rw [c4 t (by omega)]; rfl⟩
        obtain ⟨S2, m5, hS2⟩ := qb X ⟨fun q _ z => x1 q z, fun q _ _ => by rw [x2]⟩ x3
        rw [show nI 0 = (0 : Int32) from rfl] at e ea ez
        refine ⟨r, S1, S2, ?_, ?_, hS2⟩
        · simp only [e4, g4, w4, bo, bw, mo, gd, decide_eq_true hl, cond_true, ez, ea, q4]
        · have i5 : fX5_isLaw n (nI l) S1 = some true := (isLaw_cong ((q37 43 (by omega)).2.trans (by rw [a2]))).trans e5
          have g5' : ∀ S', fX5_isSet n (nI a) S' = some true := fun _ => g5
          simp only [i5, g5', w5, bo, bw, cond_true, c1, e, m5]
      · exact ⟨false, S, S, by simp only [e4, g4, w4, bo, mo, gd, decide_eq_true hl, cond_true, cond_false], by simp only [e5, g5, w5, bo, cond_true, cond_false], hR⟩
    · exact ⟨false, S, S, by simp only [e4, g4, bo, mo, gd, decide_eq_true hl, cond_true, cond_false], by simp only [e5, g5, bo, cond_true, cond_false], hR⟩
  · exact ⟨false, S, S, by simp only [e4, bo, mo], by simp only [e5, bo, cond_false], hR⟩
theorem xor_inv (t a : Nat) : (t ^^^ a) ^^^ a = t := by rw [Nat.xor_assoc, Nat.xor_self, Nat.xor_zero]
theorem t_other {n : Nat} {S : St} (h : Rel n S) (p0 p1 p2 : Int32) : ∃ r S1 S2, fX4_other n p0 p1 p2 S = some (r, S1) ∧ fX5_other n p0 p1 p2 S1 = some (r, S2) ∧ Rel n S2 := by
  have hR := h
  obtain ⟨h2, h6, hT, hE, hH, hL⟩ := h
  have hN := pw_le h6
  unfold fX4_other fX5_other fX5_canBe
  rcases law_cases hL p0 with ⟨l, hl, rfl, ok, e4, e5⟩ | ⟨e4, e5⟩
  · rcases set_cases h6 p1 S S with ⟨a, ha, rfl, g4, g5⟩ | ⟨g4, g5⟩
    · rcases place_cases p2 with ⟨m, hm, rfl, w4, w5⟩ | ⟨w4, w5⟩
      · obtain ⟨v, hv, -, -, -⟩ := ok.nat h6
        obtain ⟨Sa, ea, a1, a2, a3⟩ := pp_fill (lX4_other_1 n (nI a) (nI m) l) (2 ^ n) 0 (by omega) (Nat.zero_le _) (fun k X => (∀ q, q ≠ 5 → X.2 q = S.2 q) ∧ X.1 = S.1 ∧ ∀ t, t < 2 ^ n → t ^^^ a < k → X.2 5 t = lN (v (t ^^^ a)))
          (by
            intro f k X hk ⟨x1, x2, x3⟩
            have hka : k ^^^ a < 2 ^ n := Nat.xor_lt_two_pow hk ha
            refine ⟨sJ X 5 (k ^^^ a) (lN (v k)), ?_, fun q hq => by rw [sJ_r hq]; exact x1 q hq, x2, fun t ht hta => ?_⟩
            · show bX4_other_1 n (nI a) (nI m) l (lX4_other_1 n (nI a) (nI m) l f) (nI k) X = _
              unfold bX4_other_1
              rw [if_neg (nI_ge hk (by omega)), nI_xor, inb_nI hk (by omega), inb_nI hka (by omega), cl_nI (by omega), cl_nI (by omega), nI_1, x1 (31 + l) (by omega), (hv k hk).2]
              rfl
            · by_cases c : t = k ^^^ a
              · rw [c, sJ_at, xor_inv]
              · rw [sJ_k c]
                refine x3 t ht ?_
                have : t ^^^ a ≠ k := fun q => c (by rw [← q, xor_inv])
                omega)
          (by
            intro f X
            show bX4_other_1 n (nI a) (nI m) l (lX4_other_1 n (nI a) (nI m) l f) (nI (2 ^ n)) X = _
            unfold bX4_other_1
            rw [if_pos (nI_le (Nat.le_refl _) (by omega))])
          S ⟨fun _ _ => rfl, rfl, fun t _ hs => absurd hs (Nat.not_lt_zero _)⟩
        have fA : fr4 S Sa := ⟨fun q z _ _ => a1 q z, fun _ _ => by rw [a2]⟩
        have hx : ∀ t, t < 2 ^ n → t ^^^ a < 2 ^ n := fun t ht => Nat.xor_lt_two_pow ht ha
        obtain ⟨r, S1, q4, q37, qb⟩ := commit_rel (d := fun t => v (t ^^^ a)) (hR.fr4 fA) hm (fun t ht => ⟨a3 t ht (hx t ht), by have := (hv _ (hx t ht)).1; show v (t ^^^ a) < 2 ^ 63; omega⟩)
        obtain ⟨Sc, c1, c2, c3, c4⟩ := clear_eq (n := n) (S := S1)
        obtain ⟨X, e, x1, x2, x3⟩ := pp_fill (lX5_other_1 n (nI l) (nI a) (nI m)) (2 ^ n) 0 (by omega) (Nat.zero_le _) (fun k X => (∀ q, q ≠ 41 → X.2 q = S1.2 q) ∧ X.1 = S1.1 ∧ ∀ t, t < 2 ^ n → t ^^^ a < k → X.2 41 t = lN (v (t ^^^ a)))
          (by
            intro f k X hk ⟨x1, x2, x3⟩
            have hka : k ^^^ a < 2 ^ n := Nat.xor_lt_two_pow hk ha
            have hval : X.2 40 (64 * l + k) = lN (v k) := by
              rw [x1 40 (by omega), (q37 40 (by omega)).1, a1 40 (by omega), ← (ok.1 k hk).1, (hv k hk).2]
            refine ⟨sJ X 41 (k ^^^ a) (lN (v k)), ?_, fun q hq => by rw [sJ_r hq]; exact x1 q hq, x2, fun t ht hta => ?_⟩
            · show bX5_other_1 n (nI l) (nI a) (nI m) (lX5_other_1 n (nI l) (nI a) (nI m) f) (nI k) X = _
              unfold bX5_other_1
              rw [if_neg (nI_ge hk (by omega)), nI_xor, ix64, (law_ix hl hk hN).1, (law_ix hl hk hN).2, inb_nI (show k ^^^ a < 64 by omega) (by omega), cl_nI (show k ^^^ a < 1000 by omega), nI_1, hval]
              rfl
            · by_cases c : t = k ^^^ a
              · rw [c, sJ_at, xor_inv]
              · rw [sJ_k c]
                refine x3 t ht ?_
                have : t ^^^ a ≠ k := fun q => c (by rw [← q, xor_inv])
                omega)
          (by
            intro f X
            show bX5_other_1 n (nI l) (nI a) (nI m) (lX5_other_1 n (nI l) (nI a) (nI m) f) (nI (2 ^ n)) X = _
            unfold bX5_other_1
            rw [if_pos (nI_le (Nat.le_refl _) (by omega))])
          Sc ⟨c2, c3, fun t _ hs => absurd hs (Nat.not_lt_zero _)⟩
        obtain ⟨S2, m5, hS2⟩ := qb X ⟨fun q _ z => x1 q z, fun q _ _ => by rw [x2]⟩ (fun t ht => x3 t ht (hx t ht))
        rw [show nI 0 = (0 : Int32) from rfl] at e ea
        refine ⟨r, S1, S2, ?_, ?_, hS2⟩
        · simp only [e4, g4, w4, bo, bw, mo, gd, decide_eq_true hl, cond_true, ea, q4]
        · have i5 : fX5_isLaw n (nI l) S1 = some true := (isLaw_cong ((q37 43 (by omega)).2.trans (by rw [a2]))).trans e5
          have g5' : ∀ S', fX5_isSet n (nI a) S' = some true := fun _ => g5
          simp only [i5, g5', w5, bo, bw, cond_true, c1, e, m5]
      · exact ⟨false, S, S, by simp only [e4, g4, w4, bo, mo, gd, decide_eq_true hl, cond_true, cond_false], by simp only [e5, g5, w5, bo, cond_true, cond_false], hR⟩
    · exact ⟨false, S, S, by simp only [e4, g4, bo, mo, gd, decide_eq_true hl, cond_true, cond_false], by simp only [e5, g5, bo, cond_true, cond_false], hR⟩
  · exact ⟨false, S, S, by simp only [e4, bo, mo], by simp only [e5, bo, cond_false], hR⟩
theorem sum_cong {n : Nat} {S S' : St} {p : Int32} (h : S'.2 40 = S.2 40) : fX5_sum n p S' = fX5_sum n p S := by
  have hl : ∀ f acc i, lX5_sum_1 n p S' f acc i = lX5_sum_1 n p S f acc i := by
    intro f
    induction f with
    | zero => intro acc i; rfl
    | succ f ih =>
      intro acc i
      show bX5_sum_1 n p S' (lX5_sum_1 n p S' f) acc i = bX5_sum_1 n p S (lX5_sum_1 n p S f) acc i
      unfold bX5_sum_1
      rw [h, ih]
  unfold fX5_sum
  rw [hl]
theorem t_mix {n : Nat} {S : St} (h : Rel n S) (p0 p1 p2 p3 p4 : Int32) : ∃ r S1 S2, fX4_mix n p0 p1 p2 p3 p4 S = some (r, S1) ∧ fX5_mix n p0 p1 p2 p3 p4 S1 = some (r, S2) ∧ Rel n S2 := by
  have hR := h
  obtain ⟨h2, h6, hT, hE, hH, hL⟩ := h
  have hN := pw_le h6
  unfold fX4_mix fX5_mix
  rcases law_cases hL p0 with ⟨l, hl, rfl, ok, e4, e5⟩ | ⟨e4, e5⟩
  · rcases law_cases hL p1 with ⟨k, hk, rfl, ok2, g4, g5⟩ | ⟨g4, g5⟩
    · rcases am_cases p2 1 9 (by decide) (by decide) with ⟨a, a1', a9, rfl, am4, am5⟩ | ⟨am4, am5⟩
      · rcases am_cases p3 1 9 (by decide) (by decide) with ⟨b, b1', b9, rfl, bm4, bm5⟩ | ⟨bm4, bm5⟩
        · rw [show nI 1 = (1 : Int32) from rfl, show nI 9 = (9 : Int32) from rfl] at am4 am5 bm4 bm5
          rcases place_cases p4 with ⟨m, hm, rfl, w4, w5⟩ | ⟨w4, w5⟩
          · obtain ⟨v, hv, hvT, -, hvm⟩ := ok.nat h6
            obtain ⟨u, hu, huT, -, hum⟩ := ok2.nat h6
            generalize hTl : ns v (2 ^ n) = Tl at hvT hvm
            generalize hTk : ns u (2 ^ n) = Tk at huT hum
            have hbd : ∀ s, s < 2 ^ n → v s * (a * Tk) + u s * (b * Tl) < 2 ^ 63 := by
              intro s hs
              have q1 : v s * (a * Tk) ≤ 4000000 * (9 * 256000000) := Nat.mul_le_mul (hv s hs).1 (Nat.mul_le_mul a9 hum)
              have q2 : u s * (b * Tl) ≤ 4000000 * (9 * 256000000) := Nat.mul_le_mul (hu s hs).1 (Nat.mul_le_mul b9 hvm)
              omega
            have eta : Int32.toInt64 (nI a) * S.2 (25 + k) 0 = lN (a * Tk) := by rw [toL (by omega), huT, lN_mul]
            have etb : Int32.toInt64 (nI b) * S.2 (25 + l) 0 = lN (b * Tl) := by rw [toL (by omega), hvT, lN_mul]
            obtain ⟨Sa, ea, a1, a2, a3⟩ := pp_fill (lX4_mix_1 n (nI m) l k (lN (a * Tk)) (lN (b * Tl))) (2 ^ n) 0 (by omega) (Nat.zero_le _) (fun j X => (∀ q, q ≠ 5 → X.2 q = S.2 q) ∧ X.1 = S.1 ∧ ∀ s, s < j → X.2 5 s = lN (v s * (a * Tk) + u s * (b * Tl)))
              (by
                intro f j X hj ⟨x1, x2, x3⟩
                refine ⟨sJ X 5 j (lN (v j * (a * Tk) + u j * (b * Tl))), ?_, fun q hq => by rw [sJ_r hq]; exact x1 q hq, x2, fun s hs => ?_⟩
                · show bX4_mix_1 n (nI m) l k (lN (a * Tk)) (lN (b * Tl)) (lX4_mix_1 n (nI m) l k (lN (a * Tk)) (lN (b * Tl)) f) (nI j) X = _
                  unfold bX4_mix_1
                  rw [if_neg (nI_ge hj (by omega)), inb_nI hj (by omega), cl_nI (by omega), nI_1, x1 (31 + l) (by omega), x1 (31 + k) (by omega), (hv j hj).2, (hu j hj).2, lN_mul, lN_mul, lN_add]
                  rfl
                · by_cases c : s = j
                  · subst c; exact sJ_at
                  · rw [sJ_k c]; exact x3 s (by omega))
              (by
                intro f X
                show bX4_mix_1 n (nI m) l k (lN (a * Tk)) (lN (b * Tl)) (lX4_mix_1 n (nI m) l k (lN (a * Tk)) (lN (b * Tl)) f) (nI (2 ^ n)) X = _
                unfold bX4_mix_1
                rw [if_pos (nI_le (Nat.le_refl _) (by omega))])
              S ⟨fun _ _ => rfl, rfl, fun s hs => absurd hs (Nat.not_lt_zero s)⟩
            have fA : fr4 S Sa := ⟨fun q z _ _ => a1 q z, fun _ _ => by rw [a2]⟩
            obtain ⟨r, S1, q4, q37, qb⟩ := commit_rel (d := fun s => v s * (a * Tk) + u s * (b * Tl)) (hR.fr4 fA) hm (fun s hs => ⟨a3 s hs, hbd s hs⟩)
            obtain ⟨Sc, c1, c2, c3, c4⟩ := clear_eq (n := n) (S := S1)
            obtain ⟨X, e, x1, x2, x3⟩ := pp_fill (lX5_mix_1 n (nI l) (nI k) (nI a) (nI b) (nI m)) (2 ^ n) 0 (by omega) (Nat.zero_le _) (fun j X => (∀ q, q ≠ 41 → X.2 q = S1.2 q) ∧ X.1 = S1.1 ∧ ∀ s, s < j → X.2 41 s = lN (v s * (a * Tk) + u s * (b * Tl)))
              (by
                intro f j X hj ⟨x1, x2, x3⟩
                have h40 : X.2 40 = S.2 40 := by rw [x1 40 (by omega), (q37 40 (by omega)).1, a1 40 (by omega)]
                have hval : X.2 40 (64 * l + j) = lN (v j) := by rw [h40, ← (ok.1 j hj).1, (hv j hj).2]
                have hval2 : X.2 40 (64 * k + j) = lN (u j) := by rw [h40, ← (ok2.1 j hj).1, (hu j hj).2]
                refine ⟨sJ X 41 j (lN (v j * (a * Tk) + u j * (b * Tl))), ?_, fun q hq => by rw [sJ_r hq]; exact x1 q hq, x2, fun s hs => ?_⟩
                · show bX5_mix_1 n (nI l) (nI k) (nI a) (nI b) (nI m) (lX5_mix_1 n (nI l) (nI k) (nI a) (nI b) (nI m) f) (nI j) X = _
                  unfold bX5_mix_1
                  rw [if_neg (nI_ge hj (by omega)), ix64, ix64, (law_ix hl hj hN).1, (law_ix hl hj hN).2, (law_ix hk hj hN).1, (law_ix hk hj hN).2, sum_cong h40, sum_cong h40, ok.sum h6 hl, ok2.sum h6 hk, hvT, huT, inb_nI (show j < 64 by omega) (by omega), cl_nI (show j < 1000 by omega), nI_1, hval, hval2, toL (show a < 1000 by omega), toL (show b < 1000 by omega)]
                  show lX5_mix_1 n (nI l) (nI k) (nI a) (nI b) (nI m) f (nI (j + 1)) (sJ X 41 j (lN (v j) * lN a * lN Tk + lN (u j) * lN b * lN Tl)) = _
                  rw [lN_mul, lN_mul, lN_mul, lN_mul, lN_add, Nat.mul_assoc, Nat.mul_assoc]
                · by_cases c : s = j
                  · subst c; exact sJ_at
                  · rw [sJ_k c]; exact x3 s (by omega))
              (by
                intro f X
                show bX5_mix_1 n (nI l) (nI k) (nI a) (nI b) (nI m) (lX5_mix_1 n (nI l) (nI k) (nI a) (nI b) (nI m) f) (nI (2 ^ n)) X = _
                unfold bX5_mix_1
                rw [if_pos (nI_le (Nat.le_refl _) (by omega))])
              Sc ⟨c2, c3, fun s hs => absurd hs (Nat.not_lt_zero s)⟩
            obtain ⟨S2, m5, hS2⟩ := qb X ⟨fun q _ z => x1 q z, fun q _ _ => by rw [x2]⟩ x3
            rw [show nI 0 = (0 : Int32) from rfl] at e ea
            refine ⟨r, S1, S2, ?_, ?_, hS2⟩
            · simp only [e4, g4, w4, am4, bm4, bo, bw, mo, gd, decide_eq_true hl, decide_eq_true hk, cond_true, eta, etb, ea, q4]
            · have e43 : S1.1 43 = S.1 43 := (q37 43 (by omega)).2.trans (by rw [a2])
              have i5 : fX5_isLaw n (nI l) S1 = some true := (isLaw_cong e43).trans e5
              have i6 : fX5_isLaw n (nI k) S1 = some true := (isLaw_cong e43).trans g5
              simp only [i5, i6, w5, am5, bm5, bo, bw, cond_true, c1, e, m5]
          · exact ⟨false, S, S, by simp only [e4, g4, w4, bo, mo, gd, decide_eq_true hl, decide_eq_true hk, cond_true, cond_false], by simp only [e5, g5, am5, bm5, w5, bo, cond_true, cond_false], hR⟩
        · rw [show nI 1 = (1 : Int32) from rfl, show nI 9 = (9 : Int32) from rfl] at am4 am5 bm4 bm5
          rcases place_cases p4 with ⟨m, hm, rfl, w4, w5⟩ | ⟨w4, w5⟩
          · exact ⟨false, S, S, by simp only [e4, g4, w4, am4, bm4, bo, mo, gd, decide_eq_true hl, decide_eq_true hk, cond_true, cond_false], by simp only [e5, g5, am5, bm5, bo, cond_true, cond_false], hR⟩
          · exact ⟨false, S, S, by simp only [e4, g4, w4, bo, mo, gd, decide_eq_true hl, decide_eq_true hk, cond_true, cond_false], by simp only [e5, g5, am5, bm5, bo, cond_true, cond_false], hR⟩
      · rw [show nI 1 = (1 : Int32) from rfl, show nI 9 = (9 : Int32) from rfl] at am4 am5
        rcases place_cases p4 with ⟨m, hm, rfl, w4, w5⟩ | ⟨w4, w5⟩
        · exact ⟨false, S, S, by simp only [e4, g4, w4, am4, bo, mo, gd, decide_eq_true hl, decide_eq_true hk, cond_true, cond_false], by simp only [e5, g5, am5, bo, cond_true, cond_false], hR⟩
        · exact ⟨false, S, S, by simp only [e4, g4, w4, bo, mo, gd, decide_eq_true hl, decide_eq_true hk, cond_true, cond_false], by simp only [e5, g5, am5, bo, cond_true, cond_false], hR⟩
    · exact ⟨false, S, S, by simp only [e4, g4, bo, mo, gd, decide_eq_true hl, cond_true], by simp only [e5, g5, bo, cond_true, cond_false], hR⟩
  · rcases law_cases hL p1 with ⟨k, hk, rfl, ok2, g4, g5⟩ | ⟨g4, g5⟩
    · exact ⟨false, S, S, by simp only [e4, g4, bo, mo, gd, decide_eq_true hk, cond_true], by simp only [e5, bo, cond_false], hR⟩
    · exact ⟨false, S, S, by simp only [e4, g4, bo, mo], by simp only [e5, bo, cond_false], hR⟩
