/-! ===== thin (the rows wb_.. are the kit's, BITS.to-paste) ===== -/
theorem wb_tb (n : Nat) : (lN n).toBitVec = BitVec.ofNat 64 n := rfl
theorem wb_inj {a b : Int64} (h : a.toBitVec = b.toBitVec) : a = b := Int64.toBitVec_inj.mp h
theorem wb_c : ∀ k, k < 64 → ((nI k).toInt64 &&& 63) = lN k := by decide +kernel
theorem wb_sm : ∀ k, k < 64 → (BitVec.ofNat 64 k).smod 64 = BitVec.ofNat 64 k := by decide +kernel
theorem wb_shl (n : Nat) {k : Nat} (hk : k < 64) : lN n <<< ((nI k).toInt64 &&& 63) = lN (n * 2 ^ k) := by
  rw [wb_c k hk]
  apply wb_inj
  rw [Int64.toBitVec_shiftLeft, wb_tb, wb_tb, wb_tb, wb_sm k hk]
  apply BitVec.eq_of_toNat_eq
  rw [BitVec.shiftLeft_eq', BitVec.toNat_shiftLeft, BitVec.toNat_ofNat, BitVec.toNat_ofNat, BitVec.toNat_ofNat, Nat.mod_eq_of_lt (show k < 2 ^ 64 by omega), Nat.shiftLeft_eq, Nat.mul_mod, Nat.mod_mod, ← Nat.mul_mod]
def pr (f : Nat → Nat) : Nat → Nat
  | 0 => 1
  | k + 1 => pr f k * f k
theorem pr_cong {f g : Nat → Nat} : ∀ {N : Nat}, (∀ j, j < N → f j = g j) → pr f N = pr g N
  | 0, _ => rfl
  | N + 1, h => by rw [pr, pr, pr_cong (fun j hj => h j (by omega)), h N (by omega)]
theorem pr_lin {f g h : Nat → Nat} {i : Nat} : ∀ {N : Nat}, i < N → (∀ j, j < N → j ≠ i → g j = f j ∧ h j = f j) → f i = 2 * g i + h i → pr f N = 2 * pr g N + pr h N
  | 0, hi, _, _ => absurd hi (Nat.not_lt_zero i)
  | N + 1, hi, hj, e => by
    rw [pr, pr, pr]
    by_cases c : i = N
    · subst c
      rw [pr_cong (f := g) (g := f) (fun j hj' => (hj j (by omega) (by omega)).1), pr_cong (f := h) (g := f) (fun j hj' => (hj j (by omega) (by omega)).2), e, Nat.mul_add]
      rw [← Nat.mul_assoc, Nat.mul_comm (pr f i) 2, Nat.mul_assoc]
    · obtain ⟨a, b⟩ := hj N (by omega) (fun q => c q.symm)
      rw [a, b, pr_lin (f := f) (g := g) (h := h) (i := i) (N := N) (by omega) (fun j hj' => hj j (by omega)) e, Nat.add_mul, Nat.mul_assoc]
theorem pr_if {p : Nat → Bool} {w : Nat → Nat} : ∀ N, pr (fun j => bif p j then w j else 0) N = bif allb p N then pr w N else 0
  | 0 => rfl
  | N + 1 => by
    rw [pr, pr_if N, allb, pr]
    cases allb p N <;> cases p N <;> simp
/-- one thing's weight: kept by halves (u) or as drawn -/
def tw (u t s : Bool) : Nat := bif u then (bif t then (bif s then 1 else 0) else (bif s then 1 else 2)) else (bif t == s then 1 else 0)
def cf (a i T s : Nat) : Nat := pr (fun j => tw (decide (j < i) && a.testBit j) (T.testBit j) (s.testBit j)) 6
theorem cf_step {a i T s : Nat} (hi : i < 6) : cf a (i + 1) T s = bif a.testBit i && !(T.testBit i) then 2 * cf a i T s + cf a i (T ||| 2 ^ i) s else cf a i T s := by
  unfold cf
  have hne : ∀ j, j ≠ i → decide (j < i + 1) = decide (j < i) := fun j hj => by
    by_cases c : j < i
    · rw [decide_eq_true c, decide_eq_true (by omega)]
    · rw [decide_eq_false c, decide_eq_false (by omega)]
  have hself : decide (i < i) = false := decide_eq_false (Nat.lt_irrefl i)
  have hnext : decide (i < i + 1) = true := decide_eq_true (Nat.lt_succ_self i)
  cases ha : a.testBit i with
  | false =>
    refine pr_cong (fun j hj => ?_)
    by_cases c : j = i
    · subst c
      rw [ha, Bool.and_false, Bool.and_false]
    · rw [hne j c]
  | true =>
    cases ht : T.testBit i with
    | true =>
      refine pr_cong (fun j hj => ?_)
      by_cases c : j = i
      · subst c
        rw [ha, ht, hself, hnext]
        cases s.testBit j <;> rfl
      · rw [hne j c]
    | false =>
      refine pr_lin (i := i) hi (fun j hj c => ?_) ?_
      · have e1 : (T ||| 2 ^ i).testBit j = T.testBit j := by
          rw [Nat.testBit_or, Nat.testBit_two_pow, decide_eq_false (fun q => c q.symm), Bool.or_false]
        rw [e1, hne j c]
        exact ⟨rfl, rfl⟩
      · have e1 : (T ||| 2 ^ i).testBit i = true := by
          rw [Nat.testBit_or, Nat.testBit_two_pow, decide_eq_true rfl, Bool.or_true]
        rw [e1, ha, ht, hself, hnext]
        cases s.testBit i <;> rfl
theorem cf_00 : ∀ T, T < 64 → ∀ s, s < 64 → cf 0 0 T s = if T = s then 1 else 0 := by decide +kernel
theorem cf_0 {a T s : Nat} (hT : T < 64) (hs : s < 64) : cf a 0 T s = if T = s then 1 else 0 := by
  rw [← cf_00 T hT s hs]
  unfold cf
  refine pr_cong (fun j _ => ?_)
  rw [decide_eq_false (Nat.not_lt_zero j), Bool.false_and, Bool.false_and]
theorem th_1 : ∀ t, t < 64 → ∀ s, s < 64 → ((nI t &&& (nI s ^^^ (-1 : Int32))) = 0 ↔ allb (fun j => !(t.testBit j) || s.testBit j) 6 = true) := by decide +kernel
theorem th_2 : ∀ s, s < 64 → ∀ a, a < 64 → (nI s &&& (nI a ^^^ (-1 : Int32))) = nI (s &&& (63 - a)) := by decide +kernel
theorem th_3 : ∀ s, s < 64 → ∀ a, a < 64 → ∀ j, j < 6 → (s &&& (63 - a)).testBit j = (s.testBit j && !(a.testBit j)) := by decide +kernel
theorem th_4 : ∀ a, a < 64 → ∀ s, s < 64 → pop (s &&& a) ≤ pop a ∧ 2 ^ (pop a - pop (s &&& a)) = pr (fun j => bif a.testBit j && !(s.testBit j) then 2 else 1) 6 := by decide +kernel
theorem cf_6 {a T s : Nat} : cf a 6 T s = bif allb (fun j => !(T.testBit j) || s.testBit j) 6 && allb (fun j => !(s.testBit j && !(a.testBit j)) || T.testBit j) 6 then pr (fun j => bif a.testBit j && !(s.testBit j) then 2 else 1) 6 else 0 := by
  have hall : ∀ (p q : Nat → Bool) N, (allb p N && allb q N) = allb (fun j => p j && q j) N := by
    intro p q N
    induction N with
    | zero => rfl
    | succ N ih =>
      rw [allb, allb, allb, ← ih]
      cases allb p N <;> cases allb q N <;> cases p N <;> cases q N <;> rfl
  rw [hall, ← pr_if]
  unfold cf
  refine pr_cong (fun j hj => ?_)
  rw [decide_eq_true hj]
  cases a.testBit j <;> cases T.testBit j <;> cases s.testBit j <;> rfl
theorem and_2p : ∀ k, k < 64 → ∀ i, i < 6 → (k &&& 2 ^ i = 0 ↔ k.testBit i = false) := by decide +kernel
theorem or_bit (k i : Nat) : (k ||| 2 ^ i).testBit i = true := by
  rw [Nat.testBit_or, Nat.testBit_two_pow, decide_eq_true rfl, Bool.or_true]
theorem halve_eq {n i : Nat} {S : St} (hn : n ≤ 6) (hi : i < n) : ∃ S', fX4_halveDraft n (nI (2 ^ i)) S = some ((), S') ∧ (∀ q, q ≠ 5 → S'.2 q = S.2 q) ∧ S'.1 = S.1 ∧ ∀ T, T < 2 ^ n → S'.2 5 T = bif T.testBit i then S.2 5 T else 2 * S.2 5 T + S.2 5 (T ||| 2 ^ i) := by
  have hN := pw_le hn
  have p2 : 2 ^ i < 64 := Nat.lt_of_lt_of_le (Nat.pow_lt_pow_right (by decide) hi) hN
  obtain ⟨X, e, x1, x2, x3, -⟩ := pp_fill (lX4_halveDraft_1 n (nI (2 ^ i))) (2 ^ n) 0 (by omega) (Nat.zero_le _) (fun k X => (∀ q, q ≠ 5 → X.2 q = S.2 q) ∧ X.1 = S.1 ∧ (∀ T, T < 2 ^ n → T < k → X.2 5 T = bif T.testBit i then S.2 5 T else 2 * S.2 5 T + S.2 5 (T ||| 2 ^ i)) ∧ ∀ T, (k ≤ T ∨ T.testBit i = true) → X.2 5 T = S.2 5 T)
    (by
      intro f k X hk ⟨x1, x2, x3, x4⟩
      have hor := or_f1 n hn k hk i hi
      cases hb : k.testBit i with
      | true =>
        refine ⟨X, ?_, x1, x2, ?_, ?_⟩
        · show bX4_halveDraft_1 n (nI (2 ^ i)) (lX4_halveDraft_1 n (nI (2 ^ i)) f) (nI k) X = _
          unfold bX4_halveDraft_1
          rw [if_neg (nI_ge hk (by omega)), nI_and, if_neg (fun z => by
            have := (and_2p k (by omega) i (by omega)).mp ((nI_z (and_ltN (by omega))).mp z)
            rw [hb] at this
            cases this), nI_1]
        · intro T hT hTk
          by_cases c : T = k
          · subst c
            rw [hb]
            exact x4 T (Or.inr hb)
          · exact x3 T hT (by omega)
        · intro T hT
          rcases hT with hT | hT
          · exact x4 T (Or.inl (by omega))
          · exact x4 T (Or.inr hT)
      | false =>
        refine ⟨sJ X 5 k (2 * S.2 5 k + S.2 5 (k ||| 2 ^ i)), ?_, fun q hq => by rw [sJ_r hq]; exact x1 q hq, x2, ?_, ?_⟩
        · show bX4_halveDraft_1 n (nI (2 ^ i)) (lX4_halveDraft_1 n (nI (2 ^ i)) f) (nI k) X = _
          unfold bX4_halveDraft_1
          rw [if_neg (nI_ge hk (by omega)), nI_and, nI_or, if_pos ((nI_z (and_ltN (by omega))).mpr ((and_2p k (by omega) i (by omega)).mpr hb)), inb_nI hk (by omega), inb_nI hor (by omega), cl_nI (by omega), cl_nI (by omega), nI_1, x4 k (Or.inl (Nat.le_refl _)), x4 (k ||| 2 ^ i) (Or.inr (or_bit k i))]
          rfl
        · intro T hT hTk
          by_cases c : T = k
          · subst c
            rw [hb, sJ_at]
            rfl
          · rw [sJ_k c]
            exact x3 T hT (by omega)
        · intro T hT
          have c : T ≠ k := fun q => by
            subst q
            rcases hT with hT | hT
            · omega
            · rw [hb] at hT; cases hT
          rw [sJ_k c]
          rcases hT with hT | hT
          · exact x4 T (Or.inl (by omega))
          · exact x4 T (Or.inr hT))
    (by
      intro f X
      show bX4_halveDraft_1 n (nI (2 ^ i)) (lX4_halveDraft_1 n (nI (2 ^ i)) f) (nI (2 ^ n)) X = _
      unfold bX4_halveDraft_1
      rw [if_pos (nI_le (Nat.le_refl _) (by omega))])
    S ⟨fun _ _ => rfl, rfl, fun T _ h => absurd h (Nat.not_lt_zero T), fun _ _ => rfl⟩
  refine ⟨X, ?_, x1, x2, fun T hT => x3 T hT hT⟩
  unfold fX4_halveDraft
  rw [show (0 : Int32) = nI 0 from rfl, e]
  rfl
theorem ns_cong {f g : Nat → Nat} : ∀ {N : Nat}, (∀ j, j < N → f j = g j) → ns f N = ns g N
  | 0, _ => rfl
  | N + 1, h => by rw [ns, ns, ns_cong (fun j hj => h j (by omega)), h N (by omega)]
theorem ns_pick {v : Nat → Nat} {T : Nat} : ∀ N, ns (fun s => (if T = s then 1 else 0) * v s) N = if T < N then v T else 0
  | 0 => rfl
  | N + 1 => by
    rw [ns, ns_pick N]
    by_cases c : T = N
    · subst c
      rw [if_neg (Nat.lt_irrefl _), if_pos rfl, if_pos (Nat.lt_succ_self _)]
      omega
    · rw [if_neg c, Nat.zero_mul, Nat.add_zero]
      by_cases d : T < N
      · rw [if_pos d, if_pos (by omega)]
      · rw [if_neg d, if_neg (by omega)]
theorem ns_lin {f g v : Nat → Nat} : ∀ N, ns (fun s => (2 * f s + g s) * v s) N = 2 * ns (fun s => f s * v s) N + ns (fun s => g s * v s) N
  | 0 => rfl
  | N + 1 => by
    rw [ns, ns, ns, ns_lin N, Nat.add_mul, Nat.mul_assoc]
    omega
theorem cf_le {a i T s : Nat} : cf a i T s ≤ 64 := by
  unfold cf
  have : ∀ N, pr (fun j => tw (decide (j < i) && a.testBit j) (T.testBit j) (s.testBit j)) N ≤ 2 ^ N := by
    intro N
    induction N with
    | zero => exact Nat.le_refl _
    | succ N ih =>
      rw [pr, Nat.pow_succ]
      refine Nat.mul_le_mul ih ?_
      cases (decide (N < i) && a.testBit N) <;> cases T.testBit N <;> cases s.testBit N <;> decide
  exact this 6
theorem bit_hi {n : Nat} (hn : n ≤ 6) : ∀ a, a < 2 ^ n → ∀ j, n ≤ j → a.testBit j = false := fun a ha j hj => Nat.testBit_lt_two_pow (Nat.lt_of_lt_of_le ha (Nat.pow_le_pow_right (by decide) hj))
theorem cf_n {n a T s : Nat} (hn : n ≤ 6) (ha : a < 2 ^ n) : cf a n T s = cf a 6 T s := by
  unfold cf
  refine pr_cong (fun j hj => ?_)
  by_cases c : j < n
  · rw [decide_eq_true c, decide_eq_true hj]
  · rw [bit_hi hn a ha j (by omega), Bool.and_false, Bool.and_false]
theorem t_thin {n : Nat} {S : St} (h : Rel n S) (p0 p1 p2 : Int32) : ∃ r S1 S2, fX4_thin n p0 p1 p2 S = some (r, S1) ∧ fX5_thin n p0 p1 p2 S1 = some (r, S2) ∧ Rel n S2 := by
  have hR := h
  obtain ⟨h2, h6, hT, hE, hH, hL⟩ := h
  have hN := pw_le h6
  unfold fX4_thin fX5_thin fX5_canBe
  rcases law_cases hL p0 with ⟨l, hl, rfl, ok, e4, e5⟩ | ⟨e4, e5⟩
  · rcases set_cases h6 p1 S S with ⟨a, ha, rfl, g4, g5⟩ | ⟨g4, g5⟩
    · rcases place_cases p2 with ⟨m, hm, rfl, w4, w5⟩ | ⟨w4, w5⟩
      · obtain ⟨v, hv, -, -, -⟩ := ok.nat h6
        obtain ⟨Sa, ea, a1, a2, a3⟩ := pp_fill (lX4_thin_1 n (nI a) (nI m)) n 0 (by omega) (Nat.zero_le _) (fun i X => (∀ q, q ≠ 5 → X.2 q = S.2 q) ∧ X.1 = S.1 ∧ ∀ T, T < 2 ^ n → X.2 5 T = lN (ns (fun s => cf a i T s * v s) (2 ^ n)))
          (by
            intro f i X hi ⟨x1, x2, x3⟩
            cases hb : a.testBit i with
            | false =>
              refine ⟨X, ?_, x1, x2, fun T hT => ?_⟩
              · show bX4_thin_1 n (nI a) (nI m) (lX4_thin_1 n (nI a) (nI m) f) (nI i) X = _
                unfold bX4_thin_1
                rw [if_neg (nI_ge hi (by omega)), has_eq a (by omega) i (by omega), hb, nI_1]
                rfl
              · rw [x3 T hT]
                refine congrArg lN (ns_cong (fun s _ => ?_))
                rw [cf_step (by omega), hb]
                rfl
            | true =>
              obtain ⟨Y, y, y1, y2, y3⟩ := halve_eq (S := X) h6 hi
              refine ⟨Y, ?_, fun q hq => by rw [y1 q hq]; exact x1 q hq, by rw [y2, x2], fun T hT => ?_⟩
              · show bX4_thin_1 n (nI a) (nI m) (lX4_thin_1 n (nI a) (nI m) f) (nI i) X = _
                unfold bX4_thin_1
                rw [if_neg (nI_ge hi (by omega)), has_eq a (by omega) i (by omega), hb, shl_eq i (by omega), y, nI_1]
                rfl
              · rw [y3 T hT]
                cases ht : T.testBit i with
                | true =>
                  show X.2 5 T = _
                  rw [x3 T hT]
                  refine congrArg lN (ns_cong (fun s _ => ?_))
                  rw [cf_step (by omega), hb, ht]
                  rfl
                | false =>
                  show 2 * X.2 5 T + X.2 5 (T ||| 2 ^ i) = _
                  rw [x3 T hT, x3 _ (or_f1 n h6 T hT i hi), show (2 : Int64) = lN 2 from rfl, lN_mul, lN_add, ← ns_lin]
                  refine congrArg lN (ns_cong (fun s _ => ?_))
                  rw [cf_step (by omega), hb, ht]
                  rfl)
          (by
            intro f X
            show bX4_thin_1 n (nI a) (nI m) (lX4_thin_1 n (nI a) (nI m) f) (nI n) X = _
            unfold bX4_thin_1
            rw [if_pos (nI_le (Nat.le_refl _) (by omega))])
          (sC S 5 (va_cpy (S.2 (31 + l)) (S.2 5) (Int32.toNatClampNeg (0 : Int32)) (Int32.toNatClampNeg (0 : Int32)) (Int32.toNatClampNeg (nI (2 ^ n)))))
          ⟨fun q hq => sC_r hq, rfl, fun T hT => by
            rw [sC_at, cpy_eq h6 _ _ hT, (hv T hT).2]
            refine congrArg lN ?_
            rw [ns_cong (g := fun s => (if T = s then 1 else 0) * v s) (fun s hs => by rw [cf_0 (by omega) (by omega)]), ns_pick, if_pos hT]⟩
        have fA : fr4 S Sa := ⟨fun q z _ _ => a1 q z, fun _ _ => by rw [a2]⟩
        have hbd : ∀ t, ns (fun s => cf a n t s * v s) (2 ^ n) < 2 ^ 63 := by
          intro t
          have := ns_le (f := fun s => cf a n t s * v s) (c := 64 * 4000000) (N := 2 ^ n) (fun s hs => Nat.mul_le_mul cf_le (hv s hs).1)
          have h5 : 2 ^ n * (64 * 4000000) ≤ 64 * (64 * 4000000) := Nat.mul_le_mul_right _ hN
          omega
        obtain ⟨r, S1, q4, q37, qb⟩ := commit_rel (d := fun t => ns (fun s => cf a n t s * v s) (2 ^ n)) (hR.fr4 fA) hm (fun t ht => ⟨a3 t ht, hbd t⟩)
        obtain ⟨Sc, c1, c2, c3, c4⟩ := clear_eq (n := n) (S := S1)
        obtain ⟨X, e, x1, x2, x3⟩ := pp_fill (lX5_thin_1 n (nI l) (nI a) (nI m)) (2 ^ n) 0 (by omega) (Nat.zero_le _) (fun k X => (∀ q, q ≠ 41 → X.2 q = S1.2 q) ∧ X.1 = S1.1 ∧ ∀ t, t < 2 ^ n → X.2 41 t = lN (ns (fun s => cf a n t s * v s) k))
          (by
            intro f k X hk ⟨x1, x2, x3⟩
            have hval : X.2 40 (64 * l + k) = lN (v k) := by
              rw [x1 40 (by omega), (q37 40 (by omega)).1, a1 40 (by omega), ← (ok.1 k hk).1, (hv k hk).2]
            obtain ⟨Y, ey, y1, y2, y3, y4⟩ := pp_fill (lX5_thin_2 n (nI l) (nI a) (nI m) (nI k)) (2 ^ n) 0 (by omega) (Nat.zero_le _) (fun t Y => (∀ q, q ≠ 41 → Y.2 q = X.2 q) ∧ Y.1 = X.1 ∧ (∀ t', t' < t → Y.2 41 t' = lN (ns (fun s => cf a n t' s * v s) (k + 1))) ∧ ∀ t', t ≤ t' → Y.2 41 t' = X.2 41 t')
              (by
                intro f t Y ht ⟨y1, y2, y3, y4⟩
                have hyv : Y.2 40 (64 * l + k) = lN (v k) := by rw [y1 40 (by omega)]; exact hval
                have hc := cf_6 (a := a) (T := t) (s := k)
                rw [← cf_n h6 ha] at hc
                obtain ⟨f1, f2⟩ := th_4 a (by omega) k (by omega)
                have hw : k &&& (63 - a) < 64 := and_ltN (by omega)
                have hp := pop_le a (by omega)
                have hp2 : allb (fun j => !((k &&& (63 - a)).testBit j) || t.testBit j) 6 = allb (fun j => !(k.testBit j && !(a.testBit j)) || t.testBit j) 6 := allb_cong (fun j hj => by rw [th_3 k (by omega) a (by omega) j hj])
                have hbody : bX5_thin_2 n (nI l) (nI a) (nI m) (nI k) (lX5_thin_2 n (nI l) (nI a) (nI m) (nI k) f) (nI t) Y = (if allb (fun j => !(t.testBit j) || k.testBit j) 6 = true then (if allb (fun j => !(k.testBit j && !(a.testBit j)) || t.testBit j) 6 = true then lX5_thin_2 n (nI l) (nI a) (nI m) (nI k) f (nI (t + 1)) (sJ Y 41 t (Y.2 41 t + lN (v k * 2 ^ (pop a - pop (k &&& a))))) else lX5_thin_2 n (nI l) (nI a) (nI m) (nI k) f (nI (t + 1)) Y) else lX5_thin_2 n (nI l) (nI a) (nI m) (nI k) f (nI (t + 1)) Y) := by
                  unfold bX5_thin_2
                  rw [if_neg (nI_ge ht (by omega)), th_2 k (by omega) a (by omega), nI_and, ix64, (law_ix hl hk hN).1, (law_ix hl hk hN).2, inb_nI (show t < 64 by omega) (by omega), cl_nI (show t < 1000 by omega), sizeOf_eq a (by omega), sizeOf_eq (k &&& a) (and_ltN (by omega)), nI_1, hyv]
                  by_cases d1 : allb (fun j => !(t.testBit j) || k.testBit j) 6 = true
                  · rw [if_pos d1, if_pos ((th_1 t (by omega) k (by omega)).mpr d1)]
                    by_cases d2 : allb (fun j => !(k.testBit j && !(a.testBit j)) || t.testBit j) 6 = true
                    · rw [if_pos d2, if_pos ((th_1 (k &&& (63 - a)) hw t (by omega)).mpr (by rw [hp2]; exact d2))]
                      show lX5_thin_2 n (nI l) (nI a) (nI m) (nI k) f (nI (t + 1)) (sJ Y 41 t (Y.2 41 t + lN (v k) <<< (Int32.toInt64 (nI (pop a) - nI (pop (k &&& a))) &&& 63))) = _
                      rw [pk_sub f1, wb_shl (v k) (by omega)]
                    · rw [if_neg d2, if_neg (fun z => d2 (by rw [← hp2]; exact (th_1 (k &&& (63 - a)) hw t (by omega)).mp z))]
                  · rw [if_neg d1, if_neg (fun z => d1 ((th_1 t (by omega) k (by omega)).mp z))]
                have hxt := x3 t ht
                have keepY : ∀ z, (∀ q, q ≠ 41 → (sJ Y 41 t z).2 q = X.2 q) := fun z q hq => by rw [sJ_r hq]; exact y1 q hq
                have hcase : ∀ w, cf a n t k = w → lN (ns (fun s => cf a n t s * v s) (k + 1)) = X.2 41 t + lN (v k * w) := by
                  intro w hw'
                  rw [ns, hxt, lN_add, hw', Nat.mul_comm w]
                by_cases d1 : allb (fun j => !(t.testBit j) || k.testBit j) 6 = true
                · by_cases d2 : allb (fun j => !(k.testBit j && !(a.testBit j)) || t.testBit j) 6 = true
                  · rw [if_pos d1, if_pos d2] at hbody
                    rw [d1, d2] at hc
                    have hc : cf a n t k = pr (fun j => bif a.testBit j && !(k.testBit j) then 2 else 1) 6 := hc
                    rw [← f2] at hc
                    refine ⟨_, hbody, keepY _, y2, fun t' ht' => ?_, fun t' ht' => ?_⟩
                    · by_cases c : t' = t
                      · subst c
                        rw [sJ_at, hcase _ hc, y4 t' (Nat.le_refl _)]
                      · rw [sJ_k c]; exact y3 t' (by omega)
                    · rw [sJ_k (by omega)]; exact y4 t' (by omega)
                  · rw [if_pos d1, if_neg d2] at hbody
                    have d2' : allb (fun j => !(k.testBit j && !(a.testBit j)) || t.testBit j) 6 = false := by simpa using d2
                    rw [d1, d2'] at hc
                    have hc : cf a n t k = 0 := hc
                    refine ⟨_, hbody, y1, y2, fun t' ht' => ?_, fun t' ht' => y4 t' (by omega)⟩
                    by_cases c : t' = t
                    · subst c
                      rw [hcase _ hc, y4 t' (Nat.le_refl _), Nat.mul_zero]
                      exact (Int64.add_zero _).symm
                    · exact y3 t' (by omega)
                · rw [if_neg d1] at hbody
                  have d1' : allb (fun j => !(t.testBit j) || k.testBit j) 6 = false := by simpa using d1
                  rw [d1', Bool.false_and] at hc
                  have hc : cf a n t k = 0 := hc
                  refine ⟨_, hbody, y1, y2, fun t' ht' => ?_, fun t' ht' => y4 t' (by omega)⟩
                  by_cases c : t' = t
                  · subst c
                    rw [hcase _ hc, y4 t' (Nat.le_refl _), Nat.mul_zero]
                    exact (Int64.add_zero _).symm
                  · exact y3 t' (by omega))
              (by
                intro f Y
                show bX5_thin_2 n (nI l) (nI a) (nI m) (nI k) (lX5_thin_2 n (nI l) (nI a) (nI m) (nI k) f) (nI (2 ^ n)) Y = _
                unfold bX5_thin_2
                rw [if_pos (nI_le (Nat.le_refl _) (by omega))])
              X ⟨fun _ _ => rfl, rfl, fun t ht => absurd ht (Nat.not_lt_zero t), fun _ _ => rfl⟩
            rw [show nI 0 = (0 : Int32) from rfl] at ey
            refine ⟨Y, ?_, fun q hq => by rw [y1 q hq]; exact x1 q hq, by rw [y2, x2], y3⟩
            show bX5_thin_1 n (nI l) (nI a) (nI m) (lX5_thin_1 n (nI l) (nI a) (nI m) f) (nI k) X = _
            unfold bX5_thin_1
            rw [if_neg (nI_ge hk (by omega)), ey, nI_1]
            rfl)
          (by
            intro f X
            show bX5_thin_1 n (nI l) (nI a) (nI m) (lX5_thin_1 n (nI l) (nI a) (nI m) f) (nI (2 ^ n)) X = _
            unfold bX5_thin_1
            rw [if_pos (nI_le (Nat.le_refl _) (by omega))])
          Sc ⟨c2, c3, fun t ht => by rw [c4 t (by omega)]; rfl⟩
        obtain ⟨S2, m5, hS2⟩ := qb X ⟨fun q _ z => x1 q z, fun q _ _ => by rw [x2]⟩ x3
        rw [show nI 0 = (0 : Int32) from rfl] at e ea
        refine ⟨r, S1, S2, ?_, ?_, hS2⟩
        · simp only [e4, g4, w4, bo, bw, mo, gd, decide_eq_true hl, cond_true, cpok_eq h6, ea, q4]
        · have i5 : fX5_isLaw n (nI l) S1 = some true := (isLaw_cong ((q37 43 (by omega)).2.trans (by rw [a2]))).trans e5
          have g5' : ∀ S', fX5_isSet n (nI a) S' = some true := fun _ => g5
          simp only [i5, g5', w5, bo, bw, cond_true, c1, e, m5]
      · exact ⟨false, S, S, by simp only [e4, g4, w4, bo, mo, gd, decide_eq_true hl, cond_true, cond_false], by simp only [e5, g5, w5, bo, cond_true, cond_false], hR⟩
    · exact ⟨false, S, S, by simp only [e4, g4, bo, mo, gd, decide_eq_true hl, cond_true, cond_false], by simp only [e5, g5, bo, cond_true, cond_false], hR⟩
  · exact ⟨false, S, S, by simp only [e4, bo, mo], by simp only [e5, bo, cond_false], hR⟩
