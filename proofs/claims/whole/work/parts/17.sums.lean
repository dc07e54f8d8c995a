/-! ===== the sum loops, in closed form ===== -/
theorem ix64 (l s : Nat) : (((64 : Int32) * nI l) + nI s) = nI (64 * l + s) := by
  rw [show (64 : Int32) = nI 64 from rfl, pk_mul, nI_add]
theorem toL {k : Nat} (h : k < 1000) : Int32.toInt64 (nI k) = lN k := nI_l (lt31 h)
theorem nI_inj {a b : Nat} (ha : a < 1000) (hb : b < 1000) : nI a = nI b ↔ a = b := nI_eq (lt31 ha) (lt31 hb)
theorem nI_z {a : Nat} (ha : a < 1000) : nI a = 0 ↔ a = 0 := nI_inj (b := 0) ha (by decide)
theorem law_ix {l s N : Nat} (hl : l < 6) (hs : s < N) (hN : N ≤ 64) : inb (nI (64 * l + s)) 384 = true ∧ Int32.toNatClampNeg (nI (64 * l + s)) = 64 * l + s := ⟨inb_nI (by omega) (by omega), cl_nI (by omega)⟩
theorem sumSize_eq {n lw q : Nat} {S : St} (hn : n ≤ 6) (hq : q < 64) : fX0_sumOfSize n lw (nI q) S = some (sm (fun s => if pop s = q then S.2 (31 + lw) s else 0) (2 ^ n)) := by
  have hN := pw_le hn
  unfold fX0_sumOfSize
  rw [show (0 : Int64) = 0 from rfl, pp_sum (lX0_sumOfSize_1 n lw (nI q) S) (2 ^ n) (by omega) (fun s => if pop s = q then S.2 (31 + lw) s else 0)]
  · rfl
  · intro f acc k hk
    show bX0_sumOfSize_1 n lw (nI q) S (lX0_sumOfSize_1 n lw (nI q) S f) acc (nI k) = _
    unfold bX0_sumOfSize_1
    rw [if_neg (nI_ge hk (by omega))]
    rw [bitCount_eq k (by omega), inb_nI hk (by omega), cl_nI (by omega), nI_1]
    have hp := pop_le k (by omega)
    show (if nI (pop k) = nI q then _ else _) = _
    by_cases c : pop k = q
    · rw [if_pos ((nI_inj (by omega) (by omega)).mpr c), if_pos c]; rfl
    · rw [if_neg (fun z => c ((nI_inj (by omega) (by omega)).mp z)), if_neg c, Int64.add_zero]
  · intro f acc
    show bX0_sumOfSize_1 n lw (nI q) S (lX0_sumOfSize_1 n lw (nI q) S f) acc (nI (2 ^ n)) = _
    unfold bX0_sumOfSize_1
    rw [if_pos (nI_le (Nat.le_refl _) (by omega))]
theorem sumCounts_eq {n lw : Nat} {S : St} (hn : n ≤ 6) : fX0_sumOfCounts n lw S = some (sm (fun s => lN (pop s) * S.2 (31 + lw) s) (2 ^ n)) := by
  have hN := pw_le hn
  unfold fX0_sumOfCounts
  rw [show (0 : Int64) = 0 from rfl, pp_sum (lX0_sumOfCounts_1 n lw S) (2 ^ n) (by omega) (fun s => lN (pop s) * S.2 (31 + lw) s)]
  · rfl
  · intro f acc k hk
    show bX0_sumOfCounts_1 n lw S (lX0_sumOfCounts_1 n lw S f) acc (nI k) = _
    unfold bX0_sumOfCounts_1
    rw [if_neg (nI_ge hk (by omega))]
    have hp := pop_le k (by omega)
    rw [bitCount_eq k (by omega), inb_nI hk (by omega), cl_nI (by omega), nI_1]
    show gd true (lX0_sumOfCounts_1 n lw S f (acc + Int32.toInt64 (nI (pop k)) * S.2 (31 + lw) k) (nI (k + 1))) = _
    rw [toL (by omega)]
    rfl
  · intro f acc
    show bX0_sumOfCounts_1 n lw S (lX0_sumOfCounts_1 n lw S f) acc (nI (2 ^ n)) = _
    unfold bX0_sumOfCounts_1
    rw [if_pos (nI_le (Nat.le_refl _) (by omega))]
theorem sumSquares_eq {n lw : Nat} {S : St} (hn : n ≤ 6) : fX0_sumOfSquares n lw S = some (sm (fun s => lN (pop s) * lN (pop s) * S.2 (31 + lw) s) (2 ^ n)) := by
  have hN := pw_le hn
  unfold fX0_sumOfSquares
  rw [show (0 : Int64) = 0 from rfl, pp_sum (lX0_sumOfSquares_1 n lw S) (2 ^ n) (by omega) (fun s => lN (pop s) * lN (pop s) * S.2 (31 + lw) s)]
  · rfl
  · intro f acc k hk
    show bX0_sumOfSquares_1 n lw S (lX0_sumOfSquares_1 n lw S f) acc (nI k) = _
    unfold bX0_sumOfSquares_1
    rw [if_neg (nI_ge hk (by omega))]
    have hp := pop_le k (by omega)
    rw [bitCount_eq k (by omega), inb_nI hk (by omega), cl_nI (by omega), nI_1]
    show gd true (lX0_sumOfSquares_1 n lw S f (acc + Int32.toInt64 (nI (pop k)) * Int32.toInt64 (nI (pop k)) * S.2 (31 + lw) k) (nI (k + 1))) = _
    rw [toL (by omega)]
    rfl
  · intro f acc
    show bX0_sumOfSquares_1 n lw S (lX0_sumOfSquares_1 n lw S f) acc (nI (2 ^ n)) = _
    unfold bX0_sumOfSquares_1
    rw [if_pos (nI_le (Nat.le_refl _) (by omega))]
theorem msum_eq {n l : Nat} {S : St} (hn : n ≤ 6) (hl : l < 6) : fX5_sum n (nI l) S = some (sm (fun s => S.2 40 (64 * l + s)) (2 ^ n)) := by
  have hN := pw_le hn
  unfold fX5_sum
  rw [show (0 : Int64) = 0 from rfl, pp_sum (lX5_sum_1 n (nI l) S) (2 ^ n) (by omega) (fun s => S.2 40 (64 * l + s))]
  · rfl
  · intro f acc k hk
    show bX5_sum_1 n (nI l) S (lX5_sum_1 n (nI l) S f) acc (nI k) = _
    unfold bX5_sum_1
    rw [if_neg (nI_ge hk (by omega))]
    rw [ix64, (law_ix hl hk hN).1, (law_ix hl hk hN).2, nI_1]
    rfl
  · intro f acc
    show bX5_sum_1 n (nI l) S (lX5_sum_1 n (nI l) S f) acc (nI (2 ^ n)) = _
    unfold bX5_sum_1
    rw [if_pos (nI_le (Nat.le_refl _) (by omega))]
theorem msumOf_eq {n l a b : Nat} {S : St} (hn : n ≤ 6) (hl : l < 6) (ha : a < 64) : fX5_sumOf n (nI l) (nI a) (nI b) S = some (sm (fun s => bif fitb s a b then S.2 40 (64 * l + s) else 0) (2 ^ n)) := by
  have hN := pw_le hn
  unfold fX5_sumOf
  rw [show (0 : Int64) = 0 from rfl, pp_sum (lX5_sumOf_1 n (nI l) (nI a) (nI b) S) (2 ^ n) (by omega) (fun s => bif fitb s a b then S.2 40 (64 * l + s) else 0)]
  · rfl
  · intro f acc k hk
    show bX5_sumOf_1 n (nI l) (nI a) (nI b) S (lX5_sumOf_1 n (nI l) (nI a) (nI b) S f) acc (nI k) = _
    unfold bX5_sumOf_1
    rw [if_neg (nI_ge hk (by omega))]
    rw [ix64, (law_ix hl hk hN).1, (law_ix hl hk hN).2, nI_1, nI_and, nI_and]
    unfold fitb
    by_cases c1 : k &&& a = a
    · rw [if_pos ((nI_inj (and_ltN (by omega)) (by omega)).mpr c1)]
      by_cases c2 : k &&& b = 0
      · rw [if_pos ((nI_z (and_ltN (by omega))).mpr c2)]; simp [c1, c2, gd]
      · rw [if_neg (fun z => c2 ((nI_z (and_ltN (by omega))).mp z))]; simp [c1, c2]
    · rw [if_neg (fun z => c1 ((nI_inj (and_ltN (by omega)) (by omega)).mp z))]; simp [c1]
  · intro f acc
    show bX5_sumOf_1 n (nI l) (nI a) (nI b) S (lX5_sumOf_1 n (nI l) (nI a) (nI b) S f) acc (nI (2 ^ n)) = _
    unfold bX5_sumOf_1
    rw [if_pos (nI_le (Nat.le_refl _) (by omega))]
theorem mofSize_eq {n l q : Nat} {S : St} (hn : n ≤ 6) (hl : l < 6) (hq : q < 64) : fX5_ofSize n (nI l) (nI q) S = some (sm (fun s => if pop s = q then S.2 40 (64 * l + s) else 0) (2 ^ n)) := by
  have hN := pw_le hn
  unfold fX5_ofSize
  rw [show (0 : Int64) = 0 from rfl, pp_sum (lX5_ofSize_1 n (nI l) (nI q) S) (2 ^ n) (by omega) (fun s => if pop s = q then S.2 40 (64 * l + s) else 0)]
  · rfl
  · intro f acc k hk
    show bX5_ofSize_1 n (nI l) (nI q) S (lX5_ofSize_1 n (nI l) (nI q) S f) acc (nI k) = _
    unfold bX5_ofSize_1
    rw [if_neg (nI_ge hk (by omega))]
    rw [ix64, (law_ix hl hk hN).1, (law_ix hl hk hN).2, sizeOf_eq k (by omega), nI_1]
    have hp := pop_le k (by omega)
    show (if nI (pop k) = nI q then _ else _) = _
    by_cases c : pop k = q
    · rw [if_pos ((nI_inj (by omega) (by omega)).mpr c), if_pos c]; rfl
    · rw [if_neg (fun z => c ((nI_inj (by omega) (by omega)).mp z)), if_neg c, Int64.add_zero]
  · intro f acc
    show bX5_ofSize_1 n (nI l) (nI q) S (lX5_ofSize_1 n (nI l) (nI q) S f) acc (nI (2 ^ n)) = _
    unfold bX5_ofSize_1
    rw [if_pos (nI_le (Nat.le_refl _) (by omega))]
/-! ===== arguments: inside or outside, the same for both ===== -/
theorem am_cases (p : Int32) (a b : Nat) (hb : b < 2 ^ 31) (ha : a < 2 ^ 31) : (∃ t, a ≤ t ∧ t ≤ b ∧ p = nI t ∧ fX4_isAmong p (nI a) (nI b) = some true ∧ fX5_in p (nI a) (nI b) = some true) ∨ (fX4_isAmong p (nI a) (nI b) = some false ∧ fX5_in p (nI a) (nI b) = some false) := by
  unfold fX4_isAmong fX5_in
  by_cases c1 : p < nI a
  · exact Or.inr ⟨if_pos c1, if_pos c1⟩
  · by_cases c2 : nI b < p
    · exact Or.inr ⟨by rw [if_neg c1, if_pos c2], by rw [if_neg c1, if_pos c2]⟩
    · have h0 : ¬ p < 0 := fun q => c1 (Int32.lt_of_lt_of_le q (nI_pos' ha))
      obtain ⟨t, ht, rfl⟩ := nI_of h0
      refine Or.inl ⟨t, ?_, ?_, rfl, by rw [if_neg c1, if_neg c2], by rw [if_neg c1, if_neg c2]⟩
      · exact Nat.le_of_not_lt (fun q => c1 ((nI_ltI ht ha).mpr q))
      · exact Nat.le_of_not_lt (fun q => c2 ((nI_ltI hb ht).mpr q))
theorem place_cases (p : Int32) : (∃ t, t < 6 ∧ p = nI t ∧ fX4_isPlace p = some true ∧ fX5_isPlace p = some true) ∨ (fX4_isPlace p = some false ∧ fX5_isPlace p = some false) := by
  unfold fX4_isPlace fX5_isPlace
  rcases am_cases p 0 5 (by decide) (by decide) with ⟨t, _, h2, h3, h4, h5⟩ | ⟨h4, h5⟩
  · exact Or.inl ⟨t, by omega, h3, by rw [show (0 : Int32) = nI 0 from rfl, show (5 : Int32) = nI 5 from rfl, h4]; rfl, by rw [show (0 : Int32) = nI 0 from rfl, show (5 : Int32) = nI 5 from rfl, h5]; rfl⟩
  · exact Or.inr ⟨by rw [show (0 : Int32) = nI 0 from rfl, show (5 : Int32) = nI 5 from rfl, h4]; rfl, by rw [show (0 : Int32) = nI 0 from rfl, show (5 : Int32) = nI 5 from rfl, h5]; rfl⟩
theorem nI_m1 {n : Nat} (h : 0 < n) : nI n - (1 : Int32) = nI (n - 1) := by
  obtain ⟨k, rfl⟩ : ∃ k, n = k + 1 := ⟨n - 1, by omega⟩
  exact nI_pred k
theorem thing_cases {n : Nat} (h2 : 2 ≤ n) (h6 : n ≤ 6) (p : Int32) (S S2 : St) : (∃ t, t < n ∧ p = nI t ∧ fX4_isThing n p S = some true ∧ fX5_isThing n p S2 = some true) ∨ (fX4_isThing n p S = some false ∧ fX5_isThing n p S2 = some false) := by
  unfold fX4_isThing fX5_isThing
  rw [nI_m1 (by omega), show (0 : Int32) = nI 0 from rfl]
  rcases am_cases p 0 (n - 1) (by omega) (by decide) with ⟨t, _, q2, h3, h4, h5⟩ | ⟨h4, h5⟩
  · exact Or.inl ⟨t, by omega, h3, by rw [h4]; rfl, by rw [h5]; rfl⟩
  · exact Or.inr ⟨by rw [h4]; rfl, by rw [h5]; rfl⟩
theorem set_cases {n : Nat} (h6 : n ≤ 6) (p : Int32) (S S2 : St) : (∃ t, t < 2 ^ n ∧ p = nI t ∧ fX4_isSet n p S = some true ∧ fX5_isSet n p S2 = some true) ∨ (fX4_isSet n p S = some false ∧ fX5_isSet n p S2 = some false) := by
  have hN := pw_le h6
  have h0 := pw_pos (n := n)
  unfold fX4_isSet fX5_isSet
  rw [nI_m1 (by omega), show (0 : Int32) = nI 0 from rfl]
  rcases am_cases p 0 (2 ^ n - 1) (by omega) (by decide) with ⟨t, _, q2, h3, h4, h5⟩ | ⟨h4, h5⟩
  · exact Or.inl ⟨t, by omega, h3, by rw [h4]; rfl, by rw [h5]; rfl⟩
  · exact Or.inr ⟨by rw [h4]; rfl, by rw [h5]; rfl⟩
theorem what_cases (p : Int32) : (fX4_isWhat p = some true ∧ fX5_isWhat p = some true) ∨ (fX4_isWhat p = some false ∧ fX5_isWhat p = some false) := by
  unfold fX4_isWhat fX5_isWhat
  rw [show (0 : Int32) = nI 0 from rfl, show (1 : Int32) = nI 1 from rfl]
  rcases am_cases p 0 1 (by decide) (by decide) with ⟨t, _, q2, h3, h4, h5⟩ | ⟨h4, h5⟩
  · exact Or.inl ⟨by rw [h4]; rfl, by rw [h5]; rfl⟩
  · exact Or.inr ⟨by rw [h4]; rfl, by rw [h5]; rfl⟩
theorem count_cases {n : Nat} (h6 : n ≤ 6) (p : Int32) (S : St) : (∃ t, t ≤ n ∧ p = nI t ∧ fX4_isCount n p S = some true ∧ fX5_in p (0 : Int32) (nI n) = some true) ∨ (fX4_isCount n p S = some false ∧ fX5_in p (0 : Int32) (nI n) = some false) := by
  unfold fX4_isCount
  rw [show (0 : Int32) = nI 0 from rfl]
  rcases am_cases p 0 n (by omega) (by decide) with ⟨t, _, q2, h3, h4, h5⟩ | ⟨h4, h5⟩
  · exact Or.inl ⟨t, by omega, h3, by rw [h4]; rfl, h5⟩
  · exact Or.inr ⟨by rw [h4]; rfl, h5⟩
/-! ===== what the two states have in common ===== -/
def RelT (n : Nat) (S : St) : Prop := ∀ t i j, t < 6 → i < n → j < n → S.1 (19 + t) (i * n + j) = S.1 37 (36 * t + 6 * i + j) ∧ -5 ≤ (S.1 37 (36 * t + 6 * i + j)).toInt ∧ (S.1 37 (36 * t + 6 * i + j)).toInt ≤ 5
def RelE (n : Nat) (S : St) : Prop := ∀ i, i < n → (S.1 7 i = S.1 44 i ∧ S.1 8 i = S.1 45 i ∧ S.1 9 i = S.1 46 i) ∧ (∃ a, a < 5 ∧ S.1 44 i = nI a) ∧ (∃ b, b < 5 ∧ S.1 45 i = nI b) ∧ ∃ w, w < 10 ∧ S.1 46 i = nI w
def RelH (n : Nat) (S : St) : Prop := ∀ s, s < 2 ^ n → S.2 4 s = S.2 42 s ∧ ∃ v, v ≤ 4000000 ∧ S.2 42 s = lN v
def LawOk (n : Nat) (S : St) (l : Nat) : Prop := (∀ s, s < 2 ^ n → S.2 (31 + l) s = S.2 40 (64 * l + s) ∧ ∃ v, v ≤ 4000000 ∧ S.2 (31 + l) s = lN v) ∧ S.2 (25 + l) 0 = sm (S.2 (31 + l)) (2 ^ n) ∧ ∃ s, s < 2 ^ n ∧ S.2 (31 + l) s ≠ 0
def RelL (n : Nat) (S : St) : Prop := ∀ l, l < 6 → S.1 (25 + l) 0 = S.1 43 l ∧ (S.1 43 l ≠ 0 → LawOk n S l)
def Rel (n : Nat) (S : St) : Prop := 2 ≤ n ∧ n ≤ 6 ∧ RelT n S ∧ RelE n S ∧ RelH n S ∧ RelL n S
theorem law_cases {n : Nat} {S : St} (h : RelL n S) (p : Int32) : (∃ l, l < 6 ∧ p = nI l ∧ LawOk n S l ∧ fX4_lawAt n p S = some (some l) ∧ fX5_isLaw n p S = some true) ∨ (fX4_lawAt n p S = some none ∧ fX5_isLaw n p S = some false) := by
  unfold fX4_lawAt fX5_isLaw
  rcases place_cases p with ⟨l, hl, rfl, h4, h5⟩ | ⟨h4, h5⟩
  · obtain ⟨e, ok⟩ := h l hl
    rw [h4, h5, inb_nI hl (by omega), cl_nI (by omega)]
    by_cases c : S.1 43 l = 0
    · refine Or.inr ⟨?_, ?_⟩
      · show (if S.1 (25 + l) 0 = 0 then _ else _) = _
        rw [if_pos (e.trans c)]
      · show (if S.1 43 l = 0 then _ else _) = _
        rw [if_pos c]
    · refine Or.inl ⟨l, hl, rfl, ok c, ?_, ?_⟩
      · show (if S.1 (25 + l) 0 = 0 then _ else _) = _
        rw [if_neg (by rw [e]; exact c)]
        rfl
      · show (if S.1 43 l = 0 then _ else _) = _
        rw [if_neg c]
  · rw [h4, h5]
    exact Or.inr ⟨rfl, rfl⟩
