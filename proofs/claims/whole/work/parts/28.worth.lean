/-! ===== a set's part: worthOf, and the reference's determinant ===== -/
def cnt (a i : Nat) : Nat := pop (a % 2 ^ i)
def el (a r : Nat) : Nat := ff (fun i => a.testBit i && decide (cnt a i = r)) 0 6
theorem cnt_0 : ∀ a, a < 64 → cnt a 0 = 0 := by decide +kernel
theorem cnt_s : ∀ a, a < 64 → ∀ i, i < 6 → cnt a (i + 1) = cnt a i + (if a.testBit i then 1 else 0) := by decide +kernel
theorem cnt_n : ∀ n, n ≤ 6 → ∀ a, a < 2 ^ n → cnt a n = pop a := by decide +kernel
theorem el_cnt : ∀ a, a < 64 → ∀ i, i < 6 → a.testBit i = true → el a (cnt a i) = i ∧ cnt a i < pop a := by decide +kernel
theorem el_lt : ∀ n, n ≤ 6 → ∀ a, a < 2 ^ n → ∀ r, r < pop a → el a r < n := by decide +kernel
theorem el_inj : ∀ a, a < 64 → ∀ r, r < pop a → cnt a (el a r) = r := by decide +kernel
def Mx (T : Nat → Nat → Int32) (a more r c : Nat) : Int64 := Int32.toInt64 (T (el a r) (el a c)) + (if r = c then lN more else 0)
theorem pp_fill2 (L : Nat → Int32 → Int32 → St → Option (Unit × St)) (N : Nat) (hN : N < 1000) (cn : Nat → Nat) (P : Nat → St → Prop) (h1 : ∀ f k S, k < N → P k S → ∃ S', L (f + 1) (nI (cn k)) (nI k) S = L f (nI (cn (k + 1))) (nI (k + 1)) S' ∧ P (k + 1) S') (h2 : ∀ f S, L (f + 1) (nI (cn N)) (nI N) S = some ((), S)) (S0 : St) (h0 : P 0 S0) : ∃ S', L FU (nI (cn 0)) (nI 0) S0 = some ((), S') ∧ P N S' := by
  have key : ∀ d k f S, k + d = N → d < f → P k S → ∃ S', L f (nI (cn k)) (nI k) S = some ((), S') ∧ P N S' := by
    intro d
    induction d with
    | zero =>
      intro k f S hk hf hp
      obtain ⟨f, rfl⟩ : ∃ g, f = g + 1 := ⟨f - 1, by omega⟩
      have : k = N := by omega
      subst this
      exact ⟨S, h2 f S, hp⟩
    | succ d ih =>
      intro k f S hk hf hp
      obtain ⟨f, rfl⟩ : ∃ g, f = g + 1 := ⟨f - 1, by omega⟩
      obtain ⟨S', e, hp'⟩ := h1 f k S (by omega) hp
      rw [e]
      exact ih (k + 1) f S' (by omega) (by omega) hp'
  exact key N 0 FU S0 (by omega) hN h0
theorem lay_eq {n tb i row a : Nat} {S : St} {T : Nat → Nat → Int32} (h2 : 2 ≤ n) (h6 : n ≤ 6) (ha : a < 2 ^ n) (hi : i < n) (hrow : row < pop a) (hsd : S.1 6 0 = nI (pop a)) (hT : ∀ x y, x < n → y < n → S.1 (19 + tb) (x * n + y) = T x y) (hz : ∀ c, c < 6 → S.2 10 (6 * row + c) = 0) : ∃ S', fX3_layRow n tb (nI i) (nI row) (nI a) S = some ((), S') ∧ S'.1 = S.1 ∧ (∀ q, q ≠ 10 → S'.2 q = S.2 q) ∧ (∀ r c, r < 6 → c < 6 → S'.2 10 (6 * r + c) = if r = row then (if c < pop a then Int32.toInt64 (T i (el a c)) else 0) else S.2 10 (6 * r + c)) := by
  have hN := pw_le h6
  have hpa := pop_le a (by omega)
  obtain ⟨X, e, p1, p2, p3⟩ := pp_fill2 (lX3_layRow_1 n tb (nI i) (nI row) (nI a)) n (by omega) (cnt a) (fun j X => X.1 = S.1 ∧ (∀ q, q ≠ 10 → X.2 q = S.2 q) ∧ (∀ r c, r < 6 → c < 6 → X.2 10 (6 * r + c) = if r = row then (if c < cnt a j then Int32.toInt64 (T i (el a c)) else 0) else S.2 10 (6 * r + c)))
    (by
      intro f j X hj ⟨p1, p2, p3⟩
      have hcs := cnt_s a (by omega) j (by omega)
      cases hb : a.testBit j with
      | false =>
        rw [hb] at hcs
        have hcs : cnt a (j + 1) = cnt a j := hcs
        refine ⟨X, ?_, p1, p2, fun r c hr hc => by rw [hcs]; exact p3 r c hr hc⟩
        show bX3_layRow_1 n tb (nI i) (nI row) (nI a) (lX3_layRow_1 n tb (nI i) (nI row) (nI a) f) (nI (cnt a j)) (nI j) X = _
        unfold bX3_layRow_1
        rw [if_neg (nI_ge hj (by omega)), has_eq a (by omega) j (by omega), hb, nI_1 j, hcs]
        rfl
      | true =>
        rw [hb] at hcs
        have hcs : cnt a (j + 1) = cnt a j + 1 := hcs
        obtain ⟨el1, el2⟩ := el_cnt a (by omega) j (by omega) hb
        obtain ⟨x1, x2⟩ := ix_n h2 h6 hi hj
        refine ⟨sJ X 10 (6 * row + cnt a j) (X.2 10 (6 * row + cnt a j) + Int32.toInt64 (T i j)), ?_, p1, fun q hq => by rw [sJ_r hq]; exact p2 q hq, fun r c hr hc => ?_⟩
        · show bX3_layRow_1 n tb (nI i) (nI row) (nI a) (lX3_layRow_1 n tb (nI i) (nI row) (nI a) f) (nI (cnt a j)) (nI j) X = _
          unfold bX3_layRow_1
          have hat : fX3_at n tb (nI i) (nI j) X = some (T i j) := by
            unfold fX3_at
            rw [ixN, inb_nI x1 x2, cl_nI x2, p1, hT i j hi hj]
            rfl
          rw [if_neg (nI_ge hj (by omega)), has_eq a (by omega) j (by omega), hb, hat]
          show bw (fX2_add n (nI row) (nI (cnt a j)) (Int32.toInt64 (T i j)) X) (fun r5 S7 => lX3_layRow_1 n tb (nI i) (nI row) (nI a) f (nI (cnt a j) + 1) (nI j + 1) S7) = _
          rw [add_eq (k := pop a) hpa (by omega) (by omega) (by rw [p1]; exact hsd), if_pos ⟨hrow, el2⟩, nI_1, nI_1, hcs]
          rfl
        · have hold := p3 r c hr hc
          by_cases c1 : r = row
          · subst c1
            rw [if_pos rfl] at hold ⊢
            by_cases c2 : c = cnt a j
            · subst c2
              rw [sJ_at, if_pos (by omega), el1, hold, if_neg (Nat.lt_irrefl _), Int64.zero_add]
            · rw [sJ_k (by omega), hold]
              by_cases c3 : c < cnt a j
              · rw [if_pos c3, if_pos (by omega)]
              · rw [if_neg c3, if_neg (by omega)]
          · rw [sJ_k (by omega), hold, if_neg c1, if_neg c1])
    (by
      intro f X
      show bX3_layRow_1 n tb (nI i) (nI row) (nI a) (lX3_layRow_1 n tb (nI i) (nI row) (nI a) f) (nI (cnt a n)) (nI n) X = _
      unfold bX3_layRow_1
      rw [if_pos (nI_le (Nat.le_refl _) (by omega))])
    S ⟨rfl, fun _ _ => rfl, fun r c hr hc => by
      rw [cnt_0 a (by omega)]
      by_cases c1 : r = row
      · subst c1; rw [if_pos rfl, if_neg (Nat.not_lt_zero _)]; exact hz c hc
      · rw [if_neg c1]⟩
  rw [cnt_n n h6 a ha] at p3
  refine ⟨X, ?_, p1, p2, p3⟩
  unfold fX3_layRow
  rw [cnt_0 a (by omega)] at e
  rw [show (0 : Int32) = nI 0 from rfl, e]
  rfl
theorem worth4 {n tb a more : Nat} {S : St} {T : Nat → Nat → Int32} (h2 : 2 ≤ n) (h6 : n ≤ 6) (ha : a < 2 ^ n) (hmo : more < 1000) (hT : ∀ x y, x < n → y < n → S.1 (19 + tb) (x * n + y) = T x y) (htb : tb < 6) : ∃ S', fX3_worthOf n tb (nI a) (nI more) S = some (G (Mx T a more) (pop a) (2 ^ pop a - 1), S') ∧ fr4 S S' ∧ S'.2 5 = S.2 5 := by
  have hN := pw_le h6
  have hpa := pop_le a (by omega)
  obtain ⟨B, b1, b2, b3, b4, b5⟩ := begin_eq (n := n) (S := S) hpa
  obtain ⟨X, e, p1, p2, p3⟩ := pp_fill2 (lX3_worthOf_1 n tb (nI a) (nI more)) n (by omega) (cnt a) (fun i X => X.1 = B.1 ∧ (∀ q, q ≠ 10 → X.2 q = B.2 q) ∧ (∀ r c, r < 6 → c < 6 → X.2 10 (6 * r + c) = if r < cnt a i then (if c < pop a then Mx T a more r c else 0) else 0))
    (by
      intro f i X hi ⟨p1, p2, p3⟩
      have hcs := cnt_s a (by omega) i (by omega)
      cases hb : a.testBit i with
      | false =>
        rw [hb] at hcs
        have hcs : cnt a (i + 1) = cnt a i := hcs
        refine ⟨X, ?_, p1, p2, fun r c hr hc => by rw [hcs]; exact p3 r c hr hc⟩
        show bX3_worthOf_1 n tb (nI a) (nI more) (lX3_worthOf_1 n tb (nI a) (nI more) f) (nI (cnt a i)) (nI i) X = _
        unfold bX3_worthOf_1
        rw [if_neg (nI_ge hi (by omega)), has_eq a (by omega) i (by omega), hb, nI_1 i, hcs]
        rfl
      | true =>
        rw [hb] at hcs
        have hcs : cnt a (i + 1) = cnt a i + 1 := hcs
        obtain ⟨el1, el2⟩ := el_cnt a (by omega) i (by omega) hb
        obtain ⟨Y, y, y1, y2, y3⟩ := lay_eq (S := X) (tb := tb) (i := i) (row := cnt a i) (T := T) h2 h6 ha hi el2 (by rw [p1]; exact b2) (fun x y hx hy => by rw [p1, b3 _ (by omega)]; exact hT x y hx hy) (fun c hc => by rw [p3 (cnt a i) c (by omega) hc, if_neg (Nat.lt_irrefl _)])
        refine ⟨sJ Y 10 (6 * cnt a i + cnt a i) (Y.2 10 (6 * cnt a i + cnt a i) + lN more), ?_, by rw [sJ_1, y1]; exact p1, fun q hq => by rw [sJ_r hq, y2 q hq]; exact p2 q hq, fun r c hr hc => ?_⟩
        · show bX3_worthOf_1 n tb (nI a) (nI more) (lX3_worthOf_1 n tb (nI a) (nI more) f) (nI (cnt a i)) (nI i) X = _
          unfold bX3_worthOf_1
          rw [if_neg (nI_ge hi (by omega)), has_eq a (by omega) i (by omega), hb]
          show bw (fX3_layRow n tb (nI i) (nI (cnt a i)) (nI a) X) (fun r8 S10 => bw (fX2_add n (nI (cnt a i)) (nI (cnt a i)) (Int32.toInt64 (nI more)) S10) (fun r11 S13 => lX3_worthOf_1 n tb (nI a) (nI more) f (nI (cnt a i) + 1) (nI i + 1) S13)) = _
          rw [y]
          show bw (fX2_add n (nI (cnt a i)) (nI (cnt a i)) (Int32.toInt64 (nI more)) Y) (fun r11 S13 => lX3_worthOf_1 n tb (nI a) (nI more) f (nI (cnt a i) + 1) (nI i + 1) S13) = _
          rw [add_eq (k := pop a) hpa (by omega) (by omega) (by rw [y1, p1]; exact b2), if_pos ⟨el2, el2⟩, nI_1, nI_1, hcs, toL hmo]
          rfl
        · have hy := y3 r c hr hc
          by_cases c1 : r = cnt a i
          · subst c1
            rw [if_pos rfl] at hy
            rw [if_pos (by omega)]
            by_cases c2 : c = cnt a i
            · subst c2
              rw [sJ_at, hy, if_pos el2, if_pos el2]
              unfold Mx
              rw [if_pos rfl, el1]
            · rw [sJ_k (by omega), hy]
              by_cases c4 : c < pop a
              · rw [if_pos c4, if_pos c4]
                unfold Mx
                rw [if_neg (fun q => c2 q.symm), el1, Int64.add_zero]
              · rw [if_neg c4, if_neg c4]
          · rw [sJ_k (by omega), hy, if_neg c1, p3 r c hr hc]
            by_cases c3 : r < cnt a i
            · rw [if_pos c3, if_pos (show r < cnt a (i + 1) by omega)]
            · rw [if_neg c3, if_neg (show ¬ r < cnt a (i + 1) by omega)])
    (by
      intro f X
      show bX3_worthOf_1 n tb (nI a) (nI more) (lX3_worthOf_1 n tb (nI a) (nI more) f) (nI (cnt a n)) (nI n) X = _
      unfold bX3_worthOf_1
      rw [if_pos (nI_le (Nat.le_refl _) (by omega))])
    B ⟨rfl, fun _ _ => rfl, fun r c hr hc => by rw [cnt_0 a (by omega), if_neg (Nat.not_lt_zero _)]; exact b5 _ (by omega)⟩
  rw [cnt_n n h6 a ha] at p3
  obtain ⟨Z, z, z1, z2⟩ := det_eq (n := n) (S := X) (k := pop a) (M := Mx T a more) hpa (by rw [p1]; exact b2) (fun r c hr hc => by rw [p3 r c (by omega) (by omega), if_pos hr, if_pos hc])
  refine ⟨Z, ?_, ⟨fun q q5 q10 q11 => by rw [z2 q q11, p2 q q10, b4 q q10], fun q q6 => by rw [z1, p1, b3 q q6]⟩, by rw [z2 5 (by decide), p2 5 (by decide), b4 5 (by decide)]⟩
  unfold fX3_worthOf
  rw [bitCount_eq a (by omega)]
  show bw (fX2_begin n (nI (pop a)) S) (fun r3 S5 => bw (lX3_worthOf_1 n tb (nI a) (nI more) FU (0 : Int32) (0 : Int32) S5) (fun q16 S18 => bw (fX2_determinant n S18) (fun r19 S21 => some (r19, S21)))) = _
  rw [b1]
  show bw (lX3_worthOf_1 n tb (nI a) (nI more) FU (0 : Int32) (0 : Int32) B) (fun q16 S18 => bw (fX2_determinant n S18) (fun r19 S21 => some (r19, S21))) = _
  rw [cnt_0 a (by omega)] at e
  rw [show (0 : Int32) = nI 0 from rfl, e]
  show bw (fX2_determinant n X) (fun r19 S21 => some (r19, S21)) = _
  rw [z]
  rfl
/-! the reference's determinant -/
theorem ent_eq {x : Int32} {more : Nat} (h : -5 ≤ x.toInt ∧ x.toInt ≤ 5) (hm : more ≤ 1) : Int32.toInt64 (x + nI more) = Int32.toInt64 x + lN more := by
  apply Int64.toInt_inj.mp
  rw [Int32.toInt_toInt64, Int32.toInt_add, Int64.toInt_add, Int32.toInt_toInt64, pk_lT (by omega), nI_toInt (by omega)]
  rw [Int.bmod_eq_of_le (by omega) (by omega), Int.bmod_eq_of_le (by omega) (by omega)]
theorem shr_ix : ∀ s, s < 64 → ∀ j, j < 6 → (nI s >>> ((nI j + (1 : Int32)) &&& 31)) = nI (s >>> (j + 1)) ∧ s >>> (j + 1) < 64 := by decide +kernel
theorem odd_ix : ∀ p, p ≤ 6 → ((nI p - nI p / (2 : Int32) * (2 : Int32)) = (1 : Int32) ↔ p % 2 = 1) := by decide +kernel
theorem clr_ix : ∀ s, s < 64 → ∀ j, j < 6 → s.testBit j = true → (nI s &&& (((1 : Int32) <<< (nI j &&& 31)) ^^^ (-1 : Int32))) = nI (s - 2 ^ j) := by decide +kernel
theorem lt_pow : ∀ k, k ≤ 6 → ((1 : Int32) <<< (nI k &&& 31)) = nI (2 ^ k) := by decide +kernel
theorem worth5 {n t a more : Nat} {S : St} {T : Nat → Nat → Int32} (h2 : 2 ≤ n) (h6 : n ≤ 6) (ha : a < 2 ^ n) (hmo : more ≤ 1) (ht : t < 6) (hT : ∀ x y, x < n → y < n → S.1 37 (36 * t + 6 * x + y) = T x y ∧ -5 ≤ (T x y).toInt ∧ (T x y).toInt ≤ 5) : ∃ S', fX5_determinant n (nI t) (nI a) (nI more) S = some (G (Mx T a more) (pop a) (2 ^ pop a - 1), S') ∧ fr5 S S' ∧ S'.2 41 = S.2 41 := by
  have hN := pw_le h6
  have hpa := pop_le a (by omega)
  have hP := pw_le hpa
  have hP0 := pw_pos (n := pop a)
  -- the things of the set
  have l1 : ∀ d i f X, i + d = n → d < f → (X.2 = S.2 ∧ (∀ q, q ≠ 38 → X.1 q = S.1 q) ∧ ∀ r, r < cnt a i → X.1 38 r = nI (el a r)) → ∃ X', lX5_determinant_1 n (nI t) (nI a) (nI more) f (nI (cnt a i)) (nI i) X = some (nI (pop a), X') ∧ (X'.2 = S.2 ∧ (∀ q, q ≠ 38 → X'.1 q = S.1 q) ∧ ∀ r, r < pop a → X'.1 38 r = nI (el a r)) := by
    intro d
    induction d with
    | zero =>
      intro i f X hi hf hp
      obtain ⟨f, rfl⟩ : ∃ g, f = g + 1 := ⟨f - 1, by omega⟩
      have : i = n := by omega
      subst this
      rw [cnt_n i h6 a ha] at hp ⊢
      refine ⟨X, ?_, hp⟩
      show bX5_determinant_1 i (nI t) (nI a) (nI more) (lX5_determinant_1 i (nI t) (nI a) (nI more) f) _ (nI i) X = _
      unfold bX5_determinant_1
      rw [if_pos (nI_le (Nat.le_refl _) (by omega))]
    | succ d ih =>
      intro i f X hi hf ⟨x1, x2, x3⟩
      obtain ⟨f, rfl⟩ : ∃ g, f = g + 1 := ⟨f - 1, by omega⟩
      have hcs := cnt_s a (by omega) i (by omega)
      cases hb : a.testBit i with
      | false =>
        rw [hb] at hcs
        have hcs : cnt a (i + 1) = cnt a i := hcs
        obtain ⟨X', e, hX⟩ := ih (i + 1) f X (by omega) (by omega) ⟨x1, x2, by rw [hcs]; exact x3⟩
        refine ⟨X', ?_, hX⟩
        show bX5_determinant_1 n (nI t) (nI a) (nI more) (lX5_determinant_1 n (nI t) (nI a) (nI more) f) _ (nI i) X = _
        unfold bX5_determinant_1
        rw [if_neg (nI_ge (show i < n by omega) (by omega)), if_pos ((bit_eq a (by omega) i (by omega)).mpr hb), nI_1]
        rw [hcs] at e
        exact e
      | true =>
        rw [hb] at hcs
        have hcs : cnt a (i + 1) = cnt a i + 1 := hcs
        obtain ⟨el1, el2⟩ := el_cnt a (by omega) i (by omega) hb
        obtain ⟨X', e, hX⟩ := ih (i + 1) f (sI X 38 (cnt a i) (nI i)) (by omega) (by omega) ⟨x1, fun q hq => by rw [sI_r hq]; exact x2 q hq, fun r hr => by
          by_cases c : r = cnt a i
          · subst c; rw [sI_at, el1]
          · rw [sI_k c]; exact x3 r (by omega)⟩
        refine ⟨X', ?_, hX⟩
        show bX5_determinant_1 n (nI t) (nI a) (nI more) (lX5_determinant_1 n (nI t) (nI a) (nI more) f) _ (nI i) X = _
        unfold bX5_determinant_1
        rw [if_neg (nI_ge (show i < n by omega) (by omega)), if_neg (fun z => by rw [(bit_eq a (by omega) i (by omega)).mp z] at hb; cases hb), inb_nI (show cnt a i < 6 by omega) (by omega), cl_nI (by omega), nI_1, nI_1]
        rw [hcs] at e
        exact e
  obtain ⟨B, b, b1, b2, b3⟩ := l1 n 0 FU S (by omega) (by show n < 1000; omega) ⟨rfl, fun _ _ => rfl, fun r hr => by rw [cnt_0 a (by omega)] at hr; exact absurd hr (Nat.not_lt_zero r)⟩
  rw [cnt_0 a (by omega)] at b
  -- the entries, as the loop reads them
  have ent : ∀ X : St, (∀ q, X.1 q = B.1 q) → ∀ r c, r < pop a → c < pop a → inb (((((36 : Int32) * nI t) + ((6 : Int32) * (X.1 38 (Int32.toNatClampNeg (nI r))))) + (X.1 38 (Int32.toNatClampNeg (nI c))))) 216 = true ∧ X.1 37 (Int32.toNatClampNeg (((((36 : Int32) * nI t) + ((6 : Int32) * (X.1 38 (Int32.toNatClampNeg (nI r))))) + (X.1 38 (Int32.toNatClampNeg (nI c)))))) = T (el a r) (el a c) := by
    intro X hX r c hr hc
    have e1 := el_lt n h6 a ha r hr
    have e2 := el_lt n h6 a ha c hc
    rw [cl_nI (by omega), cl_nI (by omega), hX, hX, b3 r hr, b3 c hc, ix36, inb_nI (by omega) (by omega), cl_nI (by omega), b2 37 (by decide)]
    exact ⟨rfl, (hT _ _ e1 e2).1⟩
  -- one minor
  have l3 : ∀ s, s < 2 ^ pop a → s ≠ 0 → ∀ Y : St, (∀ q, Y.1 q = B.1 q) → Y.2 39 s = 0 → (∀ u, u < s → Y.2 39 u = G (Mx T a more) (pop a) u) → ∃ Y', lX5_determinant_3 n (nI t) (nI more) (nI (pop a)) (nI s) (nI (pop s - 1)) FU (0 : Int32) Y = some ((), Y') ∧ (∀ q, Y'.1 q = B.1 q) ∧ (∀ q, q ≠ 39 → Y'.2 q = Y.2 q) ∧ (∀ u, u ≠ s → Y'.2 39 u = Y.2 39 u) ∧ Y'.2 39 s = G (Mx T a more) (pop a) s := by
    intro s hs h0 Y hY hY0 hYu
    have h64 : s < 64 := by omega
    have hp1 := pop_pos s h64 h0
    have hp2 := pop_n (pop a) hpa s hs
    obtain ⟨Z, z, z1, z2, z3, z4⟩ := pp_fill (lX5_determinant_3 n (nI t) (nI more) (nI (pop a)) (nI s) (nI (pop s - 1))) (pop a) 0 (by omega) (Nat.zero_le _) (fun j Z => (∀ q, Z.1 q = B.1 q) ∧ (∀ q, q ≠ 39 → Z.2 q = Y.2 q) ∧ (∀ u, u ≠ s → Z.2 39 u = Y.2 39 u) ∧ Z.2 39 s = sm (fun c => bif s.testBit c then sgm (pop (s >>> (c + 1))) (Mx T a more (pop s - 1) c) * G (Mx T a more) (pop a) (s - 2 ^ c) else 0) j)
      (by
        intro f j Z hj ⟨z1, z2, z3, z4⟩
        cases hb : s.testBit j with
        | false =>
          refine ⟨Z, ?_, z1, z2, z3, ?_⟩
          · show bX5_determinant_3 n (nI t) (nI more) (nI (pop a)) (nI s) (nI (pop s - 1)) (lX5_determinant_3 n (nI t) (nI more) (nI (pop a)) (nI s) (nI (pop s - 1)) f) (nI j) Z = _
            unfold bX5_determinant_3
            rw [if_neg (nI_ge hj (by omega)), if_pos ((bit_eq s h64 j (by omega)).mpr hb), nI_1]
          · rw [sm, z4, hb]
            exact (Int64.add_zero _).symm
        | true =>
          have hbs := bit_sub s h64 j (by omega) hb
          have h2j : 0 < 2 ^ j := Nat.two_pow_pos j
          obtain ⟨en1, en2⟩ := ent Z z1 (pop s - 1) j (by omega) hj
          obtain ⟨sh1, sh2⟩ := shr_ix s h64 j (by omega)
          have hpq := pop_le (s >>> (j + 1)) sh2
          have hodd := odd_ix (pop (s >>> (j + 1))) hpq
          have hTb := hT (el a (pop s - 1)) (el a j) (el_lt n h6 a ha _ (by omega)) (el_lt n h6 a ha _ hj)
          have hgu : Z.2 39 (s - 2 ^ j) = G (Mx T a more) (pop a) (s - 2 ^ j) := by rw [z3 _ (by omega)]; exact hYu _ (by omega)
          have hentry : Int32.toInt64 (T (el a (pop s - 1)) (el a j) + (if pop s - 1 = j then nI more else (0 : Int32))) = Mx T a more (pop s - 1) j := by
            unfold Mx
            by_cases c : pop s - 1 = j
            · rw [if_pos c, if_pos c]
              exact ent_eq hTb.2 hmo
            · rw [if_neg c, if_neg c]
              exact ent_eq (more := 0) hTb.2 (by omega)
          refine ⟨sJ Z 39 s (Z.2 39 s + sgm (pop (s >>> (j + 1))) (Mx T a more (pop s - 1) j) * G (Mx T a more) (pop a) (s - 2 ^ j)), ?_, z1, fun q hq => by rw [sJ_r hq]; exact z2 q hq, fun u hu => by rw [sJ_k hu]; exact z3 u hu, ?_⟩
          · show bX5_determinant_3 n (nI t) (nI more) (nI (pop a)) (nI s) (nI (pop s - 1)) (lX5_determinant_3 n (nI t) (nI more) (nI (pop a)) (nI s) (nI (pop s - 1)) f) (nI j) Z = _
            unfold bX5_determinant_3
            rw [if_neg (nI_ge hj (by omega)), if_neg (fun q => by rw [(bit_eq s h64 j (by omega)).mp q] at hb; cases hb), en1, en2, inb_nI (show pop s - 1 < 6 by omega) (by omega), inb_nI (show j < 6 by omega) (by omega), sh1, sizeOf_eq _ sh2, clr_ix s h64 j (by omega) hb, inb_nI (show s < 64 by omega) (by omega), inb_nI (show s - 2 ^ j < 64 by omega) (by omega), cl_nI (show s < 1000 by omega), cl_nI (show s - 2 ^ j < 1000 by omega), hgu, nI_1]
            unfold sgm
            by_cases c : pop s - 1 = j
            · rw [if_pos c] at hentry
              rw [if_pos (congrArg nI c), hentry]
              by_cases o : pop (s >>> (j + 1)) % 2 = 1
              · rw [if_pos o]
                show (if (nI (pop (s >>> (j + 1))) - nI (pop (s >>> (j + 1))) / (2 : Int32) * (2 : Int32)) = (1 : Int32) then _ else _) = _
                rw [if_pos (hodd.mpr o)]
                rfl
              · rw [if_neg o]
                show (if (nI (pop (s >>> (j + 1))) - nI (pop (s >>> (j + 1))) / (2 : Int32) * (2 : Int32)) = (1 : Int32) then _ else _) = _
                rw [if_neg (fun q => o (hodd.mp q))]
                rfl
            · rw [if_neg c] at hentry
              rw [if_neg (fun q => c ((nI_inj (by omega) (by omega)).mp q)), hentry]
              by_cases o : pop (s >>> (j + 1)) % 2 = 1
              · rw [if_pos o]
                show (if (nI (pop (s >>> (j + 1))) - nI (pop (s >>> (j + 1))) / (2 : Int32) * (2 : Int32)) = (1 : Int32) then _ else _) = _
                rw [if_pos (hodd.mpr o)]
                rfl
              · rw [if_neg o]
                show (if (nI (pop (s >>> (j + 1))) - nI (pop (s >>> (j + 1))) / (2 : Int32) * (2 : Int32)) = (1 : Int32) then _ else _) = _
                rw [if_neg (fun q => o (hodd.mp q))]
                rfl
          · rw [sJ_at, sm, z4, hb]
            rfl)
      (by
        intro f Z
        show bX5_determinant_3 n (nI t) (nI more) (nI (pop a)) (nI s) (nI (pop s - 1)) (lX5_determinant_3 n (nI t) (nI more) (nI (pop a)) (nI s) (nI (pop s - 1)) f) (nI (pop a)) Z = _
        unfold bX5_determinant_3
        rw [if_pos (nI_le (Nat.le_refl _) (by omega))])
      Y ⟨hY, fun _ _ => rfl, fun _ _ => rfl, hY0⟩
    rw [show nI 0 = (0 : Int32) from rfl] at z
    exact ⟨Z, z, z1, z2, z3, by rw [z4, ← G_s h0]⟩
  -- all of them
  obtain ⟨X, e, x1, x2, x3, -⟩ := pp_fill (lX5_determinant_2 n (nI t) (nI more) (nI (pop a))) (2 ^ pop a) 1 (by omega) (by omega) (fun s X => (∀ q, X.1 q = B.1 q) ∧ (∀ q, q ≠ 39 → X.2 q = B.2 q) ∧ (∀ u, u < s → X.2 39 u = G (Mx T a more) (pop a) u) ∧ s ≠ 0)
    (by
      intro f s X hs ⟨x1, x2, x3, h0⟩
      have h64 : s < 64 := by omega
      have hp1 := pop_pos s h64 h0
      obtain ⟨Y, y, y1, y2, y3, y4⟩ := l3 s hs h0 (sJ X 39 s 0) x1 sJ_at (fun u hu => by rw [sJ_k (by omega)]; exact x3 u hu)
      refine ⟨Y, ?_, y1, fun q hq => by rw [y2 q hq, sJ_r hq]; exact x2 q hq, fun u hu => ?_, by omega⟩
      · show bX5_determinant_2 n (nI t) (nI more) (nI (pop a)) (lX5_determinant_2 n (nI t) (nI more) (nI (pop a)) f) (nI s) X = _
        unfold bX5_determinant_2
        rw [lt_pow (pop a) hpa, if_neg (nI_ge hs (by omega)), sizeOf_eq s h64]
        show gd (inb (nI s) 64) (bw (lX5_determinant_3 n (nI t) (nI more) (nI (pop a)) (nI s) (nI (pop s) - (1 : Int32)) FU (0 : Int32) (sJ X 39 (Int32.toNatClampNeg (nI s)) (0 : Int64))) (fun q21 S23 => lX5_determinant_2 n (nI t) (nI more) (nI (pop a)) f (nI s + 1) S23)) = _
        rw [inb_nI h64 (by omega), cl_nI (by omega), nI_m1 (by omega), y, nI_1]
        rfl
      · by_cases c : u = s
        · subst c; exact y4
        · rw [y3 u c, sJ_k c]; exact x3 u (by omega))
    (by
      intro f X
      show bX5_determinant_2 n (nI t) (nI more) (nI (pop a)) (lX5_determinant_2 n (nI t) (nI more) (nI (pop a)) f) (nI (2 ^ pop a)) X = _
      unfold bX5_determinant_2
      rw [lt_pow (pop a) hpa, if_pos (nI_le (Nat.le_refl _) (by omega))])
    (sJ B 39 0 1) ⟨fun _ => rfl, fun q hq => by rw [sJ_r hq], fun u hu => by
      have : u = 0 := by omega
      subst this
      rw [sJ_at, G_0], by decide⟩
  refine ⟨X, ?_, ⟨fun q q39 _ => by rw [x2 q q39, b1], fun q q38 _ => by rw [x1 q, b2 q q38]⟩, by rw [x2 41 (by decide), b1]⟩
  unfold fX5_determinant
  rw [show (0 : Int32) = nI 0 from rfl, b]
  show gd (inb (0 : Int32) 64) (bw (lX5_determinant_2 n (nI t) (nI more) (nI (pop a)) FU (1 : Int32) (sJ B 39 (Int32.toNatClampNeg (0 : Int32)) (1 : Int64))) (fun q25 S27 => gd (inb (((1 : Int32) <<< (nI (pop a) &&& 31)) - (1 : Int32)) 64) (some (S27.2 39 (Int32.toNatClampNeg (((1 : Int32) <<< (nI (pop a) &&& 31)) - (1 : Int32))), S27)))) = _
  rw [show inb (0 : Int32) 64 = true from by decide, show Int32.toNatClampNeg (0 : Int32) = 0 from rfl, every_ok (pop a) hpa]
  show bw (lX5_determinant_2 n (nI t) (nI more) (nI (pop a)) FU (nI 1) (sJ B 39 0 (1 : Int64))) (fun q25 S27 => gd (inb (nI (2 ^ pop a - 1)) 64) (some (S27.2 39 (Int32.toNatClampNeg (nI (2 ^ pop a - 1))), S27))) = _
  rw [e]
  show gd (inb (nI (2 ^ pop a - 1)) 64) (some (X.2 39 (Int32.toNatClampNeg (nI (2 ^ pop a - 1))), X)) = _
  rw [inb_nI (show 2 ^ pop a - 1 < 64 by omega) (by omega), cl_nI (by omega), x3 (2 ^ pop a - 1) (by omega)]
  rfl
