/-! ===== determinants by minors: what both compute ===== -/
def sgm (p : Nat) (x : Int64) : Int64 := if p % 2 = 1 then -x else x
def Gf (M : Nat → Nat → Int64) (k : Nat) : Nat → Nat → Int64
  | 0, _ => 1
  | f + 1, s => if s = 0 then 1 else sm (fun c => bif s.testBit c then sgm (pop (s >>> (c + 1))) (M (pop s - 1) c) * Gf M k f (s - 2 ^ c) else 0) k
theorem Gf_fuel {M : Nat → Nat → Int64} {k : Nat} : ∀ f g s, s ≤ f → s ≤ g → Gf M k f s = Gf M k g s
  | 0, 0, s, _, _ => rfl
  | 0, g + 1, s, h, _ => by
    have : s = 0 := by omega
    subst this
    rw [Gf, Gf, if_pos rfl]
  | f + 1, 0, s, _, h => by
    have : s = 0 := by omega
    subst this
    rw [Gf, Gf, if_pos rfl]
  | f + 1, g + 1, s, hf, hg => by
    rw [Gf, Gf]
    by_cases c : s = 0
    · rw [if_pos c, if_pos c]
    · rw [if_neg c, if_neg c]
      refine sm_cong (fun j _ => ?_)
      have hp : 0 < 2 ^ j := Nat.two_pow_pos j
      rw [Gf_fuel f g (s - 2 ^ j) (by omega) (by omega)]
def G (M : Nat → Nat → Int64) (k s : Nat) : Int64 := Gf M k s s
theorem G_0 {M : Nat → Nat → Int64} {k : Nat} : G M k 0 = 1 := rfl
theorem G_s {M : Nat → Nat → Int64} {k s : Nat} (h : s ≠ 0) : G M k s = sm (fun c => bif s.testBit c then sgm (pop (s >>> (c + 1))) (M (pop s - 1) c) * G M k (s - 2 ^ c) else 0) k := by
  obtain ⟨f, rfl⟩ : ∃ f, s = f + 1 := ⟨s - 1, by omega⟩
  unfold G
  rw [Gf, if_neg h]
  refine sm_cong (fun j _ => ?_)
  have hp : 0 < 2 ^ j := Nat.two_pow_pos j
  rw [Gf_fuel f (f + 1 - 2 ^ j) (f + 1 - 2 ^ j) (by omega) (Nat.le_refl _)]
theorem pop_pos : ∀ s, s < 64 → s ≠ 0 → 1 ≤ pop s := by decide +kernel
theorem pop_shr : ∀ s, s < 64 → ∀ c, c < 6 → pop (s >>> c) = pop (s >>> (c + 1)) + (if s.testBit c then 1 else 0) := by decide +kernel
theorem pop_top : ∀ k, k ≤ 6 → ∀ s, s < 2 ^ k → pop (s >>> k) = 0 := by decide +kernel
theorem bit_sub : ∀ s, s < 64 → ∀ c, c < 6 → s.testBit c = true → 2 ^ c ≤ s := by decide +kernel
theorem side_ok : ∀ k, k ≤ 6 → (if (0 : Int32) < (if nI k < (6 : Int32) then nI k else (6 : Int32)) then (if nI k < (6 : Int32) then nI k else (6 : Int32)) else (0 : Int32)) = nI k := by decide +kernel
theorem among_side : ∀ k, k ≤ 6 → ∀ r, r < 6 → fX4_isAmong (nI r) (0 : Int32) (nI k - (1 : Int32)) = some (decide (r < k)) := by decide +kernel
theorem begin_eq {n k : Nat} {S : St} (hk : k ≤ 6) : ∃ S', fX2_begin n (nI k) S = some ((), S') ∧ S'.1 6 0 = nI k ∧ (∀ q, q ≠ 6 → S'.1 q = S.1 q) ∧ (∀ q, q ≠ 10 → S'.2 q = S.2 q) ∧ ∀ c, c < 36 → S'.2 10 c = 0 := by
  obtain ⟨X, e, p1, p2, p3⟩ := pp_fill (lX2_begin_1 n) 36 0 (by decide) (by decide) (fun j X => (∀ q, q ≠ 10 → X.2 q = S.2 q) ∧ X.1 = (sI S 6 0 (nI k)).1 ∧ ∀ c, c < j → X.2 10 c = 0)
    (by
      intro f j X hj ⟨p1, p2, p3⟩
      refine ⟨sJ X 10 j 0, ?_, fun q hq => by rw [sJ_r hq]; exact p1 q hq, p2, fun s hs => ?_⟩
      · show bX2_begin_1 n (lX2_begin_1 n f) (nI j) X = _
        unfold bX2_begin_1
        rw [if_neg (nI_ge (a := j) (b := 36) hj (by decide)), inb_nI hj (by omega), cl_nI (by omega), nI_1]
        rfl
      · by_cases c : s = j
        · subst c; exact sJ_at
        · rw [sJ_k c]; exact p3 s (by omega))
    (by
      intro f X
      show bX2_begin_1 n (lX2_begin_1 n f) (nI 36) X = _
      unfold bX2_begin_1
      rw [if_pos (nI_le (a := 36) (b := 36) (Nat.le_refl _) (by decide))])
    (sI S 6 0 (nI k)) ⟨fun _ _ => rfl, rfl, fun s hs => absurd hs (Nat.not_lt_zero s)⟩
  refine ⟨X, ?_, by rw [p2]; exact sI_at, fun q hq => by rw [p2]; exact sI_r hq, p1, p3⟩
  unfold fX2_begin
  rw [side_ok k hk]
  rw [show (0 : Int32) = nI 0 from rfl, e]
  rfl
theorem add_eq {n k r c : Nat} {v : Int64} {S : St} (hk : k ≤ 6) (hr : r < 6) (hc : c < 6) (hs : S.1 6 0 = nI k) : fX2_add n (nI r) (nI c) v S = some ((), if r < k ∧ c < k then sJ S 10 (6 * r + c) (S.2 10 (6 * r + c) + v) else S) := by
  unfold fX2_add
  have hix : ((nI r * (6 : Int32)) + nI c) = nI (6 * r + c) := by
    rw [show (6 : Int32) = nI 6 from rfl, pk_mul, nI_add, Nat.mul_comm]
  rw [hs, among_side k hk r hr, among_side k hk c hc, hix, inb_nI (show 6 * r + c < 36 by omega) (by omega), cl_nI (by omega)]
  by_cases c1 : r < k
  · by_cases c2 : c < k
    · rw [decide_eq_true c1, decide_eq_true c2, if_pos ⟨c1, c2⟩]; rfl
    · rw [decide_eq_true c1, decide_eq_false c2, if_neg (fun q => c2 q.2)]; rfl
  · rw [decide_eq_false c1, if_neg (fun q => c1 q.1)]; rfl
theorem neg1_mul (x : Int64) : (-1 : Int64) * x = -x := by
  rw [Int64.neg_mul, Int64.one_mul]
def sg (p : Nat) : Int64 := if p % 2 = 1 then -1 else 1
theorem sg_flip (p : Nat) : -(sg p) = sg (p + 1) := by
  unfold sg
  by_cases c : p % 2 = 1
  · rw [if_pos c, if_neg (by omega)]; rfl
  · rw [if_neg c, if_pos (by omega)]
theorem sg_mul (p : Nat) (x : Int64) : sg p * x = sgm p x := by
  unfold sg sgm
  by_cases c : p % 2 = 1
  · rw [if_pos c, if_pos c, neg1_mul]
  · rw [if_neg c, if_neg c, Int64.one_mul]
theorem row_ix : ∀ s, s < 64 → s ≠ 0 → (nI (pop s) - (1 : Int32)) * (6 : Int32) = nI (6 * (pop s - 1)) := by decide +kernel
theorem sub_ix : ∀ s, s < 64 → ∀ c, c < 6 → s.testBit c = true → nI s - ((1 : Int32) <<< (nI c &&& 31)) = nI (s - 2 ^ c) := by decide +kernel
theorem and_shl : ∀ s, s < 64 → ∀ c, c < 6 → ((nI s &&& ((1 : Int32) <<< (nI c &&& 31))) = 0 ↔ s.testBit c = false) := by decide +kernel
theorem m1_m1 (c : Nat) : nI (c + 1) - (1 : Int32) = nI c := nI_pred c
/-- the sum along the last row, from the last column down -/
theorem along_eq {n k s : Nat} {M : Nat → Nat → Int64} {g : Nat → Int64} {S : St} (hk : k ≤ 6) (hs : s < 2 ^ k) (h0 : s ≠ 0) (hsd : S.1 6 0 = nI k) (hM : ∀ r c, r < k → c < k → S.2 10 (6 * r + c) = M r c) (hg : ∀ t, t < s → S.2 11 t = g t) : fX2_alongLastRow n (nI s) S = some (sm (fun c => bif s.testBit c then sgm (pop (s >>> (c + 1))) (M (pop s - 1) c) * g (s - 2 ^ c) else 0) k) := by
  have h64 : s < 64 := Nat.lt_of_lt_of_le hs (pw_le hk)
  have hp1 := pop_pos s h64 h0
  have hp2 := pop_n k hk s hs
  generalize ht : (fun c => bif s.testBit c then sgm (pop (s >>> (c + 1))) (M (pop s - 1) c) * g (s - 2 ^ c) else 0) = t
  have key : ∀ c f, c ≤ k → c < f → lX2_alongLastRow_1 n (nI s) (nI (6 * (pop s - 1))) S f (sg (pop (s >>> c))) (sm t k - sm t c) (nI c - (1 : Int32)) = some (sm t k) := by
    intro c
    induction c with
    | zero =>
      intro f hc hf
      obtain ⟨f, rfl⟩ : ∃ g, f = g + 1 := ⟨f - 1, by omega⟩
      show bX2_alongLastRow_1 n (nI s) (nI (6 * (pop s - 1))) S (lX2_alongLastRow_1 n (nI s) (nI (6 * (pop s - 1))) S f) _ _ (nI 0 - (1 : Int32)) = _
      unfold bX2_alongLastRow_1
      rw [if_pos (show nI 0 - (1 : Int32) < 0 by decide)]
      show some (sm t k - 0) = _
      rw [Int64.sub_zero]
    | succ c ih =>
      intro f hc hf
      obtain ⟨f, rfl⟩ : ∃ g, f = g + 1 := ⟨f - 1, by omega⟩
      have ih := ih f (by omega) (by omega)
      rw [m1_m1]
      show bX2_alongLastRow_1 n (nI s) (nI (6 * (pop s - 1))) S (lX2_alongLastRow_1 n (nI s) (nI (6 * (pop s - 1))) S f) _ _ (nI c) = _
      unfold bX2_alongLastRow_1
      have hps := pop_shr s h64 c (by omega)
      have hstep : sm t (c + 1) = sm t c + t c := rfl
      have hm1 : nI c + (-1 : Int32) = nI c - (1 : Int32) := by
        rw [Int32.sub_eq_add_neg]
      rw [if_neg (show ¬ nI c < 0 from nI_pos (by omega)), hm1]
      cases hb : s.testBit c with
      | false =>
        rw [if_pos ((and_shl s h64 c (by omega)).mpr hb)]
        rw [hb] at hps
        have htc : t c = 0 := by rw [← ht]; simp [hb]
        rw [hstep, htc, Int64.add_zero]
        rw [show pop (s >>> c) = pop (s >>> (c + 1)) from hps] at ih
        exact ih
      | true =>
        have hbs := bit_sub s h64 c (by omega) hb
        have h2c : 0 < 2 ^ c := Nat.two_pow_pos c
        rw [if_neg (fun z => by rw [(and_shl s h64 c (by omega)).mp z] at hb; cases hb)]
        rw [hb] at hps
        have htc : t c = sgm (pop (s >>> (c + 1))) (M (pop s - 1) c) * g (s - 2 ^ c) := by rw [← ht]; simp [hb]
        rw [nI_add, inb_nI (show 6 * (pop s - 1) + c < 36 by omega) (by omega), cl_nI (by omega), sub_ix s h64 c (by omega) hb, inb_nI (show s - 2 ^ c < 64 by omega) (by omega), cl_nI (by omega), hM (pop s - 1) c (by omega) (by omega), hg (s - 2 ^ c) (by omega), sg_flip, sg_mul, ← htc]
        show lX2_alongLastRow_1 n (nI s) (nI (6 * (pop s - 1))) S f (sg (pop (s >>> (c + 1)) + 1)) (sm t k - sm t (c + 1) + t c) (nI c - (1 : Int32)) = _
        have hacc : sm t k - sm t (c + 1) + t c = sm t k - sm t c := by
          rw [hstep, Int64.sub_eq_add_neg, Int64.neg_add, Int64.sub_eq_add_neg, Int64.add_assoc, Int64.sub_eq_add_neg, Int64.add_assoc, Int64.add_left_neg, Int64.add_zero]
        rw [hacc]
        rw [show pop (s >>> c) = pop (s >>> (c + 1)) + 1 from hps] at ih
        exact ih
  unfold fX2_alongLastRow
  rw [bitCount_eq s h64]
  show bo (lX2_alongLastRow_1 n (nI s) ((nI (pop s) - (1 : Int32)) * (6 : Int32)) S FU (1 : Int64) (0 : Int64) ((S.1 6 0) - (1 : Int32))) (fun q5 => some q5) = _
  rw [row_ix s h64 h0, hsd]
  have h3 := key k FU (Nat.le_refl _) (by show k < 1000; omega)
  rw [pop_top k hk s hs, Int64.sub_self] at h3
  rw [show (1 : Int64) = sg 0 from rfl, h3]
  rfl
theorem every_ok : ∀ k, k ≤ 6 → ((1 : Int32) <<< (nI k &&& 31)) - (1 : Int32) = nI (2 ^ k - 1) := by decide +kernel
theorem det_eq {n k : Nat} {M : Nat → Nat → Int64} {S : St} (hk : k ≤ 6) (hsd : S.1 6 0 = nI k) (hM : ∀ r c, r < k → c < k → S.2 10 (6 * r + c) = M r c) : ∃ S', fX2_determinant n S = some (G M k (2 ^ k - 1), S') ∧ S'.1 = S.1 ∧ ∀ q, q ≠ 11 → S'.2 q = S.2 q := by
  have hN := pw_le hk
  have h0 := pw_pos (n := k)
  obtain ⟨X, e, p1, p2, p3, -⟩ := pp_fill (lX2_determinant_1 n (nI (2 ^ k - 1))) (2 ^ k) 1 (by omega) (by omega) (fun s X => (∀ q, q ≠ 11 → X.2 q = S.2 q) ∧ X.1 = S.1 ∧ (∀ t, t < s → X.2 11 t = G M k t) ∧ s ≠ 0)
    (by
      intro f s X hs ⟨p1, p2, p3, hz⟩
      · refine ⟨sJ X 11 s (G M k s), ?_, fun q hq => by rw [sJ_r hq]; exact p1 q hq, p2, fun t ht => ?_, by omega⟩
        · show bX2_determinant_1 n (nI (2 ^ k - 1)) (lX2_determinant_1 n (nI (2 ^ k - 1)) f) (nI s) X = _
          unfold bX2_determinant_1
          rw [if_neg (nI_nlt (show s ≤ 2 ^ k - 1 by omega) (by omega)), along_eq (M := M) (g := G M k) hk hs hz (by rw [p2]; exact hsd) (fun r c hr hc => by rw [p1 10 (by decide)]; exact hM r c hr hc) p3, ← G_s hz]
          show gd (inb (nI s) 64) (lX2_determinant_1 n (nI (2 ^ k - 1)) f (nI s + 1) (sJ X 11 (Int32.toNatClampNeg (nI s)) (G M k s))) = _
          rw [inb_nI (show s < 64 by omega) (by omega), cl_nI (by omega), nI_1]
          rfl
        · by_cases c : t = s
          · subst c; exact sJ_at
          · rw [sJ_k c]; exact p3 t (by omega))
    (by
      intro f X
      show bX2_determinant_1 n (nI (2 ^ k - 1)) (lX2_determinant_1 n (nI (2 ^ k - 1)) f) (nI (2 ^ k)) X = _
      unfold bX2_determinant_1
      rw [if_pos (nI_lt (show 2 ^ k - 1 < 2 ^ k by omega) (by omega))])
    (sJ S 11 0 1) ⟨fun q hq => by rw [sJ_r hq], rfl, fun t ht => by
      have : t = 0 := by omega
      subst this
      rw [sJ_at, G_0], by decide⟩
  refine ⟨X, ?_, p2, p1⟩
  unfold fX2_determinant
  have e0 : Int32.toNatClampNeg (0 : Int32) = 0 := rfl
  rw [e0, show ((sJ S 11 0 (1 : Int64)).1 6 0) = nI k from hsd, every_ok k hk, show inb (0 : Int32) 64 = true from by decide, show (1 : Int32) = nI 1 from rfl, e]
  show gd (inb (nI (2 ^ k - 1)) 64) (some (X.2 11 (Int32.toNatClampNeg (nI (2 ^ k - 1))), X)) = _
  rw [inb_nI (show 2 ^ k - 1 < 64 by omega) (by omega), cl_nI (by omega), p3 (2 ^ k - 1) (by omega)]
  rfl
