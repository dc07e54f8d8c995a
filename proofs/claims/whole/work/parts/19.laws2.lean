/-! ===== same, shuns, rises, greatest, greedy, draw ===== -/
def allb (g : Nat → Bool) : Nat → Bool
  | 0 => true
  | k + 1 => allb g k && g k
theorem allb_no {g : Nat → Bool} {k : Nat} (hk : g k = false) : ∀ {N : Nat}, k < N → allb g N = false
  | 0, h => absurd h (Nat.not_lt_zero k)
  | N + 1, h => by
    rw [allb]
    rcases Nat.lt_or_ge k N with q | q
    · rw [allb_no hk q]; rfl
    · have : k = N := by omega
      subst this
      rw [hk, Bool.and_false]
theorem allb_iff {g : Nat → Bool} : ∀ {N : Nat}, allb g N = true ↔ ∀ k, k < N → g k = true
  | 0 => ⟨fun _ k h => absurd h (Nat.not_lt_zero k), fun _ => rfl⟩
  | N + 1 => by
    rw [allb, Bool.and_eq_true, allb_iff]
    constructor
    · rintro ⟨h1, h2⟩ k hk
      rcases Nat.lt_or_ge k N with q | q
      · exact h1 k q
      · have : k = N := by omega
        subst this
        exact h2
    · intro h
      exact ⟨fun k hk => h k (by omega), h N (by omega)⟩
theorem allb_cong {g h : Nat → Bool} {N : Nat} (e : ∀ k, k < N → g k = h k) : allb g N = allb h N := by
  induction N with
  | zero => rfl
  | succ N ih => rw [allb, allb, ih (fun k hk => e k (by omega)), e N (by omega)]
theorem all_core {ρ : Type} (L : Nat → Int32 → Option (Unit ⊕ ρ)) (N k0 : Nat) (hN : N < 1000) (hk0 : k0 ≤ N) (g : Nat → Bool) (R0 : ρ) (h0 : allb g k0 = true) (h1 : ∀ f k, k < N → L (f + 1) (nI k) = bif g k then L f (nI (k + 1)) else some (.inr R0)) (h2 : ∀ f, L (f + 1) (nI N) = some (.inl ())) : L FU (nI k0) = some (bif allb g N then .inl () else .inr R0) := by
  have key : ∀ d k f, k + d = N → d < f → allb g k = true → L f (nI k) = some (bif allb g N then .inl () else .inr R0) := by
    intro d
    induction d with
    | zero =>
      intro k f hk hf ha
      obtain ⟨f, rfl⟩ : ∃ g, f = g + 1 := ⟨f - 1, by omega⟩
      have : k = N := by omega
      subst this
      rw [h2 f, ha]
      rfl
    | succ d ih =>
      intro k f hk hf ha
      obtain ⟨f, rfl⟩ : ∃ g, f = g + 1 := ⟨f - 1, by omega⟩
      rw [h1 f k (by omega)]
      cases hg : g k with
      | true => exact ih (k + 1) f (by omega) (by omega) (by rw [allb, ha, hg]; rfl)
      | false => rw [allb_no hg (by omega)]; rfl
  exact key (N - k0) k0 FU (by omega) (by show N - k0 < 1000; omega) h0
theorem if_dec {c : Prop} [Decidable c] {α : Type} (x y : α) : (if c then x else y) = bif decide c then x else y := by
  by_cases h : c <;> simp [h]
theorem t_same {n : Nat} {S : St} (h : Rel n S) (p0 p1 : Int32) : ∃ r, fX4_same n p0 p1 S = some r ∧ fX5_same n p0 p1 S = some r := by
  obtain ⟨h2, h6, -, -, -, hL⟩ := h
  have hN := pw_le h6
  unfold fX4_same fX5_same
  rcases law_cases hL p0 with ⟨l, hl, rfl, ok, e4, e5⟩ | ⟨e4, e5⟩
  · rcases law_cases hL p1 with ⟨k, hk, rfl, ok2, g4, g5⟩ | ⟨g4, g5⟩
    · have c4 : lX4_same_1 n l k S FU (0 : Int32) = some (bif allb (fun s => decide (S.2 (31 + l) s = S.2 (31 + k) s)) (2 ^ n) then .inl () else .inr 0) := by
        refine all_core (lX4_same_1 n l k S) (2 ^ n) 0 (by omega) (Nat.zero_le _) (fun s => decide (S.2 (31 + l) s = S.2 (31 + k) s)) 0 rfl ?_ ?_
        · intro f s hs
          show bX4_same_1 n l k S (lX4_same_1 n l k S f) (nI s) = _
          unfold bX4_same_1
          rw [if_neg (nI_ge hs (by omega)), inb_nI hs (by omega), cl_nI (by omega), nI_1]
          show (if lg_cmp (S.2 (31 + l) s) (S.2 (31 + k) s) = 0 then _ else _) = _
          by_cases c : S.2 (31 + l) s = S.2 (31 + k) s
          · rw [if_pos ((lg_cmp_eq _ _).mpr c), decide_eq_true c]; rfl
          · rw [if_neg (fun z => c ((lg_cmp_eq _ _).mp z)), decide_eq_false c]; rfl
        · intro f
          show bX4_same_1 n l k S (lX4_same_1 n l k S f) (nI (2 ^ n)) = _
          unfold bX4_same_1
          rw [if_pos (nI_le (Nat.le_refl _) (by omega))]
      have c5 : lX5_same_1 n (nI l) (nI k) S FU (0 : Int32) = some (bif allb (fun s => decide (S.2 (31 + l) s = S.2 (31 + k) s)) (2 ^ n) then .inl () else .inr 0) := by
        refine all_core (lX5_same_1 n (nI l) (nI k) S) (2 ^ n) 0 (by omega) (Nat.zero_le _) (fun s => decide (S.2 (31 + l) s = S.2 (31 + k) s)) 0 rfl ?_ ?_
        · intro f s hs
          show bX5_same_1 n (nI l) (nI k) S (lX5_same_1 n (nI l) (nI k) S f) (nI s) = _
          unfold bX5_same_1
          rw [if_neg (nI_ge hs (by omega)), ix64, ix64, (law_ix hl hs hN).1, (law_ix hl hs hN).2, (law_ix hk hs hN).1, (law_ix hk hs hN).2, nI_1, ← (ok.1 s hs).1, ← (ok2.1 s hs).1]
          show (if lg_cmp (S.2 (31 + l) s) (S.2 (31 + k) s) = 0 then _ else _) = _
          by_cases c : S.2 (31 + l) s = S.2 (31 + k) s
          · rw [if_pos ((lg_cmp_eq _ _).mpr c), decide_eq_true c]; rfl
          · rw [if_neg (fun z => c ((lg_cmp_eq _ _).mp z)), decide_eq_false c]; rfl
        · intro f
          show bX5_same_1 n (nI l) (nI k) S (lX5_same_1 n (nI l) (nI k) S f) (nI (2 ^ n)) = _
          unfold bX5_same_1
          rw [if_pos (nI_le (Nat.le_refl _) (by omega))]
      cases hb : allb (fun s => decide (S.2 (31 + l) s = S.2 (31 + k) s)) (2 ^ n) with
      | true =>
        rw [hb] at c4 c5
        exact ⟨1, by simp only [e4, g4, bo, mo, gd, decide_eq_true hl, decide_eq_true hk, cond_true, c4, bs], by simp only [e5, g5, bo, cond_true, c5, bs]⟩
      | false =>
        rw [hb] at c4 c5
        exact ⟨0, by simp only [e4, g4, bo, mo, gd, decide_eq_true hl, decide_eq_true hk, cond_true, cond_false, c4, bs], by simp only [e5, g5, bo, cond_true, cond_false, c5, bs]⟩
    · exact ⟨-1, by simp only [e4, g4, bo, mo, gd, decide_eq_true hl, cond_true], by simp only [e5, g5, bo, cond_true, cond_false]⟩
  · rcases law_cases hL p1 with ⟨k, hk, rfl, ok2, g4, g5⟩ | ⟨g4, g5⟩
    · exact ⟨-1, by simp only [e4, g4, bo, mo, gd, decide_eq_true hk, cond_true], by simp only [e5, bo, cond_false]⟩
    · exact ⟨-1, by simp only [e4, g4, bo, mo], by simp only [e5, bo, cond_false]⟩
/-! shuns -/
theorem t_shuns {n : Nat} {S : St} (h : Rel n S) (p0 : Int32) : ∃ r, fX4_shuns n p0 S = some r ∧ fX5_shuns n p0 S = some r := by
  obtain ⟨h2, h6, -, -, -, hL⟩ := h
  unfold fX4_shuns fX5_shuns
  rcases law_cases hL p0 with ⟨l, hl, rfl, ok, e4, e5⟩ | ⟨e4, e5⟩
  · have hap : ∀ i j, i < n → j < n → fX0_apartness n l ((1 : Int32) <<< (nI i &&& 31)) ((1 : Int32) <<< (nI j &&& 31)) S = some ((fX5_shunning n (nI l) (nI i) (nI j) S).getD 0) ∧ fX5_shunning n (nI l) (nI i) (nI j) S = some ((fX5_shunning n (nI l) (nI i) (nI j) S).getD 0) := by
      intro i j hi hj
      obtain ⟨a, U, hU, hpm, q4, q5⟩ := apart_eq h6 hl hi hj ok
      rw [q4, q5]
      exact ⟨rfl, rfl⟩
    generalize hae : (fun i j => (fX5_shunning n (nI l) (nI i) (nI j) S).getD 0) = ap
    have hap : ∀ i j, i < n → j < n → fX0_apartness n l ((1 : Int32) <<< (nI i &&& 31)) ((1 : Int32) <<< (nI j &&& 31)) S = some (ap i j) ∧ fX5_shunning n (nI l) (nI i) (nI j) S = some (ap i j) := by
      rw [← hae]; exact hap
    have i4 : ∀ i, i < n → lX4_shuns_2 n l (nI i) S FU (0 : Int32) = some (bif allb (fun j => decide (0 ≤ ap i j)) i then .inl () else .inr 0) := by
      intro i hi
      refine all_core (lX4_shuns_2 n l (nI i) S) i 0 (by omega) (Nat.zero_le _) (fun j => decide (0 ≤ ap i j)) 0 rfl ?_ ?_
      · intro f j hj
        show bX4_shuns_2 n l (nI i) S (lX4_shuns_2 n l (nI i) S f) (nI j) = _
        unfold bX4_shuns_2
        rw [if_neg (nI_ge hj (by omega)), (hap i j hi (by omega)).1, nI_1]
        show (if 0 ≤ lg_cmp (ap i j) 0 then _ else _) = _
        by_cases c : 0 ≤ ap i j
        · rw [if_pos ((lg_cmp_ge _ _).mpr c), decide_eq_true c]; rfl
        · rw [if_neg (fun z => c ((lg_cmp_ge _ _).mp z)), decide_eq_false c]; rfl
      · intro f
        show bX4_shuns_2 n l (nI i) S (lX4_shuns_2 n l (nI i) S f) (nI i) = _
        unfold bX4_shuns_2
        rw [if_pos (nI_le (Nat.le_refl _) (by omega))]
    have i5 : ∀ i, i < n → lX5_shuns_2 n (nI l) (nI i) S FU (0 : Int32) = some (bif allb (fun j => decide (0 ≤ ap i j)) i then .inl () else .inr 0) := by
      intro i hi
      refine all_core (lX5_shuns_2 n (nI l) (nI i) S) i 0 (by omega) (Nat.zero_le _) (fun j => decide (0 ≤ ap i j)) 0 rfl ?_ ?_
      · intro f j hj
        show bX5_shuns_2 n (nI l) (nI i) S (lX5_shuns_2 n (nI l) (nI i) S f) (nI j) = _
        unfold bX5_shuns_2
        rw [if_neg (nI_ge hj (by omega)), (hap i j hi (by omega)).2, nI_1]
        show (if 0 ≤ lg_cmp (ap i j) 0 then _ else _) = _
        by_cases c : 0 ≤ ap i j
        · rw [if_pos ((lg_cmp_ge _ _).mpr c), decide_eq_true c]; rfl
        · rw [if_neg (fun z => c ((lg_cmp_ge _ _).mp z)), decide_eq_false c]; rfl
      · intro f
        show bX5_shuns_2 n (nI l) (nI i) S (lX5_shuns_2 n (nI l) (nI i) S f) (nI i) = _
        unfold bX5_shuns_2
        rw [if_pos (nI_le (Nat.le_refl _) (by omega))]
    have o4 : lX4_shuns_1 n l S FU (1 : Int32) = some (bif allb (fun i => allb (fun j => decide (0 ≤ ap i j)) i) n then .inl () else .inr 0) := by
      refine all_core (lX4_shuns_1 n l S) n 1 (by omega) (by omega) (fun i => allb (fun j => decide (0 ≤ ap i j)) i) 0 rfl ?_ ?_
      · intro f i hi
        show bX4_shuns_1 n l S (lX4_shuns_1 n l S f) (nI i) = _
        unfold bX4_shuns_1
        rw [if_neg (nI_ge hi (by omega)), i4 i hi, nI_1]
        cases allb (fun j => decide (0 ≤ ap i j)) i <;> rfl
      · intro f
        show bX4_shuns_1 n l S (lX4_shuns_1 n l S f) (nI n) = _
        unfold bX4_shuns_1
        rw [if_pos (nI_le (Nat.le_refl _) (by omega))]
    have o5 : lX5_shuns_1 n (nI l) S FU (0 : Int32) = some (bif allb (fun i => allb (fun j => decide (0 ≤ ap i j)) i) n then .inl () else .inr 0) := by
      refine all_core (lX5_shuns_1 n (nI l) S) n 0 (by omega) (by omega) (fun i => allb (fun j => decide (0 ≤ ap i j)) i) 0 rfl ?_ ?_
      · intro f i hi
        show bX5_shuns_1 n (nI l) S (lX5_shuns_1 n (nI l) S f) (nI i) = _
        unfold bX5_shuns_1
        rw [if_neg (nI_ge hi (by omega)), i5 i hi, nI_1]
        cases allb (fun j => decide (0 ≤ ap i j)) i <;> rfl
      · intro f
        show bX5_shuns_1 n (nI l) S (lX5_shuns_1 n (nI l) S f) (nI n) = _
        unfold bX5_shuns_1
        rw [if_pos (nI_le (Nat.le_refl _) (by omega))]
    cases hb : allb (fun i => allb (fun j => decide (0 ≤ ap i j)) i) n with
    | true =>
      rw [hb] at o4 o5
      exact ⟨1, by simp only [e4, bo, mo, gd, decide_eq_true hl, cond_true, o4, bs], by simp only [e5, bo, cond_true, o5, bs]⟩
    | false =>
      rw [hb] at o4 o5
      exact ⟨0, by simp only [e4, bo, mo, gd, decide_eq_true hl, cond_true, cond_false, o4, bs], by simp only [e5, bo, cond_true, cond_false, o5, bs]⟩
  · exact ⟨-1, by simp only [e4, bo, mo], by simp only [e5, bo, cond_false]⟩
/-! greatest -/
def bst (V : Nat → Int64) : Nat → Nat
  | 0 => 0
  | k + 1 => if V (bst V k) < V k then k else bst V k
theorem bst_lt (V : Nat → Int64) : ∀ k, bst V k < k ∨ bst V k = 0
  | 0 => Or.inr rfl
  | k + 1 => by
    rw [bst]
    by_cases c : V (bst V k) < V k
    · rw [if_pos c]; exact Or.inl (Nat.lt_succ_self k)
    · rw [if_neg c]
      rcases bst_lt V k with h | h
      · exact Or.inl (by omega)
      · exact Or.inr h
theorem bst_core (L : Nat → Int32 → Int32 → Option Int32) (N : Nat) (hN : N < 1000) (h0 : 0 < N) (V : Nat → Int64) (h1 : ∀ f b k, k < N → b < N → L (f + 1) (nI b) (nI k) = if lg_cmp (V k) (V b) ≤ 0 then L f (nI b) (nI (k + 1)) else L f (nI k) (nI (k + 1))) (h2 : ∀ f b, L (f + 1) (nI b) (nI N) = some (nI b)) : L FU 0 1 = some (nI (bst V N)) := by
  have key : ∀ d k f, k + d = N → d < f → L f (nI (bst V k)) (nI k) = some (nI (bst V N)) := by
    intro d
    induction d with
    | zero =>
      intro k f hk hf
      obtain ⟨f, rfl⟩ : ∃ g, f = g + 1 := ⟨f - 1, by omega⟩
      have : k = N := by omega
      subst this
      exact h2 f _
    | succ d ih =>
      intro k f hk hf
      obtain ⟨f, rfl⟩ : ∃ g, f = g + 1 := ⟨f - 1, by omega⟩
      have hb : bst V k < N := by rcases bst_lt V k with h | h <;> omega
      rw [h1 f _ k (by omega) hb]
      have ih := ih (k + 1) f (by omega) (by omega)
      rw [bst] at ih
      by_cases c : V (bst V k) < V k
      · rw [if_neg (fun z => absurd ((lg_cmp_le _ _).mp z) (Int64.not_le.mpr c))]
        rw [if_pos c] at ih
        exact ih
      · rw [if_pos ((lg_cmp_le _ _).mpr (Int64.not_lt.mp c))]
        rw [if_neg c] at ih
        exact ih
  have e0 : bst V 1 = 0 := by
    show (if V (bst V 0) < V 0 then 0 else bst V 0) = 0
    by_cases c : V (bst V 0) < V 0
    · rw [if_pos c]
    · rw [if_neg c]; rfl
  have h3 := key (N - 1) 1 FU (by omega) (by show N - 1 < 1000; omega)
  rw [e0] at h3
  exact h3
theorem bst_cong {V W : Nat → Int64} {N : Nat} (h : ∀ s, s < N → V s = W s) : ∀ k, k ≤ N → bst V k = bst W k
  | 0, _ => rfl
  | k + 1, hk => by
    rw [bst, bst, bst_cong h k (by omega), h k (by omega)]
    have : bst W k < N := by rcases bst_lt W k with q | q <;> omega
    rw [h _ this]
theorem t_greatest {n : Nat} {S : St} (h : Rel n S) (p0 : Int32) : ∃ r, fX4_greatest n p0 S = some r ∧ fX5_greatest n p0 S = some r := by
  obtain ⟨h2, h6, -, -, -, hL⟩ := h
  have hN := pw_le h6
  have h0 := pw_pos (n := n)
  unfold fX4_greatest fX5_greatest
  rcases law_cases hL p0 with ⟨l, hl, rfl, ok, e4, e5⟩ | ⟨e4, e5⟩
  · have c4 : lX4_greatest_1 n l S FU (0 : Int32) (1 : Int32) = some (nI (bst (S.2 (31 + l)) (2 ^ n))) := by
      refine bst_core (lX4_greatest_1 n l S) (2 ^ n) (by omega) h0 (S.2 (31 + l)) ?_ ?_
      · intro f b k hk hb
        show bX4_greatest_1 n l S (lX4_greatest_1 n l S f) (nI b) (nI k) = _
        unfold bX4_greatest_1
        rw [if_neg (nI_ge hk (by omega)), inb_nI hk (by omega), inb_nI hb (by omega), cl_nI (by omega), cl_nI (by omega), nI_1]
        rfl
      · intro f b
        show bX4_greatest_1 n l S (lX4_greatest_1 n l S f) (nI b) (nI (2 ^ n)) = _
        unfold bX4_greatest_1
        rw [if_pos (nI_le (Nat.le_refl _) (by omega))]
    have c5 : lX5_greatest_1 n (nI l) S FU (0 : Int32) (1 : Int32) = some (nI (bst (S.2 (31 + l)) (2 ^ n))) := by
      rw [bst_cong (W := fun s => S.2 40 (64 * l + s)) (N := 2 ^ n) (fun s hs => (ok.1 s hs).1) _ (Nat.le_refl _)]
      refine bst_core (lX5_greatest_1 n (nI l) S) (2 ^ n) (by omega) h0 (fun s => S.2 40 (64 * l + s)) ?_ ?_
      · intro f b k hk hb
        show bX5_greatest_1 n (nI l) S (lX5_greatest_1 n (nI l) S f) (nI b) (nI k) = _
        unfold bX5_greatest_1
        rw [if_neg (nI_ge hk (by omega)), ix64, ix64, (law_ix hl hk hN).1, (law_ix hl hk hN).2, (law_ix hl hb hN).1, (law_ix hl hb hN).2, nI_1]
        rfl
      · intro f b
        show bX5_greatest_1 n (nI l) S (lX5_greatest_1 n (nI l) S f) (nI b) (nI (2 ^ n)) = _
        unfold bX5_greatest_1
        rw [if_pos (nI_le (Nat.le_refl _) (by omega))]
    exact ⟨nI (bst (S.2 (31 + l)) (2 ^ n)), by simp only [e4, bo, mo, gd, decide_eq_true hl, cond_true, c4], by simp only [e5, bo, cond_true, c5]⟩
  · exact ⟨-1, by simp only [e4, bo, mo], by simp only [e5, bo, cond_false]⟩
