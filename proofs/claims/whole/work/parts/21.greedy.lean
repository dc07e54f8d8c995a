/-! ===== greedy ===== -/
/-- the best thing below i that T has not -/
def mb (V : Nat → Int64) (T : Nat) : Nat → Option Nat
  | 0 => none
  | i + 1 => bif T.testBit i then mb V T i else match mb V T i with
    | none => some i
    | some b => if V (T ||| 2 ^ b) < V (T ||| 2 ^ i) then some i else some b
theorem mb_in (V : Nat → Int64) (T : Nat) : ∀ i b, mb V T i = some b → b < i ∧ T.testBit b = false
  | 0, b, h => by cases h
  | i + 1, b, h => by
    rw [mb] at h
    cases ht : T.testBit i with
    | true =>
      rw [ht] at h
      obtain ⟨h1, h2⟩ := mb_in V T i b h
      exact ⟨by omega, h2⟩
    | false =>
      rw [ht] at h
      cases hm : mb V T i with
      | none =>
        rw [hm] at h
        cases h
        exact ⟨by omega, ht⟩
      | some b' =>
        rw [hm] at h
        have h : (if V (T ||| 2 ^ b') < V (T ||| 2 ^ i) then some i else some b') = some b := h
        by_cases c : V (T ||| 2 ^ b') < V (T ||| 2 ^ i)
        · rw [if_pos c] at h
          cases h
          exact ⟨by omega, ht⟩
        · rw [if_neg c] at h
          cases h
          obtain ⟨h1, h2⟩ := mb_in V T i _ hm
          exact ⟨by omega, h2⟩
theorem mb_some (V : Nat → Int64) (T : Nat) : ∀ i j, j < i → T.testBit j = false → ∃ b, mb V T i = some b
  | 0, j, h, _ => absurd h (Nat.not_lt_zero j)
  | i + 1, j, h, hj => by
    rw [mb]
    cases ht : T.testBit i with
    | true =>
      have : j ≠ i := fun q => by rw [q, ht] at hj; cases hj
      exact mb_some V T i j (by omega) hj
    | false =>
      cases hm : mb V T i with
      | none => exact ⟨i, rfl⟩
      | some b =>
        show ∃ b', (if V (T ||| 2 ^ b) < V (T ||| 2 ^ i) then some i else some b) = some b'
        by_cases c : V (T ||| 2 ^ b) < V (T ||| 2 ^ i)
        · exact ⟨i, if_pos c⟩
        · exact ⟨b, if_neg c⟩
def wb (T : Nat) (o : Option Nat) : Nat := match o with
  | none => T
  | some b => T ||| 2 ^ b
theorem or_f1 : ∀ n, n ≤ 6 → ∀ T, T < 2 ^ n → ∀ b, b < n → (T ||| 2 ^ b) < 2 ^ n := by decide +kernel
theorem or_f2 : ∀ T, T < 64 → ∀ b, b < 6 → (T.testBit b = true → T ||| 2 ^ b = T) := by decide +kernel
theorem or_f3 : ∀ T, T < 64 → ∀ b, b < 6 → (T.testBit b = false → ¬ T ||| 2 ^ b = T) := by decide +kernel
theorem or_f4 : ∀ T, T < 64 → ∀ b, b < 6 → (T.testBit b = false → pop (T ||| 2 ^ b) = pop T + 1) := by decide +kernel
theorem or_facts (n : Nat) (hn : n ≤ 6) (T : Nat) (hT : T < 2 ^ n) (b : Nat) (hb : b < n) : (T ||| 2 ^ b) < 2 ^ n ∧ (T.testBit b = true → T ||| 2 ^ b = T) ∧ (T.testBit b = false → T ||| 2 ^ b ≠ T ∧ pop (T ||| 2 ^ b) = pop T + 1) := by
  have hN := pw_le hn
  exact ⟨or_f1 n hn T hT b hb, or_f2 T (by omega) b (by omega), fun h => ⟨or_f3 T (by omega) b (by omega) h, or_f4 T (by omega) b (by omega) h⟩⟩
theorem free_one : ∀ n, n ≤ 6 → ∀ T, T < 2 ^ n → pop T < n → ∃ j, j < n ∧ T.testBit j = false := by decide +kernel
theorem wb_lt {V : Nat → Int64} {n T i : Nat} (hn : n ≤ 6) (hT : T < 2 ^ n) (hi : i ≤ n) : wb T (mb V T i) < 2 ^ n := by
  cases hm : mb V T i with
  | none => exact hT
  | some b => exact (or_facts n hn T hT b (by have := (mb_in V T i b hm).1; omega)).1
theorem best4 {n l T : Nat} {S : St} (hn : n ≤ 6) (hT : T < 2 ^ n) : fX4_withBestThing n l (nI T) S = some (nI (wb T (mb (S.2 (31 + l)) T n))) := by
  have hN := pw_le hn
  have key : ∀ d i f, i + d = n → d < f → lX4_withBestThing_1 n l (nI T) S f (nI (wb T (mb (S.2 (31 + l)) T i))) (nI i) = some (nI (wb T (mb (S.2 (31 + l)) T n))) := by
    intro d
    induction d with
    | zero =>
      intro i f hi hf
      obtain ⟨f, rfl⟩ : ∃ g, f = g + 1 := ⟨f - 1, by omega⟩
      have : i = n := by omega
      subst this
      show bX4_withBestThing_1 i l (nI T) S (lX4_withBestThing_1 i l (nI T) S f) _ (nI i) = _
      unfold bX4_withBestThing_1
      rw [if_pos (nI_le (Nat.le_refl _) (by omega))]
    | succ d ih =>
      intro i f hi hf
      obtain ⟨f, rfl⟩ : ∃ g, f = g + 1 := ⟨f - 1, by omega⟩
      have ih := ih (i + 1) f (by omega) (by omega)
      obtain ⟨o1, o2, o3⟩ := or_facts n hn T hT i (by omega)
      have hw := wb_lt (V := S.2 (31 + l)) hn hT (show i ≤ n by omega)
      show bX4_withBestThing_1 n l (nI T) S (lX4_withBestThing_1 n l (nI T) S f) _ (nI i) = _
      unfold bX4_withBestThing_1
      rw [if_neg (nI_ge (show i < n by omega) (by omega)), shl_eq i (by omega), nI_or, nI_1]
      rw [mb] at ih
      cases ht : T.testBit i with
      | true =>
        rw [if_pos (congrArg nI (o2 ht))]
        rw [ht] at ih
        exact ih
      | false =>
        obtain ⟨o4, o5⟩ := o3 ht
        rw [if_neg (fun z => o4 ((nI_inj (by omega) (by omega)).mp z))]
        rw [ht] at ih
        cases hm : mb (S.2 (31 + l)) T i with
        | none =>
          rw [hm] at ih
          rw [if_pos (show nI (wb T none) = nI T from rfl)]
          exact ih
        | some b =>
          rw [hm] at ih hw
          obtain ⟨m1, m2⟩ := mb_in _ _ _ _ hm
          have hbT := ((or_facts n hn T hT b (by omega)).2.2 m2).1
          have hw : T ||| 2 ^ b < 2 ^ n := hw
          have ih : lX4_withBestThing_1 n l (nI T) S f (nI (wb T (if S.2 (31 + l) (T ||| 2 ^ b) < S.2 (31 + l) (T ||| 2 ^ i) then some i else some b))) (nI (i + 1)) = _ := ih
          rw [if_neg (show ¬ nI (wb T (some b)) = nI T from fun z => hbT ((nI_inj (by show T ||| 2 ^ b < 1000; omega) (by omega)).mp z)), inb_nI o1 (by omega), cl_nI (by omega)]
          show gd true (gd (inb (nI (T ||| 2 ^ b)) (2 ^ n)) (if lg_cmp (S.2 (31 + l) (T ||| 2 ^ i)) (S.2 (31 + l) (Int32.toNatClampNeg (nI (T ||| 2 ^ b)))) ≤ 0 then lX4_withBestThing_1 n l (nI T) S f (nI (T ||| 2 ^ b)) (nI (i + 1)) else _)) = _
          rw [inb_nI hw (by omega), cl_nI (by omega)]
          show (if lg_cmp (S.2 (31 + l) (T ||| 2 ^ i)) (S.2 (31 + l) (T ||| 2 ^ b)) ≤ 0 then _ else _) = _
          by_cases c : S.2 (31 + l) (T ||| 2 ^ b) < S.2 (31 + l) (T ||| 2 ^ i)
          · rw [if_neg (fun z => absurd ((lg_cmp_le _ _).mp z) (Int64.not_le.mpr c))]
            rw [if_pos c] at ih
            exact ih
          · rw [if_pos ((lg_cmp_le _ _).mpr (Int64.not_lt.mp c))]
            rw [if_neg c] at ih
            exact ih
  unfold fX4_withBestThing
  rw [show (0 : Int32) = nI 0 from rfl, show lX4_withBestThing_1 n l (nI T) S FU (nI T) (nI 0) = _ from key n 0 FU (by omega) (by show n < 1000; omega)]
  rfl
def mi (o : Option Nat) : Int32 := match o with
  | none => -1
  | some b => nI b
theorem best5 {n l T : Nat} {S : St} {w u : Int32} (hn : n ≤ 6) (hl : l < 6) (ok : LawOk n S l) (hT : T < 2 ^ n) : lX5_greedy_2 n (nI l) w (nI T) u S FU (-1 : Int32) (0 : Int32) = some (mi (mb (S.2 (31 + l)) T n)) := by
  have hN := pw_le hn
  have key : ∀ d i f, i + d = n → d < f → lX5_greedy_2 n (nI l) w (nI T) u S f (mi (mb (S.2 (31 + l)) T i)) (nI i) = some (mi (mb (S.2 (31 + l)) T n)) := by
    intro d
    induction d with
    | zero =>
      intro i f hi hf
      obtain ⟨f, rfl⟩ : ∃ g, f = g + 1 := ⟨f - 1, by omega⟩
      have : i = n := by omega
      subst this
      show bX5_greedy_2 i (nI l) w (nI T) u S (lX5_greedy_2 i (nI l) w (nI T) u S f) _ (nI i) = _
      unfold bX5_greedy_2
      rw [if_pos (nI_le (Nat.le_refl _) (by omega))]
    | succ d ih =>
      intro i f hi hf
      obtain ⟨f, rfl⟩ : ∃ g, f = g + 1 := ⟨f - 1, by omega⟩
      have ih := ih (i + 1) f (by omega) (by omega)
      obtain ⟨o1, o2, o3⟩ := or_facts n hn T hT i (by omega)
      show bX5_greedy_2 n (nI l) w (nI T) u S (lX5_greedy_2 n (nI l) w (nI T) u S f) _ (nI i) = _
      unfold bX5_greedy_2
      rw [if_neg (nI_ge (show i < n by omega) (by omega)), nI_1]
      rw [mb] at ih
      cases ht : T.testBit i with
      | true =>
        rw [if_pos ((bit_one T (by omega) i (by omega)).mpr ht)]
        rw [ht] at ih
        exact ih
      | false =>
        rw [if_neg (fun z => by rw [(bit_one T (by omega) i (by omega)).mp z] at ht; cases ht)]
        rw [ht] at ih
        cases hm : mb (S.2 (31 + l)) T i with
        | none =>
          rw [hm] at ih
          rw [if_pos (show mi none < 0 by decide)]
          exact ih
        | some b =>
          rw [hm] at ih
          obtain ⟨m1, m2⟩ := mb_in _ _ _ _ hm
          have hw := (or_facts n hn T hT b (by omega)).1
          have ih : lX5_greedy_2 n (nI l) w (nI T) u S f (mi (if S.2 (31 + l) (T ||| 2 ^ b) < S.2 (31 + l) (T ||| 2 ^ i) then some i else some b)) (nI (i + 1)) = _ := ih
          rw [if_neg (show ¬ mi (some b) < 0 from nI_pos (by omega))]
          show gd (inb (((64 : Int32) * nI l) + (nI T ||| ((1 : Int32) <<< (nI i &&& 31)))) 384) (gd (inb (((64 : Int32) * nI l) + (nI T ||| ((1 : Int32) <<< (nI b &&& 31)))) 384) (if lg_cmp (S.2 40 (Int32.toNatClampNeg (((64 : Int32) * nI l) + (nI T ||| ((1 : Int32) <<< (nI i &&& 31)))))) (S.2 40 (Int32.toNatClampNeg (((64 : Int32) * nI l) + (nI T ||| ((1 : Int32) <<< (nI b &&& 31)))))) ≤ 0 then lX5_greedy_2 n (nI l) w (nI T) u S f (nI b) (nI (i + 1)) else _)) = _
          rw [shl_eq i (by omega), shl_eq b (by omega), nI_or, nI_or, ix64, ix64, (law_ix hl o1 hN).1, (law_ix hl o1 hN).2, (law_ix hl hw hN).1, (law_ix hl hw hN).2, ← (ok.1 _ o1).1, ← (ok.1 _ hw).1]
          show (if lg_cmp (S.2 (31 + l) (T ||| 2 ^ i)) (S.2 (31 + l) (T ||| 2 ^ b)) ≤ 0 then _ else _) = _
          by_cases c : S.2 (31 + l) (T ||| 2 ^ b) < S.2 (31 + l) (T ||| 2 ^ i)
          · rw [if_neg (fun z => absurd ((lg_cmp_le _ _).mp z) (Int64.not_le.mpr c))]
            rw [if_pos c] at ih
            exact ih
          · rw [if_pos ((lg_cmp_le _ _).mpr (Int64.not_lt.mp c))]
            rw [if_neg c] at ih
            exact ih
  exact key n 0 FU (by omega) (by show n < 1000; omega)
theorem greedy_core {n l q : Nat} {S : St} (hn : n ≤ 6) (hl : l < 6) (ok : LawOk n S l) (hq : q ≤ n) : ∀ d c f T, c + d = q → d < f → T < 2 ^ n → pop T = c → ∃ r, lX4_greedy_1 n (nI q) l S f (nI T) (nI c) = some r ∧ lX5_greedy_1 n (nI l) (nI q) S f (nI T) (nI c) = some r := by
  have hN := pw_le hn
  intro d
  induction d with
  | zero =>
    intro c f T hc hf hT hp
    obtain ⟨f, rfl⟩ : ∃ g, f = g + 1 := ⟨f - 1, by omega⟩
    have : c = q := by omega
    subst this
    refine ⟨nI T, ?_, ?_⟩
    · show bX4_greedy_1 n (nI c) l S (lX4_greedy_1 n (nI c) l S f) (nI T) (nI c) = _
      unfold bX4_greedy_1
      rw [if_pos (nI_le (Nat.le_refl _) (by omega))]
    · show bX5_greedy_1 n (nI l) (nI c) S (lX5_greedy_1 n (nI l) (nI c) S f) (nI T) (nI c) = _
      unfold bX5_greedy_1
      rw [if_pos (nI_le (Nat.le_refl _) (by omega))]
  | succ d ih =>
    intro c f T hc hf hT hp
    obtain ⟨f, rfl⟩ : ∃ g, f = g + 1 := ⟨f - 1, by omega⟩
    obtain ⟨j, hj, hjt⟩ := free_one n hn T hT (by omega)
    obtain ⟨b, hb⟩ := mb_some (S.2 (31 + l)) T n j hj hjt
    obtain ⟨b1, b2⟩ := mb_in _ _ _ _ hb
    obtain ⟨o1, -, o3⟩ := or_facts n hn T hT b b1
    obtain ⟨o4, o5⟩ := o3 b2
    obtain ⟨r, r4, r5⟩ := ih (c + 1) f (T ||| 2 ^ b) (by omega) (by omega) o1 (by omega)
    refine ⟨r, ?_, ?_⟩
    · show bX4_greedy_1 n (nI q) l S (lX4_greedy_1 n (nI q) l S f) (nI T) (nI c) = _
      unfold bX4_greedy_1
      rw [if_neg (nI_ge (show c < q by omega) (by omega)), best4 hn hT, hb, nI_1]
      exact r4
    · show bX5_greedy_1 n (nI l) (nI q) S (lX5_greedy_1 n (nI l) (nI q) S f) (nI T) (nI c) = _
      unfold bX5_greedy_1
      rw [if_neg (nI_ge (show c < q by omega) (by omega)), best5 hn hl ok hT, hb, nI_1]
      show lX5_greedy_1 n (nI l) (nI q) S f (nI T ||| ((1 : Int32) <<< (nI b &&& 31))) (nI (c + 1)) = _
      rw [shl_eq b (by omega), nI_or]
      exact r5
theorem t_greedy {n : Nat} {S : St} (h : Rel n S) (p0 p1 : Int32) : ∃ r, fX4_greedy n p0 p1 S = some r ∧ fX5_greedy n p0 p1 S = some r := by
  obtain ⟨h2, h6, -, -, -, hL⟩ := h
  unfold fX4_greedy fX5_greedy
  rcases law_cases hL p0 with ⟨l, hl, rfl, ok, e4, e5⟩ | ⟨e4, e5⟩
  · rcases count_cases h6 p1 S with ⟨q, hq, rfl, g4, g5⟩ | ⟨g4, g5⟩
    · obtain ⟨r, r4, r5⟩ := greedy_core h6 hl ok hq q 0 FU 0 (by omega) (by show q < 1000; omega) pw_pos rfl
      exact ⟨r, by simp only [e4, g4, bo, mo, gd, decide_eq_true hl, cond_true]; rw [show lX4_greedy_1 n (nI q) l S FU (0 : Int32) (0 : Int32) = some r from r4], by simp only [e5, g5, bo, cond_true]; rw [show lX5_greedy_1 n (nI l) (nI q) S FU (0 : Int32) (0 : Int32) = some r from r5]⟩
    · exact ⟨-1, by simp only [e4, g4, bo, mo, gd, decide_eq_true hl, cond_true, cond_false], by simp only [e5, g5, bo, cond_true, cond_false]⟩
  · exact ⟨-1, by simp only [e4, bo, mo], by simp only [e5, bo, cond_false]⟩
