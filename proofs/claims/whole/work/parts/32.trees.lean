/-! ===== trees ===== -/
def EdOk (n : Nat) (A B W : Nat → Nat) (S : St) : Prop := ∀ i, i < n → (A i < 5 ∧ B i < 5 ∧ W i < 10) ∧ (S.1 7 i = nI (A i) ∧ S.1 8 i = nI (B i) ∧ S.1 9 i = nI (W i)) ∧ (S.1 44 i = nI (A i) ∧ S.1 45 i = nI (B i) ∧ S.1 46 i = nI (W i))
theorem RelE.nat {n : Nat} {S : St} (h : RelE n S) : ∃ A B W : Nat → Nat, EdOk n A B W S := by
  refine ⟨fun i => (S.1 44 i).toInt.toNat, fun i => (S.1 45 i).toInt.toNat, fun i => (S.1 46 i).toInt.toNat, fun i hi => ?_⟩
  obtain ⟨⟨e1, e2, e3⟩, ⟨a, ha, ea⟩, ⟨b, hb, eb⟩, ⟨w, hw, ew⟩⟩ := h i hi
  have ta : (S.1 44 i).toInt.toNat = a := by rw [ea, nI_toInt (by omega)]; rfl
  have tb : (S.1 45 i).toInt.toNat = b := by rw [eb, nI_toInt (by omega)]; rfl
  have tw : (S.1 46 i).toInt.toNat = w := by rw [ew, nI_toInt (by omega)]; rfl
  show (((S.1 44 i).toInt.toNat < 5 ∧ (S.1 45 i).toInt.toNat < 5 ∧ (S.1 46 i).toInt.toNat < 10) ∧ (S.1 7 i = nI ((S.1 44 i).toInt.toNat) ∧ S.1 8 i = nI ((S.1 45 i).toInt.toNat) ∧ S.1 9 i = nI ((S.1 46 i).toInt.toNat)) ∧ (S.1 44 i = nI ((S.1 44 i).toInt.toNat) ∧ S.1 45 i = nI ((S.1 45 i).toInt.toNat) ∧ S.1 46 i = nI ((S.1 46 i).toInt.toNat)))
  rw [ta, tb, tw, e1, e2, e3, ea, eb, ew]
  exact ⟨⟨ha, hb, hw⟩, ⟨rfl, rfl, rfl⟩, ⟨rfl, rfl, rfl⟩⟩
section TR
variable {n : Nat} {A B W : Nat → Nat} {S : St}
theorem joined_eq {X : St} {s now : Nat} (hE : EdOk n A B W S) (hX7 : X.1 7 = S.1 7) (hX8 : X.1 8 = S.1 8) (hn : n ≤ 6) (hs : s < 64) (hnow : now < 32) : fX1_joinedOnce n (nI now) (nI s) X = some (nI (ps A B s now n)) := by
  have hA : ∀ i, i < n → A i < 5 ∧ B i < 5 := fun i hi => ⟨(hE i hi).1.1, (hE i hi).1.2.1⟩
  have key : ∀ d i f, i + d = n → d < f → lX1_joinedOnce_1 n (nI s) X f (nI (ps A B s now i)) (nI i) = some (nI (ps A B s now n)) := by
    intro d
    induction d with
    | zero =>
      intro i f hi hf
      obtain ⟨f, rfl⟩ : ∃ g, f = g + 1 := ⟨f - 1, by omega⟩
      have : i = n := by omega
      subst this
      show bX1_joinedOnce_1 i (nI s) X (lX1_joinedOnce_1 i (nI s) X f) _ (nI i) = _
      unfold bX1_joinedOnce_1
      rw [if_pos (nI_le (Nat.le_refl _) (by omega))]
    | succ d ih =>
      intro i f hi hf
      obtain ⟨f, rfl⟩ : ∃ g, f = g + 1 := ⟨f - 1, by omega⟩
      have ih := ih (i + 1) f (by omega) (by omega)
      obtain ⟨⟨a5, b5, -⟩, ⟨e7, e8, -⟩, -⟩ := hE i (by omega)
      have hl := ps_lt (A := A) (B := B) (s := s) hA hnow i (by omega)
      have hor := or_lt32 _ hl _ a5 _ b5
      show bX1_joinedOnce_1 n (nI s) X (lX1_joinedOnce_1 n (nI s) X f) _ (nI i) = _
      unfold bX1_joinedOnce_1
      rw [if_neg (nI_ge (show i < n by omega) (by omega)), inb_nI (show i < n by omega) (by omega), cl_nI (by omega), hX7, hX8, e7, e8, has_eq s hs i (by omega), shl_eq (A i) (by omega), shl_eq (B i) (by omega), nI_or, nI_and, nI_or, nI_1]
      rw [ps] at ih
      cases hb : s.testBit i with
      | false =>
        rw [hb] at ih
        exact ih
      | true =>
        rw [hb] at ih
        show (if nI (ps A B s now i &&& (2 ^ A i ||| 2 ^ B i)) = 0 then _ else _) = _
        by_cases c : ps A B s now i &&& (2 ^ A i ||| 2 ^ B i) = 0
        · rw [if_pos ((nI_z (and_ltN (by omega))).mpr c)]
          rw [decide_eq_true c] at ih
          exact ih
        · rw [if_neg (fun z => c ((nI_z (and_ltN (by omega))).mp z))]
          rw [decide_eq_false c] at ih
          exact ih
  unfold fX1_joinedOnce
  rw [show (0 : Int32) = nI 0 from rfl, show lX1_joinedOnce_1 n (nI s) X FU (nI now) (nI 0) = _ from key n 0 FU (by omega) (by show n < 1000; omega)]
  rfl
theorem full_ix : ∀ p, p ≤ 5 → ((1 : Int32) <<< (nI p &&& 31)) - (1 : Int32) = nI (2 ^ p - 1) := by decide +kernel
theorem isTree_eq {X : St} {s p : Nat} (hE : EdOk n A B W S) (hX7 : X.1 7 = S.1 7) (hX8 : X.1 8 = S.1 8) (hn : n ≤ 6) (hs : s < 2 ^ n) (hp2 : 2 ≤ p) (hp5 : p ≤ 5) : fX1_isTree n (nI s) (nI p) X = some (decide (pop s = p - 1) && okn A B s p n) := by
  have hN := pw_le hn
  have hA : ∀ i, i < n → A i < 5 ∧ B i < 5 := fun i hi => ⟨(hE i hi).1.1, (hE i hi).1.2.1⟩
  have hpl := pop_le s (by omega)
  have key : ∀ d k f, k + 1 + d = p → d < f → lX1_isTree_1 n (nI s) (nI p) X f (nI (rd A B s n k)) (nI (k + 1)) = some (nI (rd A B s n (p - 1))) := by
    intro d
    induction d with
    | zero =>
      intro k f hk hf
      obtain ⟨f, rfl⟩ : ∃ g, f = g + 1 := ⟨f - 1, by omega⟩
      have : p = k + 1 := by omega
      subst this
      show bX1_isTree_1 n (nI s) (nI (k + 1)) X (lX1_isTree_1 n (nI s) (nI (k + 1)) X f) _ (nI (k + 1)) = _
      unfold bX1_isTree_1
      rw [if_pos (nI_le (Nat.le_refl _) (by omega))]
      rfl
    | succ d ih =>
      intro k f hk hf
      obtain ⟨f, rfl⟩ : ∃ g, f = g + 1 := ⟨f - 1, by omega⟩
      have ih := ih (k + 1) f (by omega) (by omega)
      show bX1_isTree_1 n (nI s) (nI p) X (lX1_isTree_1 n (nI s) (nI p) X f) _ (nI (k + 1)) = _
      unfold bX1_isTree_1
      rw [if_neg (nI_ge (show k + 1 < p by omega) (by omega)), joined_eq hE hX7 hX8 hn (by omega) (rd_lt hA k), nI_1]
      exact ih
  unfold fX1_isTree
  rw [bitCount_eq s (by omega), nI_m1 (show 0 < p by omega), full_ix p hp5]
  show (if nI (pop s) = nI (p - 1) then bo (lX1_isTree_1 n (nI s) (nI p) X FU (nI (rd A B s n 0)) (nI (0 + 1))) (fun q6 => (if q6 = nI (2 ^ p - 1) then some true else some false)) else some false) = _
  by_cases c : pop s = p - 1
  · rw [if_pos ((nI_inj (by omega) (by omega)).mpr c), key (p - 1) 0 FU (by omega) (by show p - 1 < 1000; omega), decide_eq_true c]
    show (if nI (rd A B s n (p - 1)) = nI (2 ^ p - 1) then some true else some false) = _
    have hr := rd_lt (A := A) (B := B) (s := s) hA (p - 1)
    have h2p : 2 ^ p ≤ 32 := Nat.le_trans (Nat.pow_le_pow_right (by decide) hp5) (by decide)
    have ht := tree_iff (A := A) (B := B) hA hn hs hp2 hp5 c
    by_cases d : rd A B s n (p - 1) = 2 ^ p - 1
    · rw [if_pos (congrArg nI d), ht.mp d]; rfl
    · rw [if_neg (fun z => d ((nI_inj (by omega) (by omega)).mp z))]
      cases ho : okn A B s p n with
      | false => rfl
      | true => exact absurd (ht.mpr ho) d
  · rw [if_neg (fun z => c ((nI_inj (by omega) (by omega)).mp z)), decide_eq_false c]; rfl
def pw (W : Nat → Nat) (s : Nat) : Nat → Nat
  | 0 => 1
  | i + 1 => bif s.testBit i then pw W s i * W i else pw W s i
theorem pw_bd {s : Nat} (hE : EdOk n A B W S) : ∀ i, i ≤ n → pw W s i ≤ 9 ^ i
  | 0, _ => Nat.le_refl _
  | i + 1, hi => by
    have ih := pw_bd (s := s) hE i (by omega)
    have hw := (hE i (by omega)).1.2.2
    rw [pw, Nat.pow_succ]
    cases s.testBit i with
    | false => exact Nat.le_trans ih (Nat.le_mul_of_pos_right _ (by decide))
    | true => exact Nat.mul_le_mul ih (by omega)
theorem product_eq {X : St} {s : Nat} (hE : EdOk n A B W S) (hX9 : X.1 9 = S.1 9) (hn : n ≤ 6) (hs : s < 64) : fX1_productOf n (nI s) X = some (lN (pw W s n)) := by
  have key : ∀ d i f, i + d = n → d < f → lX1_productOf_1 n (nI s) X f (lN (pw W s i)) (nI i) = some (lN (pw W s n)) := by
    intro d
    induction d with
    | zero =>
      intro i f hi hf
      obtain ⟨f, rfl⟩ : ∃ g, f = g + 1 := ⟨f - 1, by omega⟩
      have : i = n := by omega
      subst this
      show bX1_productOf_1 i (nI s) X (lX1_productOf_1 i (nI s) X f) _ (nI i) = _
      unfold bX1_productOf_1
      rw [if_pos (nI_le (Nat.le_refl _) (by omega))]
    | succ d ih =>
      intro i f hi hf
      obtain ⟨f, rfl⟩ : ∃ g, f = g + 1 := ⟨f - 1, by omega⟩
      have ih := ih (i + 1) f (by omega) (by omega)
      have hw := (hE i (by omega)).1.2.2
      have e9 := (hE i (by omega)).2.1.2.2
      show bX1_productOf_1 n (nI s) X (lX1_productOf_1 n (nI s) X f) _ (nI i) = _
      unfold bX1_productOf_1
      rw [if_neg (nI_ge (show i < n by omega) (by omega)), has_eq s hs i (by omega), inb_nI (show i < n by omega) (by omega), cl_nI (by omega), hX9, e9, toL (by omega), lN_mul, nI_1]
      rw [pw] at ih
      cases hb : s.testBit i with
      | false => rw [hb] at ih; exact ih
      | true => rw [hb] at ih; exact ih
  unfold fX1_productOf
  rw [show (0 : Int32) = nI 0 from rfl, show lX1_productOf_1 n (nI s) X FU (1 : Int64) (nI 0) = _ from key n 0 FU (by omega) (by show n < 1000; omega)]
  rfl
theorem merge_eq {X : St} {w1 w2 w5 : Int32} {w3 : Int64} {g : Nat → Nat} {a b : Nat} (ha : a < 5) (hb : b < 5) (hg : ∀ k, k < 5 → g k < 5) (hX : ∀ k, k < 5 → X.1 47 k = nI (g k)) : ∃ Y, lX5_treeOf_3 n w1 w2 w3 w5 (nI (g b)) (nI (g a)) FU (0 : Int32) X = some ((), Y) ∧ Y.2 = X.2 ∧ (∀ q, q ≠ 47 → Y.1 q = X.1 q) ∧ ∀ k, k < 5 → Y.1 47 k = nI (mg g a b k) := by
  obtain ⟨Y, e, y1, y2, y3, -⟩ := pp_fill (lX5_treeOf_3 n w1 w2 w3 w5 (nI (g b)) (nI (g a))) 5 0 (by decide) (by decide) (fun k Y => Y.2 = X.2 ∧ (∀ q, q ≠ 47 → Y.1 q = X.1 q) ∧ (∀ j, j < k → Y.1 47 j = nI (mg g a b j)) ∧ ∀ j, k ≤ j → Y.1 47 j = X.1 47 j)
    (by
      intro f k Y hk ⟨y1, y2, y3, y4⟩
      have hgk := hg k hk
      have hgb := hg b hb
      have e47 : Y.1 47 k = nI (g k) := by rw [y4 k (Nat.le_refl _)]; exact hX k hk
      have body : lX5_treeOf_3 n w1 w2 w3 w5 (nI (g b)) (nI (g a)) (f + 1) (nI k) Y = if g k = g b then lX5_treeOf_3 n w1 w2 w3 w5 (nI (g b)) (nI (g a)) f (nI (k + 1)) (sI Y 47 k (nI (g a))) else lX5_treeOf_3 n w1 w2 w3 w5 (nI (g b)) (nI (g a)) f (nI (k + 1)) Y := by
        show bX5_treeOf_3 n w1 w2 w3 w5 (nI (g b)) (nI (g a)) (lX5_treeOf_3 n w1 w2 w3 w5 (nI (g b)) (nI (g a)) f) (nI k) Y = _
        unfold bX5_treeOf_3
        rw [if_neg (show ¬ ((5 : Int32) ≤ nI k) from nI_ge (a := k) (b := 5) hk (by decide)), inb_nI hk (by omega), cl_nI (by omega), e47, nI_1]
        show (if nI (g k) = nI (g b) then _ else _) = _
        by_cases c : g k = g b
        · rw [if_pos (congrArg nI c), if_pos c]; rfl
        · rw [if_neg (fun z => c ((nI_inj (by omega) (by omega)).mp z)), if_neg c]
      by_cases c : g k = g b
      · rw [if_pos c] at body
        refine ⟨_, body, y1, fun q hq => by rw [sI_r hq]; exact y2 q hq, fun j hj => ?_, fun j hj => by rw [sI_k (by omega)]; exact y4 j (by omega)⟩
        by_cases d : j = k
        · subst d
          rw [sI_at]
          unfold mg
          rw [if_pos c]
        · rw [sI_k d]; exact y3 j (by omega)
      · rw [if_neg c] at body
        refine ⟨_, body, y1, y2, fun j hj => ?_, fun j hj => y4 j (by omega)⟩
        by_cases d : j = k
        · subst d
          rw [e47]
          unfold mg
          rw [if_neg c]
        · exact y3 j (by omega))
    (by
      intro f Y
      show bX5_treeOf_3 n w1 w2 w3 w5 (nI (g b)) (nI (g a)) (lX5_treeOf_3 n w1 w2 w3 w5 (nI (g b)) (nI (g a)) f) (nI 5) Y = _
      unfold bX5_treeOf_3
      rw [if_pos (show (5 : Int32) ≤ nI 5 from nI_le (a := 5) (b := 5) (Nat.le_refl _) (by decide))])
    X ⟨rfl, fun _ _ => rfl, fun j hj => absurd hj (Nat.not_lt_zero j), fun _ _ => rfl⟩
  exact ⟨Y, e, y1, y2, y3⟩
theorem okn_no {s p i : Nat} : ∀ j, i ≤ j → okn A B s p i = false → okn A B s p j = false
  | 0, h, q => by
    have : i = 0 := by omega
    subst this
    exact q
  | j + 1, h, q => by
    by_cases c : i = j + 1
    · subst c; exact q
    · rw [okn, okn_no j (by omega) q]; rfl
/-- the value of a set of edges for p posts, in the reference's words -/
def tv (A B W : Nat → Nat) (n s p : Nat) : Nat := bif decide (pop s = p - 1) && okn A B s p n then pw W s n else 0
theorem treeOf_eq {X : St} {s p : Nat} (hE : EdOk n A B W S) (hX : X.1 44 = S.1 44 ∧ X.1 45 = S.1 45 ∧ X.1 46 = S.1 46) (hn : n ≤ 6) (hs : s < 2 ^ n) (hp2 : 2 ≤ p) (hp5 : p ≤ 5) : ∃ Y, fX5_treeOf n (nI s) (nI p) X = some (lN (tv A B W n s p), Y) ∧ Y.2 = X.2 ∧ ∀ q, q ≠ 47 → Y.1 q = X.1 q := by
  have hN := pw_le hn
  have hA : ∀ i, i < n → A i < 5 ∧ B i < 5 := fun i hi => ⟨(hE i hi).1.1, (hE i hi).1.2.1⟩
  have hpl := pop_le s (by omega)
  unfold fX5_treeOf
  rw [sizeOf_eq s (by omega), nI_m1 (show 0 < p by omega)]
  show ∃ Y, (if nI (pop s) = nI (p - 1) then _ else _) = _ ∧ _
  by_cases c : pop s = p - 1
  · rw [if_pos ((nI_inj (by omega) (by omega)).mpr c)]
    obtain ⟨Z, ez, z1, z2, z3⟩ := pp_fill (lX5_treeOf_1 n (nI s) (nI p)) 5 0 (by decide) (by decide) (fun k Y => Y.2 = X.2 ∧ (∀ q, q ≠ 47 → Y.1 q = X.1 q) ∧ ∀ j, j < k → Y.1 47 j = nI j)
      (by
        intro f k Y hk ⟨y1, y2, y3⟩
        refine ⟨sI Y 47 k (nI k), ?_, y1, fun q hq => by rw [sI_r hq]; exact y2 q hq, fun j hj => ?_⟩
        · show bX5_treeOf_1 n (nI s) (nI p) (lX5_treeOf_1 n (nI s) (nI p) f) (nI k) Y = _
          unfold bX5_treeOf_1
          rw [if_neg (show ¬ ((5 : Int32) ≤ nI k) from nI_ge (a := k) (b := 5) hk (by decide)), inb_nI hk (by omega), cl_nI (by omega), nI_1]
          rfl
        · by_cases d : j = k
          · subst d; exact sI_at
          · rw [sI_k d]; exact y3 j (by omega))
      (by
        intro f Y
        show bX5_treeOf_1 n (nI s) (nI p) (lX5_treeOf_1 n (nI s) (nI p) f) (nI 5) Y = _
        unfold bX5_treeOf_1
        rw [if_pos (show (5 : Int32) ≤ nI 5 from nI_le (a := 5) (b := 5) (Nat.le_refl _) (by decide))])
      X ⟨rfl, fun _ _ => rfl, fun j hj => absurd hj (Nat.not_lt_zero j)⟩
    have l2 : ∀ d i f Y, i + d = n → d < f → okn A B s p i = true → (Y.2 = X.2 ∧ (∀ q, q ≠ 47 → Y.1 q = X.1 q) ∧ ∀ k, k < 5 → Y.1 47 k = nI (gs A B s i k)) → ∃ Y', lX5_treeOf_2 n (nI s) (nI p) f (lN (pw W s i)) (nI i) Y = some ((bif okn A B s p n then .inl (lN (pw W s n)) else .inr 0), Y') ∧ Y'.2 = X.2 ∧ ∀ q, q ≠ 47 → Y'.1 q = X.1 q := by
      intro d
      induction d with
      | zero =>
        intro i f Y hi hf hok ⟨y1, y2, y3⟩
        obtain ⟨f, rfl⟩ : ∃ g, f = g + 1 := ⟨f - 1, by omega⟩
        have : i = n := by omega
        subst this
        rw [hok]
        refine ⟨Y, ?_, y1, y2⟩
        show bX5_treeOf_2 i (nI s) (nI p) (lX5_treeOf_2 i (nI s) (nI p) f) _ (nI i) Y = _
        unfold bX5_treeOf_2
        rw [if_pos (nI_le (Nat.le_refl _) (by omega))]
        rfl
      | succ d ih =>
        intro i f Y hi hf hok ⟨y1, y2, y3⟩
        obtain ⟨f, rfl⟩ : ∃ g, f = g + 1 := ⟨f - 1, by omega⟩
        have hin : i < n := by omega
        obtain ⟨⟨a5, b5, w9⟩, -, ⟨e44, e45, e46⟩⟩ := hE i hin
        have q44 : Y.1 44 i = nI (A i) := by rw [y2 44 (by decide), hX.1]; exact e44
        have q45 : Y.1 45 i = nI (B i) := by rw [y2 45 (by decide), hX.2.1]; exact e45
        have hga := gs_lt (A := A) (B := B) (s := s) hA i (by omega) (A i) a5
        have hgb := gs_lt (A := A) (B := B) (s := s) hA i (by omega) (B i) b5
        show ∃ Y', bX5_treeOf_2 n (nI s) (nI p) (lX5_treeOf_2 n (nI s) (nI p) f) (lN (pw W s i)) (nI i) Y = _ ∧ _
        unfold bX5_treeOf_2
        rw [if_neg (nI_ge hin (by omega))]
        cases hb : s.testBit i with
        | false =>
          rw [if_pos ((bit_eq s (by omega) i (by omega)).mpr hb), nI_1]
          have hok2 : okn A B s p (i + 1) = true := by rw [okn, hok, hb]; rfl
          have := ih (i + 1) f Y (by omega) (by omega) hok2 ⟨y1, y2, by rw [gs, hb]; exact y3⟩
          rw [pw, hb] at this
          exact this
        | true =>
          rw [if_neg (fun z => by rw [(bit_eq s (by omega) i (by omega)).mp z] at hb; cases hb), inb_nI (show i < 6 by omega) (by omega), cl_nI (show i < 1000 by omega), q44, q45, inb_nI (show A i < 5 by omega) (by omega), inb_nI (show B i < 5 by omega) (by omega), cl_nI (show A i < 1000 by omega), cl_nI (show B i < 1000 by omega), y3 (A i) a5, y3 (B i) b5]
          simp only [gd, cond_true]
          have fail : okn A B s p (i + 1) = false → ∃ Y', some ((Sum.inr (0 : Int64) : Int64 ⊕ Int64), Y) = some ((bif okn A B s p n then .inl (lN (pw W s n)) else .inr 0), Y') ∧ Y'.2 = X.2 ∧ ∀ q, q ≠ 47 → Y'.1 q = X.1 q := by
            intro hf'
            rw [okn_no n (by omega) hf']
            exact ⟨Y, rfl, y1, y2⟩
          by_cases ca : p ≤ A i
          · rw [if_pos (nI_le ca (by omega))]
            exact fail (by rw [okn, hok, hb, decide_eq_false (show ¬ A i < p by omega)]; rfl)
          · rw [if_neg (nI_ge (show A i < p by omega) (by omega))]
            by_cases cb : p ≤ B i
            · rw [if_pos (nI_le cb (by omega))]
              exact fail (by rw [okn, hok, hb, decide_eq_false (show ¬ B i < p by omega), Bool.and_false]; rfl)
            · rw [if_neg (nI_ge (show B i < p by omega) (by omega))]
              by_cases cg : gs A B s i (A i) = gs A B s i (B i)
              · rw [if_pos (congrArg nI cg)]
                exact fail (by rw [okn, hok, hb, decide_eq_true cg, Bool.not_true, Bool.and_false]; rfl)
              · obtain ⟨Z, ez, z1, z2, z3⟩ := merge_eq (n := n) (X := Y) (w1 := nI s) (w2 := nI p) (w3 := lN (pw W s i)) (w5 := nI i) (g := gs A B s i) a5 b5 (gs_lt (A := A) (B := B) (s := s) hA i (by omega)) y3
                rw [if_neg (fun z => cg ((nI_inj (by omega) (by omega)).mp z)), ez]
                simp only [bw]
                have q46 : Z.1 46 i = nI (W i) := by rw [z2 46 (by decide), y2 46 (by decide), hX.2.2]; exact e46
                rw [q46, toL (by omega), lN_mul, nI_1]
                have hok2 : okn A B s p (i + 1) = true := by rw [okn, hok, hb, decide_eq_true (show A i < p by omega), decide_eq_true (show B i < p by omega), decide_eq_false cg]; rfl
                have := ih (i + 1) f Z (by omega) (by omega) hok2 ⟨by rw [z1, y1], fun q hq => by rw [z2 q hq]; exact y2 q hq, by rw [gs, hb]; exact z3⟩
                rw [pw, hb] at this
                exact this
    obtain ⟨Y, e, y1, y2⟩ := l2 n 0 FU Z (by omega) (by show n < 1000; omega) rfl ⟨z1, z2, fun k hk => z3 k hk⟩
    refine ⟨Y, ?_, y1, y2⟩
    have e : lX5_treeOf_2 n (nI s) (nI p) FU (1 : Int64) (0 : Int32) Z = some ((bif okn A B s p n then .inl (lN (pw W s n)) else .inr 0), Y) := e
    rw [show (0 : Int32) = nI 0 from rfl, ez]
    show bsw (lX5_treeOf_2 n (nI s) (nI p) FU (1 : Int64) (0 : Int32) Z) (fun q17 S19 => some (q17, S19)) (fun r9 S9 => some (r9, S9)) = _
    rw [e]
    unfold tv
    rw [decide_eq_true c]
    cases okn A B s p n <;> rfl
  · rw [if_neg (fun z => c ((nI_inj (by omega) (by omega)).mp z))]
    refine ⟨X, ?_, rfl, fun _ _ => rfl⟩
    unfold tv
    rw [decide_eq_false c]
    rfl
theorem tv_bd {s p : Nat} (hn : n ≤ 6) (hE : EdOk n A B W S) : tv A B W n s p ≤ 531441 := by
  unfold tv
  cases (decide (pop s = p - 1) && okn A B s p n) with
  | false => exact Nat.zero_le _
  | true =>
    have := pw_bd (s := s) hE n (Nat.le_refl _)
    exact Nat.le_trans this (Nat.le_trans (Nat.pow_le_pow_right (by decide) hn) (by decide))
end TR
theorem posts_cases (p : Int32) : (∃ t, 2 ≤ t ∧ t ≤ 5 ∧ p = nI t ∧ fX4_isPosts p = some true ∧ fX5_in p (2 : Int32) (5 : Int32) = some true) ∨ (fX4_isPosts p = some false ∧ fX5_in p (2 : Int32) (5 : Int32) = some false) := by
  unfold fX4_isPosts
  rw [show (2 : Int32) = nI 2 from rfl, show (5 : Int32) = nI 5 from rfl]
  rcases am_cases p 2 5 (by decide) (by decide) with ⟨t, q1, q2, h3, h4, h5⟩ | ⟨h4, h5⟩
  · exact Or.inl ⟨t, q1, q2, h3, by rw [h4]; rfl, h5⟩
  · exact Or.inr ⟨by rw [h4]; rfl, h5⟩
theorem t_trees {n : Nat} {S : St} (h : Rel n S) (p0 p1 : Int32) : ∃ r S1 S2, fX4_trees n p0 p1 S = some (r, S1) ∧ fX5_trees n p0 p1 S1 = some (r, S2) ∧ Rel n S2 := by
  have hR := h
  obtain ⟨h2, h6, -, hE, -, -⟩ := h
  have hN := pw_le h6
  obtain ⟨A, B, W, hEd⟩ := hE.nat
  unfold fX4_trees fX5_trees
  rcases posts_cases p0 with ⟨p, hp2, hp5, rfl, e4, e5⟩ | ⟨e4, e5⟩
  · rcases place_cases p1 with ⟨m, hm, rfl, g4, g5⟩ | ⟨g4, g5⟩
    · obtain ⟨Sa, ea, a1, a2, a3⟩ := pp_fill (lX4_trees_1 n (nI p) (nI m)) (2 ^ n) 0 (by omega) (Nat.zero_le _) (fun k X => (∀ q, q ≠ 5 → X.2 q = S.2 q) ∧ X.1 = S.1 ∧ ∀ s, s < k → X.2 5 s = lN (tv A B W n s p))
        (by
          intro f k X hk ⟨x1, x2, x3⟩
          refine ⟨sJ X 5 k (lN (tv A B W n k p)), ?_, fun q hq => by rw [sJ_r hq]; exact x1 q hq, x2, fun s hs => ?_⟩
          · show bX4_trees_1 n (nI p) (nI m) (lX4_trees_1 n (nI p) (nI m) f) (nI k) X = _
            unfold bX4_trees_1
            rw [if_neg (nI_ge hk (by omega)), isTree_eq hEd (by rw [x2]) (by rw [x2]) h6 hk hp2 hp5, product_eq hEd (by rw [x2]) h6 (by omega), inb_nI hk (by omega), cl_nI (by omega), nI_1]
            unfold tv
            cases (decide (pop k = p - 1) && okn A B k p n) <;> rfl
          · by_cases c : s = k
            · subst c; exact sJ_at
            · rw [sJ_k c]; exact x3 s (by omega))
        (by
          intro f X
          show bX4_trees_1 n (nI p) (nI m) (lX4_trees_1 n (nI p) (nI m) f) (nI (2 ^ n)) X = _
          unfold bX4_trees_1
          rw [if_pos (nI_le (Nat.le_refl _) (by omega))])
        S ⟨fun _ _ => rfl, rfl, fun s hs => absurd hs (Nat.not_lt_zero s)⟩
      have fA : fr4 S Sa := ⟨fun q z _ _ => a1 q z, fun _ _ => by rw [a2]⟩
      obtain ⟨r, S1, q4, q37, qb⟩ := commit_rel (d := fun s => tv A B W n s p) (hR.fr4 fA) hm (fun s hs => ⟨a3 s hs, by have := tv_bd (s := s) (p := p) h6 hEd; omega⟩)
      obtain ⟨Sc, c1, c2, c3, c4⟩ := clear_eq (n := n) (S := S1)
      have hed : ∀ X : St, (∀ q, q ≠ 47 → X.1 q = S1.1 q) → X.1 44 = S.1 44 ∧ X.1 45 = S.1 45 ∧ X.1 46 = S.1 46 := fun X hX => ⟨by rw [hX 44 (by decide), (q37 44 (by decide)).2, a2], by rw [hX 45 (by decide), (q37 45 (by decide)).2, a2], by rw [hX 46 (by decide), (q37 46 (by decide)).2, a2]⟩
      obtain ⟨X, e, x1, x2, x3⟩ := pp_fill (lX5_trees_1 n (nI p) (nI m)) (2 ^ n) 0 (by omega) (Nat.zero_le _) (fun k X => (∀ q, q ≠ 41 → X.2 q = S1.2 q) ∧ (∀ q, q ≠ 47 → X.1 q = S1.1 q) ∧ ∀ s, s < k → X.2 41 s = lN (tv A B W n s p))
        (by
          intro f k X hk ⟨x1, x2, x3⟩
          obtain ⟨Y, ey, y1, y2⟩ := treeOf_eq (X := X) (s := k) (p := p) hEd (hed X x2) h6 hk hp2 hp5
          refine ⟨sJ Y 41 k (lN (tv A B W n k p)), ?_, fun q hq => by rw [sJ_r hq, y1]; exact x1 q hq, fun q hq => by rw [sJ_1, y2 q hq]; exact x2 q hq, fun s hs => ?_⟩
          · show bX5_trees_1 n (nI p) (nI m) (lX5_trees_1 n (nI p) (nI m) f) (nI k) X = _
            unfold bX5_trees_1
            rw [if_neg (nI_ge hk (by omega)), ey]
            show gd (inb (nI k) 64) (lX5_trees_1 n (nI p) (nI m) f (nI k + 1) (sJ Y 41 (Int32.toNatClampNeg (nI k)) (lN (tv A B W n k p)))) = _
            rw [inb_nI (show k < 64 by omega) (by omega), cl_nI (by omega), nI_1]
            rfl
          · by_cases c : s = k
            · subst c; exact sJ_at
            · rw [sJ_k c, y1]; exact x3 s (by omega))
        (by
          intro f X
          show bX5_trees_1 n (nI p) (nI m) (lX5_trees_1 n (nI p) (nI m) f) (nI (2 ^ n)) X = _
          unfold bX5_trees_1
          rw [if_pos (nI_le (Nat.le_refl _) (by omega))])
        Sc ⟨c2, fun q _ => by rw [c3], fun s hs => absurd hs (Nat.not_lt_zero s)⟩
      obtain ⟨S2, m5, hS2⟩ := qb X ⟨fun q _ z => x1 q z, fun q _ z => x2 q z⟩ x3
      rw [show nI 0 = (0 : Int32) from rfl] at e ea
      refine ⟨r, S1, S2, ?_, ?_, hS2⟩
      · simp only [e4, g4, bo, bw, cond_true, ea, q4]
      · simp only [e5, g5, bo, bw, cond_true, c1, e, m5]
    · exact ⟨false, S, S, by simp only [e4, g4, bo, cond_true, cond_false], by simp only [e5, g5, bo, cond_true, cond_false], hR⟩
  · exact ⟨false, S, S, by simp only [e4, bo, cond_false], by simp only [e5, bo, cond_false], hR⟩
