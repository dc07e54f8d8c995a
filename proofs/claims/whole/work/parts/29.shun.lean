/-! ===== worth, why, whole, shun ===== -/
def Tt (S : St) (t : Nat) : Nat → Nat → Int32 := fun x y => S.1 37 (36 * t + 6 * x + y)
def Wt (S : St) (t s : Nat) : Int64 := G (Mx (Tt S t) s 0) (pop s) (2 ^ pop s - 1)
theorem w4_of {n t a more : Nat} {S X : St} (h : Rel n S) (hX : fr4 S X) (ht : t < 6) (ha : a < 2 ^ n) (hmo : more < 1000) : ∃ S', fX3_worthOf n t (nI a) (nI more) X = some (G (Mx (Tt S t) a more) (pop a) (2 ^ pop a - 1), S') ∧ fr4 X S' ∧ S'.2 5 = X.2 5 := by
  obtain ⟨h2, h6, hT, -, -, -⟩ := h
  exact worth4 h2 h6 ha hmo (fun x y hx hy => by rw [hX.2 _ (by omega)]; exact (hT t x y ht hx hy).1) ht
theorem w5_of {n t a more : Nat} {S X : St} (h : Rel n S) (hX : X.1 37 = S.1 37) (ht : t < 6) (ha : a < 2 ^ n) (hmo : more ≤ 1) : ∃ S', fX5_determinant n (nI t) (nI a) (nI more) X = some (G (Mx (Tt S t) a more) (pop a) (2 ^ pop a - 1), S') ∧ fr5 X S' ∧ S'.2 41 = X.2 41 := by
  obtain ⟨h2, h6, hT, -, -, -⟩ := h
  exact worth5 h2 h6 ha hmo ht (fun x y hx hy => ⟨by rw [hX]; rfl, (hT t x y ht hx hy).2⟩)
theorem fr4.t37 {S S' : St} (h : fr4 S S') : S'.1 37 = S.1 37 := h.2 _ (by decide)
theorem t_worth {n : Nat} {S : St} (h : Rel n S) (p0 p1 : Int32) : ∃ r S1 S2, fX4_worth n p0 p1 S = some (r, S1) ∧ fX5_worth n p0 p1 S1 = some (r, S2) ∧ Rel n S2 := by
  have hR := h
  obtain ⟨h2, h6, -, -, -, -⟩ := h
  have hN := pw_le h6
  unfold fX4_worth fX5_worth
  rcases place_cases p0 with ⟨t, ht, rfl, e4, e5⟩ | ⟨e4, e5⟩
  · rcases set_cases h6 p1 S S with ⟨a, ha, rfl, g4, g5⟩ | ⟨g4, g5⟩
    · obtain ⟨S1, x1, x2, -⟩ := w4_of (more := 0) hR fr4.rf ht ha (by decide)
      obtain ⟨S2, y1, y2, -⟩ := w5_of (X := S1) (more := 0) hR x2.t37 ht ha (by decide)
      rw [show nI 0 = (0 : Int32) from rfl] at x1 y1
      have g5' : ∀ S', fX5_isSet n (nI a) S' = some true := fun _ => g5
      exact ⟨G (Mx (Tt S t) a 0) (pop a) (2 ^ pop a - 1), S1, S2, by simp only [e4, g4, bo, bw, gd, cond_true, inb_nI ht (show t < 1000 by omega), cl_nI (show t < 1000 by omega), x1], by simp only [e5, g5', bo, bw, cond_true, y1], (hR.fr4 x2).fr5 y2⟩
    · have g5' : ∀ S', fX5_isSet n p1 S' = some false := fun _ => g5
      exact ⟨0, S, S, by simp only [e4, g4, bo, cond_true, cond_false], by simp only [e5, g5', bo, cond_true, cond_false], hR⟩
  · exact ⟨0, S, S, by simp only [e4, bo, cond_false], by simp only [e5, bo, cond_false], hR⟩
theorem t_whole {n : Nat} {S : St} (h : Rel n S) (p0 : Int32) : ∃ r S1 S2, fX4_whole n p0 S = some (r, S1) ∧ fX5_whole n p0 S1 = some (r, S2) ∧ Rel n S2 := by
  have hR := h
  obtain ⟨h2, h6, -, -, -, -⟩ := h
  have h0 := pw_pos (n := n)
  unfold fX4_whole fX5_whole
  rw [nI_m1 h0]
  rcases place_cases p0 with ⟨t, ht, rfl, e4, e5⟩ | ⟨e4, e5⟩
  · obtain ⟨S1, x1, x2, -⟩ := w4_of (more := 1) (a := 2 ^ n - 1) hR fr4.rf ht (by omega) (by decide)
    obtain ⟨S2, y1, y2, -⟩ := w5_of (X := S1) (more := 1) (a := 2 ^ n - 1) hR x2.t37 ht (by omega) (by decide)
    rw [show nI 1 = (1 : Int32) from rfl] at x1 y1
    exact ⟨G (Mx (Tt S t) (2 ^ n - 1) 1) (pop (2 ^ n - 1)) (2 ^ pop (2 ^ n - 1) - 1), S1, S2, by simp only [e4, bo, bw, gd, cond_true, inb_nI ht (show t < 1000 by omega), cl_nI (show t < 1000 by omega), x1], by simp only [e5, bo, bw, cond_true, y1], (hR.fr4 x2).fr5 y2⟩
  · exact ⟨0, S, S, by simp only [e4, bo, cond_false], by simp only [e5, bo, cond_false], hR⟩
def WhyIs (W : Nat → Int64) (N : Nat) (r : Int32) : Prop := (r = -1 ∧ ∀ s, s < N → 0 ≤ W s) ∨ (∃ k, k < N ∧ r = nI k ∧ W k < 0 ∧ ∀ s, s < k → 0 ≤ W s)
theorem WhyIs.one {W : Nat → Int64} {N : Nat} {r r' : Int32} (h : WhyIs W N r) (h' : WhyIs W N r') : r = r' := by
  have no : ∀ k, 0 ≤ W k → W k < 0 → False := fun k a b => absurd a (Int64.not_le.mpr b)
  rcases h with ⟨rfl, a⟩ | ⟨k, hk, rfl, b, c⟩
  · rcases h' with ⟨rfl, _⟩ | ⟨k, hk, rfl, b, c⟩
    · rfl
    · exact (no k (a k hk) b).elim
  · rcases h' with ⟨rfl, a⟩ | ⟨k', hk', rfl, b', c'⟩
    · exact (no k (a k hk) b).elim
    · rcases Nat.lt_trichotomy k k' with q | q | q
      · exact (no k (c' k q) b).elim
      · rw [q]
      · exact (no k' (c k' q) b').elim
theorem draft_eq {n t : Nat} {S : St} (h : Rel n S) (ht : t < 6) : ∃ r S1, fX4_draftWorths n t S = some (r, S1) ∧ fr4 S S1 ∧ WhyIs (Wt S t) (2 ^ n) r ∧ (r = -1 → ∀ s, s < 2 ^ n → S1.2 5 s = Wt S t s) := by
  have hR := h
  obtain ⟨h2, h6, -, -, -, -⟩ := h
  have hN := pw_le h6
  have loop := pp_fillx (lX4_draftWorths_1 n t) (2 ^ n) (by omega) (fun k X => fr4 S X ∧ ∀ s, s < k → X.2 5 s = Wt S t s ∧ 0 ≤ Wt S t s) (fun r X => fr4 S X ∧ ∃ k, k < 2 ^ n ∧ r = nI k ∧ Wt S t k < 0 ∧ ∀ s, s < k → 0 ≤ Wt S t s)
    (by
      intro f k X hk ⟨x1, x2⟩
      obtain ⟨Y, y1, y2, y3⟩ := w4_of (more := 0) (X := X) hR x1 ht hk (by decide)
      rw [show nI 0 = (0 : Int32) from rfl] at y1
      have y1 : fX3_worthOf n t (nI k) (0 : Int32) X = some (Wt S t k, Y) := y1
      have step : lX4_draftWorths_1 n t (f + 1) (nI k) X = if 0 ≤ lg_cmp (Wt S t k) (0 : Int64) then lX4_draftWorths_1 n t f (nI (k + 1)) (sJ Y 5 k (Wt S t k)) else some (.inr (nI k), sJ Y 5 k (Wt S t k)) := by
        show bX4_draftWorths_1 n t (lX4_draftWorths_1 n t f) (nI k) X = _
        unfold bX4_draftWorths_1
        rw [if_neg (nI_ge hk (by omega)), y1]
        show gd (inb (nI k) (2 ^ n)) (gd (inb (nI k) (2 ^ n)) (if 0 ≤ lg_cmp ((sJ Y 5 (Int32.toNatClampNeg (nI k)) (Wt S t k)).2 5 (Int32.toNatClampNeg (nI k))) (0 : Int64) then lX4_draftWorths_1 n t f (nI k + 1) (sJ Y 5 (Int32.toNatClampNeg (nI k)) (Wt S t k)) else some (.inr (nI k), sJ Y 5 (Int32.toNatClampNeg (nI k)) (Wt S t k)))) = _
        rw [inb_nI hk (by omega), cl_nI (by omega), sJ_at, nI_1]
        rfl
      have fY : fr4 S (sJ Y 5 k (Wt S t k)) := (x1.tr y2).tr ⟨fun q a _ _ => sJ_r a, fun _ _ => rfl⟩
      by_cases c : 0 ≤ Wt S t k
      · refine Or.inl ⟨_, by rw [step, if_pos ((lg_cmp_ge _ _).mpr c)], fY, fun s hs => ?_⟩
        by_cases c2 : s = k
        · subst c2; exact ⟨sJ_at, c⟩
        · rw [sJ_k c2, y3]; exact x2 s (by omega)
      · exact Or.inr ⟨nI k, _, by rw [step, if_neg (fun z => c ((lg_cmp_ge _ _).mp z))], fY, k, hk, rfl, Int64.not_le.mp c, fun s hs => (x2 s hs).2⟩)
    (by
      intro f X
      show bX4_draftWorths_1 n t (lX4_draftWorths_1 n t f) (nI (2 ^ n)) X = _
      unfold bX4_draftWorths_1
      rw [if_pos (nI_le (Nat.le_refl _) (by omega))])
    S ⟨fr4.rf, fun s hs => absurd hs (Nat.not_lt_zero s)⟩
  unfold fX4_draftWorths
  rcases loop with ⟨X, e, x1, x2⟩ | ⟨r, X, e, x1, k, hk, hr, x2, x3⟩
  · exact ⟨-1, X, by rw [e]; rfl, x1, Or.inl ⟨rfl, fun s hs => (x2 s hs).2⟩, fun _ s hs => (x2 s hs).1⟩
  · refine ⟨r, X, by rw [e]; rfl, x1, Or.inr ⟨k, hk, hr, x2, x3⟩, fun q => ?_⟩
    rw [hr] at q
    exact absurd (show nI k < 0 by rw [q]; decide) (nI_pos (by omega))
theorem why5 {n t : Nat} {S X : St} (h : Rel n S) (hX : X.1 37 = S.1 37) (ht : t < 6) : ∃ r S2, fX5_why n (nI t) X = some (r, S2) ∧ fr5 X S2 ∧ WhyIs (Wt S t) (2 ^ n) r := by
  have hR := h
  obtain ⟨h2, h6, -, -, -, -⟩ := h
  have hN := pw_le h6
  have hpl : fX5_isPlace (nI t) = some true := by
    rcases place_cases (nI t) with ⟨t', _, _, _, q⟩ | ⟨q, _⟩
    · exact q
    · exfalso
      have : ∀ t, t < 6 → fX4_isPlace (nI t) = some true := by decide +kernel
      rw [this t ht] at q
      cases q
  have loop := pp_fillx (lX5_why_1 n (nI t)) (2 ^ n) (by omega) (fun k Y => fr5 X Y ∧ ∀ s, s < k → 0 ≤ Wt S t s) (fun r Y => fr5 X Y ∧ ∃ k, k < 2 ^ n ∧ r = nI k ∧ Wt S t k < 0 ∧ ∀ s, s < k → 0 ≤ Wt S t s)
    (by
      intro f k Y hk ⟨x1, x2⟩
      obtain ⟨Z, z1, z2, z3⟩ := w5_of (more := 0) (X := Y) hR ((x1.2 37 (by decide) (by decide)).trans hX) ht hk (by decide)
      rw [show nI 0 = (0 : Int32) from rfl] at z1
      have z1 : fX5_determinant n (nI t) (nI k) (0 : Int32) Y = some (Wt S t k, Z) := z1
      have step : lX5_why_1 n (nI t) (f + 1) (nI k) Y = if 0 ≤ lg_cmp (Wt S t k) (0 : Int64) then lX5_why_1 n (nI t) f (nI (k + 1)) Z else some (.inr (nI k), Z) := by
        show bX5_why_1 n (nI t) (lX5_why_1 n (nI t) f) (nI k) Y = _
        unfold bX5_why_1
        rw [if_neg (nI_ge hk (by omega)), hpl, z1, nI_1]
        rfl
      by_cases c : 0 ≤ Wt S t k
      · refine Or.inl ⟨_, by rw [step, if_pos ((lg_cmp_ge _ _).mpr c)], x1.tr z2, fun s hs => ?_⟩
        by_cases c2 : s = k
        · subst c2; exact c
        · exact x2 s (by omega)
      · exact Or.inr ⟨nI k, _, by rw [step, if_neg (fun z => c ((lg_cmp_ge _ _).mp z))], x1.tr z2, k, hk, rfl, Int64.not_le.mp c, fun s hs => x2 s hs⟩)
    (by
      intro f Y
      show bX5_why_1 n (nI t) (lX5_why_1 n (nI t) f) (nI (2 ^ n)) Y = _
      unfold bX5_why_1
      rw [if_pos (nI_le (Nat.le_refl _) (by omega))])
    X ⟨fr5.rf, fun s hs => absurd hs (Nat.not_lt_zero s)⟩
  unfold fX5_why
  rcases loop with ⟨Y, e, x1, x2⟩ | ⟨r, Y, e, x1, k, hk, hr, x2, x3⟩
  · exact ⟨-1, Y, by rw [e]; rfl, x1, Or.inl ⟨rfl, x2⟩⟩
  · exact ⟨r, Y, by rw [e]; rfl, x1, Or.inr ⟨k, hk, hr, x2, x3⟩⟩
theorem t_why {n : Nat} {S : St} (h : Rel n S) (p0 : Int32) : ∃ r S1 S2, fX4_why n p0 S = some (r, S1) ∧ fX5_why n p0 S1 = some (r, S2) ∧ Rel n S2 := by
  have hR := h
  obtain ⟨h2, h6, -, -, -, -⟩ := h
  unfold fX4_why
  rcases place_cases p0 with ⟨t, ht, rfl, e4, e5⟩ | ⟨e4, e5⟩
  · obtain ⟨r, S1, x1, x2, x3, -⟩ := draft_eq hR ht
    obtain ⟨r', S2, y1, y2, y3⟩ := why5 (X := S1) hR x2.t37 ht
    have := x3.one y3
    subst this
    exact ⟨r, S1, S2, by simp only [e4, bo, bw, gd, cond_true, inb_nI ht (show t < 1000 by omega), cl_nI (show t < 1000 by omega), x1], y1, (hR.fr4 x2).fr5 y2⟩
  · refine ⟨-1, S, S, by simp only [e4, bo, cond_false], ?_, hR⟩
    have hN := pw_le h6
    have h0 := pw_pos (n := n)
    have step : lX5_why_1 n p0 FU (0 : Int32) S = some (.inl (), S) := by
      show bX5_why_1 n p0 (lX5_why_1 n p0 999) (nI 0) S = _
      unfold bX5_why_1
      rw [if_neg (nI_ge (a := 0) (b := 2 ^ n) h0 (by omega)), e5]
      rfl
    unfold fX5_why
    rw [step]
    rfl
theorem nonneg_nat {x : Int64} (h : 0 ≤ x) : x = lN x.toInt.toNat ∧ x.toInt.toNat < 2 ^ 63 := by
  obtain ⟨k, hk, rfl⟩ := pk_lOf (Int64.not_lt.mpr h)
  rw [pk_lT hk]
  exact ⟨rfl, hk⟩
theorem t_shun {n : Nat} {S : St} (h : Rel n S) (p0 p1 : Int32) : ∃ r S1 S2, fX4_shun n p0 p1 S = some (r, S1) ∧ fX5_shun n p0 p1 S1 = some (r, S2) ∧ Rel n S2 := by
  have hR := h
  obtain ⟨h2, h6, -, -, -, -⟩ := h
  have hN := pw_le h6
  unfold fX4_shun fX5_shun
  rcases place_cases p0 with ⟨t, ht, rfl, e4, e5⟩ | ⟨e4, e5⟩
  · rcases place_cases p1 with ⟨m, hm, rfl, g4, g5⟩ | ⟨g4, g5⟩
    · obtain ⟨r, Sa, x1, x2, x3, x4⟩ := draft_eq hR ht
      by_cases c : r = -1
      · subst c
        have hpos : ∀ s, s < 2 ^ n → 0 ≤ Wt S t s := by
          rcases x3 with ⟨_, q⟩ | ⟨k, hk, q, _⟩
          · exact q
          · exact absurd (show nI k < 0 by rw [← q]; decide) (nI_pos (by omega))
        have x4 := x4 rfl
        obtain ⟨r, S1, q4, q37, qb⟩ := commit_rel (d := fun s => (Wt S t s).toInt.toNat) (hR.fr4 x2) hm (fun s hs => ⟨by rw [x4 s hs]; exact (nonneg_nat (hpos s hs)).1, (nonneg_nat (hpos s hs)).2⟩)
        have e37 : S1.1 37 = S.1 37 := (q37 37 (by decide)).2.trans x2.t37
        obtain ⟨r', Sw, y1, y2, y3⟩ := why5 (X := S1) hR e37 ht
        have := x3.one y3
        subst this
        obtain ⟨Sc, c1, c2, c3, c4⟩ := clear_eq (n := n) (S := Sw)
        obtain ⟨X, e, z1, z2⟩ := pp_fill (lX5_shun_1 n (nI t) (nI m)) (2 ^ n) 0 (by omega) (Nat.zero_le _) (fun k X => fr5 S1 X ∧ ∀ s, s < k → X.2 41 s = lN ((Wt S t s).toInt.toNat))
          (by
            intro f k X hk ⟨z1, z2⟩
            obtain ⟨Z, u1, u2, u3⟩ := w5_of (more := 0) (X := X) hR ((z1.2 37 (by decide) (by decide)).trans e37) ht hk (by decide)
            rw [show nI 0 = (0 : Int32) from rfl] at u1
            have u1 : fX5_determinant n (nI t) (nI k) (0 : Int32) X = some (Wt S t k, Z) := u1
            refine ⟨sJ Z 41 k (Wt S t k), ?_, (z1.tr u2).tr ⟨fun q _ b => sJ_r b, fun _ _ _ => rfl⟩, fun s hs => ?_⟩
            · show bX5_shun_1 n (nI t) (nI m) (lX5_shun_1 n (nI t) (nI m) f) (nI k) X = _
              unfold bX5_shun_1
              rw [if_neg (nI_ge hk (by omega)), u1]
              show gd (inb (nI k) 64) (lX5_shun_1 n (nI t) (nI m) f (nI k + 1) (sJ Z 41 (Int32.toNatClampNeg (nI k)) (Wt S t k))) = _
              rw [inb_nI (show k < 64 by omega) (by omega), cl_nI (by omega), nI_1]
              rfl
            · by_cases c : s = k
              · subst c
                rw [sJ_at]
                exact (nonneg_nat (hpos s hk)).1
              · rw [sJ_k c, u3]; exact z2 s (by omega))
          (by
            intro f X
            show bX5_shun_1 n (nI t) (nI m) (lX5_shun_1 n (nI t) (nI m) f) (nI (2 ^ n)) X = _
            unfold bX5_shun_1
            rw [if_pos (nI_le (Nat.le_refl _) (by omega))])
          Sc ⟨y2.tr ⟨fun q _ b => c2 q b, fun q _ _ => by rw [c3]⟩, fun s hs => absurd hs (Nat.not_lt_zero s)⟩
        obtain ⟨S2, m5, hS2⟩ := qb X z1 z2
        rw [show nI 0 = (0 : Int32) from rfl] at e
        refine ⟨r, S1, S2, ?_, ?_, hS2⟩
        · simp only [e4, g4, bo, bw, gd, cond_true, inb_nI ht (show t < 1000 by omega), cl_nI (show t < 1000 by omega), x1, if_true, q4]
          cases r <;> rfl
        · simp only [e5, g5, bo, bw, cond_true, y1, if_pos (show (-1 : Int32) < 0 by decide), c1, e, m5]
      · obtain ⟨r', Sw, y1, y2, y3⟩ := why5 (X := Sa) hR x2.t37 ht
        have := x3.one y3
        subst this
        have hneg : ¬ r < 0 := by
          rcases x3 with ⟨q, _⟩ | ⟨k, hk, q, _⟩
          · exact absurd q c
          · rw [q]; exact nI_pos (by omega)
        exact ⟨false, Sa, Sw, by simp only [e4, g4, bo, bw, gd, cond_true, inb_nI ht (show t < 1000 by omega), cl_nI (show t < 1000 by omega), x1, if_neg c], by simp only [e5, g5, bo, bw, cond_true, y1, if_neg hneg], (hR.fr4 x2).fr5 y2⟩
    · exact ⟨false, S, S, by simp only [e4, g4, bo, cond_true, cond_false], by simp only [e5, g5, bo, cond_true, cond_false], hR⟩
  · exact ⟨false, S, S, by simp only [e4, bo, cond_false], by simp only [e5, bo, cond_false], hR⟩
