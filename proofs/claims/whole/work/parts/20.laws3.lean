/-! ===== rises, greedy, draw ===== -/
/-- the first place from k on, within m steps, where g holds -/
def ff (g : Nat → Bool) : Nat → Nat → Nat
  | k, 0 => k
  | k, m + 1 => bif g k then k else ff g (k + 1) m
theorem ff_spec (g : Nat → Bool) : ∀ m k, k ≤ ff g k m ∧ ff g k m ≤ k + m ∧ (∀ j, k ≤ j → j < ff g k m → g j = false) ∧ (ff g k m < k + m → g (ff g k m) = true)
  | 0, k => ⟨Nat.le_refl _, Nat.le_refl _, fun j h1 h2 => by exact absurd h2 (Nat.not_lt.mpr h1), fun h => absurd h (Nat.lt_irrefl _)⟩
  | m + 1, k => by
    rw [ff]
    cases hg : g k with
    | true => exact ⟨Nat.le_refl _, by show k ≤ k + (m + 1); omega, fun j h1 h2 => absurd h2 (Nat.not_lt.mpr h1), fun _ => hg⟩
    | false =>
      obtain ⟨a, b, c, d⟩ := ff_spec g m (k + 1)
      refine ⟨by show k ≤ ff g (k + 1) m; omega, by show ff g (k + 1) m ≤ k + (m + 1); omega, fun j h1 h2 => ?_, fun h => d (by have h : ff g (k + 1) m < k + (m + 1) := h; omega)⟩
      by_cases e : j = k
      · subst e; exact hg
      · exact c j (by omega) h2
theorem ff_core (L : Nat → Int32 → Option Int32) (N k0 : Nat) (hN : N < 1000) (hk0 : k0 ≤ N) (g : Nat → Bool) (h1 : ∀ f k, k < N → L (f + 1) (nI k) = bif g k then some (nI k) else L f (nI (k + 1))) (h2 : ∀ f, L (f + 1) (nI N) = some (nI N)) : L FU (nI k0) = some (nI (ff g k0 (N - k0))) := by
  have key : ∀ d k f, k + d = N → d < f → L f (nI k) = some (nI (ff g k d)) := by
    intro d
    induction d with
    | zero =>
      intro k f hk hf
      obtain ⟨f, rfl⟩ : ∃ g, f = g + 1 := ⟨f - 1, by omega⟩
      have : k = N := by omega
      subst this
      exact h2 f
    | succ d ih =>
      intro k f hk hf
      obtain ⟨f, rfl⟩ : ∃ g, f = g + 1 := ⟨f - 1, by omega⟩
      rw [h1 f k (by omega), ff]
      cases hg : g k with
      | true => rfl
      | false => exact ih (k + 1) f (by omega) (by omega)
  exact key (N - k0) k0 FU (by omega) (by show N - k0 < 1000; omega)
def anyb (g : Nat → Bool) : Nat → Bool
  | 0 => false
  | k + 1 => anyb g k || g k
theorem anyb_iff {g : Nat → Bool} : ∀ {N : Nat}, anyb g N = true ↔ ∃ k, k < N ∧ g k = true
  | 0 => ⟨fun h => absurd (show false = true from h) (by decide), fun ⟨k, hk, _⟩ => absurd hk (Nat.not_lt_zero k)⟩
  | N + 1 => by
    rw [anyb, Bool.or_eq_true, anyb_iff]
    constructor
    · rintro (⟨k, h1, h2⟩ | h)
      · exact ⟨k, by omega, h2⟩
      · exact ⟨N, by omega, h⟩
    · rintro ⟨k, h1, h2⟩
      by_cases e : k = N
      · subst e; exact Or.inr h2
      · exact Or.inl ⟨k, by omega, h2⟩
theorem rise_core (L : Nat → Int32 → Int64 → Int32 → Option (Unit ⊕ Int32)) (n : Nat) (hn : n < 900) (a : Nat → Int64)
    (h1 : ∀ f (x3 : Int32) (x4 : Int64) k, k < n → L (f + 1) x3 x4 (nI (k + 1)) = if x3 = 0 then (if 0 ≤ lg_cmp (a (k + 1)) x4 then L f x3 (a (k + 1)) (nI (k + 2)) else L f 1 (a (k + 1)) (nI (k + 2))) else (if lg_cmp (a (k + 1)) x4 ≤ 0 then (if 0 ≤ lg_cmp (a (k + 1)) x4 then L f x3 (a (k + 1)) (nI (k + 2)) else L f 1 (a (k + 1)) (nI (k + 2))) else some (.inr 0)))
    (h2 : ∀ f (x3 : Int32) (x4 : Int64), L (f + 1) x3 x4 (nI (n + 1)) = some (.inl ())) :
    L FU 0 (a 0) 1 = some (bif allb (fun k => !(anyb (fun j => decide (a (j + 1) < a j)) k && decide (a k < a (k + 1)))) n then .inl () else .inr 0) := by
  have key : ∀ d k f, k + d = n → d < f → allb (fun k => !(anyb (fun j => decide (a (j + 1) < a j)) k && decide (a k < a (k + 1)))) k = true → L f (b2i (anyb (fun j => decide (a (j + 1) < a j)) k)) (a k) (nI (k + 1)) = some (bif allb (fun k => !(anyb (fun j => decide (a (j + 1) < a j)) k && decide (a k < a (k + 1)))) n then .inl () else .inr 0) := by
    intro d
    induction d with
    | zero =>
      intro k f hk hf ha
      obtain ⟨f, rfl⟩ : ∃ g, f = g + 1 := ⟨f - 1, by omega⟩
      have : k = n := by omega
      subst this
      rw [h2, ha]
      rfl
    | succ d ih =>
      intro k f hk hf ha
      obtain ⟨f, rfl⟩ : ∃ g, f = g + 1 := ⟨f - 1, by omega⟩
      have ih := ih (k + 1) f (by omega) (by omega)
      rw [h1 f _ _ k (by omega)]
      rw [anyb] at ih
      have ex : ∀ (hu : ¬ (anyb (fun j => decide (a (j + 1) < a j)) k = true ∧ a k < a (k + 1))), L f (b2i (anyb (fun j => decide (a (j + 1) < a j)) k || decide (a (k + 1) < a k))) (a (k + 1)) (nI (k + 2)) = some (bif allb (fun k => !(anyb (fun j => decide (a (j + 1) < a j)) k && decide (a k < a (k + 1)))) n then .inl () else .inr 0) := by
        intro hu
        refine ih ?_
        rw [allb, ha]
        by_cases c : a k < a (k + 1)
        · cases hb : anyb (fun j => decide (a (j + 1) < a j)) k with
          | true => exact absurd ⟨hb, c⟩ hu
          | false => rfl
        · rw [decide_eq_false c, Bool.and_false]; rfl
      cases hb : anyb (fun j => decide (a (j + 1) < a j)) k with
      | false =>
        rw [hb] at ex
        have ex := ex (fun q => by cases q.1)
        rw [if_pos (show b2i false = 0 from rfl)]
        by_cases c : a (k + 1) < a k
        · rw [if_neg (fun z => absurd ((lg_cmp_ge _ _).mp z) (Int64.not_le.mpr c))]
          rw [decide_eq_true c] at ex
          exact ex
        · rw [if_pos ((lg_cmp_ge _ _).mpr (Int64.not_lt.mp c))]
          rw [decide_eq_false c] at ex
          exact ex
      | true =>
        rw [hb] at ex
        rw [if_neg (show ¬ b2i true = 0 by decide)]
        by_cases u : a k < a (k + 1)
        · rw [if_neg (fun z => absurd ((lg_cmp_le _ _).mp z) (Int64.not_le.mpr u))]
          rw [allb_no (k := k) (by rw [hb, decide_eq_true u]; rfl) (show k < n by omega)]
          rfl
        · have ex := ex (fun q => u q.2)
          rw [if_pos ((lg_cmp_le _ _).mpr (Int64.not_lt.mp u))]
          by_cases c : a (k + 1) < a k
          · rw [if_neg (fun z => absurd ((lg_cmp_ge _ _).mp z) (Int64.not_le.mpr c))]
            rw [decide_eq_true c] at ex
            exact ex
          · rw [if_pos ((lg_cmp_ge _ _).mpr (Int64.not_lt.mp c))]
            rw [decide_eq_false c] at ex
            exact ex
  exact key n 0 FU (by omega) (by show n < 1000; omega) rfl
theorem t_rises {n : Nat} {S : St} (h : Rel n S) (p0 : Int32) : ∃ r, fX4_rises n p0 S = some r ∧ fX5_rises n p0 S = some r := by
  obtain ⟨h2, h6, -, -, -, hL⟩ := h
  unfold fX4_rises fX5_rises
  rcases law_cases hL p0 with ⟨l, hl, rfl, ok, e4, e5⟩ | ⟨e4, e5⟩
  · have hsz : ∀ q, q < 64 → fX0_sumOfSize n l (nI q) S = some (sm (fun s => if pop s = q then S.2 (31 + l) s else 0) (2 ^ n)) := fun q hq => sumSize_eq h6 hq
    generalize hae : (fun q => sm (fun s => if pop s = q then S.2 (31 + l) s else 0) (2 ^ n)) = a
    have hsz : ∀ q, q < 64 → fX0_sumOfSize n l (nI q) S = some (a q) := by rw [← hae]; exact hsz
    have hmz : ∀ q, q < 64 → fX5_ofSize n (nI l) (nI q) S = some (a q) := fun q hq => (ok.ofSize h6 hl hq).trans (hsz q hq)
    have c4 := rise_core (lX4_rises_1 n l S) n (by omega) a (by
        intro f x3 x4 k hk
        show bX4_rises_1 n l S (lX4_rises_1 n l S f) x3 x4 (nI (k + 1)) = _
        unfold bX4_rises_1
        rw [if_neg (nI_nlt (show k + 1 ≤ n by omega) (by omega)), hsz (k + 1) (by omega), nI_1]
        rfl) (by
        intro f x3 x4
        show bX4_rises_1 n l S (lX4_rises_1 n l S f) x3 x4 (nI (n + 1)) = _
        unfold bX4_rises_1
        rw [if_pos (nI_lt (Nat.lt_succ_self n) (by omega))])
    have c5 : lX5_rises_1 n (nI l) S FU (0 : Int32) = some (nI (ff (fun k => decide (a (k + 1) < a k)) 0 n)) := by
      refine ff_core (lX5_rises_1 n (nI l) S) n 0 (by omega) (Nat.zero_le _) (fun k => decide (a (k + 1) < a k)) ?_ ?_
      · intro f k hk
        show bX5_rises_1 n (nI l) S (lX5_rises_1 n (nI l) S f) (nI k) = _
        unfold bX5_rises_1
        rw [if_neg (nI_ge hk (by omega)), nI_1, hmz k (by omega), hmz (k + 1) (by omega)]
        show (if 0 < lg_cmp (a k) (a (k + 1)) then _ else _) = _
        by_cases c : a (k + 1) < a k
        · rw [if_pos ((lg_cmp_gt _ _).mpr c), decide_eq_true c]; rfl
        · rw [if_neg (fun z => c ((lg_cmp_gt _ _).mp z)), decide_eq_false c]; rfl
      · intro f
        show bX5_rises_1 n (nI l) S (lX5_rises_1 n (nI l) S f) (nI n) = _
        unfold bX5_rises_1
        rw [if_pos (nI_le (Nat.le_refl _) (by omega))]
    obtain ⟨s1, s2, s3, s4⟩ := ff_spec (fun k => decide (a (k + 1) < a k)) n 0
    generalize ff (fun k => decide (a (k + 1) < a k)) 0 n = k1 at c5 s1 s2 s3 s4
    have c6 : lX5_rises_2 n (nI l) S FU (nI k1) = some (nI (ff (fun k => decide (a k < a (k + 1))) k1 (n - k1))) := by
      refine ff_core (lX5_rises_2 n (nI l) S) n k1 (by omega) (by omega) (fun k => decide (a k < a (k + 1))) ?_ ?_
      · intro f k hk
        show bX5_rises_2 n (nI l) S (lX5_rises_2 n (nI l) S f) (nI k) = _
        unfold bX5_rises_2
        rw [if_neg (nI_ge hk (by omega)), nI_1, hmz k (by omega), hmz (k + 1) (by omega)]
        show (if lg_cmp (a k) (a (k + 1)) < 0 then _ else _) = _
        by_cases c : a k < a (k + 1)
        · rw [if_pos ((lg_cmp_lt _ _).mpr c), decide_eq_true c]; rfl
        · rw [if_neg (fun z => c ((lg_cmp_lt _ _).mp z)), decide_eq_false c]; rfl
      · intro f
        show bX5_rises_2 n (nI l) S (lX5_rises_2 n (nI l) S f) (nI n) = _
        unfold bX5_rises_2
        rw [if_pos (nI_le (Nat.le_refl _) (by omega))]
    obtain ⟨u1, u2, u3, u4⟩ := ff_spec (fun k => decide (a k < a (k + 1))) (n - k1) k1
    generalize ff (fun k => decide (a k < a (k + 1))) k1 (n - k1) = k2 at c6 u1 u2 u3 u4
    have s4 : k1 < n → a (k1 + 1) < a k1 := fun q => of_decide_eq_true (s4 (by omega))
    have u4 : k2 < n → a k2 < a (k2 + 1) := fun q => of_decide_eq_true (u4 (by omega))
    have hb : allb (fun k => !(anyb (fun j => decide (a (j + 1) < a j)) k && decide (a k < a (k + 1)))) n = decide (k2 = n) := by
      by_cases c : k2 = n
      · rw [decide_eq_true c]
        refine allb_iff.mpr (fun k hk => ?_)
        cases hx : anyb (fun j => decide (a (j + 1) < a j)) k with
        | false => rfl
        | true =>
          obtain ⟨j, hj, hd⟩ := anyb_iff.mp hx
          have hj1 : k1 ≤ j := Nat.le_of_not_lt (fun q => by
            have := s3 j (Nat.zero_le _) q
            rw [this] at hd
            cases hd)
          rw [u3 k (by omega) (by omega)]
          rfl
      · rw [decide_eq_false c]
        have hk2 : k2 < n := by omega
        refine allb_no (k := k2) ?_ hk2
        have hne : k2 ≠ k1 := fun q => by
          have x1 := u4 hk2
          rw [q] at x1
          exact Int64.lt_irrefl (Int64.lt_trans x1 (s4 (by omega)))
        rw [anyb_iff.mpr ⟨k1, by omega, decide_eq_true (s4 (by omega))⟩, decide_eq_true (u4 hk2)]
        rfl
    rw [hb] at c4
    have hz := hsz 0 (by decide)
    rw [show nI 0 = (0 : Int32) from rfl] at hz
    by_cases c : k2 = n
    · rw [decide_eq_true c] at c4
      exact ⟨1, by simp only [e4, bo, mo, gd, decide_eq_true hl, cond_true, hz, c4, bs], by simp only [e5, bo, cond_true, c5, c6, if_pos (congrArg nI c)]⟩
    · rw [decide_eq_false c] at c4
      have cne : ¬ nI k2 = nI n := fun z => c ((nI_inj (by omega) (by omega)).mp z)
      exact ⟨0, by simp only [e4, bo, mo, gd, decide_eq_true hl, cond_true, cond_false, hz, c4, bs], by simp only [e5, bo, cond_true, c5, c6, if_neg cne]⟩
  · exact ⟨-1, by simp only [e4, bo, mo], by simp only [e5, bo, cond_false]⟩
/-! draw -/
theorem dr_left : ∀ i, i < 6 → ∀ T, T < 2 ^ i → ((((1 : Int32) <<< (nI i &&& 31)) - (1 : Int32)) &&& (nI T ^^^ (-1 : Int32))) = nI (2 ^ i - 1 - T) ∧ (nI T ||| ((1 : Int32) <<< (nI i &&& 31))) = nI (T + 2 ^ i) ∧ (nI (2 ^ i - 1 - T) ||| ((1 : Int32) <<< (nI i &&& 31))) = nI (2 ^ (i + 1) - 1 - T) := by decide +kernel
theorem dr_split : ∀ i, i < 6 → ∀ T, T < 2 ^ i → ∀ s, s < 64 → (bif fitb s T (2 ^ i - 1 - T) then 1 else 0) = (bif fitb s (T + 2 ^ i) (2 ^ i - 1 - T) then 1 else 0) + (bif fitb s T (2 ^ (i + 1) - 1 - T) then 1 else 0) := by decide +kernel
theorem ns_split {v : Nat → Nat} {f g h : Nat → Bool} : ∀ {N : Nat}, (∀ s, s < N → (bif f s then 1 else 0) = (bif g s then 1 else 0) + (bif h s then 1 else 0)) → ns (fun s => bif f s then v s else 0) N = ns (fun s => bif g s then v s else 0) N + ns (fun s => bif h s then v s else 0) N
  | 0, _ => rfl
  | N + 1, e => by
    have ih := ns_split (v := v) (f := f) (g := g) (h := h) (N := N) (fun s hs => e s (by omega))
    have e1 := e N (by omega)
    rw [ns, ns, ns, ih]
    cases hf : f N <;> cases hg : g N <;> cases hh : h N <;> rw [hf, hg, hh] at e1 <;> simp at e1 ⊢ <;> omega
theorem dr_hi (x : Int64) : ∃ R, R < 2 ^ 31 ∧ UInt64.toInt64 (Int64.toUInt64 x >>> (Int64.toUInt64 (Int32.toInt64 (33 : Int32)) &&& Int64.toUInt64 63)) = lN R := by
  refine ⟨x.toUInt64.toNat / 2 ^ 33, ?_, ?_⟩
  · have := x.toUInt64.toNat_lt
    omega
  · rw [show (Int64.toUInt64 (Int32.toInt64 (33 : Int32)) &&& Int64.toUInt64 63) = 33 from by decide]
    apply Int64.toBitVec_inj.mp
    apply BitVec.eq_of_toNat_eq
    have h1 : (UInt64.toInt64 (Int64.toUInt64 x >>> 33)).toBitVec.toNat = x.toUInt64.toNat / 2 ^ 33 := by
      show (Int64.toUInt64 x >>> 33).toNat = _
      rw [UInt64.toNat_shiftRight, Nat.shiftRight_eq_div_pow]
      rfl
    have h2 : (lN (x.toUInt64.toNat / 2 ^ 33)).toBitVec.toNat = x.toUInt64.toNat / 2 ^ 33 := by
      show (BitVec.ofNat 64 (x.toUInt64.toNat / 2 ^ 33)).toNat = _
      rw [BitVec.toNat_ofNat]
      have := x.toUInt64.toNat_lt
      exact Nat.mod_eq_of_lt (by omega)
    rw [h1, h2]
theorem draw_core {n l : Nat} {S : St} (h6 : n ≤ 6) (hl : l < 6) (ok : LawOk n S l) : ∀ d i f T x, i + d = n → d < f → T < 2 ^ i → (∀ v : Nat → Nat, (∀ s, s < 2 ^ n → v s ≤ 4000000 ∧ S.2 (31 + l) s = lN (v s)) → 0 < ns (fun s => bif fitb s T (2 ^ i - 1 - T) then v s else 0) (2 ^ n)) → ∃ r, lX4_draw_1 n l S f x (nI T) (nI i) = some r ∧ lX5_draw_1 n (nI l) S f (nI T) (nI (2 ^ i - 1 - T)) x (nI i) = some r := by
  have hN := pw_le h6
  obtain ⟨v, hv, hT, hT0, hTm⟩ := ok.nat h6
  intro d
  induction d with
  | zero =>
    intro i f T x hi hf hTi _
    obtain ⟨f, rfl⟩ : ∃ g, f = g + 1 := ⟨f - 1, by omega⟩
    have : i = n := by omega
    subst this
    refine ⟨nI T, ?_, ?_⟩
    · show bX4_draw_1 i l S (lX4_draw_1 i l S f) x (nI T) (nI i) = _
      unfold bX4_draw_1
      rw [if_pos (nI_le (Nat.le_refl _) (by omega))]
    · show bX5_draw_1 i (nI l) S (lX5_draw_1 i (nI l) S f) (nI T) (nI (2 ^ i - 1 - T)) x (nI i) = _
      unfold bX5_draw_1
      rw [if_pos (nI_le (Nat.le_refl _) (by omega))]
  | succ d ih =>
    intro i f T x hi hf hTi hpos
    obtain ⟨f, rfl⟩ : ∃ g, f = g + 1 := ⟨f - 1, by omega⟩
    have hi6 : i < 6 := by omega
    have pi : 2 ^ i ≤ 32 := Nat.le_trans (Nat.pow_le_pow_right (by decide) (show i ≤ 5 by omega)) (by decide)
    have pi1 : 2 ^ (i + 1) = 2 * 2 ^ i := by rw [Nat.pow_succ]; omega
    obtain ⟨q1, q2, q3⟩ := dr_left i hi6 T hTi
    obtain ⟨a1, a2⟩ := fit_nat (a := T) (b := 2 ^ i - 1 - T) h6 (by omega) (by omega) hv
    obtain ⟨b1, b2⟩ := fit_nat (a := T + 2 ^ i) (b := 2 ^ i - 1 - T) h6 (by omega) (by omega) hv
    have hA0 := hpos v hv
    have hsp := ns_split (v := v) (N := 2 ^ n) (fun s hs => dr_split i hi6 T hTi s (by omega))
    obtain ⟨R, hR, eR⟩ := dr_hi ((x * (6364136223846793005 : Int64)) + (1442695040888963407 : Int64))
    generalize hAe : ns (fun s => bif fitb s T (2 ^ i - 1 - T) then v s else 0) (2 ^ n) = A at a1 a2 hA0 hsp
    generalize hBe : ns (fun s => bif fitb s (T + 2 ^ i) (2 ^ i - 1 - T) then v s else 0) (2 ^ n) = B at b1 b2 hsp
    have hrem : lN R - lN R / lN A * lN A = lN (R % A) := pk_lRem (by omega) hA0 (by omega)
    have hlt : R % A < A := Nat.mod_lt _ hA0
    have cA : ¬ (lg_cmp (lN A) (0 : Int64) ≤ 0) := fun z => by
      have := (lg_cmp_le _ _).mp z
      exact absurd ((pk_lLE (a := A) (b := 0) (by omega) (by decide)).mp this) (by omega)
    have same : ∀ v' : Nat → Nat, (∀ s, s < 2 ^ n → v' s ≤ 4000000 ∧ S.2 (31 + l) s = lN (v' s)) → ∀ g : Nat → Bool, ns (fun s => bif g s then v' s else 0) (2 ^ n) = ns (fun s => bif g s then v s else 0) (2 ^ n) := by
      intro v' hv' g
      have : ∀ N, N ≤ 2 ^ n → ns (fun s => bif g s then v' s else 0) N = ns (fun s => bif g s then v s else 0) N := by
        intro N
        induction N with
        | zero => intro _; rfl
        | succ N ihN =>
          intro hNn
          rw [ns, ns, ihN (by omega)]
          have e1 := (hv' N (by omega)).2
          rw [(hv N (by omega)).2] at e1
          have e2 := (pk_lEQ (by have := (hv N (by omega)).1; omega) (by have := (hv' N (by omega)).1; omega)).mp e1
          rw [e2]
      exact this _ (Nat.le_refl _)
    by_cases c : R % A < B
    · -- taken
      obtain ⟨r, r4, r5⟩ := ih (i + 1) f (T + 2 ^ i) ((x * (6364136223846793005 : Int64)) + (1442695040888963407 : Int64)) (by omega) (by omega) (by omega) (fun v' hv' => by
        rw [show 2 ^ (i + 1) - 1 - (T + 2 ^ i) = 2 ^ i - 1 - T by omega, same v' hv', hBe]; omega)
      have cB : ¬ (0 ≤ lg_cmp (lN (R % A)) (lN B)) := fun z => by
        have := (lg_cmp_ge _ _).mp z
        exact absurd ((pk_lLE (a := B) (b := R % A) (by omega) (by omega)).mp this) (by omega)
      rw [show 2 ^ (i + 1) - 1 - (T + 2 ^ i) = 2 ^ i - 1 - T by omega] at r5
      refine ⟨r, ?_, ?_⟩
      · show bX4_draw_1 n l S (lX4_draw_1 n l S f) x (nI T) (nI i) = _
        unfold bX4_draw_1
        rw [if_neg (nI_ge (show i < n by omega) (by omega)), q1, q2, a1, b1, eR, nI_1]
        show (if lg_cmp (lN A) (0 : Int64) ≤ 0 then _ else gd (!(decide (lN A = 0))) (if 0 ≤ lg_cmp (lN R - lN R / lN A * lN A) (lN B) then _ else _)) = _
        rw [if_neg cA, hrem, lN_nz (by omega) (by omega), if_neg cB]
        exact r4
      · show bX5_draw_1 n (nI l) S (lX5_draw_1 n (nI l) S f) (nI T) (nI (2 ^ i - 1 - T)) x (nI i) = _
        unfold bX5_draw_1
        rw [if_neg (nI_ge (show i < n by omega) (by omega)), q2, q3, ok.sumOf h6 hl (by omega) (by omega), ok.sumOf h6 hl (by omega) (by omega), a1, b1, eR, nI_1]
        show gd (!(decide (lN A = 0))) (if 0 ≤ lg_cmp (lN R - lN R / lN A * lN A) (lN B) then _ else _) = _
        rw [hrem, lN_nz (by omega) (by omega), if_neg cB]
        exact r5
    · -- passed over
      obtain ⟨r, r4, r5⟩ := ih (i + 1) f T ((x * (6364136223846793005 : Int64)) + (1442695040888963407 : Int64)) (by omega) (by omega) (by omega) (fun v' hv' => by
        rw [same v' hv']; omega)
      have cB : 0 ≤ lg_cmp (lN (R % A)) (lN B) := (lg_cmp_ge _ _).mpr ((pk_lLE (a := B) (b := R % A) (by omega) (by omega)).mpr (by omega))
      refine ⟨r, ?_, ?_⟩
      · show bX4_draw_1 n l S (lX4_draw_1 n l S f) x (nI T) (nI i) = _
        unfold bX4_draw_1
        rw [if_neg (nI_ge (show i < n by omega) (by omega)), q1, q2, a1, b1, eR, nI_1]
        show (if lg_cmp (lN A) (0 : Int64) ≤ 0 then _ else gd (!(decide (lN A = 0))) (if 0 ≤ lg_cmp (lN R - lN R / lN A * lN A) (lN B) then _ else _)) = _
        rw [if_neg cA, hrem, lN_nz (by omega) (by omega), if_pos cB]
        exact r4
      · show bX5_draw_1 n (nI l) S (lX5_draw_1 n (nI l) S f) (nI T) (nI (2 ^ i - 1 - T)) x (nI i) = _
        unfold bX5_draw_1
        rw [if_neg (nI_ge (show i < n by omega) (by omega)), q2, q3, ok.sumOf h6 hl (by omega) (by omega), ok.sumOf h6 hl (by omega) (by omega), a1, b1, eR, nI_1]
        show gd (!(decide (lN A = 0))) (if 0 ≤ lg_cmp (lN R - lN R / lN A * lN A) (lN B) then _ else _) = _
        rw [hrem, lN_nz (by omega) (by omega), if_pos cB]
        exact r5
theorem t_draw {n : Nat} {S : St} (h : Rel n S) (p0 : Int32) (p1 : Int64) : ∃ r, fX4_draw n p0 p1 S = some r ∧ fX5_draw n p0 p1 S = some r := by
  obtain ⟨h2, h6, -, -, -, hL⟩ := h
  unfold fX4_draw fX5_draw
  rcases law_cases hL p0 with ⟨l, hl, rfl, ok, e4, e5⟩ | ⟨e4, e5⟩
  · obtain ⟨r, r4, r5⟩ := draw_core h6 hl ok n 0 FU 0 p1 (by omega) (by show n < 1000; omega) (by decide) (fun v hv => by
      obtain ⟨h1, h3, s0, hs0, hne⟩ := ok
      have hp := ns_part (f := fun s => bif fitb s 0 (2 ^ 0 - 1 - 0) then v s else 0) hs0
      have ht : fitb s0 0 (2 ^ 0 - 1 - 0) = true := by simp [fitb]
      rw [ht] at hp
      have hz : v s0 ≠ 0 := fun q => hne (by rw [(hv s0 hs0).2, q]; rfl)
      have hp : v s0 ≤ _ := hp
      omega)
    exact ⟨r, by simp only [e4, bo, mo, gd, decide_eq_true hl, cond_true]; rw [show lX4_draw_1 n l S FU p1 (0 : Int32) (0 : Int32) = some r from r4], by simp only [e5, bo, cond_true]; rw [show lX5_draw_1 n (nI l) S FU (0 : Int32) (0 : Int32) p1 (0 : Int32) = some r from r5]⟩
  · exact ⟨-1, by simp only [e4, bo, mo], by simp only [e5, bo, cond_false]⟩
