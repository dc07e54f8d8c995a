/-! ===== trees: by a closure from post 0, and by merging groups ===== -/
def mg (g : Nat → Nat) (a b : Nat) : Nat → Nat := fun z => if g z = g b then g a else g z
def gs (A B : Nat → Nat) (s : Nat) : Nat → Nat → Nat
  | 0 => fun z => z
  | i + 1 => bif s.testBit i then mg (gs A B s i) (A i) (B i) else gs A B s i
def okn (A B : Nat → Nat) (s p : Nat) : Nat → Bool
  | 0 => true
  | i + 1 => okn A B s p i && (!(s.testBit i) || (decide (A i < p) && decide (B i < p) && !(decide (gs A B s i (A i) = gs A B s i (B i)))))
/-- one pass over the edges below i -/
def ps (A B : Nat → Nat) (s now : Nat) : Nat → Nat
  | 0 => now
  | i + 1 => bif s.testBit i && !(decide (ps A B s now i &&& (2 ^ A i ||| 2 ^ B i) = 0)) then ps A B s now i ||| (2 ^ A i ||| 2 ^ B i) else ps A B s now i
def rd (A B : Nat → Nat) (s n : Nat) : Nat → Nat
  | 0 => 1
  | k + 1 => ps A B s (rd A B s n k) n
theorem or_lt32 : ∀ x, x < 32 → ∀ a, a < 5 → ∀ b, b < 5 → x ||| (2 ^ a ||| 2 ^ b) < 32 := by decide +kernel
theorem touch : ∀ x, x < 32 → ∀ a, a < 5 → ∀ b, b < 5 → (x &&& (2 ^ a ||| 2 ^ b) = 0 ↔ (x.testBit a = false ∧ x.testBit b = false)) := by decide +kernel
theorem or_tb (x a b z : Nat) : (x ||| (2 ^ a ||| 2 ^ b)).testBit z = (x.testBit z || (decide (a = z) || decide (b = z))) := by
  rw [Nat.testBit_or, Nat.testBit_or, Nat.testBit_two_pow, Nat.testBit_two_pow]
section GR
variable {A B : Nat → Nat} {s n : Nat}
theorem ps_lt {now : Nat} (hA : ∀ i, i < n → A i < 5 ∧ B i < 5) (hnow : now < 32) : ∀ i, i ≤ n → ps A B s now i < 32
  | 0, _ => hnow
  | i + 1, hi => by
    have ih := ps_lt hA hnow i (by omega)
    rw [ps]
    cases (s.testBit i && !(decide (ps A B s now i &&& (2 ^ A i ||| 2 ^ B i) = 0))) with
    | true => exact or_lt32 _ ih _ (hA i (by omega)).1 _ (hA i (by omega)).2
    | false => exact ih
theorem ps_mono {now z : Nat} : ∀ i, now.testBit z = true → (ps A B s now i).testBit z = true
  | 0, h => h
  | i + 1, h => by
    have ih := ps_mono i h
    rw [ps]
    cases (s.testBit i && !(decide (ps A B s now i &&& (2 ^ A i ||| 2 ^ B i) = 0))) with
    | true => show (ps A B s now i ||| (2 ^ A i ||| 2 ^ B i)).testBit z = true; rw [or_tb, ih]; rfl
    | false => exact ih
theorem ps_le {now z : Nat} : ∀ i j, i ≤ j → (ps A B s now i).testBit z = true → (ps A B s now j).testBit z = true
  | i, 0, h, q => by
    have : i = 0 := by omega
    subst this
    exact q
  | i, j + 1, h, q => by
    by_cases c : i = j + 1
    · subst c; exact q
    · have ih := ps_le i j (by omega) q
      rw [ps]
      cases (s.testBit j && !(decide (ps A B s now j &&& (2 ^ A j ||| 2 ^ B j) = 0))) with
      | true => show (ps A B s now j ||| (2 ^ A j ||| 2 ^ B j)).testBit z = true; rw [or_tb, ih]; rfl
      | false => exact ih
/-- nothing grew: no edge crosses -/
theorem ps_still {now : Nat} (hA : ∀ i, i < n → A i < 5 ∧ B i < 5) (hnow : now < 32) (hst : ps A B s now n = now) : ∀ i, i < n → s.testBit i = true → now.testBit (A i) = now.testBit (B i) := by
  intro i hi hs
  have hl := ps_lt (s := s) hA hnow i (by omega)
  obtain ⟨ha, hb⟩ := hA i hi
  have sub : ∀ z, (ps A B s now i).testBit z = true → now.testBit z = true := fun z q => by
    have := ps_le i n (by omega) q
    rw [hst] at this
    exact this
  have sub2 : ∀ z, (ps A B s now (i + 1)).testBit z = true → now.testBit z = true := fun z q => by
    have := ps_le (i + 1) n (by omega) q
    rw [hst] at this
    exact this
  by_cases c : ps A B s now i &&& (2 ^ A i ||| 2 ^ B i) = 0
  · obtain ⟨t1, t2⟩ := (touch _ hl _ ha _ hb).mp c
    have m1 : now.testBit (A i) = false := by
      cases q : now.testBit (A i) with
      | false => rfl
      | true => rw [ps_mono i q] at t1; cases t1
    have m2 : now.testBit (B i) = false := by
      cases q : now.testBit (B i) with
      | false => rfl
      | true => rw [ps_mono i q] at t2; cases t2
    rw [m1, m2]
  · have e : ps A B s now (i + 1) = ps A B s now i ||| (2 ^ A i ||| 2 ^ B i) := by
      rw [ps, hs, decide_eq_false c]; rfl
    rw [sub2 (A i) (by rw [e, or_tb, decide_eq_true rfl]; simp), sub2 (B i) (by rw [e, or_tb, decide_eq_true (rfl : B i = B i)]; simp)]
theorem mg_same {g : Nat → Nat} {a b : Nat} (h : g a = g b) : mg g a b = g := by
  funext z
  unfold mg
  by_cases c : g z = g b
  · rw [if_pos c, h, c]
  · rw [if_neg c]
/-- the groups respect a set that no edge crosses -/
theorem gs_resp {N : Nat → Bool} : ∀ i, (∀ j, j < i → s.testBit j = true → N (A j) = N (B j)) → ∀ z z', gs A B s i z = gs A B s i z' → N z = N z'
  | 0, _, z, z', h => by rw [show z = z' from h]
  | i + 1, hN, z, z', h => by
    have ih := gs_resp (N := N) i (fun j hj => hN j (by omega))
    rw [gs] at h
    cases hs : s.testBit i with
    | false => rw [hs] at h; exact ih z z' h
    | true =>
      rw [hs] at h
      have h : mg (gs A B s i) (A i) (B i) z = mg (gs A B s i) (A i) (B i) z' := h
      have hab := hN i (by omega) hs
      unfold mg at h
      by_cases c1 : gs A B s i z = gs A B s i (B i)
      · by_cases c2 : gs A B s i z' = gs A B s i (B i)
        · exact ih z z' (c1.trans c2.symm)
        · rw [if_pos c1, if_neg c2] at h
          rw [ih z _ c1, ← hab, ih _ z' h]
      · by_cases c2 : gs A B s i z' = gs A B s i (B i)
        · rw [if_neg c1, if_pos c2] at h
          rw [ih z _ h, hab, ih z' _ c2]
        · rw [if_neg c1, if_neg c2] at h
          exact ih z z' h
theorem gs_lt (hA : ∀ i, i < n → A i < 5 ∧ B i < 5) : ∀ i, i ≤ n → ∀ z, z < 5 → gs A B s i z < 5
  | 0, _, z, hz => hz
  | i + 1, hi, z, hz => by
    have ih := gs_lt hA i (by omega)
    rw [gs]
    cases s.testBit i with
    | false => exact ih z hz
    | true =>
      show mg (gs A B s i) (A i) (B i) z < 5
      unfold mg
      by_cases c : gs A B s i z = gs A B s i (B i)
      · rw [if_pos c]; exact ih _ (hA i (by omega)).1
      · rw [if_neg c]; exact ih z hz
theorem mg_idem {g : Nat → Nat} {a b : Nat} (hi : ∀ z, z < 5 → g (g z) = g z) (hl : ∀ z, z < 5 → g z < 5) (ha : a < 5) (hb : b < 5) : ∀ z, z < 5 → mg g a b (mg g a b z) = mg g a b z := by
  intro z hz
  unfold mg
  by_cases c : g z = g b
  · rw [if_pos c]
    by_cases c2 : g (g a) = g b
    · rw [if_pos c2]
    · rw [if_neg c2, hi a ha]
  · rw [if_neg c, hi z hz, if_neg c]
theorem gs_idem (hA : ∀ i, i < n → A i < 5 ∧ B i < 5) : ∀ i, i ≤ n → ∀ z, z < 5 → gs A B s i (gs A B s i z) = gs A B s i z
  | 0, _, z, hz => rfl
  | i + 1, hi, z, hz => by
    have ih := gs_idem hA i (by omega)
    rw [gs]
    cases s.testBit i with
    | false => exact ih z hz
    | true => exact mg_idem ih (gs_lt hA i (by omega)) (hA i (by omega)).1 (hA i (by omega)).2 z hz
/-- an edge's two posts stay together -/
theorem gs_keep {z z' : Nat} : ∀ i j, i ≤ j → gs A B s i z = gs A B s i z' → gs A B s j z = gs A B s j z'
  | i, 0, h, q => by
    have : i = 0 := by omega
    subst this
    exact q
  | i, j + 1, h, q => by
    by_cases c : i = j + 1
    · subst c; exact q
    · have ih := gs_keep i j (by omega) q
      rw [gs]
      cases s.testBit j with
      | false => exact ih
      | true => show mg (gs A B s j) (A j) (B j) z = mg (gs A B s j) (A j) (B j) z'; unfold mg; rw [ih]
theorem gs_edge {j : Nat} (hj : j < n) (hs : s.testBit j = true) : gs A B s n (A j) = gs A B s n (B j) := by
  refine gs_keep (j + 1) n (by omega) ?_
  rw [gs, hs]
  show mg (gs A B s j) (A j) (B j) (A j) = mg (gs A B s j) (A j) (B j) (B j)
  unfold mg
  by_cases c : gs A B s j (A j) = gs A B s j (B j)
  · rw [if_pos c, if_pos rfl]
  · rw [if_neg c, if_pos rfl]
def fx (g : Nat → Nat) (N : Nat) : Nat := ns (fun x => if g x = x then 1 else 0) N
theorem ns_one {f g : Nat → Nat} {y : Nat} : ∀ {N : Nat}, y < N → (∀ x, x < N → f x = g x + (if x = y then 1 else 0)) → ns f N = ns g N + 1
  | 0, h, _ => absurd h (Nat.not_lt_zero y)
  | N + 1, h, e => by
    rw [ns, ns, e N (by omega)]
    by_cases c : y = N
    · subst c
      rw [ns_cong (f := f) (g := g) (fun x hx => by rw [e x (by omega), if_neg (by omega)]; rfl), if_pos rfl]
      omega
    · rw [ns_one (f := f) (g := g) (y := y) (N := N) (by omega) (fun x hx => e x (by omega)), if_neg (by omega)]
      omega
theorem fx_mg {g : Nat → Nat} {a b : Nat} (hi : ∀ z, z < 5 → g (g z) = g z) (hl : ∀ z, z < 5 → g z < 5) (ha : a < 5) (hb : b < 5) (hne : g a ≠ g b) : fx g 5 = fx (mg g a b) 5 + 1 := by
  unfold fx
  refine ns_one (y := g b) (hl b hb) (fun x hx => ?_)
  by_cases c : g x = g b
  · have e1 : mg g a b x = g a := by unfold mg; rw [if_pos c]
    have n1 : ¬ g a = x := fun q => hne (by rw [← hi a ha, q]; exact c)
    rw [e1, if_neg n1]
    by_cases c2 : x = g b
    · rw [if_pos c2, if_pos (by rw [c, ← c2])]
    · rw [if_neg c2, if_neg (fun q => c2 (by rw [← c, q]))]
  · have e1 : mg g a b x = g x := by unfold mg; rw [if_neg c]
    have n1 : ¬ x = g b := fun q => c (by rw [q]; exact hi b hb)
    rw [e1, if_neg n1, Nat.add_zero]
/-- how many edges below i merged two groups -/
def cm (A B : Nat → Nat) (s : Nat) : Nat → Nat
  | 0 => 0
  | i + 1 => cm A B s i + (if s.testBit i = true ∧ gs A B s i (A i) ≠ gs A B s i (B i) then 1 else 0)
theorem fx_cm (hA : ∀ i, i < n → A i < 5 ∧ B i < 5) : ∀ i, i ≤ n → fx (gs A B s i) 5 + cm A B s i = 5
  | 0, _ => rfl
  | i + 1, hi => by
    have ih := fx_cm hA i (by omega)
    rw [gs, cm]
    cases hs : s.testBit i with
    | false => rw [if_neg (fun q => by cases q.1)]; exact ih
    | true =>
      show fx (mg (gs A B s i) (A i) (B i)) 5 + _ = 5
      by_cases c : gs A B s i (A i) = gs A B s i (B i)
      · rw [mg_same c, if_neg (fun q => q.2 c)]; exact ih
      · rw [if_pos ⟨rfl, c⟩]
        have := fx_mg (gs_idem (s := s) hA i (by omega)) (gs_lt hA i (by omega)) (hA i (by omega)).1 (hA i (by omega)).2 c
        omega
theorem cm_le (hs : s < 64) (hn : n ≤ 6) : ∀ i, i ≤ n → cm A B s i ≤ cnt s i
  | 0, _ => Nat.zero_le _
  | i + 1, hi => by
    have ih := cm_le hs hn i (by omega)
    have hc := cnt_s s hs i (by omega)
    rw [cm, hc]
    by_cases c : s.testBit i = true ∧ gs A B s i (A i) ≠ gs A B s i (B i)
    · rw [if_pos c, if_pos c.1]; omega
    · rw [if_neg c]; omega
theorem cm_full (hs : s < 64) (hn : n ≤ 6) (hf : cm A B s n = cnt s n) : ∀ i, i < n → s.testBit i = true → gs A B s i (A i) ≠ gs A B s i (B i) := by
  intro i hi hb hsame
  have short : ∀ d j, i + 1 + d = j → j ≤ n → cm A B s j < cnt s j := by
    intro d
    induction d with
    | zero =>
      intro j hj hjn
      have e : j = i + 1 := by omega
      subst e
      have h1 := cm_le (A := A) (B := B) hs hn i (by omega)
      have hc := cnt_s s hs i (by omega)
      rw [hb] at hc
      have hc : cnt s (i + 1) = cnt s i + 1 := hc
      rw [cm, hc, if_neg (fun q => q.2 hsame)]
      omega
    | succ d ih =>
      intro j hj hjn
      obtain ⟨j, rfl⟩ : ∃ k, j = k + 1 := ⟨j - 1, by omega⟩
      have h1 := ih j (by omega) (by omega)
      have hc := cnt_s s hs j (by omega)
      rw [cm, hc]
      by_cases c : s.testBit j = true ∧ gs A B s j (A j) ≠ gs A B s j (B j)
      · rw [if_pos c, if_pos c.1]; omega
      · rw [if_neg c]; omega
  have := short (n - (i + 1)) n (by omega) (Nat.le_refl _)
  omega
theorem ns_two {f : Nat → Nat} {x y : Nat} : ∀ {N : Nat}, x < y → y < N → f x = 1 → f y = 1 → 2 ≤ ns f N
  | 0, _, h, _, _ => absurd h (Nat.not_lt_zero y)
  | N + 1, hxy, hy, h1, h2 => by
    rw [ns]
    by_cases c : y = N
    · subst c
      have := ns_part (f := f) hxy
      omega
    · have := ns_two (f := f) (N := N) hxy (by omega) h1 h2
      omega
theorem ns_cut {f : Nat → Nat} (p : Nat) : ∀ d, ns f (p + d) = ns f p + ns (fun x => f (p + x)) d
  | 0 => rfl
  | d + 1 => by rw [show p + (d + 1) = (p + d) + 1 from rfl, ns, ns_cut p d, ns]; omega
theorem rd_lt (hA : ∀ i, i < n → A i < 5 ∧ B i < 5) : ∀ k, rd A B s n k < 32
  | 0 => (show 1 < 32 by decide)
  | k + 1 => ps_lt hA (rd_lt hA k) n (Nat.le_refl _)
theorem rd_0 : ∀ k, (rd A B s n k).testBit 0 = true
  | 0 => (show (1 : Nat).testBit 0 = true by decide)
  | k + 1 => ps_mono n (rd_0 k)
/-- what is joined is in post 0's group -/
theorem rd_group (hA : ∀ i, i < n → A i < 5 ∧ B i < 5) : ∀ k z, (rd A B s n k).testBit z = true → gs A B s n z = gs A B s n 0
  | 0, z, h => by
    have : (1 : Nat).testBit z = true := h
    rw [Nat.testBit_one_eq_true_iff_self_eq_zero] at this
    rw [this]
  | k + 1, z, h => by
    have ih := rd_group hA k
    have go : ∀ i, i ≤ n → ∀ z, (ps A B s (rd A B s n k) i).testBit z = true → gs A B s n z = gs A B s n 0 := by
      intro i
      induction i with
      | zero => intro _ z h; exact ih z h
      | succ i ihi =>
        intro hi z h
        have ihi := ihi (by omega)
        have hl := ps_lt (s := s) hA (rd_lt (s := s) hA k) i (by omega)
        obtain ⟨ha, hb⟩ := hA i (by omega)
        rw [ps] at h
        cases hs : s.testBit i with
        | false => rw [hs] at h; exact ihi z h
        | true =>
          rw [hs] at h
          by_cases c : ps A B s (rd A B s n k) i &&& (2 ^ A i ||| 2 ^ B i) = 0
          · rw [decide_eq_true c] at h; exact ihi z h
          · rw [decide_eq_false c] at h
            have h : (ps A B s (rd A B s n k) i ||| (2 ^ A i ||| 2 ^ B i)).testBit z = true := h
            have he := gs_edge (A := A) (B := B) (n := n) (show i < n by omega) hs
            have hor : (ps A B s (rd A B s n k) i).testBit (A i) = true ∨ (ps A B s (rd A B s n k) i).testBit (B i) = true := by
              cases q1 : (ps A B s (rd A B s n k) i).testBit (A i) with
              | true => exact Or.inl rfl
              | false =>
                cases q2 : (ps A B s (rd A B s n k) i).testBit (B i) with
                | true => exact Or.inr rfl
                | false => exact absurd ((touch _ hl _ ha _ hb).mpr ⟨q1, q2⟩) c
            have hA0 : gs A B s n (A i) = gs A B s n 0 := by
              rcases hor with q | q
              · exact ihi _ q
              · rw [he]; exact ihi _ q
            rw [or_tb] at h
            cases q : (ps A B s (rd A B s n k) i).testBit z with
            | true => exact ihi z q
            | false =>
              rw [q, Bool.false_or, Bool.or_eq_true] at h
              rcases h with h | h
              · rw [← of_decide_eq_true h]; exact hA0
              · rw [← of_decide_eq_true h, ← he]; exact hA0
    exact go n (Nat.le_refl _) z h
theorem okn_all {p : Nat} : ∀ i, (okn A B s p i = true ↔ ∀ j, j < i → s.testBit j = true → A j < p ∧ B j < p ∧ gs A B s j (A j) ≠ gs A B s j (B j))
  | 0 => ⟨fun _ j h => absurd h (Nat.not_lt_zero j), fun _ => rfl⟩
  | i + 1 => by
    rw [okn, Bool.and_eq_true, okn_all i]
    constructor
    · rintro ⟨h1, h2⟩ j hj hs
      by_cases c : j = i
      · subst c
        rw [hs] at h2
        simp only [Bool.not_true, Bool.false_or, Bool.and_eq_true, decide_eq_true_eq, Bool.not_eq_true', decide_eq_false_iff_not] at h2
        exact ⟨h2.1.1, h2.1.2, h2.2⟩
      · exact h1 j (by omega) hs
    · intro h
      refine ⟨fun j hj => h j (by omega), ?_⟩
      cases hs : s.testBit i with
      | false => rfl
      | true =>
        obtain ⟨a, b, c⟩ := h i (by omega) hs
        simp [a, b, c]
theorem full_bits : ∀ p, p ≤ 5 → ∀ x, x < 32 → ((∀ z, z < 5 → (x.testBit z = decide (z < p))) ↔ x = 2 ^ p - 1) := by decide +kernel
theorem sub_pop : ∀ x, x < 32 → ∀ y, y < 32 → (∀ z, z < 5 → x.testBit z = true → y.testBit z = true) → x ≠ y → pop x < pop y := by decide +kernel
theorem in_p_pop : ∀ p, p ≤ 5 → ∀ x, x < 32 → (∀ z, z < 5 → x.testBit z = true → z < p) → p ≤ pop x → x = 2 ^ p - 1 := by decide +kernel
/-- the two ways agree -/
theorem tree_iff {p : Nat} (hA : ∀ i, i < n → A i < 5 ∧ B i < 5) (hn : n ≤ 6) (hs : s < 2 ^ n) (hp2 : 2 ≤ p) (hp5 : p ≤ 5) (hpop : pop s = p - 1) : rd A B s n (p - 1) = 2 ^ p - 1 ↔ okn A B s p n = true := by
  have hN := pw_le hn
  have hcnt := cnt_n n hn s hs
  have hfx := fx_cm (s := s) hA n (Nat.le_refl _)
  have hcl := cm_le (A := A) (B := B) (s := s) (by omega) hn n (Nat.le_refl _)
  have hlt := gs_lt (s := s) hA n (Nat.le_refl _)
  have hid := gs_idem (s := s) hA n (Nat.le_refl _)
  have hcut := ns_cut (f := fun x => if gs A B s n x = x then 1 else 0) p (5 - p)
  rw [show p + (5 - p) = 5 by omega] at hcut
  constructor
  · intro hJ
    have hbits := (full_bits p hp5 _ (rd_lt (s := s) hA (p - 1))).mpr hJ
    have hcls : ∀ z, z < p → gs A B s n z = gs A B s n 0 := fun z hz => rd_group hA (p - 1) z (by rw [hbits z (by omega)]; exact decide_eq_true hz)
    have hfp : fx (gs A B s n) p ≤ 1 := by
      rcases Nat.lt_or_ge 1 (fx (gs A B s n) p) with q | q
      · exfalso
        have uniq : ∀ x, x < p → gs A B s n x = x → x = gs A B s n 0 := fun x hx h => by rw [← hcls x hx, h]
        have gen : ∀ N, N ≤ p → ns (fun x => if gs A B s n x = x then 1 else 0) N ≤ if gs A B s n 0 < N then 1 else 0 := by
          intro N
          induction N with
          | zero => intro _; exact Nat.zero_le _
          | succ N ih =>
            intro hNp
            have ih := ih (by omega)
            rw [ns]
            by_cases c : gs A B s n N = N
            · have e := uniq N (by omega) c
              rw [if_pos c, if_pos (by omega)]
              rw [if_neg (by omega)] at ih
              omega
            · rw [if_neg c]
              by_cases d : gs A B s n 0 < N
              · rw [if_pos d] at ih; rw [if_pos (by omega)]; omega
              · rw [if_neg d] at ih
                have : ns (fun x => if gs A B s n x = x then 1 else 0) N = 0 := by omega
                rw [this]; exact Nat.zero_le _
        have := gen p (Nat.le_refl _)
        have h1 : (if gs A B s n 0 < p then 1 else 0) ≤ 1 := by by_cases d : gs A B s n 0 < p <;> simp [d]
        unfold fx at q
        omega
      · exact q
    have hrest : ns (fun x => if gs A B s n (p + x) = p + x then 1 else 0) (5 - p) ≤ (5 - p) * 1 := ns_le (fun k _ => by by_cases c : gs A B s n (p + k) = p + k <;> simp [c])
    unfold fx at hfx hfp
    have hcm : cm A B s n = cnt s n := by omega
    have hfp1 : ns (fun x => if gs A B s n x = x then 1 else 0) p = 1 := by omega
    have hrest1 : ns (fun x => if gs A B s n (p + x) = p + x then 1 else 0) (5 - p) = 5 - p := by omega
    have hhigh : ∀ z, p ≤ z → z < 5 → gs A B s n z = z := by
      intro z hz1 hz2
      have gen : ∀ (f : Nat → Nat) N, (∀ k, k < N → f k ≤ 1) → ns f N = N → ∀ k, k < N → f k = 1 := by
        intro f N
        induction N with
        | zero => intro _ _ k hk; exact absurd hk (Nat.not_lt_zero k)
        | succ N ih =>
          intro h1 h2 k hk
          rw [ns] at h2
          have h3 := ns_le (f := f) (c := 1) (N := N) (fun k hk => h1 k (by omega))
          have h4 := h1 N (by omega)
          by_cases c : k = N
          · subst c; omega
          · exact ih (fun k hk => h1 k (by omega)) (by omega) k (by omega)
      have := gen (fun x => if gs A B s n (p + x) = p + x then 1 else 0) (5 - p) (fun k _ => by by_cases c : gs A B s n (p + k) = p + k <;> simp [c]) hrest1 (z - p) (by omega)
      have h5 : (if gs A B s n (p + (z - p)) = p + (z - p) then 1 else 0) = 1 := this
      rw [show p + (z - p) = z by omega] at h5
      by_cases c : gs A B s n z = z
      · exact c
      · rw [if_neg c] at h5; cases h5
    have hlow : gs A B s n 0 < p := by
      rcases Nat.lt_or_ge (gs A B s n 0) p with q | q
      · exact q
      · exfalso
        have : ns (fun x => if gs A B s n x = x then 1 else 0) p ≤ p * 0 := ns_le (fun k hk => by
          rw [if_neg (fun e => by have := hcls k hk; omega)]
          exact Nat.le_refl _)
        omega
    refine (okn_all n).mpr (fun j hj hb => ?_)
    have hm := cm_full (A := A) (B := B) (s := s) (by omega) hn hcm j hj hb
    obtain ⟨ha5, hb5⟩ := hA j hj
    have he := gs_edge (A := A) (B := B) hj hb
    refine ⟨?_, ?_, hm⟩
    · rcases Nat.lt_or_ge (A j) p with q | q
      · exact q
      · exfalso
        have e1 := hhigh (A j) q ha5
        rcases Nat.lt_or_ge (B j) p with q2 | q2
        · have := hcls (B j) q2
          omega
        · have e2 := hhigh (B j) q2 hb5
          exact hm (by rw [show A j = B j by omega])
    · rcases Nat.lt_or_ge (B j) p with q | q
      · exact q
      · exfalso
        have e1 := hhigh (B j) q hb5
        rcases Nat.lt_or_ge (A j) p with q2 | q2
        · have := hcls (A j) q2
          omega
        · have e2 := hhigh (A j) q2 ha5
          exact hm (by rw [show A j = B j by omega])
  · intro hok
    have hall := (okn_all n).mp hok
    -- posts beyond stay alone
    have hbey : ∀ i, i ≤ n → (∀ z, p ≤ z → gs A B s i z = z) ∧ (∀ z, z < p → gs A B s i z < p) := by
      intro i
      induction i with
      | zero => intro _; exact ⟨fun _ _ => rfl, fun _ h => h⟩
      | succ i ih =>
        intro hi
        obtain ⟨g1, g2⟩ := ih (by omega)
        rw [gs]
        cases hb : s.testBit i with
        | false => exact ⟨g1, g2⟩
        | true =>
          obtain ⟨a, b, c⟩ := hall i (by omega) hb
          refine ⟨fun z hz => ?_, fun z hz => ?_⟩
          · show mg (gs A B s i) (A i) (B i) z = z
            unfold mg
            rw [if_neg (fun q => by have := g1 z hz; have := g2 _ b; omega)]
            exact g1 z hz
          · show mg (gs A B s i) (A i) (B i) z < p
            unfold mg
            by_cases d : gs A B s i z = gs A B s i (B i)
            · rw [if_pos d]; exact g2 _ a
            · rw [if_neg d]; exact g2 z hz
    obtain ⟨b1, b2⟩ := hbey n (Nat.le_refl _)
    -- every edge merges
    have hcm : ∀ i, i ≤ n → cm A B s i = cnt s i := by
      intro i
      induction i with
      | zero => intro _; exact (cnt_0 s (by omega)).symm
      | succ i ih =>
        intro hi
        rw [cm, cnt_s s (by omega) i (by omega), ih (by omega)]
        cases hb : s.testBit i with
        | false => rw [if_neg (fun q => by cases q.1)]; rfl
        | true => rw [if_pos ⟨rfl, (hall i (by omega) hb).2.2⟩]; rfl
    have hc := hcm n (Nat.le_refl _)
    have hhi : ns (fun x => if gs A B s n (p + x) = p + x then 1 else 0) (5 - p) = 5 - p := by
      have : ∀ N, ns (fun x => if gs A B s n (p + x) = p + x then 1 else 0) N = N := by
        intro N
        induction N with
        | zero => rfl
        | succ N ih =>
          rw [ns, ih]
          show N + (if gs A B s n (p + N) = p + N then 1 else 0) = N + 1
          rw [if_pos (b1 _ (by omega))]
      exact this _
    unfold fx at hfx
    have hone : ns (fun x => if gs A B s n x = x then 1 else 0) p = 1 := by omega
    have hsame : ∀ z, z < p → gs A B s n z = gs A B s n 0 := by
      intro z hz
      have f1 : gs A B s n (gs A B s n z) = gs A B s n z := hid z (by omega)
      have f2 : gs A B s n (gs A B s n 0) = gs A B s n 0 := hid 0 (by omega)
      have l1 := b2 z hz
      have l2 := b2 0 (by omega)
      rcases Nat.lt_trichotomy (gs A B s n z) (gs A B s n 0) with q | q | q
      · have := ns_two (f := fun x => if gs A B s n x = x then 1 else 0) q l2 (if_pos f1) (if_pos f2)
        omega
      · exact q
      · have := ns_two (f := fun x => if gs A B s n x = x then 1 else 0) q l1 (if_pos f2) (if_pos f1)
        omega
    -- the closure stays within
    have hin : ∀ k z, z < 5 → (rd A B s n k).testBit z = true → z < p := by
      intro k z hz5 h
      have h1 := rd_group hA k z h
      rcases Nat.lt_or_ge z p with q | q
      · exact q
      · have := b1 z q
        have := b2 0 (by omega)
        omega
    have grow : ∀ k, (∀ z, z < p → (rd A B s n k).testBit z = true) ∨ k + 1 ≤ pop (rd A B s n k) := by
      intro k
      induction k with
      | zero => exact Or.inr (show 0 + 1 ≤ pop 1 by decide)
      | succ k ih =>
        rcases ih with h | h
        · exact Or.inl (fun z hz => ps_mono n (h z hz))
        · by_cases c : rd A B s n (k + 1) = rd A B s n k
          · refine Or.inl (fun z hz => ?_)
            have hcr := ps_still (A := A) (B := B) (s := s) hA (rd_lt (s := s) hA k) c
            have := gs_resp (A := A) (B := B) (s := s) (N := fun z => (rd A B s n k).testBit z) n hcr z 0 (hsame z hz)
            have this : (rd A B s n k).testBit z = (rd A B s n k).testBit 0 := this
            rw [c, this]
            exact rd_0 k
          · refine Or.inr ?_
            have := sub_pop _ (rd_lt (s := s) hA k) _ (rd_lt (s := s) hA (k + 1)) (fun z _ q => ps_mono n q) (fun q => c q.symm)
            omega
    rcases grow (p - 1) with h | h
    · refine (full_bits p hp5 _ (rd_lt (s := s) hA (p - 1))).mp (fun z hz => ?_)
      by_cases c : z < p
      · rw [decide_eq_true c]; exact h z c
      · rw [decide_eq_false c]
        cases q : (rd A B s n (p - 1)).testBit z with
        | false => rfl
        | true => exact absurd (hin _ z hz q) c
    · exact in_p_pop p hp5 _ (rd_lt (s := s) hA (p - 1)) (fun z hz q => hin _ z hz q) (by omega)
end GR
