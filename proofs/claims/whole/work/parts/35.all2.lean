/-! ===== all: the sum over sets equals the determinant ===== -/
section AM
variable {A B W : Nat → Nat} {p K : Nat}
def fxk (g : Nat → Nat) (K : Nat) : Nat := ns (fun x => if g x = x then 1 else 0) K
theorem E_sw (x y r c : Nat) (h : x ≠ y) : E x y r * E x y c = E y x r * E y x c := by
  have f : ∀ r, E x y r = -(E y x r) := fun r => by
    unfold E
    by_cases c1 : r = x
    · rw [if_pos c1, if_neg (fun q => h (c1.symm.trans q)), if_pos c1]; rfl
    · rw [if_neg c1]
      by_cases c2 : r = y
      · rw [if_pos c2, if_pos c2]
      · rw [if_neg c2, if_neg c2, if_neg c1]; rfl
  rw [f r, f c]
  grind
theorem base_det {g : Nat → Nat} {i : Nat} (h1 : 1 ≤ K) (h4 : K ≤ 4) : G (Nn A B W p 0 i g) K (2 ^ K - 1) = if fxk g K = 0 then 1 else 0 := by
  have dg : ∀ r, Nn A B W p 0 i g r r = if g r = r then 0 else 1 := fun r => by show dd g r r = _; unfold dd; rw [if_pos rfl]
  have of : ∀ r c, r ≠ c → Nn A B W p 0 i g r c = 0 := fun r c h => by show dd g r c = _; unfold dd; rw [if_neg h]
  have hK4 : K = 1 ∨ K = 2 ∨ K = 3 ∨ K = 4 := by omega
  rcases hK4 with rfl | rfl | rfl | rfl
  · have hfx : fxk g 1 = (0 + (if g 0 = 0 then 1 else 0)) := rfl
    rw [hfx]
    show G (Nn A B W p 0 i g) 1 1 = _
    rw [G_1, dg 0]
    by_cases c0 : g 0 = 0
    · rw [if_pos c0, if_pos c0]; rfl
    · rw [if_neg c0, if_neg c0]; rfl
  · have hfx : fxk g 2 = (0 + (if g 0 = 0 then 1 else 0) + (if g 1 = 1 then 1 else 0)) := rfl
    rw [hfx]
    show G (Nn A B W p 0 i g) 2 3 = _
    rw [G_2, dg 0, dg 1, of 0 1 (by decide), of 1 0 (by decide)]
    by_cases c0 : g 0 = 0
    · rw [if_pos c0, if_pos c0]
      by_cases c1 : g 1 = 1
      · rw [if_pos c1, if_pos c1]; rfl
      · rw [if_neg c1, if_neg c1]; rfl
    · rw [if_neg c0, if_neg c0]
      by_cases c1 : g 1 = 1
      · rw [if_pos c1, if_pos c1]; rfl
      · rw [if_neg c1, if_neg c1]; rfl
  · have hfx : fxk g 3 = (0 + (if g 0 = 0 then 1 else 0) + (if g 1 = 1 then 1 else 0) + (if g 2 = 2 then 1 else 0)) := rfl
    rw [hfx]
    show G (Nn A B W p 0 i g) 3 7 = _
    rw [G_3, dg 0, dg 1, dg 2, of 0 1 (by decide), of 0 2 (by decide), of 1 0 (by decide), of 1 2 (by decide), of 2 0 (by decide), of 2 1 (by decide)]
    generalize hx : (if g 0 = 0 then (0 : Int64) else 1) = x0
    generalize hy : (if g 0 = 0 then 1 else 0) = n0
    have e0 : (x0 = 0 ∧ n0 = 1) ∨ (x0 = 1 ∧ n0 = 0) := by
      by_cases c : g 0 = 0
      · rw [if_pos c] at hx hy; exact Or.inl ⟨hx.symm, hy.symm⟩
      · rw [if_neg c] at hx hy; exact Or.inr ⟨hx.symm, hy.symm⟩
    generalize hx : (if g 1 = 1 then (0 : Int64) else 1) = x1
    generalize hy : (if g 1 = 1 then 1 else 0) = n1
    have e1 : (x1 = 0 ∧ n1 = 1) ∨ (x1 = 1 ∧ n1 = 0) := by
      by_cases c : g 1 = 1
      · rw [if_pos c] at hx hy; exact Or.inl ⟨hx.symm, hy.symm⟩
      · rw [if_neg c] at hx hy; exact Or.inr ⟨hx.symm, hy.symm⟩
    generalize hx : (if g 2 = 2 then (0 : Int64) else 1) = x2
    generalize hy : (if g 2 = 2 then 1 else 0) = n2
    have e2 : (x2 = 0 ∧ n2 = 1) ∨ (x2 = 1 ∧ n2 = 0) := by
      by_cases c : g 2 = 2
      · rw [if_pos c] at hx hy; exact Or.inl ⟨hx.symm, hy.symm⟩
      · rw [if_neg c] at hx hy; exact Or.inr ⟨hx.symm, hy.symm⟩
    rcases e0 with ⟨rfl, rfl⟩ | ⟨rfl, rfl⟩ <;> rcases e1 with ⟨rfl, rfl⟩ | ⟨rfl, rfl⟩ <;> rcases e2 with ⟨rfl, rfl⟩ | ⟨rfl, rfl⟩ <;> decide
  · have hfx : fxk g 4 = (0 + (if g 0 = 0 then 1 else 0) + (if g 1 = 1 then 1 else 0) + (if g 2 = 2 then 1 else 0) + (if g 3 = 3 then 1 else 0)) := rfl
    rw [hfx]
    show G (Nn A B W p 0 i g) 4 15 = _
    rw [G_4, dg 0, dg 1, dg 2, dg 3, of 0 1 (by decide), of 0 2 (by decide), of 0 3 (by decide), of 1 0 (by decide), of 1 2 (by decide), of 1 3 (by decide), of 2 0 (by decide), of 2 1 (by decide), of 2 3 (by decide), of 3 0 (by decide), of 3 1 (by decide), of 3 2 (by decide)]
    generalize hx : (if g 0 = 0 then (0 : Int64) else 1) = x0
    generalize hy : (if g 0 = 0 then 1 else 0) = n0
    have e0 : (x0 = 0 ∧ n0 = 1) ∨ (x0 = 1 ∧ n0 = 0) := by
      by_cases c : g 0 = 0
      · rw [if_pos c] at hx hy; exact Or.inl ⟨hx.symm, hy.symm⟩
      · rw [if_neg c] at hx hy; exact Or.inr ⟨hx.symm, hy.symm⟩
    generalize hx : (if g 1 = 1 then (0 : Int64) else 1) = x1
    generalize hy : (if g 1 = 1 then 1 else 0) = n1
    have e1 : (x1 = 0 ∧ n1 = 1) ∨ (x1 = 1 ∧ n1 = 0) := by
      by_cases c : g 1 = 1
      · rw [if_pos c] at hx hy; exact Or.inl ⟨hx.symm, hy.symm⟩
      · rw [if_neg c] at hx hy; exact Or.inr ⟨hx.symm, hy.symm⟩
    generalize hx : (if g 2 = 2 then (0 : Int64) else 1) = x2
    generalize hy : (if g 2 = 2 then 1 else 0) = n2
    have e2 : (x2 = 0 ∧ n2 = 1) ∨ (x2 = 1 ∧ n2 = 0) := by
      by_cases c : g 2 = 2
      · rw [if_pos c] at hx hy; exact Or.inl ⟨hx.symm, hy.symm⟩
      · rw [if_neg c] at hx hy; exact Or.inr ⟨hx.symm, hy.symm⟩
    generalize hx : (if g 3 = 3 then (0 : Int64) else 1) = x3
    generalize hy : (if g 3 = 3 then 1 else 0) = n3
    have e3 : (x3 = 0 ∧ n3 = 1) ∨ (x3 = 1 ∧ n3 = 0) := by
      by_cases c : g 3 = 3
      · rw [if_pos c] at hx hy; exact Or.inl ⟨hx.symm, hy.symm⟩
      · rw [if_neg c] at hx hy; exact Or.inr ⟨hx.symm, hy.symm⟩
    rcases e0 with ⟨rfl, rfl⟩ | ⟨rfl, rfl⟩ <;> rcases e1 with ⟨rfl, rfl⟩ | ⟨rfl, rfl⟩ <;> rcases e2 with ⟨rfl, rfl⟩ | ⟨rfl, rfl⟩ <;> rcases e3 with ⟨rfl, rfl⟩ | ⟨rfl, rfl⟩ <;> decide
/-- one edge: with it and without it -/
theorem mt_step {d i : Nat} {g : Nat → Nat} (h4 : K ≤ 4) (hp : p = K + 1) (hid : ∀ z, z ≤ K → g (g z) = g z) (hl : ∀ z, z ≤ K → g z ≤ K) (hr : g K = K) (hA : A i < p) (hB : B i < p) (hne : g (A i) ≠ g (B i)) {a b : Nat} (hab : (a = A i ∧ b = B i) ∨ (a = B i ∧ b = A i)) (hy : g b < K) (hx : g a < g b ∨ g a = K) : G (Nn A B W p (d + 1) i g) K (2 ^ K - 1) = G (Nn A B W p d (i + 1) g) K (2 ^ K - 1) + lN (W i) * G (Nn A B W p d (i + 1) (mg g a b)) K (2 ^ K - 1) := by
  have haK : a ≤ K := by rcases hab with ⟨q, -⟩ | ⟨q, -⟩ <;> omega
  have hbK : b ≤ K := by rcases hab with ⟨-, q⟩ | ⟨-, q⟩ <;> omega
  have hxy : g a ≠ g b := by rcases hab with ⟨rfl, rfl⟩ | ⟨rfl, rfl⟩; exact hne; exact Ne.symm hne
  refine rank1 h4 hy hx (fun r c _ _ => ?_) (fun r c _ _ => Nn_ct hxy (hid a haK) (hid b hbK) r c d (i + 1))
  rw [Nn]
  congr 1
  unfold T
  rw [if_pos ⟨hA, hB, hne⟩]
  rcases hab with ⟨rfl, rfl⟩ | ⟨rfl, rfl⟩
  · rfl
  · rw [E_sw _ _ _ _ hne]
theorem mg_inv {g : Nat → Nat} {a b : Nat} (hid : ∀ z, z ≤ K → g (g z) = g z) (hl : ∀ z, z ≤ K → g z ≤ K) (hr : g K = K) (ha : a ≤ K) (hb : b ≤ K) (hy : g b < K) (hxy : g a ≠ g b) : (∀ z, z ≤ K → mg g a b (mg g a b z) = mg g a b z) ∧ (∀ z, z ≤ K → mg g a b z ≤ K) ∧ mg g a b K = K ∧ fxk g K = fxk (mg g a b) K + 1 := by
  refine ⟨fun z hz => ?_, fun z hz => ?_, ?_, ?_⟩
  · unfold mg
    by_cases c : g z = g b
    · rw [if_pos c, hid a ha, if_neg hxy]
    · rw [if_neg c, hid z hz, if_neg c]
  · unfold mg
    by_cases c : g z = g b
    · rw [if_pos c]; exact hl a ha
    · rw [if_neg c]; exact hl z hz
  · unfold mg
    rw [if_neg (by omega), hr]
  · unfold fxk
    refine ns_one (y := g b) hy (fun x hx => ?_)
    by_cases c : g x = g b
    · have e1 : mg g a b x = g a := by unfold mg; rw [if_pos c]
      have n1 : ¬ g a = x := fun q => hxy (by rw [← hid a ha, q]; exact c)
      rw [e1, if_neg n1]
      by_cases c2 : x = g b
      · rw [if_pos c2, if_pos (by rw [c, ← c2])]
      · rw [if_neg c2, if_neg (fun q => c2 (by rw [← c, q]))]
    · have e1 : mg g a b x = g x := by unfold mg; rw [if_neg c]
      have n1 : ¬ x = g b := fun q => c (by rw [q]; exact hid b hb)
      rw [e1, if_neg n1, Nat.add_zero]
theorem mt : ∀ d i (g : Nat → Nat) m, 1 ≤ K → K ≤ 4 → p = K + 1 → (∀ z, z ≤ K → g (g z) = g z) → (∀ z, z ≤ K → g z ≤ K) → g K = K → fxk g K = m → G (Nn A B W p d i g) K (2 ^ K - 1) = Rr A B W p d i g m
  | 0, i, g, m, h1, h4, _, _, _, _, hm => by rw [base_det h1 h4, hm]; rfl
  | d + 1, i, g, m, h1, h4, hp, hid, hl, hr, hm => by
    have ih0 := mt d (i + 1) g m h1 h4 hp hid hl hr hm
    by_cases c : A i < p ∧ B i < p ∧ g (A i) ≠ g (B i)
    · obtain ⟨hA, hB, hne⟩ := c
      have la := hl (A i) (by omega)
      have lb := hl (B i) (by omega)
      have go : ∀ a b, ((a = A i ∧ b = B i) ∨ (a = B i ∧ b = A i)) → g b < K → (g a < g b ∨ g a = K) → G (Nn A B W p (d + 1) i g) K (2 ^ K - 1) = Rr A B W p (d + 1) i g m := by
        intro a b hab hy hx
        have haK : a ≤ K := by rcases hab with ⟨q, -⟩ | ⟨q, -⟩ <;> omega
        have hbK : b ≤ K := by rcases hab with ⟨-, q⟩ | ⟨-, q⟩ <;> omega
        have hxy : g a ≠ g b := by rcases hab with ⟨rfl, rfl⟩ | ⟨rfl, rfl⟩; exact hne; exact Ne.symm hne
        obtain ⟨i1, i2, i3, i4⟩ := mg_inv hid hl hr haK hbK hy hxy
        have hm0 : m ≠ 0 := by omega
        have ih1 := mt d (i + 1) (mg g a b) (m - 1) h1 h4 hp i1 i2 i3 (by omega)
        rw [mt_step h4 hp hid hl hr hA hB hne hab hy hx, ih0, ih1, Rr, if_pos ⟨hA, hB, hne, hm0⟩]
        rcases hab with ⟨rfl, rfl⟩ | ⟨rfl, rfl⟩
        · rfl
        · rw [Rr_ker d (i + 1) (m - 1) _ _ (mg_sw g (B i) (A i))]
      by_cases c1 : g (A i) = K
      · exact go (A i) (B i) (Or.inl ⟨rfl, rfl⟩) (by omega) (Or.inr c1)
      · by_cases c2 : g (B i) = K
        · exact go (B i) (A i) (Or.inr ⟨rfl, rfl⟩) (by omega) (Or.inr c2)
        · by_cases c3 : g (A i) < g (B i)
          · exact go (A i) (B i) (Or.inl ⟨rfl, rfl⟩) (by omega) (Or.inl c3)
          · exact go (B i) (A i) (Or.inr ⟨rfl, rfl⟩) (by omega) (Or.inl (by omega))
    · have e : Nn A B W p (d + 1) i g = Nn A B W p d (i + 1) g := by
        funext r c'
        show Nn A B W p d (i + 1) g r c' + T A B W p g i r c' = _
        unfold T
        rw [if_neg c, Int64.add_zero]
      rw [e, ih0, Rr, if_neg (fun q => c ⟨q.1, q.2.1, q.2.2.1⟩), Int64.add_zero]
/-! the sum over sets -/
def uv (A B W : Nat → Nat) (p : Nat) : Nat → Nat → (Nat → Nat) → Nat → Nat → Int64
  | 0, _, _, m, _ => if m = 0 then 1 else 0
  | d + 1, i, g, m, s => if s % 2 = 1 then (if A i < p ∧ B i < p ∧ g (A i) ≠ g (B i) ∧ m ≠ 0 then lN (W i) * uv A B W p d (i + 1) (mg g (A i) (B i)) (m - 1) (s / 2) else 0) else uv A B W p d (i + 1) g m (s / 2)
theorem sm_dbl (f : Nat → Int64) : ∀ N, sm f (2 * N) = sm (fun s => f (2 * s) + f (2 * s + 1)) N
  | 0 => rfl
  | N + 1 => by
    rw [show 2 * (N + 1) = (2 * N + 1) + 1 from by omega, sm, sm, sm, sm_dbl f N, Int64.add_assoc]
theorem sm_mul (w : Int64) (f : Nat → Int64) : ∀ N, sm (fun s => w * f s) N = w * sm f N
  | 0 => by rw [sm, sm, Int64.mul_zero]
  | N + 1 => by rw [sm, sm, sm_mul w f N, Int64.mul_add]
theorem uv_sum : ∀ d i (g : Nat → Nat) m, sm (uv A B W p d i g m) (2 ^ d) = Rr A B W p d i g m
  | 0, i, g, m => by
    show (0 : Int64) + (if m = 0 then 1 else 0) = if m = 0 then 1 else 0
    rw [Int64.zero_add]
  | d + 1, i, g, m => by
    rw [show 2 ^ (d + 1) = 2 * 2 ^ d from by rw [Nat.pow_succ, Nat.mul_comm], sm_dbl, sm_add, Rr]
    congr 1
    · rw [← uv_sum d (i + 1) g m]
      refine sm_cong (fun s _ => ?_)
      rw [uv, if_neg (by omega), show 2 * s / 2 = s by omega]
    · by_cases c : A i < p ∧ B i < p ∧ g (A i) ≠ g (B i) ∧ m ≠ 0
      · rw [if_pos c, ← uv_sum d (i + 1) (mg g (A i) (B i)) (m - 1), ← sm_mul]
        refine sm_cong (fun s _ => ?_)
        rw [uv, if_pos (by omega), if_pos c, show (2 * s + 1) / 2 = s by omega]
      · rw [if_neg c, ← sm_zero (2 ^ d)]
        refine sm_cong (fun s _ => ?_)
        rw [uv, if_pos (by omega), if_neg c]
theorem cnt_le {s : Nat} (hs : s < 64) : ∀ d i, i + d ≤ 6 → cnt s i ≤ cnt s (i + d)
  | 0, i, _ => Nat.le_refl _
  | d + 1, i, h => by
    have := cnt_le hs d i (by omega)
    have e := cnt_s s hs (i + d) (by omega)
    rw [show i + (d + 1) = (i + d) + 1 from rfl, e]
    omega
theorem tv_uv {n s : Nat} (hn : n ≤ 6) (hs : s < 2 ^ n) (hp : 1 ≤ p) : ∀ d i, i + d = n → okn A B s p i = true → cnt s i ≤ p - 1 → lN (tv A B W n s p) = lN (pw W s i) * uv A B W p d i (gs A B s i) (p - 1 - cnt s i) (s >>> i)
  | 0, i, hi, hok, hc => by
    have e : i = n := by omega
    subst e
    have hpop := cnt_n i hn s hs
    unfold tv
    rw [hok, uv, ← hpop]
    by_cases c : cnt s i = p - 1
    · rw [decide_eq_true c, if_pos (by omega), Int64.mul_one]; rfl
    · rw [decide_eq_false c, if_neg (by omega), Int64.mul_zero]; rfl
  | d + 1, i, hi, hok, hc => by
    have hN := pw_le hn
    have h64 : s < 64 := by omega
    have hsh : s >>> i / 2 = s >>> (i + 1) := (Nat.shiftRight_succ s i).symm
    have hcs := cnt_s s h64 i (by omega)
    have hbt : s.testBit i = decide (s >>> i % 2 = 1) := by
      rw [Nat.testBit, Nat.and_comm, Nat.and_one_is_mod]
      rcases Nat.mod_two_eq_zero_or_one (s >>> i) with q | q <;> rw [q] <;> rfl
    rw [uv, hsh]
    by_cases cb : s >>> i % 2 = 1
    · rw [decide_eq_true cb] at hbt
      rw [if_pos cb]
      rw [hbt] at hcs
      have hcs : cnt s (i + 1) = cnt s i + 1 := hcs
      have fail : okn A B s p (i + 1) = false → lN (tv A B W n s p) = lN (pw W s i) * 0 := fun q => by
        unfold tv
        rw [okn_no n (by omega) q, Bool.and_false, Int64.mul_zero]; rfl
      by_cases c : A i < p ∧ B i < p ∧ gs A B s i (A i) ≠ gs A B s i (B i) ∧ p - 1 - cnt s i ≠ 0
      · rw [if_pos c]
        obtain ⟨ca, cbb, cg, cm0⟩ := c
        have hok2 : okn A B s p (i + 1) = true := by rw [okn, hok, hbt, decide_eq_true ca, decide_eq_true cbb, decide_eq_false cg]; rfl
        have ih := tv_uv hn hs hp d (i + 1) (by omega) hok2 (by omega)
        rw [ih, pw, gs, hbt, hcs, show p - 1 - (cnt s i + 1) = p - 1 - cnt s i - 1 by omega]
        show lN (pw W s i * W i) * _ = _
        rw [← lN_mul, Int64.mul_assoc]
        rfl
      · rw [if_neg c]
        by_cases cz : p - 1 - cnt s i = 0
        · have hm := cnt_le h64 d (i + 1) (by omega)
          rw [show i + 1 + d = n by omega, cnt_n n hn s hs] at hm
          unfold tv
          rw [decide_eq_false (show ¬ pop s = p - 1 by omega), Int64.mul_zero]; rfl
        · refine fail ?_
          rw [okn, hok, hbt]
          by_cases ca : A i < p
          · by_cases cbb : B i < p
            · by_cases cg : gs A B s i (A i) = gs A B s i (B i)
              · rw [decide_eq_true cg, Bool.not_true, Bool.and_false]; rfl
              · exact absurd ⟨ca, cbb, cg, cz⟩ c
            · rw [decide_eq_false cbb, Bool.and_false]; rfl
          · rw [decide_eq_false ca]; rfl
    · rw [decide_eq_false cb] at hbt
      rw [if_neg cb]
      rw [hbt] at hcs
      have hcs : cnt s (i + 1) = cnt s i := hcs
      have hok2 : okn A B s p (i + 1) = true := by rw [okn, hok, hbt]; rfl
      have ih := tv_uv hn hs hp d (i + 1) (by omega) hok2 (by omega)
      rw [ih, pw, gs, hbt, hcs]
      rfl
theorem tv_sum {n : Nat} (hn : n ≤ 6) (hp : 1 ≤ p) : sm (fun s => lN (tv A B W n s p)) (2 ^ n) = Rr A B W p n 0 (fun z => z) (p - 1) := by
  rw [← uv_sum]
  refine sm_cong (fun s hs => ?_)
  have hN := pw_le hn
  have h0 := cnt_0 s (by omega)
  rw [tv_uv hn hs hp n 0 (by omega) rfl (by omega), h0]
  show lN 1 * _ = _
  rw [show lN 1 = (1 : Int64) from rfl, Int64.one_mul]
  rfl
theorem fxk_id : ∀ K, fxk (fun z => z) K = K
  | 0 => rfl
  | K + 1 => by
    unfold fxk
    rw [ns]
    have := fxk_id K
    unfold fxk at this
    rw [this, if_pos rfl]
end AM
