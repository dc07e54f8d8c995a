/-! ===== all: a determinant against a sum over sets of edges ===== -/
section AL
variable {A B W : Nat → Nat} {p K : Nat}
/-- what edge j puts on row r, column c, for groups g -/
def T (A B W : Nat → Nat) (p : Nat) (g : Nat → Nat) (j r c : Nat) : Int64 := if A j < p ∧ B j < p ∧ g (A j) ≠ g (B j) then lN (W j) * (E (g (A j)) (g (B j)) r * E (g (A j)) (g (B j)) c) else 0
def dd (g : Nat → Nat) (r c : Nat) : Int64 := if r = c then (if g r = r then 0 else 1) else 0
def Nn (A B W : Nat → Nat) (p : Nat) : Nat → Nat → (Nat → Nat) → Nat → Nat → Int64
  | 0, _, g, r, c => dd g r c
  | d + 1, i, g, r, c => Nn A B W p d (i + 1) g r c + T A B W p g i r c
def Rr (A B W : Nat → Nat) (p : Nat) : Nat → Nat → (Nat → Nat) → Nat → Int64
  | 0, _, _, m => if m = 0 then 1 else 0
  | d + 1, i, g, m => Rr A B W p d (i + 1) g m + (if A i < p ∧ B i < p ∧ g (A i) ≠ g (B i) ∧ m ≠ 0 then lN (W i) * Rr A B W p d (i + 1) (mg g (A i) (B i)) (m - 1) else 0)
theorem mg_kk {g g' : Nat → Nat} (a b : Nat) (h : ∀ z z', g z = g z' ↔ g' z = g' z') (z z' : Nat) : mg g a b z = mg g a b z' ↔ mg g' a b z = mg g' a b z' := by
  unfold mg
  by_cases c1 : g z = g b
  · rw [if_pos c1, if_pos ((h z b).mp c1)]
    by_cases c2 : g z' = g b
    · rw [if_pos c2, if_pos ((h z' b).mp c2)]
      exact ⟨fun _ => rfl, fun _ => rfl⟩
    · rw [if_neg c2, if_neg (fun q => c2 ((h z' b).mpr q))]
      exact h a z'
  · rw [if_neg c1, if_neg (fun q => c1 ((h z b).mpr q))]
    by_cases c2 : g z' = g b
    · rw [if_pos c2, if_pos ((h z' b).mp c2)]
      exact h z a
    · rw [if_neg c2, if_neg (fun q => c2 ((h z' b).mpr q))]
      exact h z z'
theorem mg_sw (g : Nat → Nat) (a b z z' : Nat) : mg g a b z = mg g a b z' ↔ mg g b a z = mg g b a z' := by
  unfold mg
  generalize g z = u
  generalize g z' = v
  generalize g a = x
  generalize g b = y
  by_cases c1 : u = y
  · rw [if_pos c1]
    by_cases c2 : v = y
    · rw [if_pos c2, c1, c2]; exact ⟨fun _ => rfl, fun _ => rfl⟩
    · rw [if_neg c2]
      by_cases c3 : u = x
      · rw [if_pos c3]
        by_cases c4 : v = x
        · rw [if_pos c4]; omega
        · rw [if_neg c4]; omega
      · rw [if_neg c3]
        by_cases c4 : v = x
        · rw [if_pos c4]; omega
        · rw [if_neg c4]; omega
  · rw [if_neg c1]
    by_cases c2 : v = y
    · rw [if_pos c2]
      by_cases c3 : u = x
      · rw [if_pos c3]
        by_cases c4 : v = x
        · rw [if_pos c4]; omega
        · rw [if_neg c4]; omega
      · rw [if_neg c3]
        by_cases c4 : v = x
        · rw [if_pos c4]; omega
        · rw [if_neg c4]; omega
    · rw [if_neg c2]
      by_cases c3 : u = x
      · rw [if_pos c3]
        by_cases c4 : v = x
        · rw [if_pos c4]; omega
        · rw [if_neg c4]; omega
      · rw [if_neg c3]
        by_cases c4 : v = x
        · rw [if_pos c4]; omega
        · rw [if_neg c4]
theorem Rr_ker : ∀ d i m (g g' : Nat → Nat), (∀ z z', g z = g z' ↔ g' z = g' z') → Rr A B W p d i g m = Rr A B W p d i g' m
  | 0, _, _, _, _, _ => rfl
  | d + 1, i, m, g, g', h => by
    rw [Rr, Rr, Rr_ker d (i + 1) m g g' h, Rr_ker d (i + 1) (m - 1) (mg g (A i) (B i)) (mg g' (A i) (B i)) (mg_kk _ _ h)]
    have e : (A i < p ∧ B i < p ∧ g (A i) ≠ g (B i) ∧ m ≠ 0) ↔ (A i < p ∧ B i < p ∧ g' (A i) ≠ g' (B i) ∧ m ≠ 0) := by
      have := h (A i) (B i)
      constructor
      · rintro ⟨a, b, c, d⟩; exact ⟨a, b, fun q => c (this.mpr q), d⟩
      · rintro ⟨a, b, c, d⟩; exact ⟨a, b, fun q => c (this.mp q), d⟩
    by_cases c : A i < p ∧ B i < p ∧ g (A i) ≠ g (B i) ∧ m ≠ 0
    · rw [if_pos c, if_pos (e.mp c)]
    · rw [if_neg c, if_neg (fun q => c (e.mpr q))]
/-! contraction -/
theorem eps {x y u v r : Nat} (hxy : x ≠ y) (hr : r ≠ y) (huv : u ≠ v) : (if (if u = y then x else u) = (if v = y then x else v) then (0 : Int64) else E (if u = y then x else u) (if v = y then x else v) r) = if r = x then E u v x + E u v y else E u v r := by
  unfold E
  by_cases c1 : u = y
  · subst c1
    rw [if_pos rfl, if_neg (Ne.symm huv)]
    by_cases c2 : x = v
    · subst c2
      rw [if_pos rfl]
      by_cases c3 : r = x
      · rw [if_pos c3, if_neg hxy, if_pos rfl, if_pos rfl]; rfl
      · rw [if_neg c3, if_neg hr, if_neg c3]
    · rw [if_neg c2]
      by_cases c3 : r = x
      · subst c3
        rw [if_pos rfl, if_pos rfl, if_neg hxy, if_neg c2, if_pos rfl]; rfl
      · rw [if_neg c3, if_neg c3, if_neg hr]
  · rw [if_neg c1]
    by_cases c2 : v = y
    · subst c2
      rw [if_pos rfl]
      by_cases c3 : u = x
      · subst c3
        rw [if_pos rfl]
        by_cases c4 : r = u
        · subst c4
          rw [if_pos rfl, if_pos rfl, if_neg (Ne.symm hxy), if_pos rfl]; rfl
        · rw [if_neg c4, if_neg c4, if_neg hr]
      · rw [if_neg c3]
        by_cases c4 : r = x
        · subst c4
          have n1 : ¬ r = u := fun q => c3 q.symm
          have n2 : ¬ v = u := fun q => c1 q.symm
          simp only [if_pos, n1, n2, hxy, if_neg, if_true, if_false]
          grind
        · rw [if_neg c4, if_neg c4, if_neg hr]
    · rw [if_neg c2, if_neg huv]
      by_cases c3 : r = x
      · subst c3
        rw [if_pos rfl, if_neg (show ¬ y = u from fun q => c1 q.symm), if_neg (show ¬ y = v from fun q => c2 q.symm), Int64.add_zero]
      · rw [if_neg c3]
theorem epsy {x y u v : Nat} (hxy : x ≠ y) : E (if u = y then x else u) (if v = y then x else v) y = 0 := by
  unfold E
  rw [if_neg, if_neg]
  · by_cases c : v = y
    · rw [if_pos c]; exact Ne.symm hxy
    · rw [if_neg c]; exact fun q => c q.symm
  · by_cases c : u = y
    · rw [if_pos c]; exact Ne.symm hxy
    · rw [if_neg c]; exact fun q => c q.symm
def Cz (M : Nat → Nat → Int64) (x y r c : Nat) : Int64 := if r = y then 0 else if c = y then 0 else if r = x then (if c = x then M x x + M y x + M x y + M y y else M x c + M y c) else if c = x then M r x + M r y else M r c
theorem Ct_add (M N : Nat → Nat → Int64) (x y r c : Nat) : Ct (fun r c => M r c + N r c) x y r c = Ct M x y r c + Cz N x y r c := by
  unfold Ct Cz
  by_cases c1 : r = y
  · rw [if_pos c1, if_pos c1, if_pos c1, Int64.add_zero]
  · rw [if_neg c1, if_neg c1, if_neg c1]
    by_cases c2 : c = y
    · rw [if_pos c2, if_pos c2, if_pos c2, Int64.add_zero]
    · rw [if_neg c2, if_neg c2, if_neg c2]
      by_cases c3 : r = x
      · rw [if_pos c3, if_pos c3, if_pos c3]
        by_cases c4 : c = x
        · rw [if_pos c4, if_pos c4, if_pos c4]; grind
        · rw [if_neg c4, if_neg c4, if_neg c4]; grind
      · rw [if_neg c3, if_neg c3, if_neg c3]
        by_cases c4 : c = x
        · rw [if_pos c4, if_pos c4, if_pos c4]; grind
        · rw [if_neg c4, if_neg c4, if_neg c4]
theorem T_ct {g : Nat → Nat} {a b : Nat} (hxy : g a ≠ g b) (j r c : Nat) : T A B W p (mg g a b) j r c = Cz (T A B W p g j) (g a) (g b) r c := by
  by_cases hab : A j < p ∧ B j < p
  · by_cases huv : g (A j) = g (B j)
    · have z1 : ∀ r c, T A B W p g j r c = 0 := fun r c => by unfold T; rw [if_neg (fun q => q.2.2 huv)]
      have z2 : T A B W p (mg g a b) j r c = 0 := by unfold T; rw [if_neg (fun q => q.2.2 (by unfold mg; rw [huv]))]
      rw [z2]
      unfold Cz
      rw [z1, z1, z1, z1, z1, z1, z1, z1, z1]
      by_cases c1 : r = g b
      · rw [if_pos c1]
      · rw [if_neg c1]
        by_cases c2 : c = g b
        · rw [if_pos c2]
        · rw [if_neg c2]
          by_cases c3 : r = g a
          · rw [if_pos c3]
            by_cases c4 : c = g a
            · rw [if_pos c4]; rfl
            · rw [if_neg c4]; rfl
          · rw [if_neg c3]
            by_cases c4 : c = g a
            · rw [if_pos c4]; rfl
            · rw [if_neg c4]
    · have t1 : ∀ r c, T A B W p g j r c = lN (W j) * (E (g (A j)) (g (B j)) r * E (g (A j)) (g (B j)) c) := fun r c => by unfold T; rw [if_pos ⟨hab.1, hab.2, huv⟩]
      have t2 : T A B W p (mg g a b) j r c = lN (W j) * ((if mg g a b (A j) = mg g a b (B j) then (0 : Int64) else E (mg g a b (A j)) (mg g a b (B j)) r) * (if mg g a b (A j) = mg g a b (B j) then (0 : Int64) else E (mg g a b (A j)) (mg g a b (B j)) c)) := by
        unfold T
        by_cases q : mg g a b (A j) = mg g a b (B j)
        · rw [if_neg (fun z => z.2.2 q), if_pos q, if_pos q]; grind
        · rw [if_pos ⟨hab.1, hab.2, q⟩, if_neg q, if_neg q]
      have y0 : (if mg g a b (A j) = mg g a b (B j) then (0 : Int64) else E (mg g a b (A j)) (mg g a b (B j)) (g b)) = 0 := by
        rw [show E (mg g a b (A j)) (mg g a b (B j)) (g b) = 0 from epsy hxy]
        by_cases q : mg g a b (A j) = mg g a b (B j)
        · rw [if_pos q]
        · rw [if_neg q]
      have ep : ∀ r, r ≠ g b → (if mg g a b (A j) = mg g a b (B j) then (0 : Int64) else E (mg g a b (A j)) (mg g a b (B j)) r) = if r = g a then E (g (A j)) (g (B j)) (g a) + E (g (A j)) (g (B j)) (g b) else E (g (A j)) (g (B j)) r := fun r hr => eps hxy hr huv
      rw [t2]
      unfold Cz
      rw [t1, t1, t1, t1, t1, t1, t1, t1, t1]
      by_cases c1 : r = g b
      · rw [if_pos c1, c1, y0]; grind
      · rw [if_neg c1]
        by_cases c2 : c = g b
        · rw [if_pos c2, c2, y0]; grind
        · rw [if_neg c2, ep r c1, ep c c2]
          by_cases c3 : r = g a
          · rw [if_pos c3, if_pos c3]
            by_cases c4 : c = g a
            · rw [if_pos c4, if_pos c4]; grind
            · rw [if_neg c4, if_neg c4]; grind
          · rw [if_neg c3, if_neg c3]
            by_cases c4 : c = g a
            · rw [if_pos c4, if_pos c4]; grind
            · rw [if_neg c4, if_neg c4]
  · have z1 : ∀ g r c, T A B W p g j r c = 0 := fun g r c => by unfold T; rw [if_neg (fun q => hab ⟨q.1, q.2.1⟩)]
    unfold Cz
    rw [z1, z1, z1, z1, z1, z1, z1, z1, z1, z1]
    by_cases c1 : r = g b
    · rw [if_pos c1]
    · rw [if_neg c1]
      by_cases c2 : c = g b
      · rw [if_pos c2]
      · rw [if_neg c2]
        by_cases c3 : r = g a
        · rw [if_pos c3]
          by_cases c4 : c = g a
          · rw [if_pos c4]; rfl
          · rw [if_neg c4]; rfl
        · rw [if_neg c3]
          by_cases c4 : c = g a
          · rw [if_pos c4]; rfl
          · rw [if_neg c4]
theorem dd_ct {g : Nat → Nat} {a b : Nat} (hxy : g a ≠ g b) (ha : g (g a) = g a) (hb : g (g b) = g b) (r c : Nat) : dd (mg g a b) r c = Ct (dd g) (g a) (g b) r c := by
  have off : ∀ r c, r ≠ c → dd g r c = 0 := fun r c h => by unfold dd; rw [if_neg h]
  have fixx : dd g (g a) (g a) = 0 := by unfold dd; rw [if_pos rfl, if_pos ha]
  have fixy : dd g (g b) (g b) = 0 := by unfold dd; rw [if_pos rfl, if_pos hb]
  unfold Ct
  by_cases c1 : r = g b
  · subst c1
    rw [if_pos rfl]
    by_cases c2 : c = g b
    · subst c2
      rw [if_pos rfl]
      unfold dd mg
      rw [if_pos rfl, if_pos hb, if_neg hxy]
    · rw [if_neg c2]
      unfold dd
      rw [if_neg (Ne.symm c2)]
  · rw [if_neg c1]
    by_cases c2 : c = g b
    · subst c2
      rw [if_pos rfl]
      unfold dd
      rw [if_neg c1]
    · rw [if_neg c2]
      have nb : dd (mg g a b) r c = dd g r c := by
        unfold dd
        by_cases q : r = c
        · rw [if_pos q, if_pos q]
          unfold mg
          by_cases f : g r = g b
          · rw [if_pos f, if_neg (fun z => hxy (by rw [← ha, z]; exact f)), if_neg (fun z => c1 (by rw [← z]; exact f))]
          · rw [if_neg f]
        · rw [if_neg q, if_neg q]
      rw [nb]
      by_cases c3 : r = g a
      · subst c3
        rw [if_pos rfl]
        by_cases c4 : c = g a
        · subst c4
          rw [if_pos rfl, fixx, fixy, off _ _ (Ne.symm hxy), off _ _ hxy]; rfl
        · rw [if_neg c4, off (g b) c (Ne.symm c2), Int64.add_zero]
      · rw [if_neg c3]
        by_cases c4 : c = g a
        · subst c4
          rw [if_pos rfl, off r (g b) c1, Int64.add_zero]
        · rw [if_neg c4]
theorem Nn_ct {g : Nat → Nat} {a b : Nat} (hxy : g a ≠ g b) (ha : g (g a) = g a) (hb : g (g b) = g b) (r c : Nat) : ∀ d i, Nn A B W p d i (mg g a b) r c = Ct (Nn A B W p d i g) (g a) (g b) r c
  | 0, _ => dd_ct hxy ha hb r c
  | d + 1, i => by
    show Nn A B W p d (i + 1) (mg g a b) r c + T A B W p (mg g a b) i r c = Ct (fun r c => Nn A B W p d (i + 1) g r c + T A B W p g i r c) (g a) (g b) r c
    rw [Ct_add, Nn_ct hxy ha hb r c d (i + 1), T_ct hxy]
end AL
