/-! ===== the minors, level by level ===== -/
theorem G_1 (M : Nat → Nat → Int64) : G M 1 1 = D1 (M 0 0) := by
  have h0 : G M 1 0 = 1 := rfl
  have h1 : G M 1 1 = ((0 : Int64) + (M 0 0) * G M 1 0) := (G_s (by decide)).trans rfl
  unfold D1
  rw [h1, h0]
  grind
theorem G_2 (M : Nat → Nat → Int64) : G M 2 3 = D2 (M 0 0) (M 0 1) (M 1 0) (M 1 1) := by
  have h0 : G M 2 0 = 1 := rfl
  have h1 : G M 2 1 = (((0 : Int64) + (M 0 0) * G M 2 0) + 0) := (G_s (by decide)).trans rfl
  have h2 : G M 2 2 = (((0 : Int64) + 0) + (M 0 1) * G M 2 0) := (G_s (by decide)).trans rfl
  have h3 : G M 2 3 = (((0 : Int64) + (-(M 1 0)) * G M 2 2) + (M 1 1) * G M 2 1) := (G_s (by decide)).trans rfl
  unfold D2
  rw [h3, h1, h2, h0]
  grind
theorem G_3 (M : Nat → Nat → Int64) : G M 3 7 = D3 (M 0 0) (M 0 1) (M 0 2) (M 1 0) (M 1 1) (M 1 2) (M 2 0) (M 2 1) (M 2 2) := by
  have h0 : G M 3 0 = 1 := rfl
  have h1 : G M 3 1 = ((((0 : Int64) + (M 0 0) * G M 3 0) + 0) + 0) := (G_s (by decide)).trans rfl
  have h2 : G M 3 2 = ((((0 : Int64) + 0) + (M 0 1) * G M 3 0) + 0) := (G_s (by decide)).trans rfl
  have h4 : G M 3 4 = ((((0 : Int64) + 0) + 0) + (M 0 2) * G M 3 0) := (G_s (by decide)).trans rfl
  have h3 : G M 3 3 = ((((0 : Int64) + (-(M 1 0)) * G M 3 2) + (M 1 1) * G M 3 1) + 0) := (G_s (by decide)).trans rfl
  have h5 : G M 3 5 = ((((0 : Int64) + (-(M 1 0)) * G M 3 4) + 0) + (M 1 2) * G M 3 1) := (G_s (by decide)).trans rfl
  have h6 : G M 3 6 = ((((0 : Int64) + 0) + (-(M 1 1)) * G M 3 4) + (M 1 2) * G M 3 2) := (G_s (by decide)).trans rfl
  have h7 : G M 3 7 = ((((0 : Int64) + (M 2 0) * G M 3 6) + (-(M 2 1)) * G M 3 5) + (M 2 2) * G M 3 3) := (G_s (by decide)).trans rfl
  unfold D3
  rw [h7, h3, h5, h6, h1, h2, h4, h0]
  grind
theorem G_4 (M : Nat → Nat → Int64) : G M 4 15 = D4 (M 0 0) (M 0 1) (M 0 2) (M 0 3) (M 1 0) (M 1 1) (M 1 2) (M 1 3) (M 2 0) (M 2 1) (M 2 2) (M 2 3) (M 3 0) (M 3 1) (M 3 2) (M 3 3) := by
  have h0 : G M 4 0 = 1 := rfl
  have h1 : G M 4 1 = (((((0 : Int64) + (M 0 0) * G M 4 0) + 0) + 0) + 0) := (G_s (by decide)).trans rfl
  have h2 : G M 4 2 = (((((0 : Int64) + 0) + (M 0 1) * G M 4 0) + 0) + 0) := (G_s (by decide)).trans rfl
  have h4 : G M 4 4 = (((((0 : Int64) + 0) + 0) + (M 0 2) * G M 4 0) + 0) := (G_s (by decide)).trans rfl
  have h8 : G M 4 8 = (((((0 : Int64) + 0) + 0) + 0) + (M 0 3) * G M 4 0) := (G_s (by decide)).trans rfl
  have h3 : G M 4 3 = (((((0 : Int64) + (-(M 1 0)) * G M 4 2) + (M 1 1) * G M 4 1) + 0) + 0) := (G_s (by decide)).trans rfl
  have h5 : G M 4 5 = (((((0 : Int64) + (-(M 1 0)) * G M 4 4) + 0) + (M 1 2) * G M 4 1) + 0) := (G_s (by decide)).trans rfl
  have h6 : G M 4 6 = (((((0 : Int64) + 0) + (-(M 1 1)) * G M 4 4) + (M 1 2) * G M 4 2) + 0) := (G_s (by decide)).trans rfl
  have h9 : G M 4 9 = (((((0 : Int64) + (-(M 1 0)) * G M 4 8) + 0) + 0) + (M 1 3) * G M 4 1) := (G_s (by decide)).trans rfl
  have h10 : G M 4 10 = (((((0 : Int64) + 0) + (-(M 1 1)) * G M 4 8) + 0) + (M 1 3) * G M 4 2) := (G_s (by decide)).trans rfl
  have h12 : G M 4 12 = (((((0 : Int64) + 0) + 0) + (-(M 1 2)) * G M 4 8) + (M 1 3) * G M 4 4) := (G_s (by decide)).trans rfl
  have h7 : G M 4 7 = (((((0 : Int64) + (M 2 0) * G M 4 6) + (-(M 2 1)) * G M 4 5) + (M 2 2) * G M 4 3) + 0) := (G_s (by decide)).trans rfl
  have h11 : G M 4 11 = (((((0 : Int64) + (M 2 0) * G M 4 10) + (-(M 2 1)) * G M 4 9) + 0) + (M 2 3) * G M 4 3) := (G_s (by decide)).trans rfl
  have h13 : G M 4 13 = (((((0 : Int64) + (M 2 0) * G M 4 12) + 0) + (-(M 2 2)) * G M 4 9) + (M 2 3) * G M 4 5) := (G_s (by decide)).trans rfl
  have h14 : G M 4 14 = (((((0 : Int64) + 0) + (M 2 1) * G M 4 12) + (-(M 2 2)) * G M 4 10) + (M 2 3) * G M 4 6) := (G_s (by decide)).trans rfl
  have h15 : G M 4 15 = (((((0 : Int64) + (-(M 3 0)) * G M 4 14) + (M 3 1) * G M 4 13) + (-(M 3 2)) * G M 4 11) + (M 3 3) * G M 4 7) := (G_s (by decide)).trans rfl
  unfold D4
  rw [h15, h7, h11, h13, h14, h3, h5, h6, h9, h10, h12, h1, h2, h4, h8, h0]
  grind
def E (x y r : Nat) : Int64 := if r = x then 1 else if r = y then -1 else 0
def Ct (M : Nat → Nat → Int64) (x y r c : Nat) : Int64 := if r = y then (if c = y then 1 else 0) else if c = y then 0 else if r = x then (if c = x then M x x + M y x + M x y + M y y else M x c + M y c) else if c = x then M r x + M r y else M r c
theorem qpp (a w : Int64) : a + w * (1 * 1) = a + w := by grind
theorem qpm (a w : Int64) : a + w * (1 * -1) = a - w := by grind
theorem qmp (a w : Int64) : a + w * (-1 * 1) = a - w := by grind
theorem qmm (a w : Int64) : a + w * (-1 * -1) = a + w := by grind
theorem qzl (a w b : Int64) : a + w * (0 * b) = a := by grind
theorem qzr (a w b : Int64) : a + w * (b * 0) = a := by grind
theorem ra1_10 {M M1 M2 : Nat → Nat → Int64} {w : Int64} (h1 : ∀ r c, r < 1 → c < 1 → M1 r c = M r c + w * (E 1 0 r * E 1 0 c)) (h2 : ∀ r c, r < 1 → c < 1 → M2 r c = Ct M 1 0 r c) : G M1 1 1 = G M 1 1 + w * G M2 1 1 := by
  have a00 : M1 0 0 = M 0 0 + w := (h1 0 0 (by decide) (by decide)).trans (qmm _ _)
  have b00 : M2 0 0 = 1 := h2 0 0 (by decide) (by decide)
  rw [G_1 M1, G_1 M, G_1 M2, a00, b00]
  exact rk1_01 _ _
theorem ra2_20 {M M1 M2 : Nat → Nat → Int64} {w : Int64} (h1 : ∀ r c, r < 2 → c < 2 → M1 r c = M r c + w * (E 2 0 r * E 2 0 c)) (h2 : ∀ r c, r < 2 → c < 2 → M2 r c = Ct M 2 0 r c) : G M1 2 3 = G M 2 3 + w * G M2 2 3 := by
  have a00 : M1 0 0 = M 0 0 + w := (h1 0 0 (by decide) (by decide)).trans (qmm _ _)
  have b00 : M2 0 0 = 1 := h2 0 0 (by decide) (by decide)
  have a01 : M1 0 1 = M 0 1 := (h1 0 1 (by decide) (by decide)).trans (qzr _ _ _)
  have b01 : M2 0 1 = 0 := h2 0 1 (by decide) (by decide)
  have a10 : M1 1 0 = M 1 0 := (h1 1 0 (by decide) (by decide)).trans (qzl _ _ _)
  have b10 : M2 1 0 = 0 := h2 1 0 (by decide) (by decide)
  have a11 : M1 1 1 = M 1 1 := (h1 1 1 (by decide) (by decide)).trans (qzl _ _ _)
  have b11 : M2 1 1 = M 1 1 := h2 1 1 (by decide) (by decide)
  rw [G_2 M1, G_2 M, G_2 M2, a00, a01, a10, a11, b00, b01, b10, b11]
  exact rk2_02 _ _ _ _ _
theorem ra2_01 {M M1 M2 : Nat → Nat → Int64} {w : Int64} (h1 : ∀ r c, r < 2 → c < 2 → M1 r c = M r c + w * (E 0 1 r * E 0 1 c)) (h2 : ∀ r c, r < 2 → c < 2 → M2 r c = Ct M 0 1 r c) : G M1 2 3 = G M 2 3 + w * G M2 2 3 := by
  have a00 : M1 0 0 = M 0 0 + w := (h1 0 0 (by decide) (by decide)).trans (qpp _ _)
  have b00 : M2 0 0 = M 0 0 + M 1 0 + M 0 1 + M 1 1 := h2 0 0 (by decide) (by decide)
  have a01 : M1 0 1 = M 0 1 - w := (h1 0 1 (by decide) (by decide)).trans (qpm _ _)
  have b01 : M2 0 1 = 0 := h2 0 1 (by decide) (by decide)
  have a10 : M1 1 0 = M 1 0 - w := (h1 1 0 (by decide) (by decide)).trans (qmp _ _)
  have b10 : M2 1 0 = 0 := h2 1 0 (by decide) (by decide)
  have a11 : M1 1 1 = M 1 1 + w := (h1 1 1 (by decide) (by decide)).trans (qmm _ _)
  have b11 : M2 1 1 = 1 := h2 1 1 (by decide) (by decide)
  rw [G_2 M1, G_2 M, G_2 M2, a00, a01, a10, a11, b00, b01, b10, b11]
  exact rk2_01 _ _ _ _ _
theorem ra2_21 {M M1 M2 : Nat → Nat → Int64} {w : Int64} (h1 : ∀ r c, r < 2 → c < 2 → M1 r c = M r c + w * (E 2 1 r * E 2 1 c)) (h2 : ∀ r c, r < 2 → c < 2 → M2 r c = Ct M 2 1 r c) : G M1 2 3 = G M 2 3 + w * G M2 2 3 := by
  have a00 : M1 0 0 = M 0 0 := (h1 0 0 (by decide) (by decide)).trans (qzl _ _ _)
  have b00 : M2 0 0 = M 0 0 := h2 0 0 (by decide) (by decide)
  have a01 : M1 0 1 = M 0 1 := (h1 0 1 (by decide) (by decide)).trans (qzl _ _ _)
  have b01 : M2 0 1 = 0 := h2 0 1 (by decide) (by decide)
  have a10 : M1 1 0 = M 1 0 := (h1 1 0 (by decide) (by decide)).trans (qzr _ _ _)
  have b10 : M2 1 0 = 0 := h2 1 0 (by decide) (by decide)
  have a11 : M1 1 1 = M 1 1 + w := (h1 1 1 (by decide) (by decide)).trans (qmm _ _)
  have b11 : M2 1 1 = 1 := h2 1 1 (by decide) (by decide)
  rw [G_2 M1, G_2 M, G_2 M2, a00, a01, a10, a11, b00, b01, b10, b11]
  exact rk2_12 _ _ _ _ _
theorem ra3_30 {M M1 M2 : Nat → Nat → Int64} {w : Int64} (h1 : ∀ r c, r < 3 → c < 3 → M1 r c = M r c + w * (E 3 0 r * E 3 0 c)) (h2 : ∀ r c, r < 3 → c < 3 → M2 r c = Ct M 3 0 r c) : G M1 3 7 = G M 3 7 + w * G M2 3 7 := by
  have a00 : M1 0 0 = M 0 0 + w := (h1 0 0 (by decide) (by decide)).trans (qmm _ _)
  have b00 : M2 0 0 = 1 := h2 0 0 (by decide) (by decide)
  have a01 : M1 0 1 = M 0 1 := (h1 0 1 (by decide) (by decide)).trans (qzr _ _ _)
  have b01 : M2 0 1 = 0 := h2 0 1 (by decide) (by decide)
  have a02 : M1 0 2 = M 0 2 := (h1 0 2 (by decide) (by decide)).trans (qzr _ _ _)
  have b02 : M2 0 2 = 0 := h2 0 2 (by decide) (by decide)
  have a10 : M1 1 0 = M 1 0 := (h1 1 0 (by decide) (by decide)).trans (qzl _ _ _)
  have b10 : M2 1 0 = 0 := h2 1 0 (by decide) (by decide)
  have a11 : M1 1 1 = M 1 1 := (h1 1 1 (by decide) (by decide)).trans (qzl _ _ _)
  have b11 : M2 1 1 = M 1 1 := h2 1 1 (by decide) (by decide)
  have a12 : M1 1 2 = M 1 2 := (h1 1 2 (by decide) (by decide)).trans (qzl _ _ _)
  have b12 : M2 1 2 = M 1 2 := h2 1 2 (by decide) (by decide)
  have a20 : M1 2 0 = M 2 0 := (h1 2 0 (by decide) (by decide)).trans (qzl _ _ _)
  have b20 : M2 2 0 = 0 := h2 2 0 (by decide) (by decide)
  have a21 : M1 2 1 = M 2 1 := (h1 2 1 (by decide) (by decide)).trans (qzl _ _ _)
  have b21 : M2 2 1 = M 2 1 := h2 2 1 (by decide) (by decide)
  have a22 : M1 2 2 = M 2 2 := (h1 2 2 (by decide) (by decide)).trans (qzl _ _ _)
  have b22 : M2 2 2 = M 2 2 := h2 2 2 (by decide) (by decide)
  rw [G_3 M1, G_3 M, G_3 M2, a00, a01, a02, a10, a11, a12, a20, a21, a22, b00, b01, b02, b10, b11, b12, b20, b21, b22]
  exact rk3_03 _ _ _ _ _ _ _ _ _ _
theorem ra3_01 {M M1 M2 : Nat → Nat → Int64} {w : Int64} (h1 : ∀ r c, r < 3 → c < 3 → M1 r c = M r c + w * (E 0 1 r * E 0 1 c)) (h2 : ∀ r c, r < 3 → c < 3 → M2 r c = Ct M 0 1 r c) : G M1 3 7 = G M 3 7 + w * G M2 3 7 := by
  have a00 : M1 0 0 = M 0 0 + w := (h1 0 0 (by decide) (by decide)).trans (qpp _ _)
  have b00 : M2 0 0 = M 0 0 + M 1 0 + M 0 1 + M 1 1 := h2 0 0 (by decide) (by decide)
  have a01 : M1 0 1 = M 0 1 - w := (h1 0 1 (by decide) (by decide)).trans (qpm _ _)
  have b01 : M2 0 1 = 0 := h2 0 1 (by decide) (by decide)
  have a02 : M1 0 2 = M 0 2 := (h1 0 2 (by decide) (by decide)).trans (qzr _ _ _)
  have b02 : M2 0 2 = M 0 2 + M 1 2 := h2 0 2 (by decide) (by decide)
  have a10 : M1 1 0 = M 1 0 - w := (h1 1 0 (by decide) (by decide)).trans (qmp _ _)
  have b10 : M2 1 0 = 0 := h2 1 0 (by decide) (by decide)
  have a11 : M1 1 1 = M 1 1 + w := (h1 1 1 (by decide) (by decide)).trans (qmm _ _)
  have b11 : M2 1 1 = 1 := h2 1 1 (by decide) (by decide)
  have a12 : M1 1 2 = M 1 2 := (h1 1 2 (by decide) (by decide)).trans (qzr _ _ _)
  have b12 : M2 1 2 = 0 := h2 1 2 (by decide) (by decide)
  have a20 : M1 2 0 = M 2 0 := (h1 2 0 (by decide) (by decide)).trans (qzl _ _ _)
  have b20 : M2 2 0 = M 2 0 + M 2 1 := h2 2 0 (by decide) (by decide)
  have a21 : M1 2 1 = M 2 1 := (h1 2 1 (by decide) (by decide)).trans (qzl _ _ _)
  have b21 : M2 2 1 = 0 := h2 2 1 (by decide) (by decide)
  have a22 : M1 2 2 = M 2 2 := (h1 2 2 (by decide) (by decide)).trans (qzl _ _ _)
  have b22 : M2 2 2 = M 2 2 := h2 2 2 (by decide) (by decide)
  rw [G_3 M1, G_3 M, G_3 M2, a00, a01, a02, a10, a11, a12, a20, a21, a22, b00, b01, b02, b10, b11, b12, b20, b21, b22]
  exact rk3_01 _ _ _ _ _ _ _ _ _ _
theorem ra3_31 {M M1 M2 : Nat → Nat → Int64} {w : Int64} (h1 : ∀ r c, r < 3 → c < 3 → M1 r c = M r c + w * (E 3 1 r * E 3 1 c)) (h2 : ∀ r c, r < 3 → c < 3 → M2 r c = Ct M 3 1 r c) : G M1 3 7 = G M 3 7 + w * G M2 3 7 := by
  have a00 : M1 0 0 = M 0 0 := (h1 0 0 (by decide) (by decide)).trans (qzl _ _ _)
  have b00 : M2 0 0 = M 0 0 := h2 0 0 (by decide) (by decide)
  have a01 : M1 0 1 = M 0 1 := (h1 0 1 (by decide) (by decide)).trans (qzl _ _ _)
  have b01 : M2 0 1 = 0 := h2 0 1 (by decide) (by decide)
  have a02 : M1 0 2 = M 0 2 := (h1 0 2 (by decide) (by decide)).trans (qzl _ _ _)
  have b02 : M2 0 2 = M 0 2 := h2 0 2 (by decide) (by decide)
  have a10 : M1 1 0 = M 1 0 := (h1 1 0 (by decide) (by decide)).trans (qzr _ _ _)
  have b10 : M2 1 0 = 0 := h2 1 0 (by decide) (by decide)
  have a11 : M1 1 1 = M 1 1 + w := (h1 1 1 (by decide) (by decide)).trans (qmm _ _)
  have b11 : M2 1 1 = 1 := h2 1 1 (by decide) (by decide)
  have a12 : M1 1 2 = M 1 2 := (h1 1 2 (by decide) (by decide)).trans (qzr _ _ _)
  have b12 : M2 1 2 = 0 := h2 1 2 (by decide) (by decide)
  have a20 : M1 2 0 = M 2 0 := (h1 2 0 (by decide) (by decide)).trans (qzl _ _ _)
  have b20 : M2 2 0 = M 2 0 := h2 2 0 (by decide) (by decide)
  have a21 : M1 2 1 = M 2 1 := (h1 2 1 (by decide) (by decide)).trans (qzl _ _ _)
  have b21 : M2 2 1 = 0 := h2 2 1 (by decide) (by decide)
  have a22 : M1 2 2 = M 2 2 := (h1 2 2 (by decide) (by decide)).trans (qzl _ _ _)
  have b22 : M2 2 2 = M 2 2 := h2 2 2 (by decide) (by decide)
  rw [G_3 M1, G_3 M, G_3 M2, a00, a01, a02, a10, a11, a12, a20, a21, a22, b00, b01, b02, b10, b11, b12, b20, b21, b22]
  exact rk3_13 _ _ _ _ _ _ _ _ _ _
theorem ra3_02 {M M1 M2 : Nat → Nat → Int64} {w : Int64} (h1 : ∀ r c, r < 3 → c < 3 → M1 r c = M r c + w * (E 0 2 r * E 0 2 c)) (h2 : ∀ r c, r < 3 → c < 3 → M2 r c = Ct M 0 2 r c) : G M1 3 7 = G M 3 7 + w * G M2 3 7 := by
  have a00 : M1 0 0 = M 0 0 + w := (h1 0 0 (by decide) (by decide)).trans (qpp _ _)
  have b00 : M2 0 0 = M 0 0 + M 2 0 + M 0 2 + M 2 2 := h2 0 0 (by decide) (by decide)
  have a01 : M1 0 1 = M 0 1 := (h1 0 1 (by decide) (by decide)).trans (qzr _ _ _)
  have b01 : M2 0 1 = M 0 1 + M 2 1 := h2 0 1 (by decide) (by decide)
  have a02 : M1 0 2 = M 0 2 - w := (h1 0 2 (by decide) (by decide)).trans (qpm _ _)
  have b02 : M2 0 2 = 0 := h2 0 2 (by decide) (by decide)
  have a10 : M1 1 0 = M 1 0 := (h1 1 0 (by decide) (by decide)).trans (qzl _ _ _)
  have b10 : M2 1 0 = M 1 0 + M 1 2 := h2 1 0 (by decide) (by decide)
  have a11 : M1 1 1 = M 1 1 := (h1 1 1 (by decide) (by decide)).trans (qzl _ _ _)
  have b11 : M2 1 1 = M 1 1 := h2 1 1 (by decide) (by decide)
  have a12 : M1 1 2 = M 1 2 := (h1 1 2 (by decide) (by decide)).trans (qzl _ _ _)
  have b12 : M2 1 2 = 0 := h2 1 2 (by decide) (by decide)
  have a20 : M1 2 0 = M 2 0 - w := (h1 2 0 (by decide) (by decide)).trans (qmp _ _)
  have b20 : M2 2 0 = 0 := h2 2 0 (by decide) (by decide)
  have a21 : M1 2 1 = M 2 1 := (h1 2 1 (by decide) (by decide)).trans (qzr _ _ _)
  have b21 : M2 2 1 = 0 := h2 2 1 (by decide) (by decide)
  have a22 : M1 2 2 = M 2 2 + w := (h1 2 2 (by decide) (by decide)).trans (qmm _ _)
  have b22 : M2 2 2 = 1 := h2 2 2 (by decide) (by decide)
  rw [G_3 M1, G_3 M, G_3 M2, a00, a01, a02, a10, a11, a12, a20, a21, a22, b00, b01, b02, b10, b11, b12, b20, b21, b22]
  exact rk3_02 _ _ _ _ _ _ _ _ _ _
theorem ra3_12 {M M1 M2 : Nat → Nat → Int64} {w : Int64} (h1 : ∀ r c, r < 3 → c < 3 → M1 r c = M r c + w * (E 1 2 r * E 1 2 c)) (h2 : ∀ r c, r < 3 → c < 3 → M2 r c = Ct M 1 2 r c) : G M1 3 7 = G M 3 7 + w * G M2 3 7 := by
  have a00 : M1 0 0 = M 0 0 := (h1 0 0 (by decide) (by decide)).trans (qzl _ _ _)
  have b00 : M2 0 0 = M 0 0 := h2 0 0 (by decide) (by decide)
  have a01 : M1 0 1 = M 0 1 := (h1 0 1 (by decide) (by decide)).trans (qzl _ _ _)
  have b01 : M2 0 1 = M 0 1 + M 0 2 := h2 0 1 (by decide) (by decide)
  have a02 : M1 0 2 = M 0 2 := (h1 0 2 (by decide) (by decide)).trans (qzl _ _ _)
  have b02 : M2 0 2 = 0 := h2 0 2 (by decide) (by decide)
  have a10 : M1 1 0 = M 1 0 := (h1 1 0 (by decide) (by decide)).trans (qzr _ _ _)
  have b10 : M2 1 0 = M 1 0 + M 2 0 := h2 1 0 (by decide) (by decide)
  have a11 : M1 1 1 = M 1 1 + w := (h1 1 1 (by decide) (by decide)).trans (qpp _ _)
  have b11 : M2 1 1 = M 1 1 + M 2 1 + M 1 2 + M 2 2 := h2 1 1 (by decide) (by decide)
  have a12 : M1 1 2 = M 1 2 - w := (h1 1 2 (by decide) (by decide)).trans (qpm _ _)
  have b12 : M2 1 2 = 0 := h2 1 2 (by decide) (by decide)
  have a20 : M1 2 0 = M 2 0 := (h1 2 0 (by decide) (by decide)).trans (qzr _ _ _)
  have b20 : M2 2 0 = 0 := h2 2 0 (by decide) (by decide)
  have a21 : M1 2 1 = M 2 1 - w := (h1 2 1 (by decide) (by decide)).trans (qmp _ _)
  have b21 : M2 2 1 = 0 := h2 2 1 (by decide) (by decide)
  have a22 : M1 2 2 = M 2 2 + w := (h1 2 2 (by decide) (by decide)).trans (qmm _ _)
  have b22 : M2 2 2 = 1 := h2 2 2 (by decide) (by decide)
  rw [G_3 M1, G_3 M, G_3 M2, a00, a01, a02, a10, a11, a12, a20, a21, a22, b00, b01, b02, b10, b11, b12, b20, b21, b22]
  exact rk3_12 _ _ _ _ _ _ _ _ _ _
theorem ra3_32 {M M1 M2 : Nat → Nat → Int64} {w : Int64} (h1 : ∀ r c, r < 3 → c < 3 → M1 r c = M r c + w * (E 3 2 r * E 3 2 c)) (h2 : ∀ r c, r < 3 → c < 3 → M2 r c = Ct M 3 2 r c) : G M1 3 7 = G M 3 7 + w * G M2 3 7 := by
  have a00 : M1 0 0 = M 0 0 := (h1 0 0 (by decide) (by decide)).trans (qzl _ _ _)
  have b00 : M2 0 0 = M 0 0 := h2 0 0 (by decide) (by decide)
  have a01 : M1 0 1 = M 0 1 := (h1 0 1 (by decide) (by decide)).trans (qzl _ _ _)
  have b01 : M2 0 1 = M 0 1 := h2 0 1 (by decide) (by decide)
  have a02 : M1 0 2 = M 0 2 := (h1 0 2 (by decide) (by decide)).trans (qzl _ _ _)
  have b02 : M2 0 2 = 0 := h2 0 2 (by decide) (by decide)
  have a10 : M1 1 0 = M 1 0 := (h1 1 0 (by decide) (by decide)).trans (qzl _ _ _)
  have b10 : M2 1 0 = M 1 0 := h2 1 0 (by decide) (by decide)
  have a11 : M1 1 1 = M 1 1 := (h1 1 1 (by decide) (by decide)).trans (qzl _ _ _)
  have b11 : M2 1 1 = M 1 1 := h2 1 1 (by decide) (by decide)
  have a12 : M1 1 2 = M 1 2 := (h1 1 2 (by decide) (by decide)).trans (qzl _ _ _)
  have b12 : M2 1 2 = 0 := h2 1 2 (by decide) (by decide)
  have a20 : M1 2 0 = M 2 0 := (h1 2 0 (by decide) (by decide)).trans (qzr _ _ _)
  have b20 : M2 2 0 = 0 := h2 2 0 (by decide) (by decide)
  have a21 : M1 2 1 = M 2 1 := (h1 2 1 (by decide) (by decide)).trans (qzr _ _ _)
  have b21 : M2 2 1 = 0 := h2 2 1 (by decide) (by decide)
  have a22 : M1 2 2 = M 2 2 + w := (h1 2 2 (by decide) (by decide)).trans (qmm _ _)
  have b22 : M2 2 2 = 1 := h2 2 2 (by decide) (by decide)
  rw [G_3 M1, G_3 M, G_3 M2, a00, a01, a02, a10, a11, a12, a20, a21, a22, b00, b01, b02, b10, b11, b12, b20, b21, b22]
  exact rk3_23 _ _ _ _ _ _ _ _ _ _
theorem ra4_40 {M M1 M2 : Nat → Nat → Int64} {w : Int64} (h1 : ∀ r c, r < 4 → c < 4 → M1 r c = M r c + w * (E 4 0 r * E 4 0 c)) (h2 : ∀ r c, r < 4 → c < 4 → M2 r c = Ct M 4 0 r c) : G M1 4 15 = G M 4 15 + w * G M2 4 15 := by
  have a00 : M1 0 0 = M 0 0 + w := (h1 0 0 (by decide) (by decide)).trans (qmm _ _)
  have b00 : M2 0 0 = 1 := h2 0 0 (by decide) (by decide)
  have a01 : M1 0 1 = M 0 1 := (h1 0 1 (by decide) (by decide)).trans (qzr _ _ _)
  have b01 : M2 0 1 = 0 := h2 0 1 (by decide) (by decide)
  have a02 : M1 0 2 = M 0 2 := (h1 0 2 (by decide) (by decide)).trans (qzr _ _ _)
  have b02 : M2 0 2 = 0 := h2 0 2 (by decide) (by decide)
  have a03 : M1 0 3 = M 0 3 := (h1 0 3 (by decide) (by decide)).trans (qzr _ _ _)
  have b03 : M2 0 3 = 0 := h2 0 3 (by decide) (by decide)
  have a10 : M1 1 0 = M 1 0 := (h1 1 0 (by decide) (by decide)).trans (qzl _ _ _)
  have b10 : M2 1 0 = 0 := h2 1 0 (by decide) (by decide)
  have a11 : M1 1 1 = M 1 1 := (h1 1 1 (by decide) (by decide)).trans (qzl _ _ _)
  have b11 : M2 1 1 = M 1 1 := h2 1 1 (by decide) (by decide)
  have a12 : M1 1 2 = M 1 2 := (h1 1 2 (by decide) (by decide)).trans (qzl _ _ _)
  have b12 : M2 1 2 = M 1 2 := h2 1 2 (by decide) (by decide)
  have a13 : M1 1 3 = M 1 3 := (h1 1 3 (by decide) (by decide)).trans (qzl _ _ _)
  have b13 : M2 1 3 = M 1 3 := h2 1 3 (by decide) (by decide)
  have a20 : M1 2 0 = M 2 0 := (h1 2 0 (by decide) (by decide)).trans (qzl _ _ _)
  have b20 : M2 2 0 = 0 := h2 2 0 (by decide) (by decide)
  have a21 : M1 2 1 = M 2 1 := (h1 2 1 (by decide) (by decide)).trans (qzl _ _ _)
  have b21 : M2 2 1 = M 2 1 := h2 2 1 (by decide) (by decide)
  have a22 : M1 2 2 = M 2 2 := (h1 2 2 (by decide) (by decide)).trans (qzl _ _ _)
  have b22 : M2 2 2 = M 2 2 := h2 2 2 (by decide) (by decide)
  have a23 : M1 2 3 = M 2 3 := (h1 2 3 (by decide) (by decide)).trans (qzl _ _ _)
  have b23 : M2 2 3 = M 2 3 := h2 2 3 (by decide) (by decide)
  have a30 : M1 3 0 = M 3 0 := (h1 3 0 (by decide) (by decide)).trans (qzl _ _ _)
  have b30 : M2 3 0 = 0 := h2 3 0 (by decide) (by decide)
  have a31 : M1 3 1 = M 3 1 := (h1 3 1 (by decide) (by decide)).trans (qzl _ _ _)
  have b31 : M2 3 1 = M 3 1 := h2 3 1 (by decide) (by decide)
  have a32 : M1 3 2 = M 3 2 := (h1 3 2 (by decide) (by decide)).trans (qzl _ _ _)
  have b32 : M2 3 2 = M 3 2 := h2 3 2 (by decide) (by decide)
  have a33 : M1 3 3 = M 3 3 := (h1 3 3 (by decide) (by decide)).trans (qzl _ _ _)
  have b33 : M2 3 3 = M 3 3 := h2 3 3 (by decide) (by decide)
  rw [G_4 M1, G_4 M, G_4 M2, a00, a01, a02, a03, a10, a11, a12, a13, a20, a21, a22, a23, a30, a31, a32, a33, b00, b01, b02, b03, b10, b11, b12, b13, b20, b21, b22, b23, b30, b31, b32, b33]
  exact rk4_04 _ _ _ _ _ _ _ _ _ _ _ _ _ _ _ _ _
theorem ra4_01 {M M1 M2 : Nat → Nat → Int64} {w : Int64} (h1 : ∀ r c, r < 4 → c < 4 → M1 r c = M r c + w * (E 0 1 r * E 0 1 c)) (h2 : ∀ r c, r < 4 → c < 4 → M2 r c = Ct M 0 1 r c) : G M1 4 15 = G M 4 15 + w * G M2 4 15 := by
  have a00 : M1 0 0 = M 0 0 + w := (h1 0 0 (by decide) (by decide)).trans (qpp _ _)
  have b00 : M2 0 0 = M 0 0 + M 1 0 + M 0 1 + M 1 1 := h2 0 0 (by decide) (by decide)
  have a01 : M1 0 1 = M 0 1 - w := (h1 0 1 (by decide) (by decide)).trans (qpm _ _)
  have b01 : M2 0 1 = 0 := h2 0 1 (by decide) (by decide)
  have a02 : M1 0 2 = M 0 2 := (h1 0 2 (by decide) (by decide)).trans (qzr _ _ _)
  have b02 : M2 0 2 = M 0 2 + M 1 2 := h2 0 2 (by decide) (by decide)
  have a03 : M1 0 3 = M 0 3 := (h1 0 3 (by decide) (by decide)).trans (qzr _ _ _)
  have b03 : M2 0 3 = M 0 3 + M 1 3 := h2 0 3 (by decide) (by decide)
  have a10 : M1 1 0 = M 1 0 - w := (h1 1 0 (by decide) (by decide)).trans (qmp _ _)
  have b10 : M2 1 0 = 0 := h2 1 0 (by decide) (by decide)
  have a11 : M1 1 1 = M 1 1 + w := (h1 1 1 (by decide) (by decide)).trans (qmm _ _)
  have b11 : M2 1 1 = 1 := h2 1 1 (by decide) (by decide)
  have a12 : M1 1 2 = M 1 2 := (h1 1 2 (by decide) (by decide)).trans (qzr _ _ _)
  have b12 : M2 1 2 = 0 := h2 1 2 (by decide) (by decide)
  have a13 : M1 1 3 = M 1 3 := (h1 1 3 (by decide) (by decide)).trans (qzr _ _ _)
  have b13 : M2 1 3 = 0 := h2 1 3 (by decide) (by decide)
  have a20 : M1 2 0 = M 2 0 := (h1 2 0 (by decide) (by decide)).trans (qzl _ _ _)
  have b20 : M2 2 0 = M 2 0 + M 2 1 := h2 2 0 (by decide) (by decide)
  have a21 : M1 2 1 = M 2 1 := (h1 2 1 (by decide) (by decide)).trans (qzl _ _ _)
  have b21 : M2 2 1 = 0 := h2 2 1 (by decide) (by decide)
  have a22 : M1 2 2 = M 2 2 := (h1 2 2 (by decide) (by decide)).trans (qzl _ _ _)
  have b22 : M2 2 2 = M 2 2 := h2 2 2 (by decide) (by decide)
  have a23 : M1 2 3 = M 2 3 := (h1 2 3 (by decide) (by decide)).trans (qzl _ _ _)
  have b23 : M2 2 3 = M 2 3 := h2 2 3 (by decide) (by decide)
  have a30 : M1 3 0 = M 3 0 := (h1 3 0 (by decide) (by decide)).trans (qzl _ _ _)
  have b30 : M2 3 0 = M 3 0 + M 3 1 := h2 3 0 (by decide) (by decide)
  have a31 : M1 3 1 = M 3 1 := (h1 3 1 (by decide) (by decide)).trans (qzl _ _ _)
  have b31 : M2 3 1 = 0 := h2 3 1 (by decide) (by decide)
  have a32 : M1 3 2 = M 3 2 := (h1 3 2 (by decide) (by decide)).trans (qzl _ _ _)
  have b32 : M2 3 2 = M 3 2 := h2 3 2 (by decide) (by decide)
  have a33 : M1 3 3 = M 3 3 := (h1 3 3 (by decide) (by decide)).trans (qzl _ _ _)
  have b33 : M2 3 3 = M 3 3 := h2 3 3 (by decide) (by decide)
  rw [G_4 M1, G_4 M, G_4 M2, a00, a01, a02, a03, a10, a11, a12, a13, a20, a21, a22, a23, a30, a31, a32, a33, b00, b01, b02, b03, b10, b11, b12, b13, b20, b21, b22, b23, b30, b31, b32, b33]
  exact rk4_01 _ _ _ _ _ _ _ _ _ _ _ _ _ _ _ _ _
theorem ra4_41 {M M1 M2 : Nat → Nat → Int64} {w : Int64} (h1 : ∀ r c, r < 4 → c < 4 → M1 r c = M r c + w * (E 4 1 r * E 4 1 c)) (h2 : ∀ r c, r < 4 → c < 4 → M2 r c = Ct M 4 1 r c) : G M1 4 15 = G M 4 15 + w * G M2 4 15 := by
  have a00 : M1 0 0 = M 0 0 := (h1 0 0 (by decide) (by decide)).trans (qzl _ _ _)
  have b00 : M2 0 0 = M 0 0 := h2 0 0 (by decide) (by decide)
  have a01 : M1 0 1 = M 0 1 := (h1 0 1 (by decide) (by decide)).trans (qzl _ _ _)
  have b01 : M2 0 1 = 0 := h2 0 1 (by decide) (by decide)
  have a02 : M1 0 2 = M 0 2 := (h1 0 2 (by decide) (by decide)).trans (qzl _ _ _)
  have b02 : M2 0 2 = M 0 2 := h2 0 2 (by decide) (by decide)
  have a03 : M1 0 3 = M 0 3 := (h1 0 3 (by decide) (by decide)).trans (qzl _ _ _)
  have b03 : M2 0 3 = M 0 3 := h2 0 3 (by decide) (by decide)
  have a10 : M1 1 0 = M 1 0 := (h1 1 0 (by decide) (by decide)).trans (qzr _ _ _)
  have b10 : M2 1 0 = 0 := h2 1 0 (by decide) (by decide)
  have a11 : M1 1 1 = M 1 1 + w := (h1 1 1 (by decide) (by decide)).trans (qmm _ _)
  have b11 : M2 1 1 = 1 := h2 1 1 (by decide) (by decide)
  have a12 : M1 1 2 = M 1 2 := (h1 1 2 (by decide) (by decide)).trans (qzr _ _ _)
  have b12 : M2 1 2 = 0 := h2 1 2 (by decide) (by decide)
  have a13 : M1 1 3 = M 1 3 := (h1 1 3 (by decide) (by decide)).trans (qzr _ _ _)
  have b13 : M2 1 3 = 0 := h2 1 3 (by decide) (by decide)
  have a20 : M1 2 0 = M 2 0 := (h1 2 0 (by decide) (by decide)).trans (qzl _ _ _)
  have b20 : M2 2 0 = M 2 0 := h2 2 0 (by decide) (by decide)
  have a21 : M1 2 1 = M 2 1 := (h1 2 1 (by decide) (by decide)).trans (qzl _ _ _)
  have b21 : M2 2 1 = 0 := h2 2 1 (by decide) (by decide)
  have a22 : M1 2 2 = M 2 2 := (h1 2 2 (by decide) (by decide)).trans (qzl _ _ _)
  have b22 : M2 2 2 = M 2 2 := h2 2 2 (by decide) (by decide)
  have a23 : M1 2 3 = M 2 3 := (h1 2 3 (by decide) (by decide)).trans (qzl _ _ _)
  have b23 : M2 2 3 = M 2 3 := h2 2 3 (by decide) (by decide)
  have a30 : M1 3 0 = M 3 0 := (h1 3 0 (by decide) (by decide)).trans (qzl _ _ _)
  have b30 : M2 3 0 = M 3 0 := h2 3 0 (by decide) (by decide)
  have a31 : M1 3 1 = M 3 1 := (h1 3 1 (by decide) (by decide)).trans (qzl _ _ _)
  have b31 : M2 3 1 = 0 := h2 3 1 (by decide) (by decide)
  have a32 : M1 3 2 = M 3 2 := (h1 3 2 (by decide) (by decide)).trans (qzl _ _ _)
  have b32 : M2 3 2 = M 3 2 := h2 3 2 (by decide) (by decide)
  have a33 : M1 3 3 = M 3 3 := (h1 3 3 (by decide) (by decide)).trans (qzl _ _ _)
  have b33 : M2 3 3 = M 3 3 := h2 3 3 (by decide) (by decide)
  rw [G_4 M1, G_4 M, G_4 M2, a00, a01, a02, a03, a10, a11, a12, a13, a20, a21, a22, a23, a30, a31, a32, a33, b00, b01, b02, b03, b10, b11, b12, b13, b20, b21, b22, b23, b30, b31, b32, b33]
  exact rk4_14 _ _ _ _ _ _ _ _ _ _ _ _ _ _ _ _ _
theorem ra4_02 {M M1 M2 : Nat → Nat → Int64} {w : Int64} (h1 : ∀ r c, r < 4 → c < 4 → M1 r c = M r c + w * (E 0 2 r * E 0 2 c)) (h2 : ∀ r c, r < 4 → c < 4 → M2 r c = Ct M 0 2 r c) : G M1 4 15 = G M 4 15 + w * G M2 4 15 := by
  have a00 : M1 0 0 = M 0 0 + w := (h1 0 0 (by decide) (by decide)).trans (qpp _ _)
  have b00 : M2 0 0 = M 0 0 + M 2 0 + M 0 2 + M 2 2 := h2 0 0 (by decide) (by decide)
  have a01 : M1 0 1 = M 0 1 := (h1 0 1 (by decide) (by decide)).trans (qzr _ _ _)
  have b01 : M2 0 1 = M 0 1 + M 2 1 := h2 0 1 (by decide) (by decide)
  have a02 : M1 0 2 = M 0 2 - w := (h1 0 2 (by decide) (by decide)).trans (qpm _ _)
  have b02 : M2 0 2 = 0 := h2 0 2 (by decide) (by decide)
  have a03 : M1 0 3 = M 0 3 := (h1 0 3 (by decide) (by decide)).trans (qzr _ _ _)
  have b03 : M2 0 3 = M 0 3 + M 2 3 := h2 0 3 (by decide) (by decide)
  have a10 : M1 1 0 = M 1 0 := (h1 1 0 (by decide) (by decide)).trans (qzl _ _ _)
  have b10 : M2 1 0 = M 1 0 + M 1 2 := h2 1 0 (by decide) (by decide)
  have a11 : M1 1 1 = M 1 1 := (h1 1 1 (by decide) (by decide)).trans (qzl _ _ _)
  have b11 : M2 1 1 = M 1 1 := h2 1 1 (by decide) (by decide)
  have a12 : M1 1 2 = M 1 2 := (h1 1 2 (by decide) (by decide)).trans (qzl _ _ _)
  have b12 : M2 1 2 = 0 := h2 1 2 (by decide) (by decide)
  have a13 : M1 1 3 = M 1 3 := (h1 1 3 (by decide) (by decide)).trans (qzl _ _ _)
  have b13 : M2 1 3 = M 1 3 := h2 1 3 (by decide) (by decide)
  have a20 : M1 2 0 = M 2 0 - w := (h1 2 0 (by decide) (by decide)).trans (qmp _ _)
  have b20 : M2 2 0 = 0 := h2 2 0 (by decide) (by decide)
  have a21 : M1 2 1 = M 2 1 := (h1 2 1 (by decide) (by decide)).trans (qzr _ _ _)
  have b21 : M2 2 1 = 0 := h2 2 1 (by decide) (by decide)
  have a22 : M1 2 2 = M 2 2 + w := (h1 2 2 (by decide) (by decide)).trans (qmm _ _)
  have b22 : M2 2 2 = 1 := h2 2 2 (by decide) (by decide)
  have a23 : M1 2 3 = M 2 3 := (h1 2 3 (by decide) (by decide)).trans (qzr _ _ _)
  have b23 : M2 2 3 = 0 := h2 2 3 (by decide) (by decide)
  have a30 : M1 3 0 = M 3 0 := (h1 3 0 (by decide) (by decide)).trans (qzl _ _ _)
  have b30 : M2 3 0 = M 3 0 + M 3 2 := h2 3 0 (by decide) (by decide)
  have a31 : M1 3 1 = M 3 1 := (h1 3 1 (by decide) (by decide)).trans (qzl _ _ _)
  have b31 : M2 3 1 = M 3 1 := h2 3 1 (by decide) (by decide)
  have a32 : M1 3 2 = M 3 2 := (h1 3 2 (by decide) (by decide)).trans (qzl _ _ _)
  have b32 : M2 3 2 = 0 := h2 3 2 (by decide) (by decide)
  have a33 : M1 3 3 = M 3 3 := (h1 3 3 (by decide) (by decide)).trans (qzl _ _ _)
  have b33 : M2 3 3 = M 3 3 := h2 3 3 (by decide) (by decide)
  rw [G_4 M1, G_4 M, G_4 M2, a00, a01, a02, a03, a10, a11, a12, a13, a20, a21, a22, a23, a30, a31, a32, a33, b00, b01, b02, b03, b10, b11, b12, b13, b20, b21, b22, b23, b30, b31, b32, b33]
  exact rk4_02 _ _ _ _ _ _ _ _ _ _ _ _ _ _ _ _ _
theorem ra4_12 {M M1 M2 : Nat → Nat → Int64} {w : Int64} (h1 : ∀ r c, r < 4 → c < 4 → M1 r c = M r c + w * (E 1 2 r * E 1 2 c)) (h2 : ∀ r c, r < 4 → c < 4 → M2 r c = Ct M 1 2 r c) : G M1 4 15 = G M 4 15 + w * G M2 4 15 := by
  have a00 : M1 0 0 = M 0 0 := (h1 0 0 (by decide) (by decide)).trans (qzl _ _ _)
  have b00 : M2 0 0 = M 0 0 := h2 0 0 (by decide) (by decide)
  have a01 : M1 0 1 = M 0 1 := (h1 0 1 (by decide) (by decide)).trans (qzl _ _ _)
  have b01 : M2 0 1 = M 0 1 + M 0 2 := h2 0 1 (by decide) (by decide)
  have a02 : M1 0 2 = M 0 2 := (h1 0 2 (by decide) (by decide)).trans (qzl _ _ _)
  have b02 : M2 0 2 = 0 := h2 0 2 (by decide) (by decide)
  have a03 : M1 0 3 = M 0 3 := (h1 0 3 (by decide) (by decide)).trans (qzl _ _ _)
  have b03 : M2 0 3 = M 0 3 := h2 0 3 (by decide) (by decide)
  have a10 : M1 1 0 = M 1 0 := (h1 1 0 (by decide) (by decide)).trans (qzr _ _ _)
  have b10 : M2 1 0 = M 1 0 + M 2 0 := h2 1 0 (by decide) (by decide)
  have a11 : M1 1 1 = M 1 1 + w := (h1 1 1 (by decide) (by decide)).trans (qpp _ _)
  have b11 : M2 1 1 = M 1 1 + M 2 1 + M 1 2 + M 2 2 := h2 1 1 (by decide) (by decide)
  have a12 : M1 1 2 = M 1 2 - w := (h1 1 2 (by decide) (by decide)).trans (qpm _ _)
  have b12 : M2 1 2 = 0 := h2 1 2 (by decide) (by decide)
  have a13 : M1 1 3 = M 1 3 := (h1 1 3 (by decide) (by decide)).trans (qzr _ _ _)
  have b13 : M2 1 3 = M 1 3 + M 2 3 := h2 1 3 (by decide) (by decide)
  have a20 : M1 2 0 = M 2 0 := (h1 2 0 (by decide) (by decide)).trans (qzr _ _ _)
  have b20 : M2 2 0 = 0 := h2 2 0 (by decide) (by decide)
  have a21 : M1 2 1 = M 2 1 - w := (h1 2 1 (by decide) (by decide)).trans (qmp _ _)
  have b21 : M2 2 1 = 0 := h2 2 1 (by decide) (by decide)
  have a22 : M1 2 2 = M 2 2 + w := (h1 2 2 (by decide) (by decide)).trans (qmm _ _)
  have b22 : M2 2 2 = 1 := h2 2 2 (by decide) (by decide)
  have a23 : M1 2 3 = M 2 3 := (h1 2 3 (by decide) (by decide)).trans (qzr _ _ _)
  have b23 : M2 2 3 = 0 := h2 2 3 (by decide) (by decide)
  have a30 : M1 3 0 = M 3 0 := (h1 3 0 (by decide) (by decide)).trans (qzl _ _ _)
  have b30 : M2 3 0 = M 3 0 := h2 3 0 (by decide) (by decide)
  have a31 : M1 3 1 = M 3 1 := (h1 3 1 (by decide) (by decide)).trans (qzl _ _ _)
  have b31 : M2 3 1 = M 3 1 + M 3 2 := h2 3 1 (by decide) (by decide)
  have a32 : M1 3 2 = M 3 2 := (h1 3 2 (by decide) (by decide)).trans (qzl _ _ _)
  have b32 : M2 3 2 = 0 := h2 3 2 (by decide) (by decide)
  have a33 : M1 3 3 = M 3 3 := (h1 3 3 (by decide) (by decide)).trans (qzl _ _ _)
  have b33 : M2 3 3 = M 3 3 := h2 3 3 (by decide) (by decide)
  rw [G_4 M1, G_4 M, G_4 M2, a00, a01, a02, a03, a10, a11, a12, a13, a20, a21, a22, a23, a30, a31, a32, a33, b00, b01, b02, b03, b10, b11, b12, b13, b20, b21, b22, b23, b30, b31, b32, b33]
  exact rk4_12 _ _ _ _ _ _ _ _ _ _ _ _ _ _ _ _ _
theorem ra4_42 {M M1 M2 : Nat → Nat → Int64} {w : Int64} (h1 : ∀ r c, r < 4 → c < 4 → M1 r c = M r c + w * (E 4 2 r * E 4 2 c)) (h2 : ∀ r c, r < 4 → c < 4 → M2 r c = Ct M 4 2 r c) : G M1 4 15 = G M 4 15 + w * G M2 4 15 := by
  have a00 : M1 0 0 = M 0 0 := (h1 0 0 (by decide) (by decide)).trans (qzl _ _ _)
  have b00 : M2 0 0 = M 0 0 := h2 0 0 (by decide) (by decide)
  have a01 : M1 0 1 = M 0 1 := (h1 0 1 (by decide) (by decide)).trans (qzl _ _ _)
  have b01 : M2 0 1 = M 0 1 := h2 0 1 (by decide) (by decide)
  have a02 : M1 0 2 = M 0 2 := (h1 0 2 (by decide) (by decide)).trans (qzl _ _ _)
  have b02 : M2 0 2 = 0 := h2 0 2 (by decide) (by decide)
  have a03 : M1 0 3 = M 0 3 := (h1 0 3 (by decide) (by decide)).trans (qzl _ _ _)
  have b03 : M2 0 3 = M 0 3 := h2 0 3 (by decide) (by decide)
  have a10 : M1 1 0 = M 1 0 := (h1 1 0 (by decide) (by decide)).trans (qzl _ _ _)
  have b10 : M2 1 0 = M 1 0 := h2 1 0 (by decide) (by decide)
  have a11 : M1 1 1 = M 1 1 := (h1 1 1 (by decide) (by decide)).trans (qzl _ _ _)
  have b11 : M2 1 1 = M 1 1 := h2 1 1 (by decide) (by decide)
  have a12 : M1 1 2 = M 1 2 := (h1 1 2 (by decide) (by decide)).trans (qzl _ _ _)
  have b12 : M2 1 2 = 0 := h2 1 2 (by decide) (by decide)
  have a13 : M1 1 3 = M 1 3 := (h1 1 3 (by decide) (by decide)).trans (qzl _ _ _)
  have b13 : M2 1 3 = M 1 3 := h2 1 3 (by decide) (by decide)
  have a20 : M1 2 0 = M 2 0 := (h1 2 0 (by decide) (by decide)).trans (qzr _ _ _)
  have b20 : M2 2 0 = 0 := h2 2 0 (by decide) (by decide)
  have a21 : M1 2 1 = M 2 1 := (h1 2 1 (by decide) (by decide)).trans (qzr _ _ _)
  have b21 : M2 2 1 = 0 := h2 2 1 (by decide) (by decide)
  have a22 : M1 2 2 = M 2 2 + w := (h1 2 2 (by decide) (by decide)).trans (qmm _ _)
  have b22 : M2 2 2 = 1 := h2 2 2 (by decide) (by decide)
  have a23 : M1 2 3 = M 2 3 := (h1 2 3 (by decide) (by decide)).trans (qzr _ _ _)
  have b23 : M2 2 3 = 0 := h2 2 3 (by decide) (by decide)
  have a30 : M1 3 0 = M 3 0 := (h1 3 0 (by decide) (by decide)).trans (qzl _ _ _)
  have b30 : M2 3 0 = M 3 0 := h2 3 0 (by decide) (by decide)
  have a31 : M1 3 1 = M 3 1 := (h1 3 1 (by decide) (by decide)).trans (qzl _ _ _)
  have b31 : M2 3 1 = M 3 1 := h2 3 1 (by decide) (by decide)
  have a32 : M1 3 2 = M 3 2 := (h1 3 2 (by decide) (by decide)).trans (qzl _ _ _)
  have b32 : M2 3 2 = 0 := h2 3 2 (by decide) (by decide)
  have a33 : M1 3 3 = M 3 3 := (h1 3 3 (by decide) (by decide)).trans (qzl _ _ _)
  have b33 : M2 3 3 = M 3 3 := h2 3 3 (by decide) (by decide)
  rw [G_4 M1, G_4 M, G_4 M2, a00, a01, a02, a03, a10, a11, a12, a13, a20, a21, a22, a23, a30, a31, a32, a33, b00, b01, b02, b03, b10, b11, b12, b13, b20, b21, b22, b23, b30, b31, b32, b33]
  exact rk4_24 _ _ _ _ _ _ _ _ _ _ _ _ _ _ _ _ _
theorem ra4_03 {M M1 M2 : Nat → Nat → Int64} {w : Int64} (h1 : ∀ r c, r < 4 → c < 4 → M1 r c = M r c + w * (E 0 3 r * E 0 3 c)) (h2 : ∀ r c, r < 4 → c < 4 → M2 r c = Ct M 0 3 r c) : G M1 4 15 = G M 4 15 + w * G M2 4 15 := by
  have a00 : M1 0 0 = M 0 0 + w := (h1 0 0 (by decide) (by decide)).trans (qpp _ _)
  have b00 : M2 0 0 = M 0 0 + M 3 0 + M 0 3 + M 3 3 := h2 0 0 (by decide) (by decide)
  have a01 : M1 0 1 = M 0 1 := (h1 0 1 (by decide) (by decide)).trans (qzr _ _ _)
  have b01 : M2 0 1 = M 0 1 + M 3 1 := h2 0 1 (by decide) (by decide)
  have a02 : M1 0 2 = M 0 2 := (h1 0 2 (by decide) (by decide)).trans (qzr _ _ _)
  have b02 : M2 0 2 = M 0 2 + M 3 2 := h2 0 2 (by decide) (by decide)
  have a03 : M1 0 3 = M 0 3 - w := (h1 0 3 (by decide) (by decide)).trans (qpm _ _)
  have b03 : M2 0 3 = 0 := h2 0 3 (by decide) (by decide)
  have a10 : M1 1 0 = M 1 0 := (h1 1 0 (by decide) (by decide)).trans (qzl _ _ _)
  have b10 : M2 1 0 = M 1 0 + M 1 3 := h2 1 0 (by decide) (by decide)
  have a11 : M1 1 1 = M 1 1 := (h1 1 1 (by decide) (by decide)).trans (qzl _ _ _)
  have b11 : M2 1 1 = M 1 1 := h2 1 1 (by decide) (by decide)
  have a12 : M1 1 2 = M 1 2 := (h1 1 2 (by decide) (by decide)).trans (qzl _ _ _)
  have b12 : M2 1 2 = M 1 2 := h2 1 2 (by decide) (by decide)
  have a13 : M1 1 3 = M 1 3 := (h1 1 3 (by decide) (by decide)).trans (qzl _ _ _)
  have b13 : M2 1 3 = 0 := h2 1 3 (by decide) (by decide)
  have a20 : M1 2 0 = M 2 0 := (h1 2 0 (by decide) (by decide)).trans (qzl _ _ _)
  have b20 : M2 2 0 = M 2 0 + M 2 3 := h2 2 0 (by decide) (by decide)
  have a21 : M1 2 1 = M 2 1 := (h1 2 1 (by decide) (by decide)).trans (qzl _ _ _)
  have b21 : M2 2 1 = M 2 1 := h2 2 1 (by decide) (by decide)
  have a22 : M1 2 2 = M 2 2 := (h1 2 2 (by decide) (by decide)).trans (qzl _ _ _)
  have b22 : M2 2 2 = M 2 2 := h2 2 2 (by decide) (by decide)
  have a23 : M1 2 3 = M 2 3 := (h1 2 3 (by decide) (by decide)).trans (qzl _ _ _)
  have b23 : M2 2 3 = 0 := h2 2 3 (by decide) (by decide)
  have a30 : M1 3 0 = M 3 0 - w := (h1 3 0 (by decide) (by decide)).trans (qmp _ _)
  have b30 : M2 3 0 = 0 := h2 3 0 (by decide) (by decide)
  have a31 : M1 3 1 = M 3 1 := (h1 3 1 (by decide) (by decide)).trans (qzr _ _ _)
  have b31 : M2 3 1 = 0 := h2 3 1 (by decide) (by decide)
  have a32 : M1 3 2 = M 3 2 := (h1 3 2 (by decide) (by decide)).trans (qzr _ _ _)
  have b32 : M2 3 2 = 0 := h2 3 2 (by decide) (by decide)
  have a33 : M1 3 3 = M 3 3 + w := (h1 3 3 (by decide) (by decide)).trans (qmm _ _)
  have b33 : M2 3 3 = 1 := h2 3 3 (by decide) (by decide)
  rw [G_4 M1, G_4 M, G_4 M2, a00, a01, a02, a03, a10, a11, a12, a13, a20, a21, a22, a23, a30, a31, a32, a33, b00, b01, b02, b03, b10, b11, b12, b13, b20, b21, b22, b23, b30, b31, b32, b33]
  exact rk4_03 _ _ _ _ _ _ _ _ _ _ _ _ _ _ _ _ _
theorem ra4_13 {M M1 M2 : Nat → Nat → Int64} {w : Int64} (h1 : ∀ r c, r < 4 → c < 4 → M1 r c = M r c + w * (E 1 3 r * E 1 3 c)) (h2 : ∀ r c, r < 4 → c < 4 → M2 r c = Ct M 1 3 r c) : G M1 4 15 = G M 4 15 + w * G M2 4 15 := by
  have a00 : M1 0 0 = M 0 0 := (h1 0 0 (by decide) (by decide)).trans (qzl _ _ _)
  have b00 : M2 0 0 = M 0 0 := h2 0 0 (by decide) (by decide)
  have a01 : M1 0 1 = M 0 1 := (h1 0 1 (by decide) (by decide)).trans (qzl _ _ _)
  have b01 : M2 0 1 = M 0 1 + M 0 3 := h2 0 1 (by decide) (by decide)
  have a02 : M1 0 2 = M 0 2 := (h1 0 2 (by decide) (by decide)).trans (qzl _ _ _)
  have b02 : M2 0 2 = M 0 2 := h2 0 2 (by decide) (by decide)
  have a03 : M1 0 3 = M 0 3 := (h1 0 3 (by decide) (by decide)).trans (qzl _ _ _)
  have b03 : M2 0 3 = 0 := h2 0 3 (by decide) (by decide)
  have a10 : M1 1 0 = M 1 0 := (h1 1 0 (by decide) (by decide)).trans (qzr _ _ _)
  have b10 : M2 1 0 = M 1 0 + M 3 0 := h2 1 0 (by decide) (by decide)
  have a11 : M1 1 1 = M 1 1 + w := (h1 1 1 (by decide) (by decide)).trans (qpp _ _)
  have b11 : M2 1 1 = M 1 1 + M 3 1 + M 1 3 + M 3 3 := h2 1 1 (by decide) (by decide)
  have a12 : M1 1 2 = M 1 2 := (h1 1 2 (by decide) (by decide)).trans (qzr _ _ _)
  have b12 : M2 1 2 = M 1 2 + M 3 2 := h2 1 2 (by decide) (by decide)
  have a13 : M1 1 3 = M 1 3 - w := (h1 1 3 (by decide) (by decide)).trans (qpm _ _)
  have b13 : M2 1 3 = 0 := h2 1 3 (by decide) (by decide)
  have a20 : M1 2 0 = M 2 0 := (h1 2 0 (by decide) (by decide)).trans (qzl _ _ _)
  have b20 : M2 2 0 = M 2 0 := h2 2 0 (by decide) (by decide)
  have a21 : M1 2 1 = M 2 1 := (h1 2 1 (by decide) (by decide)).trans (qzl _ _ _)
  have b21 : M2 2 1 = M 2 1 + M 2 3 := h2 2 1 (by decide) (by decide)
  have a22 : M1 2 2 = M 2 2 := (h1 2 2 (by decide) (by decide)).trans (qzl _ _ _)
  have b22 : M2 2 2 = M 2 2 := h2 2 2 (by decide) (by decide)
  have a23 : M1 2 3 = M 2 3 := (h1 2 3 (by decide) (by decide)).trans (qzl _ _ _)
  have b23 : M2 2 3 = 0 := h2 2 3 (by decide) (by decide)
  have a30 : M1 3 0 = M 3 0 := (h1 3 0 (by decide) (by decide)).trans (qzr _ _ _)
  have b30 : M2 3 0 = 0 := h2 3 0 (by decide) (by decide)
  have a31 : M1 3 1 = M 3 1 - w := (h1 3 1 (by decide) (by decide)).trans (qmp _ _)
  have b31 : M2 3 1 = 0 := h2 3 1 (by decide) (by decide)
  have a32 : M1 3 2 = M 3 2 := (h1 3 2 (by decide) (by decide)).trans (qzr _ _ _)
  have b32 : M2 3 2 = 0 := h2 3 2 (by decide) (by decide)
  have a33 : M1 3 3 = M 3 3 + w := (h1 3 3 (by decide) (by decide)).trans (qmm _ _)
  have b33 : M2 3 3 = 1 := h2 3 3 (by decide) (by decide)
  rw [G_4 M1, G_4 M, G_4 M2, a00, a01, a02, a03, a10, a11, a12, a13, a20, a21, a22, a23, a30, a31, a32, a33, b00, b01, b02, b03, b10, b11, b12, b13, b20, b21, b22, b23, b30, b31, b32, b33]
  exact rk4_13 _ _ _ _ _ _ _ _ _ _ _ _ _ _ _ _ _
theorem ra4_23 {M M1 M2 : Nat → Nat → Int64} {w : Int64} (h1 : ∀ r c, r < 4 → c < 4 → M1 r c = M r c + w * (E 2 3 r * E 2 3 c)) (h2 : ∀ r c, r < 4 → c < 4 → M2 r c = Ct M 2 3 r c) : G M1 4 15 = G M 4 15 + w * G M2 4 15 := by
  have a00 : M1 0 0 = M 0 0 := (h1 0 0 (by decide) (by decide)).trans (qzl _ _ _)
  have b00 : M2 0 0 = M 0 0 := h2 0 0 (by decide) (by decide)
  have a01 : M1 0 1 = M 0 1 := (h1 0 1 (by decide) (by decide)).trans (qzl _ _ _)
  have b01 : M2 0 1 = M 0 1 := h2 0 1 (by decide) (by decide)
  have a02 : M1 0 2 = M 0 2 := (h1 0 2 (by decide) (by decide)).trans (qzl _ _ _)
  have b02 : M2 0 2 = M 0 2 + M 0 3 := h2 0 2 (by decide) (by decide)
  have a03 : M1 0 3 = M 0 3 := (h1 0 3 (by decide) (by decide)).trans (qzl _ _ _)
  have b03 : M2 0 3 = 0 := h2 0 3 (by decide) (by decide)
  have a10 : M1 1 0 = M 1 0 := (h1 1 0 (by decide) (by decide)).trans (qzl _ _ _)
  have b10 : M2 1 0 = M 1 0 := h2 1 0 (by decide) (by decide)
  have a11 : M1 1 1 = M 1 1 := (h1 1 1 (by decide) (by decide)).trans (qzl _ _ _)
  have b11 : M2 1 1 = M 1 1 := h2 1 1 (by decide) (by decide)
  have a12 : M1 1 2 = M 1 2 := (h1 1 2 (by decide) (by decide)).trans (qzl _ _ _)
  have b12 : M2 1 2 = M 1 2 + M 1 3 := h2 1 2 (by decide) (by decide)
  have a13 : M1 1 3 = M 1 3 := (h1 1 3 (by decide) (by decide)).trans (qzl _ _ _)
  have b13 : M2 1 3 = 0 := h2 1 3 (by decide) (by decide)
  have a20 : M1 2 0 = M 2 0 := (h1 2 0 (by decide) (by decide)).trans (qzr _ _ _)
  have b20 : M2 2 0 = M 2 0 + M 3 0 := h2 2 0 (by decide) (by decide)
  have a21 : M1 2 1 = M 2 1 := (h1 2 1 (by decide) (by decide)).trans (qzr _ _ _)
  have b21 : M2 2 1 = M 2 1 + M 3 1 := h2 2 1 (by decide) (by decide)
  have a22 : M1 2 2 = M 2 2 + w := (h1 2 2 (by decide) (by decide)).trans (qpp _ _)
  have b22 : M2 2 2 = M 2 2 + M 3 2 + M 2 3 + M 3 3 := h2 2 2 (by decide) (by decide)
  have a23 : M1 2 3 = M 2 3 - w := (h1 2 3 (by decide) (by decide)).trans (qpm _ _)
  have b23 : M2 2 3 = 0 := h2 2 3 (by decide) (by decide)
  have a30 : M1 3 0 = M 3 0 := (h1 3 0 (by decide) (by decide)).trans (qzr _ _ _)
  have b30 : M2 3 0 = 0 := h2 3 0 (by decide) (by decide)
  have a31 : M1 3 1 = M 3 1 := (h1 3 1 (by decide) (by decide)).trans (qzr _ _ _)
  have b31 : M2 3 1 = 0 := h2 3 1 (by decide) (by decide)
  have a32 : M1 3 2 = M 3 2 - w := (h1 3 2 (by decide) (by decide)).trans (qmp _ _)
  have b32 : M2 3 2 = 0 := h2 3 2 (by decide) (by decide)
  have a33 : M1 3 3 = M 3 3 + w := (h1 3 3 (by decide) (by decide)).trans (qmm _ _)
  have b33 : M2 3 3 = 1 := h2 3 3 (by decide) (by decide)
  rw [G_4 M1, G_4 M, G_4 M2, a00, a01, a02, a03, a10, a11, a12, a13, a20, a21, a22, a23, a30, a31, a32, a33, b00, b01, b02, b03, b10, b11, b12, b13, b20, b21, b22, b23, b30, b31, b32, b33]
  exact rk4_23 _ _ _ _ _ _ _ _ _ _ _ _ _ _ _ _ _
theorem ra4_43 {M M1 M2 : Nat → Nat → Int64} {w : Int64} (h1 : ∀ r c, r < 4 → c < 4 → M1 r c = M r c + w * (E 4 3 r * E 4 3 c)) (h2 : ∀ r c, r < 4 → c < 4 → M2 r c = Ct M 4 3 r c) : G M1 4 15 = G M 4 15 + w * G M2 4 15 := by
  have a00 : M1 0 0 = M 0 0 := (h1 0 0 (by decide) (by decide)).trans (qzl _ _ _)
  have b00 : M2 0 0 = M 0 0 := h2 0 0 (by decide) (by decide)
  have a01 : M1 0 1 = M 0 1 := (h1 0 1 (by decide) (by decide)).trans (qzl _ _ _)
  have b01 : M2 0 1 = M 0 1 := h2 0 1 (by decide) (by decide)
  have a02 : M1 0 2 = M 0 2 := (h1 0 2 (by decide) (by decide)).trans (qzl _ _ _)
  have b02 : M2 0 2 = M 0 2 := h2 0 2 (by decide) (by decide)
  have a03 : M1 0 3 = M 0 3 := (h1 0 3 (by decide) (by decide)).trans (qzl _ _ _)
  have b03 : M2 0 3 = 0 := h2 0 3 (by decide) (by decide)
  have a10 : M1 1 0 = M 1 0 := (h1 1 0 (by decide) (by decide)).trans (qzl _ _ _)
  have b10 : M2 1 0 = M 1 0 := h2 1 0 (by decide) (by decide)
  have a11 : M1 1 1 = M 1 1 := (h1 1 1 (by decide) (by decide)).trans (qzl _ _ _)
  have b11 : M2 1 1 = M 1 1 := h2 1 1 (by decide) (by decide)
  have a12 : M1 1 2 = M 1 2 := (h1 1 2 (by decide) (by decide)).trans (qzl _ _ _)
  have b12 : M2 1 2 = M 1 2 := h2 1 2 (by decide) (by decide)
  have a13 : M1 1 3 = M 1 3 := (h1 1 3 (by decide) (by decide)).trans (qzl _ _ _)
  have b13 : M2 1 3 = 0 := h2 1 3 (by decide) (by decide)
  have a20 : M1 2 0 = M 2 0 := (h1 2 0 (by decide) (by decide)).trans (qzl _ _ _)
  have b20 : M2 2 0 = M 2 0 := h2 2 0 (by decide) (by decide)
  have a21 : M1 2 1 = M 2 1 := (h1 2 1 (by decide) (by decide)).trans (qzl _ _ _)
  have b21 : M2 2 1 = M 2 1 := h2 2 1 (by decide) (by decide)
  have a22 : M1 2 2 = M 2 2 := (h1 2 2 (by decide) (by decide)).trans (qzl _ _ _)
  have b22 : M2 2 2 = M 2 2 := h2 2 2 (by decide) (by decide)
  have a23 : M1 2 3 = M 2 3 := (h1 2 3 (by decide) (by decide)).trans (qzl _ _ _)
  have b23 : M2 2 3 = 0 := h2 2 3 (by decide) (by decide)
  have a30 : M1 3 0 = M 3 0 := (h1 3 0 (by decide) (by decide)).trans (qzr _ _ _)
  have b30 : M2 3 0 = 0 := h2 3 0 (by decide) (by decide)
  have a31 : M1 3 1 = M 3 1 := (h1 3 1 (by decide) (by decide)).trans (qzr _ _ _)
  have b31 : M2 3 1 = 0 := h2 3 1 (by decide) (by decide)
  have a32 : M1 3 2 = M 3 2 := (h1 3 2 (by decide) (by decide)).trans (qzr _ _ _)
  have b32 : M2 3 2 = 0 := h2 3 2 (by decide) (by decide)
  have a33 : M1 3 3 = M 3 3 + w := (h1 3 3 (by decide) (by decide)).trans (qmm _ _)
  have b33 : M2 3 3 = 1 := h2 3 3 (by decide) (by decide)
  rw [G_4 M1, G_4 M, G_4 M2, a00, a01, a02, a03, a10, a11, a12, a13, a20, a21, a22, a23, a30, a31, a32, a33, b00, b01, b02, b03, b10, b11, b12, b13, b20, b21, b22, b23, b30, b31, b32, b33]
  exact rk4_34 _ _ _ _ _ _ _ _ _ _ _ _ _ _ _ _ _
theorem rank1 {K x y : Nat} {M M1 M2 : Nat → Nat → Int64} {w : Int64} (hK : K ≤ 4) (hy : y < K) (hx : x < y ∨ x = K) (h1 : ∀ r c, r < K → c < K → M1 r c = M r c + w * (E x y r * E x y c)) (h2 : ∀ r c, r < K → c < K → M2 r c = Ct M x y r c) : G M1 K (2 ^ K - 1) = G M K (2 ^ K - 1) + w * G M2 K (2 ^ K - 1) := by
  have hK4 : K = 1 ∨ K = 2 ∨ K = 3 ∨ K = 4 := by omega
  rcases hK4 with rfl | rfl | rfl | rfl
  · have hc : (x = 1 ∧ y = 0) := by omega
    rcases hc with ⟨rfl, rfl⟩
    · exact ra1_10 h1 h2
  · have hc : (x = 2 ∧ y = 0) ∨ (x = 0 ∧ y = 1) ∨ (x = 2 ∧ y = 1) := by omega
    rcases hc with ⟨rfl, rfl⟩ | ⟨rfl, rfl⟩ | ⟨rfl, rfl⟩
    · exact ra2_20 h1 h2
    · exact ra2_01 h1 h2
    · exact ra2_21 h1 h2
  · have hc : (x = 3 ∧ y = 0) ∨ (x = 0 ∧ y = 1) ∨ (x = 3 ∧ y = 1) ∨ (x = 0 ∧ y = 2) ∨ (x = 1 ∧ y = 2) ∨ (x = 3 ∧ y = 2) := by omega
    rcases hc with ⟨rfl, rfl⟩ | ⟨rfl, rfl⟩ | ⟨rfl, rfl⟩ | ⟨rfl, rfl⟩ | ⟨rfl, rfl⟩ | ⟨rfl, rfl⟩
    · exact ra3_30 h1 h2
    · exact ra3_01 h1 h2
    · exact ra3_31 h1 h2
    · exact ra3_02 h1 h2
    · exact ra3_12 h1 h2
    · exact ra3_32 h1 h2
  · have hc : (x = 4 ∧ y = 0) ∨ (x = 0 ∧ y = 1) ∨ (x = 4 ∧ y = 1) ∨ (x = 0 ∧ y = 2) ∨ (x = 1 ∧ y = 2) ∨ (x = 4 ∧ y = 2) ∨ (x = 0 ∧ y = 3) ∨ (x = 1 ∧ y = 3) ∨ (x = 2 ∧ y = 3) ∨ (x = 4 ∧ y = 3) := by omega
    rcases hc with ⟨rfl, rfl⟩ | ⟨rfl, rfl⟩ | ⟨rfl, rfl⟩ | ⟨rfl, rfl⟩ | ⟨rfl, rfl⟩ | ⟨rfl, rfl⟩ | ⟨rfl, rfl⟩ | ⟨rfl, rfl⟩ | ⟨rfl, rfl⟩ | ⟨rfl, rfl⟩
    · exact ra4_40 h1 h2
    · exact ra4_01 h1 h2
    · exact ra4_41 h1 h2
    · exact ra4_02 h1 h2
    · exact ra4_12 h1 h2
    · exact ra4_42 h1 h2
    · exact ra4_03 h1 h2
    · exact ra4_13 h1 h2
    · exact ra4_23 h1 h2
    · exact ra4_43 h1 h2
