/-! ===== state updates; entry, told, edge, tell ===== -/
theorem sI_at {S : St} {r k : Nat} {v : Int32} : (sI S r k v).1 r k = v := by simp [sI, va_up, upd]
theorem sI_r {S : St} {r k q : Nat} {v : Int32} (h : q ≠ r) : (sI S r k v).1 q = S.1 q := by simp [sI, va_up, h]
theorem sI_k {S : St} {r k j : Nat} {v : Int32} (h : j ≠ k) : (sI S r k v).1 r j = S.1 r j := by simp [sI, va_up, upd, h]
theorem sI_2 {S : St} {r k : Nat} {v : Int32} : (sI S r k v).2 = S.2 := rfl
theorem sJ_at {S : St} {r k : Nat} {v : Int64} : (sJ S r k v).2 r k = v := by simp [sJ, va_up, vp_updL]
theorem sJ_r {S : St} {r k q : Nat} {v : Int64} (h : q ≠ r) : (sJ S r k v).2 q = S.2 q := by simp [sJ, va_up, h]
theorem sJ_k {S : St} {r k j : Nat} {v : Int64} (h : j ≠ k) : (sJ S r k v).2 r j = S.2 r j := by simp [sJ, va_up, vp_updL, h]
theorem sJ_1 {S : St} {r k : Nat} {v : Int64} : (sJ S r k v).1 = S.1 := rfl
theorem sC_at {S : St} {r : Nat} {f : Nat → Int64} : (sC S r f).2 r = f := by simp [sC, va_up]
theorem sC_r {S : St} {r q : Nat} {f : Nat → Int64} (h : q ≠ r) : (sC S r f).2 q = S.2 q := by simp [sC, va_up, h]
theorem sC_1 {S : St} {r : Nat} {f : Nat → Int64} : (sC S r f).1 = S.1 := rfl
theorem RelT.cong {n : Nat} {S S' : St} (h : RelT n S) (e1 : ∀ t, t < 6 → S'.1 (19 + t) = S.1 (19 + t)) (e2 : S'.1 37 = S.1 37) : RelT n S' := by
  intro t i j ht hi hj
  rw [e1 t ht, e2]
  exact h t i j ht hi hj
theorem RelE.cong {n : Nat} {S S' : St} (h : RelE n S) (e : S'.1 7 = S.1 7 ∧ S'.1 8 = S.1 8 ∧ S'.1 9 = S.1 9 ∧ S'.1 44 = S.1 44 ∧ S'.1 45 = S.1 45 ∧ S'.1 46 = S.1 46) : RelE n S' := by
  intro i hi
  rw [e.1, e.2.1, e.2.2.1, e.2.2.2.1, e.2.2.2.2.1, e.2.2.2.2.2]
  exact h i hi
theorem RelH.cong {n : Nat} {S S' : St} (h : RelH n S) (e1 : S'.2 4 = S.2 4) (e2 : S'.2 42 = S.2 42) : RelH n S' := by
  intro s hs
  rw [e1, e2]
  exact h s hs
theorem LawOk.cong {n l : Nat} {S S' : St} (h : LawOk n S l) (e1 : S'.2 (31 + l) = S.2 (31 + l)) (e2 : S'.2 (25 + l) 0 = S.2 (25 + l) 0) (e3 : ∀ s, s < 2 ^ n → S'.2 40 (64 * l + s) = S.2 40 (64 * l + s)) : LawOk n S' l := by
  obtain ⟨h1, h2, h3⟩ := h
  refine ⟨fun s hs => ?_, ?_, ?_⟩
  · rw [e1, e3 s hs]; exact h1 s hs
  · rw [e1, e2]; exact h2
  · rw [e1]; exact h3
theorem RelL.cong {n : Nat} {S S' : St} (h : RelL n S) (e1 : ∀ l, l < 6 → S'.2 (31 + l) = S.2 (31 + l) ∧ S'.2 (25 + l) = S.2 (25 + l) ∧ S'.1 (25 + l) = S.1 (25 + l)) (e2 : S'.2 40 = S.2 40) (e3 : S'.1 43 = S.1 43) : RelL n S' := by
  intro l hl
  obtain ⟨a, b, c⟩ := e1 l hl
  obtain ⟨g1, g2⟩ := h l hl
  rw [c, e3]
  exact ⟨g1, fun q => (g2 q).cong a (by rw [b]) (fun s _ => by rw [e2])⟩
theorem n_cases {n : Nat} (h2 : 2 ≤ n) (h6 : n ≤ 6) : n = 2 ∨ n = 3 ∨ n = 4 ∨ n = 5 ∨ n = 6 := by omega
theorem ix_n {n i j : Nat} (h2 : 2 ≤ n) (h6 : n ≤ 6) (hi : i < n) (hj : j < n) : i * n + j < n * n ∧ i * n + j < 1000 := by
  rcases n_cases h2 h6 with rfl | rfl | rfl | rfl | rfl <;> constructor <;> omega
theorem ix_inj {n i j a b : Nat} (h2 : 2 ≤ n) (h6 : n ≤ 6) (hi : i < n) (hj : j < n) (ha : a < n) (hb : b < n) (h : i * n + j = a * n + b) : i = a ∧ j = b := by
  rcases n_cases h2 h6 with rfl | rfl | rfl | rfl | rfl <;> constructor <;> omega
theorem ixN (i j n : Nat) : ((nI i * nI n) + nI j) = nI (i * n + j) := by rw [pk_mul, nI_add]
theorem ix36 (t i j : Nat) : ((((36 : Int32) * nI t) + ((6 : Int32) * nI i)) + nI j) = nI (36 * t + 6 * i + j) := by
  rw [show (36 : Int32) = nI 36 from rfl, show (6 : Int32) = nI 6 from rfl, pk_mul, pk_mul, nI_add, nI_add]
theorem t_told {n : Nat} {S : St} (h : Rel n S) (p0 p1 p2 : Int32) : ∃ r, fX4_told n p0 p1 p2 S = some r ∧ fX5_told n p0 p1 p2 S = some r := by
  obtain ⟨h2, h6, hT, -, -, -⟩ := h
  unfold fX4_told fX5_told
  rcases place_cases p0 with ⟨t, ht, rfl, e4, e5⟩ | ⟨e4, e5⟩
  · rcases thing_cases h2 h6 p1 S S with ⟨i, hi, rfl, g4, g5⟩ | ⟨g4, g5⟩
    · rcases thing_cases h2 h6 p2 S S with ⟨j, hj, rfl, k4, k5⟩ | ⟨k4, k5⟩
      · obtain ⟨x1, x2⟩ := ix_n h2 h6 hi hj
        refine ⟨S.1 37 (36 * t + 6 * i + j), ?_, ?_⟩
        · simp only [e4, g4, k4, bo, gd, cond_true, inb_nI ht (show t < 1000 by omega), fX3_at, ixN, inb_nI x1 x2, cl_nI x2, cl_nI (show t < 1000 by omega), (hT t i j ht hi hj).1]
        · simp only [e5, g5, k5, bo, gd, cond_true, ix36, inb_nI (show 36 * t + 6 * i + j < 216 by omega) (by omega), cl_nI (show 36 * t + 6 * i + j < 1000 by omega)]
      · exact ⟨-10, by simp only [e4, g4, k4, bo, cond_true, cond_false], by simp only [e5, g5, k5, bo, cond_true, cond_false]⟩
    · exact ⟨-10, by simp only [e4, g4, bo, cond_true, cond_false], by simp only [e5, g5, bo, cond_true, cond_false]⟩
  · exact ⟨-10, by simp only [e4, bo, cond_false], by simp only [e5, bo, cond_false]⟩
theorem v5_cases (p : Int32) : ((-5 ≤ p.toInt ∧ p.toInt ≤ 5) ∧ fX4_isAmong p (-5 : Int32) (5 : Int32) = some true ∧ fX5_in p (-5 : Int32) (5 : Int32) = some true) ∨ (fX4_isAmong p (-5 : Int32) (5 : Int32) = some false ∧ fX5_in p (-5 : Int32) (5 : Int32) = some false) := by
  unfold fX4_isAmong fX5_in
  by_cases c1 : p < (-5 : Int32)
  · exact Or.inr ⟨if_pos c1, if_pos c1⟩
  · by_cases c2 : (5 : Int32) < p
    · exact Or.inr ⟨by rw [if_neg c1, if_pos c2], by rw [if_neg c1, if_pos c2]⟩
    · refine Or.inl ⟨⟨?_, ?_⟩, by rw [if_neg c1, if_neg c2], by rw [if_neg c1, if_neg c2]⟩
      · have := Int32.not_lt.mp c1
        rw [Int32.le_iff_toInt_le] at this
        exact this
      · have := Int32.not_lt.mp c2
        rw [Int32.le_iff_toInt_le] at this
        exact this
theorem t_entry {n : Nat} {S : St} (h : Rel n S) (p0 p1 p2 p3 : Int32) : ∃ r S1 S2, fX4_entry n p0 p1 p2 p3 S = some (r, S1) ∧ fX5_entry n p0 p1 p2 p3 S1 = some (r, S2) ∧ Rel n S2 := by
  have hR := h
  obtain ⟨h2, h6, hT, hE, hH, hL⟩ := h
  unfold fX4_entry fX5_entry
  rcases place_cases p0 with ⟨t, ht, rfl, e4, e5⟩ | ⟨e4, e5⟩
  · rcases thing_cases h2 h6 p1 S S with ⟨i, hi, rfl, g4, g5⟩ | ⟨g4, g5⟩
    · rcases thing_cases h2 h6 p2 S S with ⟨j, hj, rfl, k4, k5⟩ | ⟨k4, k5⟩
      · rcases v5_cases p3 with ⟨hv, v4, v5⟩ | ⟨v4, v5⟩
        · obtain ⟨x1, x2⟩ := ix_n h2 h6 hi hj
          obtain ⟨y1, y2⟩ := ix_n h2 h6 hj hi
          refine ⟨true, sI (sI S (19 + t) (i * n + j) p3) (19 + t) (j * n + i) p3, sI (sI (sI (sI S (19 + t) (i * n + j) p3) (19 + t) (j * n + i) p3) 37 (36 * t + 6 * i + j) p3) 37 (36 * t + 6 * j + i) p3, ?_, ?_, ?_⟩
          · simp only [e4, g4, k4, v4, bo, bw, gd, cond_true, inb_nI ht (show t < 1000 by omega), fX3_put, ixN, inb_nI x1 x2, cl_nI x2, inb_nI y1 y2, cl_nI y2, cl_nI (show t < 1000 by omega)]
          · have g5' : ∀ S', fX5_isThing n (nI i) S' = some true := fun _ => g5
            have k5' : ∀ S', fX5_isThing n (nI j) S' = some true := fun _ => k5
            simp only [e5, g5', k5', v5, bo, gd, cond_true, ix36, inb_nI (show 36 * t + 6 * i + j < 216 by omega) (by omega), cl_nI (show 36 * t + 6 * i + j < 1000 by omega), inb_nI (show 36 * t + 6 * j + i < 216 by omega) (by omega), cl_nI (show 36 * t + 6 * j + i < 1000 by omega)]
          · refine ⟨h2, h6, ?_, ?_, ?_, ?_⟩
            · intro t' i' j' ht' hi' hj'
              have hold := hT t' i' j' ht' hi' hj'
              rw [sI_r (show 19 + t' ≠ 37 by omega), sI_r (show 19 + t' ≠ 37 by omega)]
              by_cases c1 : 36 * t' + 6 * i' + j' = 36 * t + 6 * j + i
              · have : t' = t ∧ i' = j ∧ j' = i := by omega
                obtain ⟨rfl, rfl, rfl⟩ := this
                rw [sI_at, sI_at]
                exact ⟨rfl, hv⟩
              · by_cases c2 : 36 * t' + 6 * i' + j' = 36 * t + 6 * i + j
                · have : t' = t ∧ i' = i ∧ j' = j := by omega
                  obtain ⟨rfl, rfl, rfl⟩ := this
                  rw [sI_k c1, sI_at]
                  have c3 : i' * n + j' ≠ j' * n + i' := fun q => by
                    obtain ⟨q1, q2⟩ := ix_inj h2 h6 hi' hj' hj' hi' q
                    omega
                  rw [sI_k c3, sI_at]
                  exact ⟨rfl, hv⟩
                · rw [sI_k c1, sI_k c2, sI_r (show (37 : Nat) ≠ 19 + t by omega), sI_r (show (37 : Nat) ≠ 19 + t by omega)]
                  by_cases c0 : t' = t
                  · subst c0
                    have d1 : i' * n + j' ≠ j * n + i := fun q => by
                      obtain ⟨q1, q2⟩ := ix_inj h2 h6 hi' hj' hj hi q
                      omega
                    have d2 : i' * n + j' ≠ i * n + j := fun q => by
                      obtain ⟨q1, q2⟩ := ix_inj h2 h6 hi' hj' hi hj q
                      omega
                    rw [sI_k d1, sI_k d2]
                    exact hold
                  · rw [sI_r (show 19 + t' ≠ 19 + t by omega), sI_r (show 19 + t' ≠ 19 + t by omega)]
                    exact hold
            · refine hE.cong ⟨?_, ?_, ?_, ?_, ?_, ?_⟩ <;> rw [sI_r (by omega), sI_r (by omega), sI_r (by omega), sI_r (by omega)]
            · exact hH.cong rfl rfl
            · refine hL.cong (fun l hl => ⟨rfl, rfl, ?_⟩) rfl ?_
              · rw [sI_r (by omega), sI_r (by omega), sI_r (by omega), sI_r (by omega)]
              · rw [sI_r (by omega), sI_r (by omega), sI_r (by omega), sI_r (by omega)]
        · exact ⟨false, S, S, by simp only [e4, g4, k4, v4, bo, cond_true, cond_false], by simp only [e5, g5, k5, v5, bo, cond_true, cond_false], hR⟩
      · exact ⟨false, S, S, by simp only [e4, g4, k4, bo, cond_true, cond_false], by simp only [e5, g5, k5, bo, cond_true, cond_false], hR⟩
    · exact ⟨false, S, S, by simp only [e4, g4, bo, cond_true, cond_false], by simp only [e5, g5, bo, cond_true, cond_false], hR⟩
  · exact ⟨false, S, S, by simp only [e4, bo, cond_false], by simp only [e5, bo, cond_false], hR⟩
theorem t_edge {n : Nat} {S : St} (h : Rel n S) (p0 p1 p2 p3 : Int32) : ∃ r S1 S2, fX4_edge n p0 p1 p2 p3 S = some (r, S1) ∧ fX5_edge n p0 p1 p2 p3 S1 = some (r, S2) ∧ Rel n S2 := by
  have hR := h
  obtain ⟨h2, h6, hT, hE, hH, hL⟩ := h
  unfold fX4_edge fX5_edge fX4_isPost
  rcases thing_cases h2 h6 p0 S S with ⟨i, hi, rfl, g4, g5⟩ | ⟨g4, g5⟩
  · rcases am_cases p1 0 4 (by decide) (by decide) with ⟨a, _, ha, rfl, a4, a5⟩ | ⟨a4, a5⟩
    · rcases am_cases p2 0 4 (by decide) (by decide) with ⟨b, _, hb, rfl, b4, b5⟩ | ⟨b4, b5⟩
      · rcases am_cases p3 0 9 (by decide) (by decide) with ⟨w, _, hw, rfl, w4, w5⟩ | ⟨w4, w5⟩
        · rw [show nI 0 = (0 : Int32) from rfl, show nI 4 = (4 : Int32) from rfl] at a4 a5 b4 b5
          rw [show nI 0 = (0 : Int32) from rfl, show nI 9 = (9 : Int32) from rfl] at w4 w5
          refine ⟨true, sI (sI (sI S 7 i (nI a)) 8 i (nI b)) 9 i (nI w), sI (sI (sI (sI (sI (sI S 7 i (nI a)) 8 i (nI b)) 9 i (nI w)) 44 i (nI a)) 45 i (nI b)) 46 i (nI w), ?_, ?_, ?_⟩
          · simp only [g4, a4, b4, w4, bo, bw, gd, cond_true, fX1_put, inb_nI hi (show i < 1000 by omega), cl_nI (show i < 1000 by omega)]
          · have g5' : ∀ S', fX5_isThing n (nI i) S' = some true := fun _ => g5
            simp only [g5', a5, b5, w5, bo, gd, cond_true, inb_nI (show i < 6 by omega) (show i < 1000 by omega), cl_nI (show i < 1000 by omega)]
          · refine ⟨h2, h6, ?_, ?_, ?_, ?_⟩
            · refine hT.cong (fun t ht => ?_) ?_
              · rw [sI_r (by omega), sI_r (by omega), sI_r (by omega), sI_r (by omega), sI_r (by omega), sI_r (by omega)]
              · rw [sI_r (by omega), sI_r (by omega), sI_r (by omega), sI_r (by omega), sI_r (by omega), sI_r (by omega)]
            · intro i' hi'
              have q7 : (sI (sI (sI (sI (sI (sI S 7 i (nI a)) 8 i (nI b)) 9 i (nI w)) 44 i (nI a)) 45 i (nI b)) 46 i (nI w)).1 7 = (sI S 7 i (nI a)).1 7 := by
                rw [sI_r (by omega), sI_r (by omega), sI_r (by omega), sI_r (by omega), sI_r (by omega)]
              have q8 : (sI (sI (sI (sI (sI (sI S 7 i (nI a)) 8 i (nI b)) 9 i (nI w)) 44 i (nI a)) 45 i (nI b)) 46 i (nI w)).1 8 = (sI (sI S 7 i (nI a)) 8 i (nI b)).1 8 := by
                rw [sI_r (by omega), sI_r (by omega), sI_r (by omega), sI_r (by omega)]
              have q9 : (sI (sI (sI (sI (sI (sI S 7 i (nI a)) 8 i (nI b)) 9 i (nI w)) 44 i (nI a)) 45 i (nI b)) 46 i (nI w)).1 9 = (sI (sI (sI S 7 i (nI a)) 8 i (nI b)) 9 i (nI w)).1 9 := by
                rw [sI_r (by omega), sI_r (by omega), sI_r (by omega)]
              have q44 : (sI (sI (sI (sI (sI (sI S 7 i (nI a)) 8 i (nI b)) 9 i (nI w)) 44 i (nI a)) 45 i (nI b)) 46 i (nI w)).1 44 = (sI (sI (sI (sI S 7 i (nI a)) 8 i (nI b)) 9 i (nI w)) 44 i (nI a)).1 44 := by
                rw [sI_r (by omega), sI_r (by omega)]
              have q45 : (sI (sI (sI (sI (sI (sI S 7 i (nI a)) 8 i (nI b)) 9 i (nI w)) 44 i (nI a)) 45 i (nI b)) 46 i (nI w)).1 45 = (sI (sI (sI (sI (sI S 7 i (nI a)) 8 i (nI b)) 9 i (nI w)) 44 i (nI a)) 45 i (nI b)).1 45 := by
                rw [sI_r (by omega)]
              rw [q7, q8, q9, q44, q45]
              by_cases c : i' = i
              · subst c
                rw [sI_at, sI_at, sI_at, sI_at, sI_at, sI_at]
                exact ⟨⟨rfl, rfl, rfl⟩, ⟨a, by omega, rfl⟩, ⟨b, by omega, rfl⟩, ⟨w, by omega, rfl⟩⟩
              · rw [sI_k c, sI_k c, sI_k c, sI_k c, sI_k c, sI_k c]
                rw [sI_r (show (8 : Nat) ≠ 7 by omega), sI_r (show (9 : Nat) ≠ 8 by omega), sI_r (show (9 : Nat) ≠ 7 by omega)]
                rw [sI_r (show (44 : Nat) ≠ 9 by omega), sI_r (show (44 : Nat) ≠ 8 by omega), sI_r (show (44 : Nat) ≠ 7 by omega)]
                rw [sI_r (show (45 : Nat) ≠ 44 by omega), sI_r (show (45 : Nat) ≠ 9 by omega), sI_r (show (45 : Nat) ≠ 8 by omega), sI_r (show (45 : Nat) ≠ 7 by omega)]
                rw [sI_r (show (46 : Nat) ≠ 45 by omega), sI_r (show (46 : Nat) ≠ 44 by omega), sI_r (show (46 : Nat) ≠ 9 by omega), sI_r (show (46 : Nat) ≠ 8 by omega), sI_r (show (46 : Nat) ≠ 7 by omega)]
                exact hE i' hi'
            · exact hH.cong rfl rfl
            · refine hL.cong (fun l hl => ⟨rfl, rfl, ?_⟩) rfl ?_
              · rw [sI_r (by omega), sI_r (by omega), sI_r (by omega), sI_r (by omega), sI_r (by omega), sI_r (by omega)]
              · rw [sI_r (by omega), sI_r (by omega), sI_r (by omega), sI_r (by omega), sI_r (by omega), sI_r (by omega)]
        · rw [show nI 0 = (0 : Int32) from rfl, show nI 4 = (4 : Int32) from rfl] at a4 a5 b4 b5
          rw [show nI 0 = (0 : Int32) from rfl, show nI 9 = (9 : Int32) from rfl] at w4 w5
          exact ⟨false, S, S, by simp only [g4, a4, b4, w4, bo, cond_true, cond_false], by simp only [g5, a5, b5, w5, bo, cond_true, cond_false], hR⟩
      · rw [show nI 0 = (0 : Int32) from rfl, show nI 4 = (4 : Int32) from rfl] at a4 a5 b4 b5
        exact ⟨false, S, S, by simp only [g4, a4, b4, bo, cond_true, cond_false], by simp only [g5, a5, b5, bo, cond_true, cond_false], hR⟩
    · rw [show nI 0 = (0 : Int32) from rfl, show nI 4 = (4 : Int32) from rfl] at a4 a5
      exact ⟨false, S, S, by simp only [g4, a4, bo, cond_true, cond_false], by simp only [g5, a5, bo, cond_true, cond_false], hR⟩
  · exact ⟨false, S, S, by simp only [g4, bo, cond_false], by simp only [g5, bo, cond_false], hR⟩
theorem t_tell {n : Nat} {S : St} (h : Rel n S) (p0 p1 : Int32) : ∃ r S1 S2, fX4_tell n p0 p1 S = some (r, S1) ∧ fX5_tell n p0 p1 S1 = some (r, S2) ∧ Rel n S2 := by
  have hR := h
  obtain ⟨h2, h6, hT, hE, hH, hL⟩ := h
  have hN := pw_le h6
  unfold fX4_tell fX5_tell
  rcases set_cases h6 p0 S S with ⟨s, hs, rfl, g4, g5⟩ | ⟨g4, g5⟩
  · have g5' : ∀ S', fX5_isSet n (nI s) S' = some true := fun _ => g5
    by_cases c1 : p1 < 0
    · exact ⟨false, S, S, by simp only [g4, bo, cond_true, if_pos c1], by simp only [g5, bo, cond_true, fX5_in, if_pos c1, cond_false], hR⟩
    · obtain ⟨v, hv, rfl⟩ := nI_of c1
      have e1 : Int32.toInt64 (nI v) = lN v := nI_l hv
      by_cases c2 : v ≤ 4000000
      · have d1 : lg_cmp (lN v) (4000000 : Int64) ≤ 0 := (lg_cmp_le _ _).mpr ((pk_lLE (a := v) (b := 4000000) (by omega) (by decide)).mpr c2)
        have d2 : ¬ (4000000 : Int32) < nI v := nI_nlt (a := 4000000) (b := v) c2 (by decide)
        refine ⟨true, sJ S 4 s (lN v), sJ (sJ S 4 s (lN v)) 42 s (lN v), ?_, ?_, ?_⟩
        · simp only [g4, bo, gd, cond_true, if_neg c1, e1, if_pos d1, inb_nI hs (show s < 1000 by omega), cl_nI (show s < 1000 by omega)]
        · simp only [g5', bo, gd, cond_true, fX5_in, if_neg c1, if_neg d2, e1, inb_nI (show s < 64 by omega) (show s < 1000 by omega), cl_nI (show s < 1000 by omega)]
        · refine ⟨h2, h6, hT.cong (fun _ _ => rfl) rfl, hE.cong ⟨rfl, rfl, rfl, rfl, rfl, rfl⟩, ?_, ?_⟩
          · intro s' hs'
            by_cases c : s' = s
            · subst c
              rw [sJ_at, sJ_r (show (4 : Nat) ≠ 42 by omega), sJ_at]
              exact ⟨rfl, v, c2, rfl⟩
            · rw [sJ_k c, sJ_r (show (4 : Nat) ≠ 42 by omega), sJ_k c, sJ_r (show (42 : Nat) ≠ 4 by omega)]
              exact hH s' hs'
          · refine hL.cong (fun l hl => ⟨?_, ?_, rfl⟩) ?_ rfl
            · rw [sJ_r (by omega), sJ_r (by omega)]
            · rw [sJ_r (by omega), sJ_r (by omega)]
            · rw [sJ_r (by omega), sJ_r (by omega)]
      · have d1 : ¬ lg_cmp (lN v) (4000000 : Int64) ≤ 0 := fun z => c2 ((pk_lLE (a := v) (b := 4000000) (by omega) (by decide)).mp ((lg_cmp_le _ _).mp z))
        have d2 : (4000000 : Int32) < nI v := nI_lt (a := 4000000) (b := v) (by omega) (by omega)
        exact ⟨false, S, S, by simp only [g4, bo, cond_true, if_neg c1, e1, if_neg d1], by simp only [g5, bo, cond_true, cond_false, fX5_in, if_neg c1, if_pos d2], hR⟩
  · exact ⟨false, S, S, by simp only [g4, bo, cond_false], by simp only [g5, bo, cond_false], hR⟩
