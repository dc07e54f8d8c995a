/-! ===== all: both programs ===== -/
theorem add_spec {n k r0 c0 : Nat} {v : Int64} {X : St} (hk : k ≤ 6) (hr : r0 < 6) (hc : c0 < 6) (hs : X.1 6 0 = nI k) : ∃ Y, fX2_add n (nI r0) (nI c0) v X = some ((), Y) ∧ Y.1 = X.1 ∧ (∀ q, q ≠ 10 → Y.2 q = X.2 q) ∧ ∀ r c, r < k → c < k → Y.2 10 (6 * r + c) = X.2 10 (6 * r + c) + (if r = r0 ∧ c = c0 then v else 0) := by
  refine ⟨_, add_eq hk hr hc hs, ?_, ?_, ?_⟩
  · by_cases q : r0 < k ∧ c0 < k
    · rw [if_pos q]; rfl
    · rw [if_neg q]
  · intro z hz
    by_cases q : r0 < k ∧ c0 < k
    · rw [if_pos q, sJ_r hz]
    · rw [if_neg q]
  · intro r c h1 h2
    by_cases q : r0 < k ∧ c0 < k
    · rw [if_pos q]
      by_cases e : r = r0 ∧ c = c0
      · rw [if_pos e, e.1, e.2, sJ_at]
      · rw [if_neg e, sJ_k (by omega), Int64.add_zero]
    · rw [if_neg q, if_neg (by rintro ⟨rfl, rfl⟩; exact q ⟨h1, h2⟩), Int64.add_zero]
theorem four (a b r c : Nat) (w x : Int64) : (((x + (if r = a ∧ c = a then w else 0)) + (if r = b ∧ c = b then w else 0)) + (if r = a ∧ c = b then -w else 0)) + (if r = b ∧ c = a then -w else 0) = x + (if a ≠ b then w * (E a b r * E a b c) else 0) := by
  unfold E
  by_cases h : a = b
  · subst h
    rw [if_neg (show ¬ (a ≠ a) from fun q => q rfl)]
    by_cases q : r = a ∧ c = a
    · simp only [if_pos q]; grind
    · simp only [if_neg q]; grind
  · rw [if_pos h]
    by_cases c1 : r = a
    · have n1 : ¬ r = b := fun q => h (c1.symm.trans q)
      rw [if_pos c1, if_neg (show ¬ (r = b ∧ c = b) from fun q => n1 q.1), if_neg (show ¬ (r = b ∧ c = a) from fun q => n1 q.1)]
      by_cases c2 : c = a
      · have n2 : ¬ c = b := fun q => h (c2.symm.trans q)
        rw [if_pos ⟨c1, c2⟩, if_neg (show ¬ (r = a ∧ c = b) from fun q => n2 q.2), if_pos c2]; grind
      · rw [if_neg (show ¬ (r = a ∧ c = a) from fun q => c2 q.2), if_neg c2]
        by_cases c3 : c = b
        · rw [if_pos ⟨c1, c3⟩, if_pos c3]; grind
        · rw [if_neg (show ¬ (r = a ∧ c = b) from fun q => c3 q.2), if_neg c3]; grind
    · rw [if_neg c1, if_neg (show ¬ (r = a ∧ c = a) from fun q => c1 q.1), if_neg (show ¬ (r = a ∧ c = b) from fun q => c1 q.1)]
      by_cases c4 : r = b
      · rw [if_pos c4]
        by_cases c2 : c = a
        · have n2 : ¬ c = b := fun q => h (c2.symm.trans q)
          rw [if_pos (show r = b ∧ c = a from ⟨c4, c2⟩), if_neg (show ¬ (r = b ∧ c = b) from fun q => n2 q.2), if_pos c2]; grind
        · rw [if_neg (show ¬ (r = b ∧ c = a) from fun q => c2 q.2), if_neg c2]
          by_cases c3 : c = b
          · rw [if_pos ⟨c4, c3⟩, if_pos c3]; grind
          · rw [if_neg (show ¬ (r = b ∧ c = b) from fun q => c3 q.2), if_neg c3]; grind
      · rw [if_neg c4, if_neg (show ¬ (r = b ∧ c = b) from fun q => c4 q.1), if_neg (show ¬ (r = b ∧ c = a) from fun q => c4 q.1)]; grind
theorem neg_w : ∀ w, w < 10 → Int32.toInt64 (-(nI w)) = -(lN w) := by decide +kernel
theorem sm_front (f : Nat → Int64) : ∀ d, sm f (d + 1) = sm (fun j => f (j + 1)) d + f 0
  | 0 => rfl
  | d + 1 => by
    rw [sm, sm_front f d, sm, Int64.add_assoc, Int64.add_assoc, Int64.add_comm (f 0)]
theorem Nn_sm {A B W : Nat → Nat} {p : Nat} {g : Nat → Nat} {r c : Nat} : ∀ d i, Nn A B W p d i g r c = dd g r c + sm (fun j => T A B W p g (i + j) r c) d
  | 0, i => (Int64.add_zero _).symm
  | d + 1, i => by
    rw [Nn, Nn_sm d (i + 1), sm_front, Int64.add_assoc]
    congr 2
    refine sm_cong (fun j _ => ?_)
    rw [show i + 1 + j = i + (j + 1) by omega]
theorem dd_id (r c : Nat) : dd (fun z => z) r c = 0 := by
  unfold dd
  by_cases h : r = c
  · rw [if_pos h, if_pos rfl]
  · rw [if_neg h]
section AN
variable {n p K : Nat} {A B W : Nat → Nat} {S : St}
theorem four_adds {X : St} {k : Nat} (hE : EdOk n A B W S) (h6 : n ≤ 6) (hK : K ≤ 4) (hp : p = K + 1) (hk : k < n) (hX : ∀ q, q ≠ 6 → X.1 q = S.1 q) (hs : X.1 6 0 = nI K) (f : Nat) : ∃ Y, lX1_sumOfTrees_1 n (nI p) (f + 1) (nI k) X = lX1_sumOfTrees_1 n (nI p) f (nI (k + 1)) Y ∧ Y.1 = X.1 ∧ (∀ q, q ≠ 10 → Y.2 q = X.2 q) ∧ ∀ r c, r < K → c < K → Y.2 10 (6 * r + c) = X.2 10 (6 * r + c) + T A B W p (fun z => z) k r c := by
  obtain ⟨⟨a5, b5, w9⟩, ⟨e7, e8, e9⟩, -⟩ := hE k hk
  have q7 : X.1 7 k = nI (A k) := by rw [hX 7 (by decide)]; exact e7
  have q8 : X.1 8 k = nI (B k) := by rw [hX 8 (by decide)]; exact e8
  have q9 : X.1 9 k = nI (W k) := by rw [hX 9 (by decide)]; exact e9
  have body : lX1_sumOfTrees_1 n (nI p) (f + 1) (nI k) X = bX1_sumOfTrees_1 n (nI p) (lX1_sumOfTrees_1 n (nI p) f) (nI k) X := rfl
  rw [body]
  unfold bX1_sumOfTrees_1
  rw [if_neg (nI_ge hk (by omega)), inb_nI hk (by omega), cl_nI (show k < 1000 by omega), q7, q8, q9, toL (show W k < 1000 by omega), nI_1]
  simp only [gd, cond_true]
  by_cases ca : p ≤ A k
  · rw [if_pos (nI_le ca (by omega))]
    refine ⟨X, rfl, rfl, fun _ _ => rfl, fun r c _ _ => ?_⟩
    unfold T
    rw [if_neg (fun q => absurd q.1 (by omega)), Int64.add_zero]
  · rw [if_neg (nI_ge (show A k < p by omega) (by omega))]
    by_cases cb : p ≤ B k
    · rw [if_pos (nI_le cb (by omega))]
      refine ⟨X, rfl, rfl, fun _ _ => rfl, fun r c _ _ => ?_⟩
      unfold T
      rw [if_neg (fun q => absurd q.2.1 (by omega)), Int64.add_zero]
    · rw [if_neg (nI_ge (show B k < p by omega) (by omega))]
      obtain ⟨Y1, y1, y11, y12, y13⟩ := add_spec (n := n) (v := lN (W k)) (X := X) (r0 := A k) (c0 := A k) (k := K) (by omega) (by omega) (by omega) hs
      obtain ⟨Y2, y2, y21, y22, y23⟩ := add_spec (n := n) (v := lN (W k)) (X := Y1) (r0 := B k) (c0 := B k) (k := K) (by omega) (by omega) (by omega) (by rw [y11]; exact hs)
      obtain ⟨Y3, y3, y31, y32, y33⟩ := add_spec (n := n) (v := -(lN (W k))) (X := Y2) (r0 := A k) (c0 := B k) (k := K) (by omega) (by omega) (by omega) (by rw [y21, y11]; exact hs)
      obtain ⟨Y4, y4, y41, y42, y43⟩ := add_spec (n := n) (v := -(lN (W k))) (X := Y3) (r0 := B k) (c0 := A k) (k := K) (by omega) (by omega) (by omega) (by rw [y31, y21, y11]; exact hs)
      refine ⟨Y4, ?_, by rw [y41, y31, y21, y11], fun q hq => by rw [y42 q hq, y32 q hq, y22 q hq, y12 q hq], fun r c hr hc => ?_⟩
      · rw [y1]
        simp only [bw]
        rw [y11, q8, q9, toL (show W k < 1000 by omega), y2]
        simp only [bw]
        rw [y21, y11, q7, q8, q9, neg_w (W k) w9, y3]
        simp only [bw]
        rw [y31, y21, y11, q7, q8, q9, neg_w (W k) w9, y4]
      · rw [y43 r c hr hc, y33 r c hr hc, y23 r c hr hc, y13 r c hr hc, four]
        unfold T
        by_cases e : A k = B k
        · rw [if_neg (fun q => q e), if_neg (fun q => q.2.2 e)]
        · rw [if_pos e, if_pos ⟨by omega, by omega, e⟩]
theorem sumTrees_eq (hE : EdOk n A B W S) (h6 : n ≤ 6) (hK1 : 1 ≤ K) (hK : K ≤ 4) (hp : p = K + 1) : ∃ Y, fX1_sumOfTrees n (nI p) S = some (Rr A B W p n 0 (fun z => z) K, Y) ∧ fr4 S Y := by
  obtain ⟨S3, e1, s1, s2, s3, s4⟩ := begin_eq (n := n) (S := S) (k := K) (by omega)
  obtain ⟨X, e2, x1, x2, x3⟩ := pp_fill (lX1_sumOfTrees_1 n (nI p)) n 0 (by omega) (Nat.zero_le _) (fun k X => X.1 = S3.1 ∧ (∀ q, q ≠ 10 → X.2 q = S3.2 q) ∧ ∀ r c, r < K → c < K → X.2 10 (6 * r + c) = sm (fun j => T A B W p (fun z => z) j r c) k)
    (by
      intro f k X hk ⟨x1, x2, x3⟩
      obtain ⟨Y, ey, y1, y2, y3⟩ := four_adds (X := X) (k := k) hE h6 hK hp hk (fun q hq => by rw [x1]; exact s2 q hq) (by rw [x1]; exact s1) f
      refine ⟨Y, ey, by rw [y1, x1], fun q hq => by rw [y2 q hq, x2 q hq], fun r c hr hc => ?_⟩
      rw [y3 r c hr hc, x3 r c hr hc, sm])
    (by
      intro f X
      show bX1_sumOfTrees_1 n (nI p) (lX1_sumOfTrees_1 n (nI p) f) (nI n) X = _
      unfold bX1_sumOfTrees_1
      rw [if_pos (nI_le (Nat.le_refl _) (by omega))])
    S3 ⟨rfl, fun _ _ => rfl, fun r c hr hc => s4 _ (by omega)⟩
  obtain ⟨Y, e3, y1, y2⟩ := det_eq (n := n) (k := K) (M := Nn A B W p n 0 (fun z => z)) (S := X) (by omega) (by rw [x1]; exact s1) (fun r c hr hc => by
    rw [x3 r c hr hc, Nn_sm, dd_id, Int64.zero_add]
    refine sm_cong (fun j _ => ?_)
    rw [Nat.zero_add])
  refine ⟨Y, ?_, ?_, ?_⟩
  · unfold fX1_sumOfTrees
    rw [nI_m1 (show 0 < p by omega), show p - 1 = K by omega, e1]
    simp only [bw]
    rw [show (0 : Int32) = nI 0 from rfl, e2]
    simp only [bw]
    rw [e3, mt n 0 (fun z => z) K hK1 hK hp (fun _ _ => rfl) (fun _ h => h) rfl (fxk_id K)]
  · intro q a b c
    rw [y2 q c, x2 q b, s3 q b]
  · intro q a
    rw [y1, x1, s2 q a]
theorem all5_eq {X : St} (hE : EdOk n A B W S) (h6 : n ≤ 6) (hp2 : 2 ≤ p) (hp5 : p ≤ 5) (hin : fX5_in (nI p) (2 : Int32) (5 : Int32) = some true) (hX : ∀ Y : St, (∀ q, q ≠ 47 → Y.1 q = X.1 q) → Y.1 44 = S.1 44 ∧ Y.1 45 = S.1 45 ∧ Y.1 46 = S.1 46) : ∃ Y, fX5_all n (nI p) X = some (sm (fun s => lN (tv A B W n s p)) (2 ^ n), Y) ∧ Y.2 = X.2 ∧ ∀ q, q ≠ 47 → Y.1 q = X.1 q := by
  have hN := pw_le h6
  have key : ∀ d k f Y, k + d = 2 ^ n → d < f → (Y.2 = X.2 ∧ ∀ q, q ≠ 47 → Y.1 q = X.1 q) → ∃ Z, lX5_all_1 n (nI p) f (sm (fun s => lN (tv A B W n s p)) k) (nI k) Y = some (sm (fun s => lN (tv A B W n s p)) (2 ^ n), Z) ∧ Z.2 = X.2 ∧ ∀ q, q ≠ 47 → Z.1 q = X.1 q := by
    intro d
    induction d with
    | zero =>
      intro k f Y hk hf ⟨y1, y2⟩
      obtain ⟨f, rfl⟩ : ∃ g, f = g + 1 := ⟨f - 1, by omega⟩
      have : k = 2 ^ n := by omega
      subst this
      refine ⟨Y, ?_, y1, y2⟩
      show bX5_all_1 n (nI p) (lX5_all_1 n (nI p) f) _ (nI (2 ^ n)) Y = _
      unfold bX5_all_1
      rw [if_pos (nI_le (Nat.le_refl _) (by omega))]
    | succ d ih =>
      intro k f Y hk hf ⟨y1, y2⟩
      obtain ⟨f, rfl⟩ : ∃ g, f = g + 1 := ⟨f - 1, by omega⟩
      obtain ⟨Z, ez, z1, z2⟩ := treeOf_eq (X := Y) (s := k) (p := p) hE (hX Y y2) h6 (by omega) hp2 hp5
      obtain ⟨V, ev, v⟩ := ih (k + 1) f Z (by omega) (by omega) ⟨by rw [z1, y1], fun q hq => by rw [z2 q hq, y2 q hq]⟩
      refine ⟨V, ?_, v⟩
      rw [← ev]
      show bX5_all_1 n (nI p) (lX5_all_1 n (nI p) f) _ (nI k) Y = _
      unfold bX5_all_1
      rw [if_neg (nI_ge (show k < 2 ^ n by omega) (by omega)), hin, ez, nI_1]
      rfl
  obtain ⟨Z, ez, z⟩ := key (2 ^ n) 0 FU X (by omega) (by show 2 ^ n < 1000; omega) ⟨rfl, fun _ _ => rfl⟩
  refine ⟨Z, ?_, z⟩
  have ez : lX5_all_1 n (nI p) FU (0 : Int64) (0 : Int32) X = some (sm (fun s => lN (tv A B W n s p)) (2 ^ n), Z) := ez
  unfold fX5_all
  rw [ez]
  rfl
end AN
theorem t_all {n : Nat} {S : St} (h : Rel n S) (p0 : Int32) : ∃ r S1 S2, fX4_all n p0 S = some (r, S1) ∧ fX5_all n p0 S1 = some (r, S2) ∧ Rel n S2 := by
  have hR := h
  obtain ⟨h2, h6, -, hE, -, -⟩ := h
  have hN := pw_le h6
  obtain ⟨A, B, W, hEd⟩ := hE.nat
  rcases posts_cases p0 with ⟨p, hp2, hp5, rfl, e4, e5⟩ | ⟨e4, e5⟩
  · obtain ⟨S1, q1, f1⟩ := sumTrees_eq (K := p - 1) (p := p) hEd h6 (by omega) (by omega) (by omega)
    obtain ⟨S2, q2, g1, g2⟩ := all5_eq (p := p) (X := S1) hEd h6 hp2 hp5 e5 (fun Y hY => ⟨by rw [hY 44 (by decide), f1.2 44 (by decide)], by rw [hY 45 (by decide), f1.2 45 (by decide)], by rw [hY 46 (by decide), f1.2 46 (by decide)]⟩)
    rw [tv_sum h6 (by omega)] at q2
    refine ⟨_, S1, S2, ?_, q2, (hR.fr4 f1).fr5 ⟨fun q _ _ => by rw [g1], fun q _ b => g2 q b⟩⟩
    unfold fX4_all
    simp only [e4, bo, bw, cond_true, q1]
  · refine ⟨0, S, S, ?_, ?_, hR⟩
    · unfold fX4_all
      simp only [e4, bo, cond_false]
    · have h1 : lX5_all_1 n p0 FU (0 : Int64) (0 : Int32) S = some ((0 : Int64), S) := by
        show bX5_all_1 n p0 (lX5_all_1 n p0 999) (0 : Int64) (0 : Int32) S = _
        unfold bX5_all_1
        have hc : ¬ nI (2 ^ n) ≤ (0 : Int32) := nI_ge (a := 0) (pw_pos (n := n)) (by omega)
        rw [if_neg hc]
        simp only [e5, bo, cond_false]
      unfold fX5_all
      rw [h1]
      rfl
