/-! ===== the law: its start ===== -/
theorem arr_known {s : State} {args : Array Value} {ty : FieldType} (ht : ∀ C, ty ≠ .object C) (h : (Cond.arrayClass ty).before args s = true) : ∃ cA : ClassId, ArrOfT s cA ty ∧ va_RA s cA ty := by
  obtain ⟨cA, kA, comp, h1, h2, h3⟩ := Cond.arrayClass_spec h
  refine ⟨cA, fun n z => ⟨fun k h => (by cases h), kA, h2, comp, h3⟩, ?_⟩
  cases ty with
  | object C => exact absurd rfl (ht C)
  | _ => exact h1
theorem over_known {s : State} {args : Array Value} {C : String} (h : (Cond.arrayOver (.object C)).before args s = true) : ∃ cA : ClassId, ArrOfT s cA (.object C) ∧ va_RA s cA (.object C) := by
  obtain ⟨comp, cA, kA, h1, h2, h3, h4, h5⟩ := Cond.arrayOver_spec h
  exact ⟨cA, fun n z => ⟨fun k h => (by cases h), kA, h3, comp, h4⟩, kA, comp, h3, h4, h1, h5⟩
def rr : List Nat := r4 ++ r5
def gi (k : Nat) : Nat := [0, 1, 27, 2, 31, 32, 33, 28, 29, 30, 34, 35, 36, 3, 7, 11, 15, 19, 23, 4, 8, 12, 16, 20, 24, 5, 9, 13, 17, 21, 25, 6, 10, 14, 18, 22, 26, 37, 38, 39, 40, 41, 42, 43, 44, 45, 46, 47].getD k 0
theorem gi_rr : ∀ k, k < 48 → rr[gi k]? = some k := by decide
def ad2 (b0 b1 : Nat) (u v : Nat → Nat) (r : Nat) : Nat := if r = 0 then b0 else if r = 12 then b1 else if r < 37 then u r else v r
set_option maxRecDepth 20000 in
theorem two_worlds {A : Nat → Prop} {D : va_G} {cy u v : Nat → Nat} {n b0 b1 : Nat} {H : Heap} (hP : va_P D vwCl (([] ++ ((b0, wC cy u n S0 0) :: (r4.drop 1).map (fun r => (u r, wC cy u n S0 r)))) ++ ((b1, wC cy v n S0 12) :: (r5.drop 1).map (fun r => (v r, wC cy v n S0 r)))) H) (hD : va_D A (([] ++ ((b0, wC cy u n S0 0) :: (r4.drop 1).map (fun r => (u r, wC cy u n S0 r)))) ++ ((b1, wC cy v n S0 12) :: (r5.drop 1).map (fun r => (v r, wC cy v n S0 r))))) : va_P D vwCl (rr.map (fun r => (ad2 b0 b1 u v r, wC cy (ad2 b0 b1 u v) n S0 r))) H ∧ va_D A (rr.map (fun r => (ad2 b0 b1 u v r, wC cy (ad2 b0 b1 u v) n S0 r))) := by
  obtain ⟨j1, j2⟩ := cell_set (p := 1) (a := u 1) (cA := cy 4) (x := (6, .inr (.inr (.inr (.inr (fun t => some (u (13 + t)))))))) (x' := (6, .inr (.inr (.inr (.inr (fun t => some (ad2 b0 b1 u v (13 + t)))))))) hP hD rfl (cell_q (fun j hj => by rcases (show j = 0 ∨ j = 1 ∨ j = 2 ∨ j = 3 ∨ j = 4 ∨ j = 5 by omega) with rfl | rfl | rfl | rfl | rfl | rfl <;> rfl))
  obtain ⟨k1, k2⟩ := cell_set (p := 2) (a := u 3) (cA := cy 3) (x := (6, .inr (.inr (.inr (.inr (fun t => some (u (25 + t)))))))) (x' := (6, .inr (.inr (.inr (.inr (fun t => some (ad2 b0 b1 u v (25 + t)))))))) j1 j2 rfl (cell_q (fun j hj => by rcases (show j = 0 ∨ j = 1 ∨ j = 2 ∨ j = 3 ∨ j = 4 ∨ j = 5 by omega) with rfl | rfl | rfl | rfl | rfl | rfl <;> rfl))
  exact ⟨k1, k2⟩
theorem rr_world {A : Nat → Prop} {D : va_G} {cy ad : Nat → Nat} {n : Nat} {S : St} {H : Heap} (hP : va_P D vwCl (rr.map (fun r => (ad r, wC cy ad n S r))) H) (hD : va_D A (rr.map (fun r => (ad r, wC cy ad n S r)))) : va_P D vwCl (WW cy ad n S) H ∧ (∀ i j, i < 48 → j < 48 → ad i = ad j → i = j) ∧ ∀ r, r < 48 → A (ad r) := by
  have at' : ∀ k, k < 48 → (rr.map (fun r => (ad r, wC cy ad n S r)))[gi k]? = some (ad k, wC cy ad n S k) := fun k hk => by
    rw [List.getElem?_map, gi_rr k hk]; rfl
  refine ⟨hP.by gi (fun k q hq => ?_), fun i j hi hj he => ?_, fun r hr => hD.2 _ _ (at' r hr)⟩
  · obtain ⟨hk, rfl⟩ := WW_get hq
    exact at' k hk
  · have h := hD.1 (gi i) (gi j) _ _ (at' i hi) (at' j hj) he
    have e1 := gi_rr i hi
    rw [h, gi_rr j hj] at e1
    exact (Option.some.inj e1).symm
theorem tb_X2 : Cond.methodLinkNest RX4 57 yX2_init "ShunLots" ∈ tables_1 := by decide +kernel
theorem tb_n1 : Cond.methodLinkNest RX3 29 yX4_has "ShunLots" ∈ tables_1 := by decide +kernel
theorem tb_n2 : Cond.methodLinkNest RX2 31 yX4_isAmong "ShunLots" ∈ tables_1 := by decide +kernel
theorem tb_n3 : Cond.methodLinkNest RX1 47 yX4_has "ShunLots" ∈ tables_1 := by decide +kernel
theorem tb_n4 : Cond.methodLinkNest RX0 21 yX4_fits "ShunLots" ∈ tables_1 := by decide +kernel
theorem tb_aT : Cond.arrayOver (.object "ShunLots$Table") ∈ tables_1 := by decide +kernel
theorem tb_aL : Cond.arrayOver (.object "ShunLots$Law") ∈ tables_1 := by decide +kernel
theorem tb_ai : Cond.arrayClass .int ∈ tables_1 := by decide +kernel
theorem tb_al : Cond.arrayClass .long ∈ tables_1 := by decide +kernel
theorem tb_az : Cond.arrayClass .boolean ∈ tables_1 := by decide +kernel
theorem tb_i0 : Cond.instantiable RX0 3 ∈ tables_1 := by decide +kernel
theorem tb_i1 : Cond.instantiable RX1 4 ∈ tables_1 := by decide +kernel
theorem tb_i2 : Cond.instantiable RX2 3 ∈ tables_1 := by decide +kernel
theorem tb_i3 : Cond.instantiable RX3 2 ∈ tables_1 := by decide +kernel
theorem wl_c4 : Cond.classLink RL 7 RX4 ∈ wsL_law := by decide +kernel
theorem wl_c5 : Cond.classLink RL 18 RX5 ∈ wsL_law := by decide +kernel
theorem wl_i4 : Cond.instantiable RX4 8 ∈ wsL_law := by decide +kernel
theorem wl_i5 : Cond.instantiable RX5 13 ∈ wsL_law := by decide +kernel
theorem wl_n4 : Cond.initialized RX4 ∈ wsL_law := by decide +kernel
theorem wl_n5 : Cond.initialized RX5 ∈ wsL_law := by decide +kernel
theorem wl_m4 : Cond.methodLink RL 15 yX4_init ∈ wsL_law := by decide +kernel
theorem wl_m5 : Cond.methodLink RL 20 yX5_init ∈ wsL_law := by decide +kernel
theorem wl_s4 : Cond.instanceMethod yX4_init ∈ wsL_law := by decide +kernel
theorem wl_s5 : Cond.instanceMethod yX5_init ∈ wsL_law := by decide +kernel
theorem rcs (k n : Nat) (h : k ≤ 48) (h2 : n ≤ 1743) : k ≤ room_1.cells ∧ n ≤ room_1.slots := ⟨Nat.le_trans h rc48, Nat.le_trans h2 rs48⟩
/-- from the entry, for every script of at most 3073 ints, the law comes to its end with true -/
theorem whole_start {p : Program} {e : Env} {s : State} {m : MethodId} {below : List Frame} {meth : Method} {c : Code} (l : Launch) {b L : Nat} {xs : Nat → Int32} (hL : L ≤ 3073) (C0 : lw_At p s m meth c b L xs) : W p l e room_1 s m #[Value.ref b] below meth c s.heap [] 0 0 (lw_Z below #[Value.ref b] s) (entryFrame m ([Value.ref b] : List Value).toArray 4) := by
  obtain ⟨hx, hb, hr, hml, hown, hts, hX0, hbl, hlk, -⟩ := C0
  have M : MX p m c cL_law 4 s #[Value.ref b] wsL_law RL meth ret := ⟨⟨hx, hb, hml, hown, fun w h => hts w (wsL_law_in w h)⟩, hr, hlk⟩
  have hX : XX s b L xs := ⟨hX0, hbl, hL⟩
  have ht1 : ∀ w ∈ tables_1, w.before #[Value.ref b] s = true := fun w h => hts w (List.mem_append_right _ h)
  have hw : ∀ w ∈ wsL_law, w.before #[Value.ref b] s = true := M.1.2.2.2.2
  obtain ⟨c0, i0, k0⟩ := u_known hw inlX0 (ht1 _ tb_i0)
  obtain ⟨c1, i1, k1⟩ := u_known hw inlX1 (ht1 _ tb_i1)
  obtain ⟨c2, i2, k2⟩ := u_known hw inlX2 (ht1 _ tb_i2)
  obtain ⟨c3, i3, k3⟩ := u_known hw inlX3 (ht1 _ tb_i3)
  obtain ⟨c4, i4, k4⟩ := u_known hw inlX4 (hw _ wl_i4)
  obtain ⟨c5, i5, k5⟩ := u_known hw inlX5 (hw _ wl_i5)
  obtain ⟨a0, p0⟩ := arr_known (fun C q => by cases q) (ht1 _ tb_ai)
  obtain ⟨a1, p1⟩ := arr_known (fun C q => by cases q) (ht1 _ tb_al)
  obtain ⟨a2, p2⟩ := arr_known (fun C q => by cases q) (ht1 _ tb_az)
  obtain ⟨a3, p3⟩ := over_known (ht1 _ tb_aL)
  obtain ⟨a4, p4⟩ := over_known (ht1 _ tb_aT)
  obtain ⟨D, hDc⟩ : ∃ D : va_G, ∀ (c : Nat) (q : vw_C), vwCl[c]? = some q → u_Kn s q.1 q.2.1 q.2.2 (D.1 c) (D.2 c) := by
    refine ⟨(fun c => match c with | 0 => c0 | 1 => c1 | 2 => c2 | 3 => c3 | 4 => c4 | _ => c5, fun c => match c with | 0 => i0 | 1 => i1 | 2 => i2 | 3 => i3 | 4 => i4 | _ => i5), fun c q h => ?_⟩
    match c, h with
    | 0, h => cases h; exact k0
    | 1, h => cases h; exact k1
    | 2, h => cases h; exact k2
    | 3, h => cases h; exact k3
    | 4, h => cases h; exact k4
    | 5, h => cases h; exact k5
    | c + 6, h => cases h
  obtain ⟨cy, hKy⟩ : ∃ cy : Nat → Nat, va_K D vwCl (TY cy) s := by
    refine ⟨fun k => match k with | 0 => a0 | 1 => a1 | 2 => a2 | 3 => a3 | _ => a4, hDc, fun k q h => ?_⟩
    match k, h with
    | 0, h => cases h; exact p0
    | 1, h => cases h; exact p1
    | 2, h => cases h; exact p2
    | 3, h => cases h; exact p3
    | 4, h => cases h; exact p4
    | k + 5, h => cases h
  have KC0 : KC D cy s := ⟨hKy, va_Nw.of rfl (ht1 _ tb_X2), va_AO.of (ht1 _ tb_aT), va_AO.of (ht1 _ tb_aL)⟩
  have hNN : NN s := ⟨va_Nw.of rfl (ht1 _ tb_n1), va_Nw.of rfl (ht1 _ tb_n2), va_Nw.of rfl (ht1 _ tb_n3), va_Nw.of rfl (ht1 _ tb_n4)⟩
  have hA : ∀ q, s.heap.size ≤ q → AH s q := fun q h => h
  obtain ⟨n, h2, h6, hv4, hv5⟩ := clamp2 (cell0 L xs)
  have go : Zk 0 0 p l e room_1 s m #[Value.ref b] below meth c 4 (lw_Z below #[Value.ref b] s) (Hg D (AH s) s []) 0 (lv_args 0 [Value.ref b]) [] := by
    refine y_locals [0] [(0, .ref b)] rfl ?_
    refine y_new (pc := 0) (ci := 4) (C := RX4) (T := TX4) (N := 8) (index := 7) (fs := [.int 0, .int 0, .null, .null, .null, .null, .null, .null]) M hKy hA inlX4 tyX4 tyX4_ok wl_c4 wl_i4 wl_n4 rfl (by decide) (rcs 1 8 (by omega) (by omega)).1 (rcs 1 8 (by omega) (by omega)).2 dL_law_0 (fun b0 => ?_)
    refine y_dup (pc := 3) M dL_law_3 rfl ?_
    refine y_aload_n (pc := 4) M dL_law_4 rfl 0 rfl ?_
    refine y_iconst (v := 0) (pc := 5) M dL_law_5 (by decide) ?_
    refine yl_cell (pc := 6) M hX hX.no (Nat.le_of_ble_eq_true rfl) (rcs 1 8 (by omega) (by omega)).1 (rcs 1 8 (by omega) (by omega)).2 dL_law_6 ?_
    refine y_callI (R := room_1) (kC := 1) (kS := 8) (ws := []) (st := [.ref b0]) (pc := 9) (As := [.int (cell0 L xs)]) (index := 15) (nn := 1) M KC0 hA (kX4_init l D cy b0 n (cell0 L xs) h6 hv4) (cwI 1 M.1.2.2.2.2 gL_law_X4_init rfl rfl rfl (hw _ wl_n4) (hw _ wl_m4) (hw _ wl_s4) rfl (by decide +kernel) ⟨Nat.le_of_ble_eq_true rfl, Nat.le_of_ble_eq_true rfl⟩) rfl rfl (Nat.le_of_ble_eq_true rfl) dL_law_9 (rcs 36 903 (by omega) (by omega)) (fun u => ?_)
    refine y_astore_n (pc := 12) M dL_law_12 rfl (by decide) [0, 1] [(1, .ref b0), (0, .ref b)] rfl ?_
    refine y_new (pc := 13) (ci := 5) (C := RX5) (T := TX5) (N := 13) (index := 18) (fs := [.int 0, .int 0, .null, .null, .null, .null, .null, .null, .null, .null, .null, .null, .null]) M hKy hA inlX5 tyX5 tyX5_ok wl_c5 wl_i5 wl_n5 rfl (by decide) (rcs 37 916 (by omega) (by omega)).1 (rcs 37 916 (by omega) (by omega)).2 dL_law_13 (fun b1 => ?_)
    refine y_dup (pc := 16) M dL_law_16 rfl ?_
    refine y_aload_n (pc := 17) M dL_law_17 rfl 1 rfl ?_
    refine y_iconst (v := 0) (pc := 18) M dL_law_18 (by decide) ?_
    refine yl_cell (pc := 19) M hX hX.no (Nat.le_of_ble_eq_true rfl) (rcs 37 916 (by omega) (by omega)).1 (rcs 37 916 (by omega) (by omega)).2 dL_law_19 ?_
    refine y_callI (R := room_1) (kC := 37) (kS := 916) (st := [.ref b1]) (pc := 22) (As := [.int (cell0 L xs)]) (index := 20) (nn := 1) M KC0 hA (kX5_init l D cy b1 n (cell0 L xs) h6 hv5) (cwI 1 M.1.2.2.2.2 gL_law_X5_init rfl rfl rfl (hw _ wl_n5) (hw _ wl_m5) (hw _ wl_s5) rfl (by decide +kernel) ⟨Nat.le_of_ble_eq_true rfl, Nat.le_of_ble_eq_true rfl⟩) rfl rfl (Nat.le_of_ble_eq_true rfl) dL_law_22 (rcs 48 1743 (by omega) (by omega)) (fun v => ?_)
    refine y_astore_n (pc := 25) M dL_law_25 rfl (by decide) [0, 1, 2] [(2, .ref b1), (1, .ref b0), (0, .ref b)] rfl ?_
    refine y_iconst (v := nI 1) (pc := 26) M dL_law_26 (by decide) ?_
    refine y_istore_n (pc := 27) M dL_law_27 rfl (by decide) [0, 3, 2, 1] [(3, .int (nI 1)), (0, .ref b), (1, .ref b0), (2, .ref b1)] rfl ?_
    intro H locs ls hh hl
    obtain ⟨hP, hD, hS⟩ := hh
    obtain ⟨j1, j2⟩ := two_worlds hP hD
    obtain ⟨w1, w2, w3⟩ := rr_world j1 j2
    intro T hT X
    exact law_loop (n := n) (ad := ad2 b0 b1 u v) M ⟨hKy, hNN, w2⟩ w3 hX L 1 S0 (by omega) (by omega) (rel0 h2 h6) H [] ls ⟨rfl, w1, hS.1, hS.2.1, fun _ h => by cases h⟩ hl T hT (Stand.forget (extra := locs) X (fun q hq => hS.2.2 q hq))
  rw [lg_entry_eq]
  exact go _ _ _ ⟨(fun k q h => by cases h), ⟨(fun i j p q h => by cases h), (fun k q h => by cases h)⟩, va_S.rf⟩ (lv_entry [Value.ref b] (Nat.le_of_ble_eq_true rfl))
