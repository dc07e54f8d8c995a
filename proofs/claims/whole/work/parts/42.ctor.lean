/-! ===== constructors ===== -/
def S0 : St := (fun _ _ => 0, fun _ _ => 0)
section ZW
variable {kC kS kC' kS' : Nat} {p : Program} {l : Launch} {e : Env} {R : Room} {s : State} {m : MethodId} {args : Array Value} {below : List Frame} {meth : Method} {c : Code} {nL : Nat} {Q : State → Prop} {HP : Heap → List Loc → Prop} {pc : Nat} {lv : List (Nat × Value)} {st : List Value}
theorem y_widen (h1 : kC ≤ kC') (h2 : kS ≤ kS') (k : Zk kC' kS' p l e R s m args below meth c nL Q HP pc lv st) : Zk kC kS p l e R s m args below meth c nL Q HP pc lv st := fun H locs ls h hl => W.widen h1 h2 (k H locs ls h hl)
end ZW
theorem inI0 : ∀ w ∈ u_ws RX0 TX0 3, w ∈ wsX0_init := fun _ h => List.mem_cons_of_mem _ (List.mem_append_right _ h)
theorem inI1 : ∀ w ∈ u_ws RX1 TX1 4, w ∈ wsX1_init := fun _ h => List.mem_cons_of_mem _ (List.mem_append_right _ h)
theorem inI2 : ∀ w ∈ u_ws RX2 TX2 3, w ∈ wsX2_init := fun _ h => List.mem_cons_of_mem _ (List.mem_append_right _ h)
theorem inI3 : ∀ w ∈ u_ws RX3 TX3 2, w ∈ wsX3_init := fun _ h => List.mem_cons_of_mem _ (List.mem_append_right _ h)
theorem inI5 : ∀ w ∈ u_ws RX5 TX5 13, w ∈ wsX5_init := fun _ h => List.mem_cons_of_mem _ (List.mem_append_right _ h)
theorem cel_i {N : Nat} (cA : ClassId) : vp_cell cA (N, .inl (fun _ => 0)) = arrV cA N (fun _ => defaultValue .int) := rfl
theorem cel_z {N : Nat} (cA : ClassId) : vp_cell cA (N, .inl (fun _ => 0)) = arrV cA N (fun _ => defaultValue .boolean) := rfl
theorem cel_l {N : Nat} (cA : ClassId) : vp_cell cA (N, .inr (.inl (fun _ => 0))) = arrV cA N (fun _ => defaultValue .long) := rfl
theorem nneg {k : Nat} (h : k < 1000) : ¬ nI k < 0 := nI_pos (lt31 h)
section ZV
variable {kC kS : Nat} {p : Program} {l : Launch} {e : Env} {R : Room} {s : State} {m : MethodId} {args : Array Value} {below : List Frame} {meth : Method} {c : Code} {nL : Nat} {Q : State → Prop} {cc : ByteArray} {Ts : List Cond} {own : String} {ret : Option FieldType} {pc : Nat} {lv : List (Nat × Value)} {st : List Value} {D : va_G} {cy : Nat → Nat} {A : Nat → Prop} {ws : va_W}
theorem y_newI {N' : Nat} (M : MX p m c cc nL s args Ts own meth ret) (K : KC D cy s) (hA : ∀ q, s.heap.size ≤ q → A q) (hw : Cond.arrayClass .int ∈ Ts) (hN : N' < 1000) (hcells : kC + 1 ≤ R.cells) (hslots : kS + N' ≤ R.slots) (hd : decode cc pc = .ok (.newarray .int, 2)) (k : ∀ q, Zk (kC + 1) (kS + N') p l e R s m args below meth c nL Q (Hg D A s (ws ++ [(q, .inl (cy 0, (N', .inl (fun _ => 0))))])) (pc + 2) lv (.ref q :: st)) : Zk kC kS p l e R s m args below meth c nL Q (Hg D A s ws) pc lv (.int (nI N') :: st) :=
  y_newa (atype := .int) (ty := .int) (cA0 := cy 0) (N' := N') (a0 := (N', .inl (fun _ => 0))) M K hA hw rfl 0 rfl cel_i (nneg hN) (cl_nI hN) (by show N' * 4 ≤ 536870912; omega) hcells hslots hd k
theorem y_newJ {N' : Nat} (M : MX p m c cc nL s args Ts own meth ret) (K : KC D cy s) (hA : ∀ q, s.heap.size ≤ q → A q) (hw : Cond.arrayClass .long ∈ Ts) (hN : N' < 1000) (hcells : kC + 1 ≤ R.cells) (hslots : kS + N' ≤ R.slots) (hd : decode cc pc = .ok (.newarray .long, 2)) (k : ∀ q, Zk (kC + 1) (kS + N') p l e R s m args below meth c nL Q (Hg D A s (ws ++ [(q, .inl (cy 1, (N', .inr (.inl (fun _ => 0)))))])) (pc + 2) lv (.ref q :: st)) : Zk kC kS p l e R s m args below meth c nL Q (Hg D A s ws) pc lv (.int (nI N') :: st) :=
  y_newa (atype := .long) (ty := .long) (cA0 := cy 1) (N' := N') (a0 := (N', .inr (.inl (fun _ => 0)))) M K hA hw rfl 1 rfl cel_l (nneg hN) (cl_nI hN) (by show N' * 8 ≤ 536870912; omega) hcells hslots hd k
theorem y_newZ {N' : Nat} (M : MX p m c cc nL s args Ts own meth ret) (K : KC D cy s) (hA : ∀ q, s.heap.size ≤ q → A q) (hw : Cond.arrayClass .boolean ∈ Ts) (hN : N' < 1000) (hcells : kC + 1 ≤ R.cells) (hslots : kS + N' ≤ R.slots) (hd : decode cc pc = .ok (.newarray .boolean, 2)) (k : ∀ q, Zk (kC + 1) (kS + N') p l e R s m args below meth c nL Q (Hg D A s (ws ++ [(q, .inl (cy 2, (N', .inl (fun _ => 0))))])) (pc + 2) lv (.ref q :: st)) : Zk kC kS p l e R s m args below meth c nL Q (Hg D A s ws) pc lv (.int (nI N') :: st) :=
  y_newa (atype := .boolean) (ty := .boolean) (cA0 := cy 2) (N' := N') (a0 := (N', .inl (fun _ => 0))) M K hA hw rfl 2 rfl cel_z (nneg hN) (cl_nI hN) (by show N' * 1 ≤ 536870912; omega) hcells hslots hd k
end ZV
def rmX3_init : Room := { frames := 1, cells := 1, slots := 36, locals := 20 }
theorem kX3_init (l : Launch) (D : va_G) (cy : Nat → Nat) (h0 n : Nat) (h6 : n ≤ 6) : CI l D cy yX3_init wsX3_init rmX3_init 1 36 [.ref h0, .int (nI n)] h0 (.inr (3, [.int 0, .null])) (fun u => [(h0, .inr (3, [.int (nI n), .ref (u 0)])), (u 0, .inl (cy 0, n * n, .inl (fun _ => 0)))]) := by
  refine CI.of (own := RX3) (cc := cX3_init) (nL := 2) rfl (by decide) rfl rfl (Nat.le_of_ble_eq_true rfl) ?_
  intro p e s m args below meth c M K hm hA
  have hnn : n * n ≤ 36 := Nat.mul_le_mul h6 h6
  refine y_aload_n (pc := 0) M dX3_init_0 rfl 0 rfl ?_
  refine y_objInit (index := 1) (pc := 1) M (by decide +kernel) (by decide +kernel) (by decide +kernel) (Nat.le_of_ble_eq_true rfl) (Nat.le_of_ble_eq_true rfl) dX3_init_1 ?_
  refine y_aload_n (pc := 4) M dX3_init_4 rfl 0 rfl ?_
  refine y_iload_n (pc := 5) M dX3_init_5 rfl 1 rfl ?_
  refine y_putF (pc := 6) (ci := 3) (C := RX3) (T := TX3) (N := 2) (ref := "ShunLots$Table") (index := 7) (ty := .int) M K hm inI3 tyX3 tyX3_ok nmX3 0 rfl rfl 0 (by decide) (by decide +kernel) rfl rfl rfl rfl rfl rfl (Nat.le_of_ble_eq_true rfl) dX3_init_6 ?_
  refine y_world (ws' := [(h0, .inr (3, [.int (nI n), .null]))]) rfl rfl rfl ?_
  refine y_aload_n (pc := 9) M dX3_init_9 rfl 0 rfl ?_
  refine y_iload_n (pc := 10) M dX3_init_10 rfl 1 rfl ?_
  refine y_iload_n (pc := 11) M dX3_init_11 rfl 1 rfl ?_
  refine y_imul (pc := 12) M dX3_init_12 ?_
  rw [pk_mul]
  refine y_newI (N' := n * n) (pc := 13) M K hA (by decide +kernel) (by omega) (Nat.le_of_ble_eq_true rfl) (by show 0 + n * n ≤ 36; omega) dX3_init_13 (fun q => ?_)
  refine y_widen (kC' := 1) (kS' := 36) (Nat.le_of_ble_eq_true rfl) (by omega) ?_
  refine y_putF (pc := 15) (ci := 3) (C := RX3) (T := TX3) (N := 2) (ref := "ShunLots$Table") (index := 13) (ty := (.array .int)) M K hm inI3 tyX3 tyX3_ok nmX3 0 rfl rfl 1 (by decide) (by decide +kernel) rfl rfl rfl rfl rfl rfl (Nat.le_of_ble_eq_true rfl) dX3_init_15 ?_
  refine y_world (ws' := [(h0, .inr (3, [.int (nI n), .ref q])), (q, .inl (cy 0, n * n, .inl (fun _ => 0)))]) rfl rfl rfl ?_
  exact y_retI (pc := 18) M (Nat.le_of_ble_eq_true rfl) (Nat.le_of_ble_eq_true rfl) (fun _ => q) (fun H h1 h2 => ⟨h1, h2⟩) dX3_init_18
def rmX0_init : Room := { frames := 1, cells := 1, slots := 64, locals := 20 }
theorem kX0_init (l : Launch) (D : va_G) (cy : Nat → Nat) (h0 n : Nat) (h6 : n ≤ 6) : CI l D cy yX0_init wsX0_init rmX0_init 1 64 [.ref h0, .int (nI (2 ^ n))] h0 (.inr (0, [.null, .long 0, .int 0])) (fun u => [(h0, .inr (0, [.ref (u 0), .long 0, .int 0])), (u 0, .inl (cy 1, 2 ^ n, .inr (.inl (fun _ => 0))))]) := by
  refine CI.of (own := RX0) (cc := cX0_init) (nL := 2) rfl (by decide) rfl rfl (Nat.le_of_ble_eq_true rfl) ?_
  intro p e s m args below meth c M K hm hA
  have hN := pw_le h6
  refine y_aload_n (pc := 0) M dX0_init_0 rfl 0 rfl ?_
  refine y_objInit (index := 1) (pc := 1) M (by decide +kernel) (by decide +kernel) (by decide +kernel) (Nat.le_of_ble_eq_true rfl) (Nat.le_of_ble_eq_true rfl) dX0_init_1 ?_
  refine y_aload_n (pc := 4) M dX0_init_4 rfl 0 rfl ?_
  refine y_iload_n (pc := 5) M dX0_init_5 rfl 1 rfl ?_
  refine y_newJ (N' := 2 ^ n) (pc := 6) M K hA (by decide +kernel) (by omega) (Nat.le_of_ble_eq_true rfl) (by show 0 + 2 ^ n ≤ 64; omega) dX0_init_6 (fun q => ?_)
  refine y_widen (kC' := 1) (kS' := 64) (Nat.le_of_ble_eq_true rfl) (by omega) ?_
  refine y_putF (pc := 8) (ci := 0) (C := RX0) (T := TX0) (N := 3) (ref := "ShunLots$Law") (index := 7) (ty := (.array .long)) M K hm inI0 tyX0 tyX0_ok nmX0 0 rfl rfl 0 (by decide) (by decide +kernel) rfl rfl rfl rfl rfl rfl (Nat.le_of_ble_eq_true rfl) dX0_init_8 ?_
  refine y_world (ws' := [(h0, .inr (0, [.ref q, .long 0, .int 0])), (q, .inl (cy 1, 2 ^ n, .inr (.inl (fun _ => 0))))]) rfl rfl rfl ?_
  exact y_retI (pc := 11) M (Nat.le_of_ble_eq_true rfl) (Nat.le_of_ble_eq_true rfl) (fun _ => q) (fun H h1 h2 => ⟨h1, h2⟩) dX0_init_11
def rmX1_init : Room := { frames := 1, cells := 3, slots := 18, locals := 20 }
theorem kX1_init (l : Launch) (D : va_G) (cy : Nat → Nat) (h0 n : Nat) (h6 : n ≤ 6) : CI l D cy yX1_init wsX1_init rmX1_init 3 18 [.ref h0, .int (nI n)] h0 (.inr (1, [.int 0, .null, .null, .null])) (fun u => [(h0, .inr (1, [.int (nI n), .ref (u 0), .ref (u 1), .ref (u 2)])), (u 0, .inl (cy 0, n, .inl (fun _ => 0))), (u 1, .inl (cy 0, n, .inl (fun _ => 0))), (u 2, .inl (cy 0, n, .inl (fun _ => 0)))]) := by
  refine CI.of (own := RX1) (cc := cX1_init) (nL := 2) rfl (by decide) rfl rfl (Nat.le_of_ble_eq_true rfl) ?_
  intro p e s m args below meth c M K hm hA
  refine y_aload_n (pc := 0) M dX1_init_0 rfl 0 rfl ?_
  refine y_objInit (index := 1) (pc := 1) M (by decide +kernel) (by decide +kernel) (by decide +kernel) (Nat.le_of_ble_eq_true rfl) (Nat.le_of_ble_eq_true rfl) dX1_init_1 ?_
  refine y_aload_n (pc := 4) M dX1_init_4 rfl 0 rfl ?_
  refine y_iload_n (pc := 5) M dX1_init_5 rfl 1 rfl ?_
  refine y_putF (pc := 6) (ci := 1) (C := RX1) (T := TX1) (N := 4) (ref := "ShunLots$Net") (index := 7) (ty := .int) M K hm inI1 tyX1 tyX1_ok nmX1 0 rfl rfl 0 (by decide) (by decide +kernel) rfl rfl rfl rfl rfl rfl (Nat.le_of_ble_eq_true rfl) dX1_init_6 ?_
  refine y_world (ws' := [(h0, .inr (1, [.int (nI n), .null, .null, .null]))]) rfl rfl rfl ?_
  refine y_aload_n (pc := 9) M dX1_init_9 rfl 0 rfl ?_
  refine y_iload_n (pc := 10) M dX1_init_10 rfl 1 rfl ?_
  refine y_newI (N' := n) (pc := 11) M K hA (by decide +kernel) (by omega) (Nat.le_of_ble_eq_true rfl) (by show 0 + n ≤ 18; omega) dX1_init_11 (fun q0 => ?_)
  refine y_widen (kC' := 1) (kS' := 6) (Nat.le_of_ble_eq_true rfl) (by omega) ?_
  refine y_putF (pc := 13) (ci := 1) (C := RX1) (T := TX1) (N := 4) (ref := "ShunLots$Net") (index := 13) (ty := (.array .int)) M K hm inI1 tyX1 tyX1_ok nmX1 0 rfl rfl 1 (by decide) (by decide +kernel) rfl rfl rfl rfl rfl rfl (Nat.le_of_ble_eq_true rfl) dX1_init_13 ?_
  refine y_world (ws' := [(h0, .inr (1, [.int (nI n), .ref q0, .null, .null])), (q0, .inl (cy 0, n, .inl (fun _ => 0)))]) rfl rfl rfl ?_
  refine y_aload_n (pc := 16) M dX1_init_16 rfl 0 rfl ?_
  refine y_iload_n (pc := 17) M dX1_init_17 rfl 1 rfl ?_
  refine y_newI (N' := n) (pc := 18) M K hA (by decide +kernel) (by omega) (Nat.le_of_ble_eq_true rfl) (by show 6 + n ≤ 18; omega) dX1_init_18 (fun q1 => ?_)
  refine y_widen (kC' := 2) (kS' := 12) (Nat.le_of_ble_eq_true rfl) (by omega) ?_
  refine y_putF (pc := 20) (ci := 1) (C := RX1) (T := TX1) (N := 4) (ref := "ShunLots$Net") (index := 17) (ty := (.array .int)) M K hm inI1 tyX1 tyX1_ok nmX1 0 rfl rfl 2 (by decide) (by decide +kernel) rfl rfl rfl rfl rfl rfl (Nat.le_of_ble_eq_true rfl) dX1_init_20 ?_
  refine y_world (ws' := [(h0, .inr (1, [.int (nI n), .ref q0, .ref q1, .null])), (q0, .inl (cy 0, n, .inl (fun _ => 0))), (q1, .inl (cy 0, n, .inl (fun _ => 0)))]) rfl rfl rfl ?_
  refine y_aload_n (pc := 23) M dX1_init_23 rfl 0 rfl ?_
  refine y_iload_n (pc := 24) M dX1_init_24 rfl 1 rfl ?_
  refine y_newI (N' := n) (pc := 25) M K hA (by decide +kernel) (by omega) (Nat.le_of_ble_eq_true rfl) (by show 12 + n ≤ 18; omega) dX1_init_25 (fun q2 => ?_)
  refine y_widen (kC' := 3) (kS' := 18) (Nat.le_of_ble_eq_true rfl) (by omega) ?_
  refine y_putF (pc := 27) (ci := 1) (C := RX1) (T := TX1) (N := 4) (ref := "ShunLots$Net") (index := 20) (ty := (.array .int)) M K hm inI1 tyX1 tyX1_ok nmX1 0 rfl rfl 3 (by decide) (by decide +kernel) rfl rfl rfl rfl rfl rfl (Nat.le_of_ble_eq_true rfl) dX1_init_27 ?_
  refine y_world (ws' := [(h0, .inr (1, [.int (nI n), .ref q0, .ref q1, .ref q2])), (q0, .inl (cy 0, n, .inl (fun _ => 0))), (q1, .inl (cy 0, n, .inl (fun _ => 0))), (q2, .inl (cy 0, n, .inl (fun _ => 0)))]) rfl rfl rfl ?_
  exact y_retI (pc := 30) M (Nat.le_of_ble_eq_true rfl) (Nat.le_of_ble_eq_true rfl) (fun k => [q0, q1, q2].getD k 0) (fun H h1 h2 => ⟨h1, h2⟩) dX1_init_30
def rmX2_init : Room := { frames := 1, cells := 2, slots := 100, locals := 20 }
theorem kX2_init (l : Launch) (D : va_G) (cy : Nat → Nat) (h0 : Nat) : CI l D cy yX2_init wsX2_init rmX2_init 2 100 [.ref h0] h0 (.inr (2, [.null, .null, .int 0])) (fun u => [(h0, .inr (2, [.ref (u 0), .ref (u 1), .int 0])), (u 0, .inl (cy 1, 36, .inr (.inl (fun _ => 0)))), (u 1, .inl (cy 1, 64, .inr (.inl (fun _ => 0))))]) := by
  refine CI.of (own := RX2) (cc := cX2_init) (nL := 1) rfl (by decide) rfl rfl (Nat.le_of_ble_eq_true rfl) ?_
  intro p e s m args below meth c M K hm hA
  refine y_aload_n (pc := 0) M dX2_init_0 rfl 0 rfl ?_
  refine y_objInit (index := 3) (pc := 1) M (by decide +kernel) (by decide +kernel) (by decide +kernel) (Nat.le_of_ble_eq_true rfl) (Nat.le_of_ble_eq_true rfl) dX2_init_1 ?_
  refine y_aload_n (pc := 4) M dX2_init_4 rfl 0 rfl ?_
  refine y_bipush (v := nI 36) (pc := 5) M dX2_init_5 (by decide) ?_
  refine y_newJ (N' := 36) (pc := 7) M K hA (by decide +kernel) (by omega) (Nat.le_of_ble_eq_true rfl) (Nat.le_of_ble_eq_true rfl) dX2_init_7 (fun q0 => ?_)
  refine y_putF (pc := 9) (ci := 2) (C := RX2) (T := TX2) (N := 3) (ref := "ShunLots$Square") (index := 9) (ty := (.array .long)) M K hm inI2 tyX2 tyX2_ok nmX2 0 rfl rfl 0 (by decide) (by decide +kernel) rfl rfl rfl rfl rfl rfl (Nat.le_of_ble_eq_true rfl) dX2_init_9 ?_
  refine y_world (ws' := [(h0, .inr (2, [.ref q0, .null, .int 0])), (q0, .inl (cy 1, 36, .inr (.inl (fun _ => 0))))]) rfl rfl rfl ?_
  refine y_aload_n (pc := 12) M dX2_init_12 rfl 0 rfl ?_
  refine y_bipush (v := nI 64) (pc := 13) M dX2_init_13 (by decide) ?_
  refine y_newJ (N' := 64) (pc := 15) M K hA (by decide +kernel) (by omega) (Nat.le_of_ble_eq_true rfl) (Nat.le_of_ble_eq_true rfl) dX2_init_15 (fun q1 => ?_)
  refine y_putF (pc := 17) (ci := 2) (C := RX2) (T := TX2) (N := 3) (ref := "ShunLots$Square") (index := 15) (ty := (.array .long)) M K hm inI2 tyX2 tyX2_ok nmX2 0 rfl rfl 1 (by decide) (by decide +kernel) rfl rfl rfl rfl rfl rfl (Nat.le_of_ble_eq_true rfl) dX2_init_17 ?_
  refine y_world (ws' := [(h0, .inr (2, [.ref q0, .ref q1, .int 0])), (q0, .inl (cy 1, 36, .inr (.inl (fun _ => 0)))), (q1, .inl (cy 1, 64, .inr (.inl (fun _ => 0))))]) rfl rfl rfl ?_
  exact y_retI (pc := 20) M (Nat.le_of_ble_eq_true rfl) (Nat.le_of_ble_eq_true rfl) (fun k => [q0, q1].getD k 0) (fun H h1 h2 => ⟨h1, h2⟩) dX2_init_20
def r5 : List Nat := [12, 37, 38, 39, 40, 41, 42, 43, 44, 45, 46, 47]
def W5 (cy u : Nat → Nat) (n : Nat) : va_W := r5.map (fun r => (u r, wC cy u n S0 r))
def rmX5_init : Room := { frames := 1, cells := 11, slots := 827, locals := 20 }
set_option maxRecDepth 20000 in
theorem kX5_init (l : Launch) (D : va_G) (cy : Nat → Nat) (h0 n : Nat) (p0 : Int32) (h6 : n ≤ 6) (hv : (if p0 < 2 then (2 : Int32) else if 6 < p0 then 6 else p0) = nI n) : CI l D cy yX5_init wsX5_init rmX5_init 11 827 [.ref h0, .int p0] h0 (.inr (5, [.int 0, .int 0, .null, .null, .null, .null, .null, .null, .null, .null, .null, .null, .null])) (fun u => (h0, wC cy u n S0 12) :: (r5.drop 1).map (fun r => (u r, wC cy u n S0 r))) := by
  refine CI.of (own := RX5) (cc := cX5_init) (nL := 2) rfl (by decide) rfl rfl (Nat.le_of_ble_eq_true rfl) ?_
  intro p e s m args below meth c M K hm hA
  refine y_aload_n (pc := 0) M dX5_init_0 rfl 0 rfl ?_
  refine y_objInit (index := 1) (pc := 1) M (by decide +kernel) (by decide +kernel) (by decide +kernel) (Nat.le_of_ble_eq_true rfl) (Nat.le_of_ble_eq_true rfl) dX5_init_1 ?_
  refine y_aload_n (pc := 4) M dX5_init_4 rfl 0 rfl ?_
  refine y_sipush (v := nI 216) (pc := 5) M dX5_init_5 (by decide) ?_
  refine y_newI (N' := 216) (pc := 8) M K hA (by decide +kernel) (by omega) (Nat.le_of_ble_eq_true rfl) (Nat.le_of_ble_eq_true rfl) dX5_init_8 (fun q0 => ?_)
  refine y_putF (pc := 10) (ci := 5) (C := RX5) (T := TX5) (N := 13) (ref := "ShunLotsModel") (index := 7) (ty := (.array .int)) M K hm inI5 tyX5 tyX5_ok nmX5 0 rfl rfl 2 (by decide) (by decide +kernel) rfl rfl rfl rfl rfl rfl (Nat.le_of_ble_eq_true rfl) dX5_init_10 ?_
  refine y_world (ws' := [(h0, .inr (5, [.int 0, .int 0, .ref q0, .null, .null, .null, .null, .null, .null, .null, .null, .null, .null])), (q0, .inl (cy 0, 216, .inl (fun _ => 0)))]) rfl rfl rfl ?_
  refine y_aload_n (pc := 13) M dX5_init_13 rfl 0 rfl ?_
  refine y_bipush (v := nI 6) (pc := 14) M dX5_init_14 (by decide) ?_
  refine y_newI (N' := 6) (pc := 16) M K hA (by decide +kernel) (by omega) (Nat.le_of_ble_eq_true rfl) (Nat.le_of_ble_eq_true rfl) dX5_init_16 (fun q1 => ?_)
  refine y_putF (pc := 18) (ci := 5) (C := RX5) (T := TX5) (N := 13) (ref := "ShunLotsModel") (index := 13) (ty := (.array .int)) M K hm inI5 tyX5 tyX5_ok nmX5 0 rfl rfl 3 (by decide) (by decide +kernel) rfl rfl rfl rfl rfl rfl (Nat.le_of_ble_eq_true rfl) dX5_init_18 ?_
  refine y_world (ws' := [(h0, .inr (5, [.int 0, .int 0, .ref q0, .ref q1, .null, .null, .null, .null, .null, .null, .null, .null, .null])), (q0, .inl (cy 0, 216, .inl (fun _ => 0))), (q1, .inl (cy 0, 6, .inl (fun _ => 0)))]) rfl rfl rfl ?_
  refine y_aload_n (pc := 21) M dX5_init_21 rfl 0 rfl ?_
  refine y_bipush (v := nI 64) (pc := 22) M dX5_init_22 (by decide) ?_
  refine y_newJ (N' := 64) (pc := 24) M K hA (by decide +kernel) (by omega) (Nat.le_of_ble_eq_true rfl) (Nat.le_of_ble_eq_true rfl) dX5_init_24 (fun q2 => ?_)
  refine y_putF (pc := 26) (ci := 5) (C := RX5) (T := TX5) (N := 13) (ref := "ShunLotsModel") (index := 16) (ty := (.array .long)) M K hm inI5 tyX5 tyX5_ok nmX5 0 rfl rfl 4 (by decide) (by decide +kernel) rfl rfl rfl rfl rfl rfl (Nat.le_of_ble_eq_true rfl) dX5_init_26 ?_
  refine y_world (ws' := [(h0, .inr (5, [.int 0, .int 0, .ref q0, .ref q1, .ref q2, .null, .null, .null, .null, .null, .null, .null, .null])), (q0, .inl (cy 0, 216, .inl (fun _ => 0))), (q1, .inl (cy 0, 6, .inl (fun _ => 0))), (q2, .inl (cy 1, 64, .inr (.inl (fun _ => 0))))]) rfl rfl rfl ?_
  refine y_aload_n (pc := 29) M dX5_init_29 rfl 0 rfl ?_
  refine y_sipush (v := nI 384) (pc := 30) M dX5_init_30 (by decide) ?_
  refine y_newJ (N' := 384) (pc := 33) M K hA (by decide +kernel) (by omega) (Nat.le_of_ble_eq_true rfl) (Nat.le_of_ble_eq_true rfl) dX5_init_33 (fun q3 => ?_)
  refine y_putF (pc := 35) (ci := 5) (C := RX5) (T := TX5) (N := 13) (ref := "ShunLotsModel") (index := 20) (ty := (.array .long)) M K hm inI5 tyX5 tyX5_ok nmX5 0 rfl rfl 5 (by decide) (by decide +kernel) rfl rfl rfl rfl rfl rfl (Nat.le_of_ble_eq_true rfl) dX5_init_35 ?_
  refine y_world (ws' := [(h0, .inr (5, [.int 0, .int 0, .ref q0, .ref q1, .ref q2, .ref q3, .null, .null, .null, .null, .null, .null, .null])), (q0, .inl (cy 0, 216, .inl (fun _ => 0))), (q1, .inl (cy 0, 6, .inl (fun _ => 0))), (q2, .inl (cy 1, 64, .inr (.inl (fun _ => 0)))), (q3, .inl (cy 1, 384, .inr (.inl (fun _ => 0))))]) rfl rfl rfl ?_
  refine y_aload_n (pc := 38) M dX5_init_38 rfl 0 rfl ?_
  refine y_bipush (v := nI 64) (pc := 39) M dX5_init_39 (by decide) ?_
  refine y_newJ (N' := 64) (pc := 41) M K hA (by decide +kernel) (by omega) (Nat.le_of_ble_eq_true rfl) (Nat.le_of_ble_eq_true rfl) dX5_init_41 (fun q4 => ?_)
  refine y_putF (pc := 43) (ci := 5) (C := RX5) (T := TX5) (N := 13) (ref := "ShunLotsModel") (index := 23) (ty := (.array .long)) M K hm inI5 tyX5 tyX5_ok nmX5 0 rfl rfl 6 (by decide) (by decide +kernel) rfl rfl rfl rfl rfl rfl (Nat.le_of_ble_eq_true rfl) dX5_init_43 ?_
  refine y_world (ws' := [(h0, .inr (5, [.int 0, .int 0, .ref q0, .ref q1, .ref q2, .ref q3, .ref q4, .null, .null, .null, .null, .null, .null])), (q0, .inl (cy 0, 216, .inl (fun _ => 0))), (q1, .inl (cy 0, 6, .inl (fun _ => 0))), (q2, .inl (cy 1, 64, .inr (.inl (fun _ => 0)))), (q3, .inl (cy 1, 384, .inr (.inl (fun _ => 0)))), (q4, .inl (cy 1, 64, .inr (.inl (fun _ => 0))))]) rfl rfl rfl ?_
  refine y_aload_n (pc := 46) M dX5_init_46 rfl 0 rfl ?_
  refine y_bipush (v := nI 64) (pc := 47) M dX5_init_47 (by decide) ?_
  refine y_newJ (N' := 64) (pc := 49) M K hA (by decide +kernel) (by omega) (Nat.le_of_ble_eq_true rfl) (Nat.le_of_ble_eq_true rfl) dX5_init_49 (fun q5 => ?_)
  refine y_putF (pc := 51) (ci := 5) (C := RX5) (T := TX5) (N := 13) (ref := "ShunLotsModel") (index := 26) (ty := (.array .long)) M K hm inI5 tyX5 tyX5_ok nmX5 0 rfl rfl 7 (by decide) (by decide +kernel) rfl rfl rfl rfl rfl rfl (Nat.le_of_ble_eq_true rfl) dX5_init_51 ?_
  refine y_world (ws' := [(h0, .inr (5, [.int 0, .int 0, .ref q0, .ref q1, .ref q2, .ref q3, .ref q4, .ref q5, .null, .null, .null, .null, .null])), (q0, .inl (cy 0, 216, .inl (fun _ => 0))), (q1, .inl (cy 0, 6, .inl (fun _ => 0))), (q2, .inl (cy 1, 64, .inr (.inl (fun _ => 0)))), (q3, .inl (cy 1, 384, .inr (.inl (fun _ => 0)))), (q4, .inl (cy 1, 64, .inr (.inl (fun _ => 0)))), (q5, .inl (cy 1, 64, .inr (.inl (fun _ => 0))))]) rfl rfl rfl ?_
  refine y_aload_n (pc := 54) M dX5_init_54 rfl 0 rfl ?_
  refine y_bipush (v := nI 6) (pc := 55) M dX5_init_55 (by decide) ?_
  refine y_newZ (N' := 6) (pc := 57) M K hA (by decide +kernel) (by omega) (Nat.le_of_ble_eq_true rfl) (Nat.le_of_ble_eq_true rfl) dX5_init_57 (fun q6 => ?_)
  refine y_putF (pc := 59) (ci := 5) (C := RX5) (T := TX5) (N := 13) (ref := "ShunLotsModel") (index := 29) (ty := (.array .boolean)) M K hm inI5 tyX5 tyX5_ok nmX5 0 rfl rfl 8 (by decide) (by decide +kernel) rfl rfl rfl rfl rfl rfl (Nat.le_of_ble_eq_true rfl) dX5_init_59 ?_
  refine y_world (ws' := [(h0, .inr (5, [.int 0, .int 0, .ref q0, .ref q1, .ref q2, .ref q3, .ref q4, .ref q5, .ref q6, .null, .null, .null, .null])), (q0, .inl (cy 0, 216, .inl (fun _ => 0))), (q1, .inl (cy 0, 6, .inl (fun _ => 0))), (q2, .inl (cy 1, 64, .inr (.inl (fun _ => 0)))), (q3, .inl (cy 1, 384, .inr (.inl (fun _ => 0)))), (q4, .inl (cy 1, 64, .inr (.inl (fun _ => 0)))), (q5, .inl (cy 1, 64, .inr (.inl (fun _ => 0)))), (q6, .inl (cy 2, 6, .inl (fun _ => 0)))]) rfl rfl rfl ?_
  refine y_aload_n (pc := 62) M dX5_init_62 rfl 0 rfl ?_
  refine y_bipush (v := nI 6) (pc := 63) M dX5_init_63 (by decide) ?_
  refine y_newI (N' := 6) (pc := 65) M K hA (by decide +kernel) (by omega) (Nat.le_of_ble_eq_true rfl) (Nat.le_of_ble_eq_true rfl) dX5_init_65 (fun q7 => ?_)
  refine y_putF (pc := 67) (ci := 5) (C := RX5) (T := TX5) (N := 13) (ref := "ShunLotsModel") (index := 33) (ty := (.array .int)) M K hm inI5 tyX5 tyX5_ok nmX5 0 rfl rfl 9 (by decide) (by decide +kernel) rfl rfl rfl rfl rfl rfl (Nat.le_of_ble_eq_true rfl) dX5_init_67 ?_
  refine y_world (ws' := [(h0, .inr (5, [.int 0, .int 0, .ref q0, .ref q1, .ref q2, .ref q3, .ref q4, .ref q5, .ref q6, .ref q7, .null, .null, .null])), (q0, .inl (cy 0, 216, .inl (fun _ => 0))), (q1, .inl (cy 0, 6, .inl (fun _ => 0))), (q2, .inl (cy 1, 64, .inr (.inl (fun _ => 0)))), (q3, .inl (cy 1, 384, .inr (.inl (fun _ => 0)))), (q4, .inl (cy 1, 64, .inr (.inl (fun _ => 0)))), (q5, .inl (cy 1, 64, .inr (.inl (fun _ => 0)))), (q6, .inl (cy 2, 6, .inl (fun _ => 0))), (q7, .inl (cy 0, 6, .inl (fun _ => 0)))]) rfl rfl rfl ?_
  refine y_aload_n (pc := 70) M dX5_init_70 rfl 0 rfl ?_
  refine y_bipush (v := nI 6) (pc := 71) M dX5_init_71 (by decide) ?_
  refine y_newI (N' := 6) (pc := 73) M K hA (by decide +kernel) (by omega) (Nat.le_of_ble_eq_true rfl) (Nat.le_of_ble_eq_true rfl) dX5_init_73 (fun q8 => ?_)
  refine y_putF (pc := 75) (ci := 5) (C := RX5) (T := TX5) (N := 13) (ref := "ShunLotsModel") (index := 36) (ty := (.array .int)) M K hm inI5 tyX5 tyX5_ok nmX5 0 rfl rfl 10 (by decide) (by decide +kernel) rfl rfl rfl rfl rfl rfl (Nat.le_of_ble_eq_true rfl) dX5_init_75 ?_
  refine y_world (ws' := [(h0, .inr (5, [.int 0, .int 0, .ref q0, .ref q1, .ref q2, .ref q3, .ref q4, .ref q5, .ref q6, .ref q7, .ref q8, .null, .null])), (q0, .inl (cy 0, 216, .inl (fun _ => 0))), (q1, .inl (cy 0, 6, .inl (fun _ => 0))), (q2, .inl (cy 1, 64, .inr (.inl (fun _ => 0)))), (q3, .inl (cy 1, 384, .inr (.inl (fun _ => 0)))), (q4, .inl (cy 1, 64, .inr (.inl (fun _ => 0)))), (q5, .inl (cy 1, 64, .inr (.inl (fun _ => 0)))), (q6, .inl (cy 2, 6, .inl (fun _ => 0))), (q7, .inl (cy 0, 6, .inl (fun _ => 0))), (q8, .inl (cy 0, 6, .inl (fun _ => 0)))]) rfl rfl rfl ?_
  refine y_aload_n (pc := 78) M dX5_init_78 rfl 0 rfl ?_
  refine y_bipush (v := nI 6) (pc := 79) M dX5_init_79 (by decide) ?_
  refine y_newI (N' := 6) (pc := 81) M K hA (by decide +kernel) (by omega) (Nat.le_of_ble_eq_true rfl) (Nat.le_of_ble_eq_true rfl) dX5_init_81 (fun q9 => ?_)
  refine y_putF (pc := 83) (ci := 5) (C := RX5) (T := TX5) (N := 13) (ref := "ShunLotsModel") (index := 39) (ty := (.array .int)) M K hm inI5 tyX5 tyX5_ok nmX5 0 rfl rfl 11 (by decide) (by decide +kernel) rfl rfl rfl rfl rfl rfl (Nat.le_of_ble_eq_true rfl) dX5_init_83 ?_
  refine y_world (ws' := [(h0, .inr (5, [.int 0, .int 0, .ref q0, .ref q1, .ref q2, .ref q3, .ref q4, .ref q5, .ref q6, .ref q7, .ref q8, .ref q9, .null])), (q0, .inl (cy 0, 216, .inl (fun _ => 0))), (q1, .inl (cy 0, 6, .inl (fun _ => 0))), (q2, .inl (cy 1, 64, .inr (.inl (fun _ => 0)))), (q3, .inl (cy 1, 384, .inr (.inl (fun _ => 0)))), (q4, .inl (cy 1, 64, .inr (.inl (fun _ => 0)))), (q5, .inl (cy 1, 64, .inr (.inl (fun _ => 0)))), (q6, .inl (cy 2, 6, .inl (fun _ => 0))), (q7, .inl (cy 0, 6, .inl (fun _ => 0))), (q8, .inl (cy 0, 6, .inl (fun _ => 0))), (q9, .inl (cy 0, 6, .inl (fun _ => 0)))]) rfl rfl rfl ?_
  refine y_aload_n (pc := 86) M dX5_init_86 rfl 0 rfl ?_
  refine y_iconst (v := nI 5) (pc := 87) M dX5_init_87 (by decide) ?_
  refine y_newI (N' := 5) (pc := 88) M K hA (by decide +kernel) (by omega) (Nat.le_of_ble_eq_true rfl) (Nat.le_of_ble_eq_true rfl) dX5_init_88 (fun q10 => ?_)
  refine y_putF (pc := 90) (ci := 5) (C := RX5) (T := TX5) (N := 13) (ref := "ShunLotsModel") (index := 42) (ty := (.array .int)) M K hm inI5 tyX5 tyX5_ok nmX5 0 rfl rfl 12 (by decide) (by decide +kernel) rfl rfl rfl rfl rfl rfl (Nat.le_of_ble_eq_true rfl) dX5_init_90 ?_
  refine y_world (ws' := [(h0, .inr (5, [.int 0, .int 0, .ref q0, .ref q1, .ref q2, .ref q3, .ref q4, .ref q5, .ref q6, .ref q7, .ref q8, .ref q9, .ref q10])), (q0, .inl (cy 0, 216, .inl (fun _ => 0))), (q1, .inl (cy 0, 6, .inl (fun _ => 0))), (q2, .inl (cy 1, 64, .inr (.inl (fun _ => 0)))), (q3, .inl (cy 1, 384, .inr (.inl (fun _ => 0)))), (q4, .inl (cy 1, 64, .inr (.inl (fun _ => 0)))), (q5, .inl (cy 1, 64, .inr (.inl (fun _ => 0)))), (q6, .inl (cy 2, 6, .inl (fun _ => 0))), (q7, .inl (cy 0, 6, .inl (fun _ => 0))), (q8, .inl (cy 0, 6, .inl (fun _ => 0))), (q9, .inl (cy 0, 6, .inl (fun _ => 0))), (q10, .inl (cy 0, 5, .inl (fun _ => 0)))]) rfl rfl rfl ?_
  refine y_aload_n (pc := 93) M dX5_init_93 rfl 0 rfl ?_
  have tail : Zk 11 827 p l e rmX5_init s m args below meth c 2 (Qc D below args s 11 827 h0 (.inr (5, [.int 0, .int 0, .null, .null, .null, .null, .null, .null, .null, .null, .null, .null, .null])) (fun u => (h0, wC cy u n S0 12) :: (r5.drop 1).map (fun r => (u r, wC cy u n S0 r)))) (Hg D (va_A [(h0, (.inr (5, [.int 0, .int 0, .null, .null, .null, .null, .null, .null, .null, .null, .null, .null, .null])))] s.heap.size) s [(h0, .inr (5, [.int 0, .int 0, .ref q0, .ref q1, .ref q2, .ref q3, .ref q4, .ref q5, .ref q6, .ref q7, .ref q8, .ref q9, .ref q10])), (q0, .inl (cy 0, 216, .inl (fun _ => 0))), (q1, .inl (cy 0, 6, .inl (fun _ => 0))), (q2, .inl (cy 1, 64, .inr (.inl (fun _ => 0)))), (q3, .inl (cy 1, 384, .inr (.inl (fun _ => 0)))), (q4, .inl (cy 1, 64, .inr (.inl (fun _ => 0)))), (q5, .inl (cy 1, 64, .inr (.inl (fun _ => 0)))), (q6, .inl (cy 2, 6, .inl (fun _ => 0))), (q7, .inl (cy 0, 6, .inl (fun _ => 0))), (q8, .inl (cy 0, 6, .inl (fun _ => 0))), (q9, .inl (cy 0, 6, .inl (fun _ => 0))), (q10, .inl (cy 0, 5, .inl (fun _ => 0)))]) 115 [(0, .ref h0), (1, .int p0)] [.int (nI n), .ref h0] := by
    refine y_putF (pc := 115) (ci := 5) (C := RX5) (T := TX5) (N := 13) (ref := "ShunLotsModel") (index := 45) (ty := .int) M K hm inI5 tyX5 tyX5_ok nmX5 0 rfl rfl 0 (by decide) (by decide +kernel) rfl rfl rfl rfl rfl rfl (Nat.le_of_ble_eq_true rfl) dX5_init_115 ?_
    refine y_world (ws' := [(h0, .inr (5, [.int (nI n), .int 0, .ref q0, .ref q1, .ref q2, .ref q3, .ref q4, .ref q5, .ref q6, .ref q7, .ref q8, .ref q9, .ref q10])), (q0, .inl (cy 0, 216, .inl (fun _ => 0))), (q1, .inl (cy 0, 6, .inl (fun _ => 0))), (q2, .inl (cy 1, 64, .inr (.inl (fun _ => 0)))), (q3, .inl (cy 1, 384, .inr (.inl (fun _ => 0)))), (q4, .inl (cy 1, 64, .inr (.inl (fun _ => 0)))), (q5, .inl (cy 1, 64, .inr (.inl (fun _ => 0)))), (q6, .inl (cy 2, 6, .inl (fun _ => 0))), (q7, .inl (cy 0, 6, .inl (fun _ => 0))), (q8, .inl (cy 0, 6, .inl (fun _ => 0))), (q9, .inl (cy 0, 6, .inl (fun _ => 0))), (q10, .inl (cy 0, 5, .inl (fun _ => 0)))]) rfl rfl rfl ?_
    refine y_aload_n (pc := 118) M dX5_init_118 rfl 0 rfl ?_
    refine y_iconst (v := 1) (pc := 119) M dX5_init_119 (by decide) ?_
    refine y_aload_n (pc := 120) M dX5_init_120 rfl 0 rfl ?_
    refine y_getG (pc := 121) (v := .int (nI n)) (ci := 5) (C := RX5) (T := TX5) (N := 13) (ref := "ShunLotsModel") (index := 45) M K inI5 0 rfl rfl 0 (by decide) (by decide +kernel) rfl rfl dX5_init_121 ?_
    refine y_ishl (pc := 124) M dX5_init_124 ?_
    rw [shl_eq n (by omega)]
    refine y_putF (pc := 125) (ci := 5) (C := RX5) (T := TX5) (N := 13) (ref := "ShunLotsModel") (index := 49) (ty := .int) M K hm inI5 tyX5 tyX5_ok nmX5 0 rfl rfl 1 (by decide) (by decide +kernel) rfl rfl rfl rfl rfl rfl (Nat.le_of_ble_eq_true rfl) dX5_init_125 ?_
    refine y_world (ws' := [(h0, .inr (5, [.int (nI n), .int (nI (2 ^ n)), .ref q0, .ref q1, .ref q2, .ref q3, .ref q4, .ref q5, .ref q6, .ref q7, .ref q8, .ref q9, .ref q10])), (q0, .inl (cy 0, 216, .inl (fun _ => 0))), (q1, .inl (cy 0, 6, .inl (fun _ => 0))), (q2, .inl (cy 1, 64, .inr (.inl (fun _ => 0)))), (q3, .inl (cy 1, 384, .inr (.inl (fun _ => 0)))), (q4, .inl (cy 1, 64, .inr (.inl (fun _ => 0)))), (q5, .inl (cy 1, 64, .inr (.inl (fun _ => 0)))), (q6, .inl (cy 2, 6, .inl (fun _ => 0))), (q7, .inl (cy 0, 6, .inl (fun _ => 0))), (q8, .inl (cy 0, 6, .inl (fun _ => 0))), (q9, .inl (cy 0, 6, .inl (fun _ => 0))), (q10, .inl (cy 0, 5, .inl (fun _ => 0)))]) rfl rfl rfl ?_
    exact y_retI (pc := 128) M (Nat.le_of_ble_eq_true rfl) (Nat.le_of_ble_eq_true rfl) (fun r => [q0, q1, q2, q3, q4, q5, q6, q7, q8, q9, q10].getD (r - 37) 0) (fun H h1 h2 => ⟨h1, h2⟩) dX5_init_128
  refine y_iload_n (pc := 94) M dX5_init_94 rfl 1 rfl ?_
  refine y_iconst (v := 2) (pc := 95) M dX5_init_95 (by decide) ?_
  refine y_icmp_ge (X := some ()) (Y := some ()) (res := ()) (pc := 96) 103 M dX5_init_96 rfl (ite_self _) (fun c1 _ => ?_) (fun c1 _ => ?_)
  · have n1 : ¬ p0 < 2 := Int32.not_lt.mpr c1
    refine y_iload_n (pc := 103) M dX5_init_103 rfl 1 rfl ?_
    refine y_bipush (v := 6) (pc := 104) M dX5_init_104 (by decide) ?_
    refine y_icmp_le (X := some ()) (Y := some ()) (res := ()) (pc := 106) 114 M dX5_init_106 rfl (ite_self _) (fun c2 _ => ?_) (fun c2 _ => ?_)
    · have n2 : ¬ 6 < p0 := Int32.not_lt.mpr c2
      refine y_iload_n (pc := 114) M dX5_init_114 rfl 1 rfl ?_
      rw [if_neg n1, if_neg n2] at hv
      subst hv
      exact tail
    · have n2 : 6 < p0 := Int32.not_le.mp c2
      refine y_bipush (v := 6) (pc := 109) M dX5_init_109 (by decide) ?_
      refine y_goto 115 (pc := 111) M dX5_init_111 rfl ?_
      rw [if_neg n1, if_pos n2] at hv
      rw [show (6 : Int32) = nI n from hv]
      exact tail
  · have n1 : p0 < 2 := Int32.not_le.mp c1
    refine y_iconst (v := 2) (pc := 99) M dX5_init_99 (by decide) ?_
    refine y_goto 115 (pc := 100) M dX5_init_100 rfl ?_
    rw [if_pos n1] at hv
    rw [show (2 : Int32) = nI n from hv]
    exact tail
