def rmX5_within : Room := { frames := 3, cells := 0, slots := 0, locals := 63 }
theorem wdX5_within_Cond_constantLong_RX5_104_1 : Cond.constantLong RX5 104 (-1) ∈ wsX5_within := by decide +kernel
set_option maxRecDepth 100000 in
set_option maxHeartbeats 4000000 in
theorem kX5_within (l : Launch) (D : va_G) (cy ad : Nat → Nat) (n : Nat) (p0 : Int32) (p1 : Int32) (p2 : Int32) (S : St) (r : Int64) (h : fX5_within n p0 p1 p2 S = some r) : CW l D cy ad n yX5_within wsX5_within rmX5_within [.ref (ad 12), .int p0, .int p1, .int p2] S (some (.long r)) S := by
  refine CW.of (cc := cX5_within) (nL := 4) (ret := (some .long)) (own := RX5) rfl (by decide +kernel) rfl (Nat.le_of_ble_eq_true rfl) ?_
  intro p e s m args below meth c M K
  unfold fX5_within at h
  refine z_locals [0, 1, 2, 3] [(0, .ref (ad 12)), (1, .int p0), (2, .int p1), (3, .int p2)] rfl ?_
  refine z_aload_n (pc := 0) M dX5_within_0 rfl 0 rfl ?_
  refine z_iload_n (pc := 1) M dX5_within_1 rfl 1 rfl ?_
  obtain ⟨r1, h2, h⟩ := bo_in h
  refine z_vcall (pc := 2) (As := [.int p0]) M K (kX5_isLaw l D cy ad n p0 S r1 h2) (cwV 1 M.1.2.2.2.2 gX5_within_X5_isLaw rfl rfl rfl (by decide +kernel) ⟨Nat.le_of_ble_eq_true rfl, Nat.le_of_ble_eq_true rfl⟩) o_mod rfl rfl rfl (Nat.le_of_ble_eq_true rfl) dX5_within_2 ?_
  refine z_if_eqB (pc := 5) 42 M dX5_within_5 (by decide) h (fun c_15 h => ?_) (fun c_15 h => ?_)
  · refine z_ldc2 (pc := 42) M wdX5_within_Cond_constantLong_RX5_104_1 dX5_within_42 ?_
    exact z_lretW (pc := 45) M (Option.some.inj h) rfl dX5_within_45
  · refine z_aload_n (pc := 8) M dX5_within_8 rfl 0 rfl ?_
    refine z_iload_n (pc := 9) M dX5_within_9 rfl 2 rfl ?_
    obtain ⟨r3, h4, h⟩ := bo_in h
    refine z_vcall (pc := 10) (As := [.int p1]) M K (kX5_isSet l D cy ad n p1 S r3 h4) (cwV 1 M.1.2.2.2.2 gX5_within_X5_isSet rfl rfl rfl (by decide +kernel) ⟨Nat.le_of_ble_eq_true rfl, Nat.le_of_ble_eq_true rfl⟩) o_mod rfl rfl rfl (Nat.le_of_ble_eq_true rfl) dX5_within_10 ?_
    refine z_if_eqB (pc := 13) 42 M dX5_within_13 (by decide) h (fun c_14 h => ?_) (fun c_14 h => ?_)
    · refine z_ldc2 (pc := 42) M wdX5_within_Cond_constantLong_RX5_104_1 dX5_within_42 ?_
      exact z_lretW (pc := 45) M (Option.some.inj h) rfl dX5_within_45
    · refine z_iload_n (pc := 16) M dX5_within_16 rfl 3 rfl ?_
      obtain ⟨r5, h6, h⟩ := bo_in h
      refine z_scall (pc := 17) (As := [.int p2]) M (kX5_isWhat l p2 r5 h6) (va_cwS 1 M.1.2.2.2.2 gX5_within_X5_isWhat rfl rfl rfl (by decide +kernel) ⟨Nat.le_of_ble_eq_true rfl, Nat.le_of_ble_eq_true rfl⟩) rfl rfl (Nat.le_of_ble_eq_true rfl) dX5_within_17 ?_
      refine z_if_eqB (pc := 20) 42 M dX5_within_20 (by decide) h (fun c_13 h => ?_) (fun c_13 h => ?_)
      · refine z_ldc2 (pc := 42) M wdX5_within_Cond_constantLong_RX5_104_1 dX5_within_42 ?_
        exact z_lretW (pc := 45) M (Option.some.inj h) rfl dX5_within_45
      · refine z_aload_n (pc := 23) M dX5_within_23 rfl 0 rfl ?_
        refine z_iload_n (pc := 24) M dX5_within_24 rfl 1 rfl ?_
        refine z_iload_n (pc := 25) M dX5_within_25 rfl 2 rfl ?_
        refine z_iconst (pc := 26) (v := 0) M dX5_within_26 (by decide) ?_
        obtain ⟨r7, h8, h⟩ := bo_in h
        refine z_vcall (pc := 27) (As := [.int p0, .int p1, .int (0 : Int32)]) M K (kX5_sumOf l D cy ad n p0 p1 (0 : Int32) S r7 h8) (cwV 3 M.1.2.2.2.2 gX5_within_X5_sumOf rfl rfl rfl (by decide +kernel) ⟨Nat.le_of_ble_eq_true rfl, Nat.le_of_ble_eq_true rfl⟩) o_mod rfl rfl rfl (Nat.le_of_ble_eq_true rfl) dX5_within_27 ?_
        refine z_aload_n (pc := 30) M dX5_within_30 rfl 0 rfl ?_
        refine z_iload_n (pc := 31) M dX5_within_31 rfl 1 rfl ?_
        obtain ⟨r9, h10, h⟩ := bo_in h
        refine z_vcall (pc := 32) (As := [.int p0]) M K (kX5_sum l D cy ad n p0 S r9 h10) (cwV 1 M.1.2.2.2.2 gX5_within_X5_sum rfl rfl rfl (by decide +kernel) ⟨Nat.le_of_ble_eq_true rfl, Nat.le_of_ble_eq_true rfl⟩) o_mod rfl rfl rfl (Nat.le_of_ble_eq_true rfl) dX5_within_32 ?_
        refine z_iload_n (pc := 35) M dX5_within_35 rfl 3 rfl ?_
        obtain ⟨r11, h12, h⟩ := bo_in h
        refine z_scall (pc := 36) (As := [.long r7, .long r9, .int p2]) M (kX5_fraction l r7 r9 p2 r11 h12) (va_cwS 3 M.1.2.2.2.2 gX5_within_X5_fraction rfl rfl rfl (by decide +kernel) ⟨Nat.le_of_ble_eq_true rfl, Nat.le_of_ble_eq_true rfl⟩) rfl rfl (Nat.le_of_ble_eq_true rfl) dX5_within_36 ?_
        refine z_goto (pc := 39) 45 M dX5_within_39 (by decide) ?_
        exact z_lretW (pc := 45) M (Option.some.inj h) rfl dX5_within_45
def rmX5_out : Room := { frames := 3, cells := 0, slots := 0, locals := 63 }
theorem wdX5_out_Cond_constantLong_RX5_104_1 : Cond.constantLong RX5 104 (-1) ∈ wsX5_out := by decide +kernel
set_option maxRecDepth 100000 in
set_option maxHeartbeats 4000000 in
theorem kX5_out (l : Launch) (D : va_G) (cy ad : Nat → Nat) (n : Nat) (p0 : Int32) (p1 : Int32) (p2 : Int32) (S : St) (r : Int64) (h : fX5_out n p0 p1 p2 S = some r) : CW l D cy ad n yX5_out wsX5_out rmX5_out [.ref (ad 12), .int p0, .int p1, .int p2] S (some (.long r)) S := by
  refine CW.of (cc := cX5_out) (nL := 4) (ret := (some .long)) (own := RX5) rfl (by decide +kernel) rfl (Nat.le_of_ble_eq_true rfl) ?_
  intro p e s m args below meth c M K
  unfold fX5_out at h
  refine z_locals [0, 1, 2, 3] [(0, .ref (ad 12)), (1, .int p0), (2, .int p1), (3, .int p2)] rfl ?_
  refine z_aload_n (pc := 0) M dX5_out_0 rfl 0 rfl ?_
  refine z_iload_n (pc := 1) M dX5_out_1 rfl 1 rfl ?_
  obtain ⟨r1, h2, h⟩ := bo_in h
  refine z_vcall (pc := 2) (As := [.int p0]) M K (kX5_isLaw l D cy ad n p0 S r1 h2) (cwV 1 M.1.2.2.2.2 gX5_out_X5_isLaw rfl rfl rfl (by decide +kernel) ⟨Nat.le_of_ble_eq_true rfl, Nat.le_of_ble_eq_true rfl⟩) o_mod rfl rfl rfl (Nat.le_of_ble_eq_true rfl) dX5_out_2 ?_
  refine z_if_eqB (pc := 5) 42 M dX5_out_5 (by decide) h (fun c_15 h => ?_) (fun c_15 h => ?_)
  · refine z_ldc2 (pc := 42) M wdX5_out_Cond_constantLong_RX5_104_1 dX5_out_42 ?_
    exact z_lretW (pc := 45) M (Option.some.inj h) rfl dX5_out_45
  · refine z_aload_n (pc := 8) M dX5_out_8 rfl 0 rfl ?_
    refine z_iload_n (pc := 9) M dX5_out_9 rfl 2 rfl ?_
    obtain ⟨r3, h4, h⟩ := bo_in h
    refine z_vcall (pc := 10) (As := [.int p1]) M K (kX5_isSet l D cy ad n p1 S r3 h4) (cwV 1 M.1.2.2.2.2 gX5_out_X5_isSet rfl rfl rfl (by decide +kernel) ⟨Nat.le_of_ble_eq_true rfl, Nat.le_of_ble_eq_true rfl⟩) o_mod rfl rfl rfl (Nat.le_of_ble_eq_true rfl) dX5_out_10 ?_
    refine z_if_eqB (pc := 13) 42 M dX5_out_13 (by decide) h (fun c_14 h => ?_) (fun c_14 h => ?_)
    · refine z_ldc2 (pc := 42) M wdX5_out_Cond_constantLong_RX5_104_1 dX5_out_42 ?_
      exact z_lretW (pc := 45) M (Option.some.inj h) rfl dX5_out_45
    · refine z_iload_n (pc := 16) M dX5_out_16 rfl 3 rfl ?_
      obtain ⟨r5, h6, h⟩ := bo_in h
      refine z_scall (pc := 17) (As := [.int p2]) M (kX5_isWhat l p2 r5 h6) (va_cwS 1 M.1.2.2.2.2 gX5_out_X5_isWhat rfl rfl rfl (by decide +kernel) ⟨Nat.le_of_ble_eq_true rfl, Nat.le_of_ble_eq_true rfl⟩) rfl rfl (Nat.le_of_ble_eq_true rfl) dX5_out_17 ?_
      refine z_if_eqB (pc := 20) 42 M dX5_out_20 (by decide) h (fun c_13 h => ?_) (fun c_13 h => ?_)
      · refine z_ldc2 (pc := 42) M wdX5_out_Cond_constantLong_RX5_104_1 dX5_out_42 ?_
        exact z_lretW (pc := 45) M (Option.some.inj h) rfl dX5_out_45
      · refine z_aload_n (pc := 23) M dX5_out_23 rfl 0 rfl ?_
        refine z_iload_n (pc := 24) M dX5_out_24 rfl 1 rfl ?_
        refine z_iconst (pc := 25) (v := 0) M dX5_out_25 (by decide) ?_
        refine z_iload_n (pc := 26) M dX5_out_26 rfl 2 rfl ?_
        obtain ⟨r7, h8, h⟩ := bo_in h
        refine z_vcall (pc := 27) (As := [.int p0, .int (0 : Int32), .int p1]) M K (kX5_sumOf l D cy ad n p0 (0 : Int32) p1 S r7 h8) (cwV 3 M.1.2.2.2.2 gX5_out_X5_sumOf rfl rfl rfl (by decide +kernel) ⟨Nat.le_of_ble_eq_true rfl, Nat.le_of_ble_eq_true rfl⟩) o_mod rfl rfl rfl (Nat.le_of_ble_eq_true rfl) dX5_out_27 ?_
        refine z_aload_n (pc := 30) M dX5_out_30 rfl 0 rfl ?_
        refine z_iload_n (pc := 31) M dX5_out_31 rfl 1 rfl ?_
        obtain ⟨r9, h10, h⟩ := bo_in h
        refine z_vcall (pc := 32) (As := [.int p0]) M K (kX5_sum l D cy ad n p0 S r9 h10) (cwV 1 M.1.2.2.2.2 gX5_out_X5_sum rfl rfl rfl (by decide +kernel) ⟨Nat.le_of_ble_eq_true rfl, Nat.le_of_ble_eq_true rfl⟩) o_mod rfl rfl rfl (Nat.le_of_ble_eq_true rfl) dX5_out_32 ?_
        refine z_iload_n (pc := 35) M dX5_out_35 rfl 3 rfl ?_
        obtain ⟨r11, h12, h⟩ := bo_in h
        refine z_scall (pc := 36) (As := [.long r7, .long r9, .int p2]) M (kX5_fraction l r7 r9 p2 r11 h12) (va_cwS 3 M.1.2.2.2.2 gX5_out_X5_fraction rfl rfl rfl (by decide +kernel) ⟨Nat.le_of_ble_eq_true rfl, Nat.le_of_ble_eq_true rfl⟩) rfl rfl (Nat.le_of_ble_eq_true rfl) dX5_out_36 ?_
        refine z_goto (pc := 39) 45 M dX5_out_39 (by decide) ?_
        exact z_lretW (pc := 45) M (Option.some.inj h) rfl dX5_out_45
def rmX5_ofSize : Room := { frames := 1, cells := 0, slots := 0, locals := 22 }
theorem flX5_ofSize_20 : Cond.fieldLink RX5 20 "ShunLotsModel" "law" "[J" ∈ wsX5_ofSize := by decide +kernel
theorem flX5_ofSize_49 : Cond.fieldLink RX5 49 "ShunLotsModel" "sets" "I" ∈ wsX5_ofSize := by decide +kernel
theorem inX5_ofSize_X5 : ∀ w ∈ wsX50, w ∈ wsX5_ofSize := by decide +kernel
set_option maxRecDepth 100000 in
set_option maxHeartbeats 4000000 in
theorem LX5_ofSize_1 {p : Program} {l : Launch} {e : Env} {s : State} {m : MethodId} {args : Array Value} {below : List Frame} {meth : Method} {c : Code} {Q : State → Prop} {D : va_G} {cy ad : Nat → Nat} {n : Nat} (M : MX p m c cX5_ofSize 6 s args wsX5_ofSize RX5 meth (some .long)) (K : KK D cy ad s) (x1 : Int32) (x2 : Int32)  (S : St) : ∀ (fuel : Nat) (x3 : Int64) (x5 : Int32) (o : (Int64)), lX5_ofSize_1 n x1 x2 S fuel x3 x5 = some o → ∀ (hx : ∀ a, o = a → Zz p l e rmX5_ofSize s m args below meth c 6 Q (Hw D cy ad n s S) 44 [(3, .long a)] []) , Zz p l e rmX5_ofSize s m args below meth c 6 Q (Hw D cy ad n s S) 5 [(0, .ref (ad 12)), (1, .int x1), (2, .int x2), (3, .long x3), (5, .int x5)] [] := by
  intro fuel
  induction fuel with
  | zero => intro x3 x5 o h; exact nomatch (show (none : Option _) = some o from h)
  | succ fuel ih =>
    intro x3 x5 o h hx 
    have h : bX5_ofSize_1 n x1 x2 S (lX5_ofSize_1 n x1 x2 S fuel) x3 x5 = some o := h
    unfold bX5_ofSize_1 at h
    refine z_iload (pc := 5) M dX5_ofSize_5 4 rfl ?_
    refine z_aload_n (pc := 7) M dX5_ofSize_7 rfl 0 rfl ?_
    refine z_get (pc := 8) (v := .int (nI (2 ^ n))) M K inX5_ofSize_X5 o_mod rfl 1 (by decide) flX5_ofSize_49 rfl rfl dX5_ofSize_8 ?_
    refine z_icmp_ge (pc := 11) 44 M dX5_ofSize_11 (by decide) h (fun c_4 h => ?_) (fun c_4 h => ?_)
    · refine z_locals [3] [(3, .long x3)] rfl ?_
      cases h
      exact hx _ rfl
    · refine z_iload (pc := 14) M dX5_ofSize_14 4 rfl ?_
      obtain ⟨r1, h2, h⟩ := bo_in h
      refine z_scall (pc := 16) (As := [.int x5]) M (kX5_sizeOf l x5 r1 h2) (va_cwS 1 M.1.2.2.2.2 gX5_ofSize_X5_sizeOf rfl rfl rfl (by decide +kernel) ⟨Nat.le_of_ble_eq_true rfl, Nat.le_of_ble_eq_true rfl⟩) rfl rfl (Nat.le_of_ble_eq_true rfl) dX5_ofSize_16 ?_
      refine z_iload_n (pc := 19) M dX5_ofSize_19 rfl 2 rfl ?_
      refine z_icmp_ne (pc := 20) 38 M dX5_ofSize_20 (by decide) h (fun c_3 h => ?_) (fun c_3 h => ?_)
      · refine z_iinc (pc := 38) M dX5_ofSize_38 (x5 + 1) rfl 4 rfl (by decide) [1, 2, 3, 4, 0] [(0, .ref (ad 12)), (1, .int x1), (2, .int x2), (3, .long x3), (5, .int (x5 + 1))] rfl ?_
        refine z_goto (pc := 41) 5 M dX5_ofSize_41 (by decide) ?_
        refine z_locals [0, 1, 2, 3, 4] [(0, .ref (ad 12)), (1, .int x1), (2, .int x2), (3, .long x3), (5, .int (x5 + 1))] rfl ?_
        exact ih x3 (x5 + 1) _ h hx
      · refine z_lload_n (pc := 23) M dX5_ofSize_23 rfl 3 rfl ?_
        refine z_aload_n (pc := 24) M dX5_ofSize_24 rfl 0 rfl ?_
        refine z_get (pc := 25) (v := .ref (ad 40)) M K inX5_ofSize_X5 o_mod rfl 5 (by decide) flX5_ofSize_20 rfl rfl dX5_ofSize_25 ?_
        refine z_bipush (pc := 28) (v := 64) M dX5_ofSize_28 (by decide) ?_
        refine z_iload_n (pc := 30) M dX5_ofSize_30 rfl 1 rfl ?_
        refine z_imul (pc := 31) M dX5_ofSize_31 ?_
        refine z_iload (pc := 32) M dX5_ofSize_32 4 rfl ?_
        refine z_iadd (pc := 34) M dX5_ofSize_34 ?_
        refine z_lald (pc := 35) M K ⟨by decide, rfl, rfl⟩ h dX5_ofSize_35 (fun _ h => ?_)
        refine z_ladd (pc := 36) M dX5_ofSize_36 ?_
        refine z_lstore_n (pc := 37) M dX5_ofSize_37 rfl (by decide) [1, 2, 3, 0, 4] [(0, .ref (ad 12)), (1, .int x1), (2, .int x2), (3, .long (x3 + (S.2 40 (Int32.toNatClampNeg (((64 : Int32) * x1) + x5))))), (5, .int x5)] rfl ?_
        refine z_iinc (pc := 38) M dX5_ofSize_38 (x5 + 1) rfl 4 rfl (by decide) [1, 2, 3, 4, 0] [(0, .ref (ad 12)), (1, .int x1), (2, .int x2), (3, .long (x3 + (S.2 40 (Int32.toNatClampNeg (((64 : Int32) * x1) + x5))))), (5, .int (x5 + 1))] rfl ?_
        refine z_goto (pc := 41) 5 M dX5_ofSize_41 (by decide) ?_
        refine z_locals [0, 1, 2, 3, 4] [(0, .ref (ad 12)), (1, .int x1), (2, .int x2), (3, .long (x3 + (S.2 40 (Int32.toNatClampNeg (((64 : Int32) * x1) + x5))))), (5, .int (x5 + 1))] rfl ?_
        exact ih (x3 + (S.2 40 (Int32.toNatClampNeg (((64 : Int32) * x1) + x5)))) (x5 + 1) _ h hx
set_option maxRecDepth 100000 in
set_option maxHeartbeats 4000000 in
theorem kX5_ofSize (l : Launch) (D : va_G) (cy ad : Nat → Nat) (n : Nat) (p0 : Int32) (p1 : Int32) (S : St) (r : Int64) (h : fX5_ofSize n p0 p1 S = some r) : CW l D cy ad n yX5_ofSize wsX5_ofSize rmX5_ofSize [.ref (ad 12), .int p0, .int p1] S (some (.long r)) S := by
  refine CW.of (cc := cX5_ofSize) (nL := 6) (ret := (some .long)) (own := RX5) rfl (by decide +kernel) rfl (Nat.le_of_ble_eq_true rfl) ?_
  intro p e s m args below meth c M K
  unfold fX5_ofSize at h
  refine z_locals [0, 1, 2] [(0, .ref (ad 12)), (1, .int p0), (2, .int p1)] rfl ?_
  refine z_lconst (pc := 0) (v := 0) M dX5_ofSize_0 (by decide) ?_
  refine z_lstore_n (pc := 1) M dX5_ofSize_1 rfl (by decide) [1, 2, 3, 0] [(0, .ref (ad 12)), (1, .int p0), (2, .int p1), (3, .long (0 : Int64))] rfl ?_
  refine z_iconst (pc := 2) (v := 0) M dX5_ofSize_2 (by decide) ?_
  refine z_istore (pc := 3) M dX5_ofSize_3 (by decide) [1, 2, 3, 4, 0] [(0, .ref (ad 12)), (1, .int p0), (2, .int p1), (3, .long (0 : Int64)), (5, .int (0 : Int32))] rfl ?_
  refine z_locals [0, 1, 2, 3, 4] [(0, .ref (ad 12)), (1, .int p0), (2, .int p1), (3, .long (0 : Int64)), (5, .int (0 : Int32))] rfl ?_
  obtain ⟨q5, h6, h⟩ := bo_in h
  refine LX5_ofSize_1 M K p0 p1 S FU (0 : Int64) (0 : Int32) _ h6 (fun a hE => ?_)
  cases hE
  refine z_lload_n (pc := 44) M dX5_ofSize_44 rfl 0 rfl ?_
  exact z_lretW (pc := 45) M (Option.some.inj h) rfl dX5_ofSize_45
def rmX5_size : Room := { frames := 3, cells := 0, slots := 0, locals := 63 }
theorem flX5_size_45 : Cond.fieldLink RX5 45 "ShunLotsModel" "n" "I" ∈ wsX5_size := by decide +kernel
theorem wdX5_size_Cond_constantLong_RX5_104_1 : Cond.constantLong RX5 104 (-1) ∈ wsX5_size := by decide +kernel
theorem inX5_size_X5 : ∀ w ∈ wsX50, w ∈ wsX5_size := by decide +kernel
set_option maxRecDepth 100000 in
set_option maxHeartbeats 4000000 in
theorem kX5_size (l : Launch) (D : va_G) (cy ad : Nat → Nat) (n : Nat) (p0 : Int32) (p1 : Int32) (p2 : Int32) (S : St) (r : Int64) (h : fX5_size n p0 p1 p2 S = some r) : CW l D cy ad n yX5_size wsX5_size rmX5_size [.ref (ad 12), .int p0, .int p1, .int p2] S (some (.long r)) S := by
  refine CW.of (cc := cX5_size) (nL := 4) (ret := (some .long)) (own := RX5) rfl (by decide +kernel) rfl (Nat.le_of_ble_eq_true rfl) ?_
  intro p e s m args below meth c M K
  unfold fX5_size at h
  refine z_locals [0, 1, 2, 3] [(0, .ref (ad 12)), (1, .int p0), (2, .int p1), (3, .int p2)] rfl ?_
  refine z_aload_n (pc := 0) M dX5_size_0 rfl 0 rfl ?_
  refine z_iload_n (pc := 1) M dX5_size_1 rfl 1 rfl ?_
  obtain ⟨r1, h2, h⟩ := bo_in h
  refine z_vcall (pc := 2) (As := [.int p0]) M K (kX5_isLaw l D cy ad n p0 S r1 h2) (cwV 1 M.1.2.2.2.2 gX5_size_X5_isLaw rfl rfl rfl (by decide +kernel) ⟨Nat.le_of_ble_eq_true rfl, Nat.le_of_ble_eq_true rfl⟩) o_mod rfl rfl rfl (Nat.le_of_ble_eq_true rfl) dX5_size_2 ?_
  refine z_if_eqB (pc := 5) 45 M dX5_size_5 (by decide) h (fun c_15 h => ?_) (fun c_15 h => ?_)
  · refine z_ldc2 (pc := 45) M wdX5_size_Cond_constantLong_RX5_104_1 dX5_size_45 ?_
    exact z_lretW (pc := 48) M (Option.some.inj h) rfl dX5_size_48
  · refine z_iload_n (pc := 8) M dX5_size_8 rfl 2 rfl ?_
    refine z_iconst (pc := 9) (v := 0) M dX5_size_9 (by decide) ?_
    refine z_aload_n (pc := 10) M dX5_size_10 rfl 0 rfl ?_
    refine z_get (pc := 11) (v := .int (nI n)) M K inX5_size_X5 o_mod rfl 0 (by decide) flX5_size_45 rfl rfl dX5_size_11 ?_
    obtain ⟨r3, h4, h⟩ := bo_in h
    refine z_scall (pc := 14) (As := [.int p1, .int (0 : Int32), .int (nI n)]) M (kX5_in l p1 (0 : Int32) (nI n) r3 h4) (va_cwS 3 M.1.2.2.2.2 gX5_size_X5_in rfl rfl rfl (by decide +kernel) ⟨Nat.le_of_ble_eq_true rfl, Nat.le_of_ble_eq_true rfl⟩) rfl rfl (Nat.le_of_ble_eq_true rfl) dX5_size_14 ?_
    refine z_if_eqB (pc := 17) 45 M dX5_size_17 (by decide) h (fun c_14 h => ?_) (fun c_14 h => ?_)
    · refine z_ldc2 (pc := 45) M wdX5_size_Cond_constantLong_RX5_104_1 dX5_size_45 ?_
      exact z_lretW (pc := 48) M (Option.some.inj h) rfl dX5_size_48
    · refine z_iload_n (pc := 20) M dX5_size_20 rfl 3 rfl ?_
      obtain ⟨r5, h6, h⟩ := bo_in h
      refine z_scall (pc := 21) (As := [.int p2]) M (kX5_isWhat l p2 r5 h6) (va_cwS 1 M.1.2.2.2.2 gX5_size_X5_isWhat rfl rfl rfl (by decide +kernel) ⟨Nat.le_of_ble_eq_true rfl, Nat.le_of_ble_eq_true rfl⟩) rfl rfl (Nat.le_of_ble_eq_true rfl) dX5_size_21 ?_
      refine z_if_eqB (pc := 24) 45 M dX5_size_24 (by decide) h (fun c_13 h => ?_) (fun c_13 h => ?_)
      · refine z_ldc2 (pc := 45) M wdX5_size_Cond_constantLong_RX5_104_1 dX5_size_45 ?_
        exact z_lretW (pc := 48) M (Option.some.inj h) rfl dX5_size_48
      · refine z_aload_n (pc := 27) M dX5_size_27 rfl 0 rfl ?_
        refine z_iload_n (pc := 28) M dX5_size_28 rfl 1 rfl ?_
        refine z_iload_n (pc := 29) M dX5_size_29 rfl 2 rfl ?_
        obtain ⟨r7, h8, h⟩ := bo_in h
        refine z_vcall (pc := 30) (As := [.int p0, .int p1]) M K (kX5_ofSize l D cy ad n p0 p1 S r7 h8) (cwV 2 M.1.2.2.2.2 gX5_size_X5_ofSize rfl rfl rfl (by decide +kernel) ⟨Nat.le_of_ble_eq_true rfl, Nat.le_of_ble_eq_true rfl⟩) o_mod rfl rfl rfl (Nat.le_of_ble_eq_true rfl) dX5_size_30 ?_
        refine z_aload_n (pc := 33) M dX5_size_33 rfl 0 rfl ?_
        refine z_iload_n (pc := 34) M dX5_size_34 rfl 1 rfl ?_
        obtain ⟨r9, h10, h⟩ := bo_in h
        refine z_vcall (pc := 35) (As := [.int p0]) M K (kX5_sum l D cy ad n p0 S r9 h10) (cwV 1 M.1.2.2.2.2 gX5_size_X5_sum rfl rfl rfl (by decide +kernel) ⟨Nat.le_of_ble_eq_true rfl, Nat.le_of_ble_eq_true rfl⟩) o_mod rfl rfl rfl (Nat.le_of_ble_eq_true rfl) dX5_size_35 ?_
        refine z_iload_n (pc := 38) M dX5_size_38 rfl 3 rfl ?_
        obtain ⟨r11, h12, h⟩ := bo_in h
        refine z_scall (pc := 39) (As := [.long r7, .long r9, .int p2]) M (kX5_fraction l r7 r9 p2 r11 h12) (va_cwS 3 M.1.2.2.2.2 gX5_size_X5_fraction rfl rfl rfl (by decide +kernel) ⟨Nat.le_of_ble_eq_true rfl, Nat.le_of_ble_eq_true rfl⟩) rfl rfl (Nat.le_of_ble_eq_true rfl) dX5_size_39 ?_
        refine z_goto (pc := 42) 48 M dX5_size_42 (by decide) ?_
        exact z_lretW (pc := 48) M (Option.some.inj h) rfl dX5_size_48
def rmX5_mean : Room := { frames := 3, cells := 0, slots := 0, locals := 63 }
theorem flX5_mean_45 : Cond.fieldLink RX5 45 "ShunLotsModel" "n" "I" ∈ wsX5_mean := by decide +kernel
theorem wdX5_mean_Cond_constantLong_RX5_104_1 : Cond.constantLong RX5 104 (-1) ∈ wsX5_mean := by decide +kernel
theorem inX5_mean_X5 : ∀ w ∈ wsX50, w ∈ wsX5_mean := by decide +kernel
set_option maxRecDepth 100000 in
set_option maxHeartbeats 4000000 in
theorem LX5_mean_1 {p : Program} {l : Launch} {e : Env} {s : State} {m : MethodId} {args : Array Value} {below : List Frame} {meth : Method} {c : Code} {Q : State → Prop} {D : va_G} {cy ad : Nat → Nat} {n : Nat} (M : MX p m c cX5_mean 6 s args wsX5_mean RX5 meth (some .long)) (K : KK D cy ad s) (x1 : Int32) (x2 : Int32)  (S : St) : ∀ (fuel : Nat) (x3 : Int64) (x5 : Int32) (o : (Int64)), lX5_mean_1 n x1 x2 S fuel x3 x5 = some o → ∀ (hx : ∀ a, o = a → Zz p l e rmX5_mean s m args below meth c 6 Q (Hw D cy ad n s S) 53 [(0, .ref (ad 12)), (1, .int x1), (2, .int x2), (3, .long a)] []) , Zz p l e rmX5_mean s m args below meth c 6 Q (Hw D cy ad n s S) 24 [(0, .ref (ad 12)), (1, .int x1), (2, .int x2), (3, .long x3), (5, .int x5)] [] := by
  intro fuel
  induction fuel with
  | zero => intro x3 x5 o h; exact nomatch (show (none : Option _) = some o from h)
  | succ fuel ih =>
    intro x3 x5 o h hx 
    have h : bX5_mean_1 n x1 x2 S (lX5_mean_1 n x1 x2 S fuel) x3 x5 = some o := h
    unfold bX5_mean_1 at h
    refine z_iload (pc := 24) M dX5_mean_24 4 rfl ?_
    refine z_aload_n (pc := 26) M dX5_mean_26 rfl 0 rfl ?_
    refine z_get (pc := 27) (v := .int (nI n)) M K inX5_mean_X5 o_mod rfl 0 (by decide) flX5_mean_45 rfl rfl dX5_mean_27 ?_
    refine z_icmp_gt (pc := 30) 53 M dX5_mean_30 (by decide) h (fun c_7 h => ?_) (fun c_7 h => ?_)
    · refine z_locals [0, 1, 2, 3] [(0, .ref (ad 12)), (1, .int x1), (2, .int x2), (3, .long x3)] rfl ?_
      cases h
      exact hx _ rfl
    · refine z_lload_n (pc := 33) M dX5_mean_33 rfl 3 rfl ?_
      refine z_iload (pc := 34) M dX5_mean_34 4 rfl ?_
      refine z_i2l (pc := 36) M dX5_mean_36 ?_
      refine z_aload_n (pc := 37) M dX5_mean_37 rfl 0 rfl ?_
      refine z_iload_n (pc := 38) M dX5_mean_38 rfl 1 rfl ?_
      refine z_iload (pc := 39) M dX5_mean_39 4 rfl ?_
      obtain ⟨r5, h6, h⟩ := bo_in h
      refine z_vcall (pc := 41) (As := [.int x1, .int x5]) M K (kX5_ofSize l D cy ad n x1 x5 S r5 h6) (cwV 2 M.1.2.2.2.2 gX5_mean_X5_ofSize rfl rfl rfl (by decide +kernel) ⟨Nat.le_of_ble_eq_true rfl, Nat.le_of_ble_eq_true rfl⟩) o_mod rfl rfl rfl (Nat.le_of_ble_eq_true rfl) dX5_mean_41 ?_
      refine z_lmul (pc := 44) M dX5_mean_44 ?_
      refine z_ladd (pc := 45) M dX5_mean_45 ?_
      refine z_lstore_n (pc := 46) M dX5_mean_46 rfl (by decide) [1, 2, 3, 0, 4] [(0, .ref (ad 12)), (1, .int x1), (2, .int x2), (3, .long (x3 + ((Int32.toInt64 x5) * r5))), (5, .int x5)] rfl ?_
      refine z_iinc (pc := 47) M dX5_mean_47 (x5 + 1) rfl 4 rfl (by decide) [1, 2, 3, 4, 0] [(0, .ref (ad 12)), (1, .int x1), (2, .int x2), (3, .long (x3 + ((Int32.toInt64 x5) * r5))), (5, .int (x5 + 1))] rfl ?_
      refine z_goto (pc := 50) 24 M dX5_mean_50 (by decide) ?_
      refine z_locals [0, 1, 2, 3, 4] [(0, .ref (ad 12)), (1, .int x1), (2, .int x2), (3, .long (x3 + ((Int32.toInt64 x5) * r5))), (5, .int (x5 + 1))] rfl ?_
      exact ih (x3 + ((Int32.toInt64 x5) * r5)) (x5 + 1) _ h hx
set_option maxRecDepth 100000 in
set_option maxHeartbeats 4000000 in
theorem kX5_mean (l : Launch) (D : va_G) (cy ad : Nat → Nat) (n : Nat) (p0 : Int32) (p1 : Int32) (S : St) (r : Int64) (h : fX5_mean n p0 p1 S = some r) : CW l D cy ad n yX5_mean wsX5_mean rmX5_mean [.ref (ad 12), .int p0, .int p1] S (some (.long r)) S := by
  refine CW.of (cc := cX5_mean) (nL := 6) (ret := (some .long)) (own := RX5) rfl (by decide +kernel) rfl (Nat.le_of_ble_eq_true rfl) ?_
  intro p e s m args below meth c M K
  unfold fX5_mean at h
  refine z_locals [0, 1, 2] [(0, .ref (ad 12)), (1, .int p0), (2, .int p1)] rfl ?_
  refine z_aload_n (pc := 0) M dX5_mean_0 rfl 0 rfl ?_
  refine z_iload_n (pc := 1) M dX5_mean_1 rfl 1 rfl ?_
  obtain ⟨r1, h2, h⟩ := bo_in h
  refine z_vcall (pc := 2) (As := [.int p0]) M K (kX5_isLaw l D cy ad n p0 S r1 h2) (cwV 1 M.1.2.2.2.2 gX5_mean_X5_isLaw rfl rfl rfl (by decide +kernel) ⟨Nat.le_of_ble_eq_true rfl, Nat.le_of_ble_eq_true rfl⟩) o_mod rfl rfl rfl (Nat.le_of_ble_eq_true rfl) dX5_mean_2 ?_
  refine z_if_eqB (pc := 5) 15 M dX5_mean_5 (by decide) h (fun c_15 h => ?_) (fun c_15 h => ?_)
  · refine z_ldc2 (pc := 15) M wdX5_mean_Cond_constantLong_RX5_104_1 dX5_mean_15 ?_
    exact z_lretW (pc := 18) M (Option.some.inj h) rfl dX5_mean_18
  · refine z_iload_n (pc := 8) M dX5_mean_8 rfl 2 rfl ?_
    obtain ⟨r3, h4, h⟩ := bo_in h
    refine z_scall (pc := 9) (As := [.int p1]) M (kX5_isWhat l p1 r3 h4) (va_cwS 1 M.1.2.2.2.2 gX5_mean_X5_isWhat rfl rfl rfl (by decide +kernel) ⟨Nat.le_of_ble_eq_true rfl, Nat.le_of_ble_eq_true rfl⟩) rfl rfl (Nat.le_of_ble_eq_true rfl) dX5_mean_9 ?_
    refine z_if_neB (pc := 12) 19 M dX5_mean_12 (by decide) h (fun c_14 h => ?_) (fun c_14 h => ?_)
    · refine z_lconst (pc := 19) (v := 0) M dX5_mean_19 (by decide) ?_
      refine z_lstore_n (pc := 20) M dX5_mean_20 rfl (by decide) [1, 2, 3, 0] [(0, .ref (ad 12)), (1, .int p0), (2, .int p1), (3, .long (0 : Int64))] rfl ?_
      refine z_iconst (pc := 21) (v := 0) M dX5_mean_21 (by decide) ?_
      refine z_istore (pc := 22) M dX5_mean_22 (by decide) [1, 2, 3, 4, 0] [(0, .ref (ad 12)), (1, .int p0), (2, .int p1), (3, .long (0 : Int64)), (5, .int (0 : Int32))] rfl ?_
      refine z_locals [0, 1, 2, 3, 4] [(0, .ref (ad 12)), (1, .int p0), (2, .int p1), (3, .long (0 : Int64)), (5, .int (0 : Int32))] rfl ?_
      obtain ⟨q8, h9, h⟩ := bo_in h
      refine LX5_mean_1 M K p0 p1 S FU (0 : Int64) (0 : Int32) _ h9 (fun a hE => ?_)
      cases hE
      refine z_lload_n (pc := 53) M dX5_mean_53 rfl 3 rfl ?_
      refine z_aload_n (pc := 54) M dX5_mean_54 rfl 0 rfl ?_
      refine z_iload_n (pc := 55) M dX5_mean_55 rfl 1 rfl ?_
      obtain ⟨r10, h11, h⟩ := bo_in h
      refine z_vcall (pc := 56) (As := [.int p0]) M K (kX5_sum l D cy ad n p0 S r10 h11) (cwV 1 M.1.2.2.2.2 gX5_mean_X5_sum rfl rfl rfl (by decide +kernel) ⟨Nat.le_of_ble_eq_true rfl, Nat.le_of_ble_eq_true rfl⟩) o_mod rfl rfl rfl (Nat.le_of_ble_eq_true rfl) dX5_mean_56 ?_
      refine z_iload_n (pc := 59) M dX5_mean_59 rfl 2 rfl ?_
      obtain ⟨r12, h13, h⟩ := bo_in h
      refine z_scall (pc := 60) (As := [.long q8, .long r10, .int p1]) M (kX5_fraction l q8 r10 p1 r12 h13) (va_cwS 3 M.1.2.2.2.2 gX5_mean_X5_fraction rfl rfl rfl (by decide +kernel) ⟨Nat.le_of_ble_eq_true rfl, Nat.le_of_ble_eq_true rfl⟩) rfl rfl (Nat.le_of_ble_eq_true rfl) dX5_mean_60 ?_
      exact z_lretW (pc := 63) M (Option.some.inj h) rfl dX5_mean_63
    · refine z_ldc2 (pc := 15) M wdX5_mean_Cond_constantLong_RX5_104_1 dX5_mean_15 ?_
      exact z_lretW (pc := 18) M (Option.some.inj h) rfl dX5_mean_18
def rmX5_spread : Room := { frames := 3, cells := 0, slots := 0, locals := 63 }
theorem flX5_spread_45 : Cond.fieldLink RX5 45 "ShunLotsModel" "n" "I" ∈ wsX5_spread := by decide +kernel
theorem wdX5_spread_Cond_constantLong_RX5_104_1 : Cond.constantLong RX5 104 (-1) ∈ wsX5_spread := by decide +kernel
theorem inX5_spread_X5 : ∀ w ∈ wsX50, w ∈ wsX5_spread := by decide +kernel
set_option maxRecDepth 100000 in
set_option maxHeartbeats 4000000 in
theorem LX5_spread_1 {p : Program} {l : Launch} {e : Env} {s : State} {m : MethodId} {args : Array Value} {below : List Frame} {meth : Method} {c : Code} {Q : State → Prop} {D : va_G} {cy ad : Nat → Nat} {n : Nat} (M : MX p m c cX5_spread 9 s args wsX5_spread RX5 meth (some .long)) (K : KK D cy ad s) (x1 : Int32) (x2 : Int32)  (S : St) : ∀ (fuel : Nat) (x3 : Int64) (x5 : Int64) (x7 : Int32) (o : (Int64 × Int64)), lX5_spread_1 n x1 x2 S fuel x3 x5 x7 = some o → ∀ (hx : ∀ a, o = a → Zz p l e rmX5_spread s m args below meth c 9 Q (Hw D cy ad n s S) 75 [(0, .ref (ad 12)), (1, .int x1), (2, .int x2), (3, .long (a.1)), (5, .long (a.2))] []) , Zz p l e rmX5_spread s m args below meth c 9 Q (Hw D cy ad n s S) 27 [(0, .ref (ad 12)), (1, .int x1), (2, .int x2), (3, .long x3), (5, .long x5), (7, .int x7)] [] := by
  intro fuel
  induction fuel with
  | zero => intro x3 x5 x7 o h; exact nomatch (show (none : Option _) = some o from h)
  | succ fuel ih =>
    intro x3 x5 x7 o h hx 
    have h : bX5_spread_1 n x1 x2 S (lX5_spread_1 n x1 x2 S fuel) x3 x5 x7 = some o := h
    unfold bX5_spread_1 at h
    refine z_iload (pc := 27) M dX5_spread_27 5 rfl ?_
    refine z_aload_n (pc := 29) M dX5_spread_29 rfl 0 rfl ?_
    refine z_get (pc := 30) (v := .int (nI n)) M K inX5_spread_X5 o_mod rfl 0 (by decide) flX5_spread_45 rfl rfl dX5_spread_30 ?_
    refine z_icmp_gt (pc := 33) 75 M dX5_spread_33 (by decide) h (fun c_9 h => ?_) (fun c_9 h => ?_)
    · refine z_locals [0, 1, 2, 3, 4] [(0, .ref (ad 12)), (1, .int x1), (2, .int x2), (3, .long x3), (5, .long x5)] rfl ?_
      cases h
      exact hx _ rfl
    · refine z_lload_n (pc := 36) M dX5_spread_36 rfl 3 rfl ?_
      refine z_iload (pc := 37) M dX5_spread_37 5 rfl ?_
      refine z_i2l (pc := 39) M dX5_spread_39 ?_
      refine z_aload_n (pc := 40) M dX5_spread_40 rfl 0 rfl ?_
      refine z_iload_n (pc := 41) M dX5_spread_41 rfl 1 rfl ?_
      refine z_iload (pc := 42) M dX5_spread_42 5 rfl ?_
      obtain ⟨r5, h6, h⟩ := bo_in h
      refine z_vcall (pc := 44) (As := [.int x1, .int x7]) M K (kX5_ofSize l D cy ad n x1 x7 S r5 h6) (cwV 2 M.1.2.2.2.2 gX5_spread_X5_ofSize rfl rfl rfl (by decide +kernel) ⟨Nat.le_of_ble_eq_true rfl, Nat.le_of_ble_eq_true rfl⟩) o_mod rfl rfl rfl (Nat.le_of_ble_eq_true rfl) dX5_spread_44 ?_
      refine z_lmul (pc := 47) M dX5_spread_47 ?_
      refine z_ladd (pc := 48) M dX5_spread_48 ?_
      refine z_lstore_n (pc := 49) M dX5_spread_49 rfl (by decide) [1, 2, 3, 0, 4, 5] [(0, .ref (ad 12)), (1, .int x1), (2, .int x2), (3, .long (x3 + ((Int32.toInt64 x7) * r5))), (5, .long x5), (7, .int x7)] rfl ?_
      refine z_lload (pc := 50) M dX5_spread_50 4 rfl ?_
      refine z_iload (pc := 52) M dX5_spread_52 5 rfl ?_
      refine z_iload (pc := 54) M dX5_spread_54 5 rfl ?_
      refine z_imul (pc := 56) M dX5_spread_56 ?_
      refine z_i2l (pc := 57) M dX5_spread_57 ?_
      refine z_aload_n (pc := 58) M dX5_spread_58 rfl 0 rfl ?_
      refine z_iload_n (pc := 59) M dX5_spread_59 rfl 1 rfl ?_
      refine z_iload (pc := 60) M dX5_spread_60 5 rfl ?_
      obtain ⟨r7, h8, h⟩ := bo_in h
      refine z_vcall (pc := 62) (As := [.int x1, .int x7]) M K (kX5_ofSize l D cy ad n x1 x7 S r7 h8) (cwV 2 M.1.2.2.2.2 gX5_spread_X5_ofSize rfl rfl rfl (by decide +kernel) ⟨Nat.le_of_ble_eq_true rfl, Nat.le_of_ble_eq_true rfl⟩) o_mod rfl rfl rfl (Nat.le_of_ble_eq_true rfl) dX5_spread_62 ?_
      refine z_lmul (pc := 65) M dX5_spread_65 ?_
      refine z_ladd (pc := 66) M dX5_spread_66 ?_
      refine z_lstore (pc := 67) M dX5_spread_67 (by decide) [1, 2, 3, 4, 0, 5] [(0, .ref (ad 12)), (1, .int x1), (2, .int x2), (3, .long (x3 + ((Int32.toInt64 x7) * r5))), (5, .long (x5 + ((Int32.toInt64 (x7 * x7)) * r7))), (7, .int x7)] rfl ?_
      refine z_iinc (pc := 69) M dX5_spread_69 (x7 + 1) rfl 5 rfl (by decide) [1, 2, 3, 4, 5, 0] [(0, .ref (ad 12)), (1, .int x1), (2, .int x2), (3, .long (x3 + ((Int32.toInt64 x7) * r5))), (5, .long (x5 + ((Int32.toInt64 (x7 * x7)) * r7))), (7, .int (x7 + 1))] rfl ?_
      refine z_goto (pc := 72) 27 M dX5_spread_72 (by decide) ?_
      refine z_locals [0, 1, 2, 3, 4, 5] [(0, .ref (ad 12)), (1, .int x1), (2, .int x2), (3, .long (x3 + ((Int32.toInt64 x7) * r5))), (5, .long (x5 + ((Int32.toInt64 (x7 * x7)) * r7))), (7, .int (x7 + 1))] rfl ?_
      exact ih (x3 + ((Int32.toInt64 x7) * r5)) (x5 + ((Int32.toInt64 (x7 * x7)) * r7)) (x7 + 1) _ h hx
set_option maxRecDepth 100000 in
set_option maxHeartbeats 4000000 in
theorem kX5_spread (l : Launch) (D : va_G) (cy ad : Nat → Nat) (n : Nat) (p0 : Int32) (p1 : Int32) (S : St) (r : Int64) (h : fX5_spread n p0 p1 S = some r) : CW l D cy ad n yX5_spread wsX5_spread rmX5_spread [.ref (ad 12), .int p0, .int p1] S (some (.long r)) S := by
  refine CW.of (cc := cX5_spread) (nL := 9) (ret := (some .long)) (own := RX5) rfl (by decide +kernel) rfl (Nat.le_of_ble_eq_true rfl) ?_
  intro p e s m args below meth c M K
  unfold fX5_spread at h
  refine z_locals [0, 1, 2] [(0, .ref (ad 12)), (1, .int p0), (2, .int p1)] rfl ?_
  refine z_aload_n (pc := 0) M dX5_spread_0 rfl 0 rfl ?_
  refine z_iload_n (pc := 1) M dX5_spread_1 rfl 1 rfl ?_
  obtain ⟨r1, h2, h⟩ := bo_in h
  refine z_vcall (pc := 2) (As := [.int p0]) M K (kX5_isLaw l D cy ad n p0 S r1 h2) (cwV 1 M.1.2.2.2.2 gX5_spread_X5_isLaw rfl rfl rfl (by decide +kernel) ⟨Nat.le_of_ble_eq_true rfl, Nat.le_of_ble_eq_true rfl⟩) o_mod rfl rfl rfl (Nat.le_of_ble_eq_true rfl) dX5_spread_2 ?_
  refine z_if_eqB (pc := 5) 15 M dX5_spread_5 (by decide) h (fun c_17 h => ?_) (fun c_17 h => ?_)
  · refine z_ldc2 (pc := 15) M wdX5_spread_Cond_constantLong_RX5_104_1 dX5_spread_15 ?_
    exact z_lretW (pc := 18) M (Option.some.inj h) rfl dX5_spread_18
  · refine z_iload_n (pc := 8) M dX5_spread_8 rfl 2 rfl ?_
    obtain ⟨r3, h4, h⟩ := bo_in h
    refine z_scall (pc := 9) (As := [.int p1]) M (kX5_isWhat l p1 r3 h4) (va_cwS 1 M.1.2.2.2.2 gX5_spread_X5_isWhat rfl rfl rfl (by decide +kernel) ⟨Nat.le_of_ble_eq_true rfl, Nat.le_of_ble_eq_true rfl⟩) rfl rfl (Nat.le_of_ble_eq_true rfl) dX5_spread_9 ?_
    refine z_if_neB (pc := 12) 19 M dX5_spread_12 (by decide) h (fun c_16 h => ?_) (fun c_16 h => ?_)
    · refine z_lconst (pc := 19) (v := 0) M dX5_spread_19 (by decide) ?_
      refine z_lstore_n (pc := 20) M dX5_spread_20 rfl (by decide) [1, 2, 3, 0] [(0, .ref (ad 12)), (1, .int p0), (2, .int p1), (3, .long (0 : Int64))] rfl ?_
      refine z_lconst (pc := 21) (v := 0) M dX5_spread_21 (by decide) ?_
      refine z_lstore (pc := 22) M dX5_spread_22 (by decide) [1, 2, 3, 4, 0] [(0, .ref (ad 12)), (1, .int p0), (2, .int p1), (3, .long (0 : Int64)), (5, .long (0 : Int64))] rfl ?_
      refine z_iconst (pc := 24) (v := 0) M dX5_spread_24 (by decide) ?_
      refine z_istore (pc := 25) M dX5_spread_25 (by decide) [1, 2, 3, 4, 5, 0] [(0, .ref (ad 12)), (1, .int p0), (2, .int p1), (3, .long (0 : Int64)), (5, .long (0 : Int64)), (7, .int (0 : Int32))] rfl ?_
      refine z_locals [0, 1, 2, 3, 4, 5] [(0, .ref (ad 12)), (1, .int p0), (2, .int p1), (3, .long (0 : Int64)), (5, .long (0 : Int64)), (7, .int (0 : Int32))] rfl ?_
      obtain ⟨q10, h11, h⟩ := bo_in h
      refine LX5_spread_1 M K p0 p1 S FU (0 : Int64) (0 : Int64) (0 : Int32) _ h11 (fun a hE => ?_)
      cases hE
      refine z_aload_n (pc := 75) M dX5_spread_75 rfl 0 rfl ?_
      refine z_iload_n (pc := 76) M dX5_spread_76 rfl 1 rfl ?_
      obtain ⟨r12, h13, h⟩ := bo_in h
      refine z_vcall (pc := 77) (As := [.int p0]) M K (kX5_sum l D cy ad n p0 S r12 h13) (cwV 1 M.1.2.2.2.2 gX5_spread_X5_sum rfl rfl rfl (by decide +kernel) ⟨Nat.le_of_ble_eq_true rfl, Nat.le_of_ble_eq_true rfl⟩) o_mod rfl rfl rfl (Nat.le_of_ble_eq_true rfl) dX5_spread_77 ?_
      refine z_lstore (pc := 80) M dX5_spread_80 (by decide) [3, 4, 5, 0] [(2, .int p1), (3, .long (q10.1)), (5, .long (q10.2)), (7, .long r12)] rfl ?_
      refine z_lload (pc := 82) M dX5_spread_82 2 rfl ?_
      refine z_lload (pc := 84) M dX5_spread_84 3 rfl ?_
      refine z_lmul (pc := 86) M dX5_spread_86 ?_
      refine z_lload_n (pc := 87) M dX5_spread_87 rfl 1 rfl ?_
      refine z_lload_n (pc := 88) M dX5_spread_88 rfl 1 rfl ?_
      refine z_lmul (pc := 89) M dX5_spread_89 ?_
      refine z_lsub (pc := 90) M dX5_spread_90 ?_
      refine z_lload (pc := 91) M dX5_spread_91 3 rfl ?_
      refine z_lload (pc := 93) M dX5_spread_93 3 rfl ?_
      refine z_lmul (pc := 95) M dX5_spread_95 ?_
      refine z_iload_n (pc := 96) M dX5_spread_96 rfl 0 rfl ?_
      obtain ⟨r14, h15, h⟩ := bo_in h
      refine z_scall (pc := 97) (As := [.long (((q10.2) * r12) - ((q10.1) * (q10.1))), .long (r12 * r12), .int p1]) M (kX5_fraction l (((q10.2) * r12) - ((q10.1) * (q10.1))) (r12 * r12) p1 r14 h15) (va_cwS 3 M.1.2.2.2.2 gX5_spread_X5_fraction rfl rfl rfl (by decide +kernel) ⟨Nat.le_of_ble_eq_true rfl, Nat.le_of_ble_eq_true rfl⟩) rfl rfl (Nat.le_of_ble_eq_true rfl) dX5_spread_97 ?_
      exact z_lretW (pc := 100) M (Option.some.inj h) rfl dX5_spread_100
    · refine z_ldc2 (pc := 15) M wdX5_spread_Cond_constantLong_RX5_104_1 dX5_spread_15 ?_
      exact z_lretW (pc := 18) M (Option.some.inj h) rfl dX5_spread_18
def rmX5_shunning : Room := { frames := 1, cells := 0, slots := 0, locals := 26 }
set_option maxRecDepth 100000 in
set_option maxHeartbeats 4000000 in
theorem kX5_shunning (l : Launch) (D : va_G) (cy ad : Nat → Nat) (n : Nat) (p0 : Int32) (p1 : Int32) (p2 : Int32) (S : St) (r : Int64) (h : fX5_shunning n p0 p1 p2 S = some r) : CW l D cy ad n yX5_shunning wsX5_shunning rmX5_shunning [.ref (ad 12), .int p0, .int p1, .int p2] S (some (.long r)) S := by
  refine CW.of (cc := cX5_shunning) (nL := 4) (ret := (some .long)) (own := RX5) rfl (by decide +kernel) rfl (Nat.le_of_ble_eq_true rfl) ?_
  intro p e s m args below meth c M K
  unfold fX5_shunning at h
  refine z_locals [0, 1, 2, 3] [(0, .ref (ad 12)), (1, .int p0), (2, .int p1), (3, .int p2)] rfl ?_
  refine z_aload_n (pc := 0) M dX5_shunning_0 rfl 0 rfl ?_
  refine z_iload_n (pc := 1) M dX5_shunning_1 rfl 1 rfl ?_
  refine z_iconst (pc := 2) (v := 1) M dX5_shunning_2 (by decide) ?_
  refine z_iload_n (pc := 3) M dX5_shunning_3 rfl 2 rfl ?_
  refine z_ishl (pc := 4) M dX5_shunning_4 ?_
  refine z_iconst (pc := 5) (v := 0) M dX5_shunning_5 (by decide) ?_
  obtain ⟨r1, h2, h⟩ := bo_in h
  refine z_vcall (pc := 6) (As := [.int p0, .int ((1 : Int32) <<< (p1 &&& 31)), .int (0 : Int32)]) M K (kX5_sumOf l D cy ad n p0 ((1 : Int32) <<< (p1 &&& 31)) (0 : Int32) S r1 h2) (cwV 3 M.1.2.2.2.2 gX5_shunning_X5_sumOf rfl rfl rfl (by decide +kernel) ⟨Nat.le_of_ble_eq_true rfl, Nat.le_of_ble_eq_true rfl⟩) o_mod rfl rfl rfl (Nat.le_of_ble_eq_true rfl) dX5_shunning_6 ?_
  refine z_aload_n (pc := 9) M dX5_shunning_9 rfl 0 rfl ?_
  refine z_iload_n (pc := 10) M dX5_shunning_10 rfl 1 rfl ?_
  refine z_iconst (pc := 11) (v := 1) M dX5_shunning_11 (by decide) ?_
  refine z_iload_n (pc := 12) M dX5_shunning_12 rfl 3 rfl ?_
  refine z_ishl (pc := 13) M dX5_shunning_13 ?_
  refine z_iconst (pc := 14) (v := 0) M dX5_shunning_14 (by decide) ?_
  obtain ⟨r3, h4, h⟩ := bo_in h
  refine z_vcall (pc := 15) (As := [.int p0, .int ((1 : Int32) <<< (p2 &&& 31)), .int (0 : Int32)]) M K (kX5_sumOf l D cy ad n p0 ((1 : Int32) <<< (p2 &&& 31)) (0 : Int32) S r3 h4) (cwV 3 M.1.2.2.2.2 gX5_shunning_X5_sumOf rfl rfl rfl (by decide +kernel) ⟨Nat.le_of_ble_eq_true rfl, Nat.le_of_ble_eq_true rfl⟩) o_mod rfl rfl rfl (Nat.le_of_ble_eq_true rfl) dX5_shunning_15 ?_
  refine z_lmul (pc := 18) M dX5_shunning_18 ?_
  refine z_aload_n (pc := 19) M dX5_shunning_19 rfl 0 rfl ?_
  refine z_iload_n (pc := 20) M dX5_shunning_20 rfl 1 rfl ?_
  refine z_iconst (pc := 21) (v := 1) M dX5_shunning_21 (by decide) ?_
  refine z_iload_n (pc := 22) M dX5_shunning_22 rfl 2 rfl ?_
  refine z_ishl (pc := 23) M dX5_shunning_23 ?_
  refine z_iconst (pc := 24) (v := 1) M dX5_shunning_24 (by decide) ?_
  refine z_iload_n (pc := 25) M dX5_shunning_25 rfl 3 rfl ?_
  refine z_ishl (pc := 26) M dX5_shunning_26 ?_
  refine z_ior (pc := 27) M dX5_shunning_27 ?_
  refine z_iconst (pc := 28) (v := 0) M dX5_shunning_28 (by decide) ?_
  obtain ⟨r5, h6, h⟩ := bo_in h
  refine z_vcall (pc := 29) (As := [.int p0, .int (((1 : Int32) <<< (p1 &&& 31)) ||| ((1 : Int32) <<< (p2 &&& 31))), .int (0 : Int32)]) M K (kX5_sumOf l D cy ad n p0 (((1 : Int32) <<< (p1 &&& 31)) ||| ((1 : Int32) <<< (p2 &&& 31))) (0 : Int32) S r5 h6) (cwV 3 M.1.2.2.2.2 gX5_shunning_X5_sumOf rfl rfl rfl (by decide +kernel) ⟨Nat.le_of_ble_eq_true rfl, Nat.le_of_ble_eq_true rfl⟩) o_mod rfl rfl rfl (Nat.le_of_ble_eq_true rfl) dX5_shunning_29 ?_
  refine z_aload_n (pc := 32) M dX5_shunning_32 rfl 0 rfl ?_
  refine z_iload_n (pc := 33) M dX5_shunning_33 rfl 1 rfl ?_
  obtain ⟨r7, h8, h⟩ := bo_in h
  refine z_vcall (pc := 34) (As := [.int p0]) M K (kX5_sum l D cy ad n p0 S r7 h8) (cwV 1 M.1.2.2.2.2 gX5_shunning_X5_sum rfl rfl rfl (by decide +kernel) ⟨Nat.le_of_ble_eq_true rfl, Nat.le_of_ble_eq_true rfl⟩) o_mod rfl rfl rfl (Nat.le_of_ble_eq_true rfl) dX5_shunning_34 ?_
  refine z_lmul (pc := 37) M dX5_shunning_37 ?_
  refine z_lsub (pc := 38) M dX5_shunning_38 ?_
  exact z_lretW (pc := 39) M (Option.some.inj h) rfl dX5_shunning_39
def rmX5_both : Room := { frames := 3, cells := 0, slots := 0, locals := 63 }
set_option maxRecDepth 100000 in
set_option maxHeartbeats 4000000 in
theorem kX5_both (l : Launch) (D : va_G) (cy ad : Nat → Nat) (n : Nat) (p0 : Int32) (p1 : Int32) (p2 : Int32) (p3 : Int32) (S : St) (r : Int64) (h : fX5_both n p0 p1 p2 p3 S = some r) : CW l D cy ad n yX5_both wsX5_both rmX5_both [.ref (ad 12), .int p0, .int p1, .int p2, .int p3] S (some (.long r)) S := by
  refine CW.of (cc := cX5_both) (nL := 7) (ret := (some .long)) (own := RX5) rfl (by decide +kernel) rfl (Nat.le_of_ble_eq_true rfl) ?_
  intro p e s m args below meth c M K
  unfold fX5_both at h
  refine z_locals [0, 1, 2, 3, 4] [(0, .ref (ad 12)), (1, .int p0), (2, .int p1), (3, .int p2), (4, .int p3)] rfl ?_
  refine z_aload_n (pc := 0) M dX5_both_0 rfl 0 rfl ?_
  refine z_iload_n (pc := 1) M dX5_both_1 rfl 1 rfl ?_
  obtain ⟨r1, h2, h⟩ := bo_in h
  refine z_vcall (pc := 2) (As := [.int p0]) M K (kX5_isLaw l D cy ad n p0 S r1 h2) (cwV 1 M.1.2.2.2.2 gX5_both_X5_isLaw rfl rfl rfl (by decide +kernel) ⟨Nat.le_of_ble_eq_true rfl, Nat.le_of_ble_eq_true rfl⟩) o_mod rfl rfl rfl (Nat.le_of_ble_eq_true rfl) dX5_both_2 ?_
  refine z_if_eqB (pc := 5) 37 M dX5_both_5 (by decide) h (fun c_19 h => ?_) (fun c_19 h => ?_)
  · refine z_lconst (pc := 37) (v := 0) M dX5_both_37 (by decide) ?_
    exact z_lretW (pc := 38) M (Option.some.inj h) rfl dX5_both_38
  · refine z_aload_n (pc := 8) M dX5_both_8 rfl 0 rfl ?_
    refine z_iload_n (pc := 9) M dX5_both_9 rfl 2 rfl ?_
    obtain ⟨r3, h4, h⟩ := bo_in h
    refine z_vcall (pc := 10) (As := [.int p1]) M K (kX5_isThing l D cy ad n p1 S r3 h4) (cwV 1 M.1.2.2.2.2 gX5_both_X5_isThing rfl rfl rfl (by decide +kernel) ⟨Nat.le_of_ble_eq_true rfl, Nat.le_of_ble_eq_true rfl⟩) o_mod rfl rfl rfl (Nat.le_of_ble_eq_true rfl) dX5_both_10 ?_
    refine z_if_eqB (pc := 13) 37 M dX5_both_13 (by decide) h (fun c_18 h => ?_) (fun c_18 h => ?_)
    · refine z_lconst (pc := 37) (v := 0) M dX5_both_37 (by decide) ?_
      exact z_lretW (pc := 38) M (Option.some.inj h) rfl dX5_both_38
    · refine z_aload_n (pc := 16) M dX5_both_16 rfl 0 rfl ?_
      refine z_iload_n (pc := 17) M dX5_both_17 rfl 3 rfl ?_
      obtain ⟨r5, h6, h⟩ := bo_in h
      refine z_vcall (pc := 18) (As := [.int p2]) M K (kX5_isThing l D cy ad n p2 S r5 h6) (cwV 1 M.1.2.2.2.2 gX5_both_X5_isThing rfl rfl rfl (by decide +kernel) ⟨Nat.le_of_ble_eq_true rfl, Nat.le_of_ble_eq_true rfl⟩) o_mod rfl rfl rfl (Nat.le_of_ble_eq_true rfl) dX5_both_18 ?_
      refine z_if_eqB (pc := 21) 37 M dX5_both_21 (by decide) h (fun c_17 h => ?_) (fun c_17 h => ?_)
      · refine z_lconst (pc := 37) (v := 0) M dX5_both_37 (by decide) ?_
        exact z_lretW (pc := 38) M (Option.some.inj h) rfl dX5_both_38
      · refine z_iload_n (pc := 24) M dX5_both_24 rfl 2 rfl ?_
        refine z_iload_n (pc := 25) M dX5_both_25 rfl 3 rfl ?_
        refine z_icmp_eq (pc := 26) 37 M dX5_both_26 (by decide) h (fun c_16 h => ?_) (fun c_16 h => ?_)
        · refine z_lconst (pc := 37) (v := 0) M dX5_both_37 (by decide) ?_
          exact z_lretW (pc := 38) M (Option.some.inj h) rfl dX5_both_38
        · refine z_iload (pc := 29) M dX5_both_29 4 rfl ?_
          obtain ⟨r7, h8, h⟩ := bo_in h
          refine z_scall (pc := 31) (As := [.int p3]) M (kX5_isWhat l p3 r7 h8) (va_cwS 1 M.1.2.2.2.2 gX5_both_X5_isWhat rfl rfl rfl (by decide +kernel) ⟨Nat.le_of_ble_eq_true rfl, Nat.le_of_ble_eq_true rfl⟩) rfl rfl (Nat.le_of_ble_eq_true rfl) dX5_both_31 ?_
          refine z_if_neB (pc := 34) 39 M dX5_both_34 (by decide) h (fun c_15 h => ?_) (fun c_15 h => ?_)
          · refine z_aload_n (pc := 39) M dX5_both_39 rfl 0 rfl ?_
            refine z_iload_n (pc := 40) M dX5_both_40 rfl 1 rfl ?_
            obtain ⟨r9, h10, h⟩ := bo_in h
            refine z_vcall (pc := 41) (As := [.int p0]) M K (kX5_sum l D cy ad n p0 S r9 h10) (cwV 1 M.1.2.2.2.2 gX5_both_X5_sum rfl rfl rfl (by decide +kernel) ⟨Nat.le_of_ble_eq_true rfl, Nat.le_of_ble_eq_true rfl⟩) o_mod rfl rfl rfl (Nat.le_of_ble_eq_true rfl) dX5_both_41 ?_
            refine z_lstore (pc := 44) M dX5_both_44 (by decide) [1, 2, 3, 4, 5, 0] [(0, .ref (ad 12)), (1, .int p0), (2, .int p1), (3, .int p2), (4, .int p3), (5, .long r9)] rfl ?_
            refine z_aload_n (pc := 46) M dX5_both_46 rfl 0 rfl ?_
            refine z_iload_n (pc := 47) M dX5_both_47 rfl 1 rfl ?_
            refine z_iload_n (pc := 48) M dX5_both_48 rfl 2 rfl ?_
            refine z_iload_n (pc := 49) M dX5_both_49 rfl 3 rfl ?_
            obtain ⟨r11, h12, h⟩ := bo_in h
            refine z_vcall (pc := 50) (As := [.int p0, .int p1, .int p2]) M K (kX5_shunning l D cy ad n p0 p1 p2 S r11 h12) (cwV 3 M.1.2.2.2.2 gX5_both_X5_shunning rfl rfl rfl (by decide +kernel) ⟨Nat.le_of_ble_eq_true rfl, Nat.le_of_ble_eq_true rfl⟩) o_mod rfl rfl rfl (Nat.le_of_ble_eq_true rfl) dX5_both_50 ?_
            refine z_lload (pc := 53) M dX5_both_53 5 rfl ?_
            refine z_lload (pc := 55) M dX5_both_55 5 rfl ?_
            refine z_lmul (pc := 57) M dX5_both_57 ?_
            refine z_iload (pc := 58) M dX5_both_58 4 rfl ?_
            obtain ⟨r13, h14, h⟩ := bo_in h
            refine z_scall (pc := 60) (As := [.long r11, .long (r9 * r9), .int p3]) M (kX5_fraction l r11 (r9 * r9) p3 r13 h14) (va_cwS 3 M.1.2.2.2.2 gX5_both_X5_fraction rfl rfl rfl (by decide +kernel) ⟨Nat.le_of_ble_eq_true rfl, Nat.le_of_ble_eq_true rfl⟩) rfl rfl (Nat.le_of_ble_eq_true rfl) dX5_both_60 ?_
            exact z_lretW (pc := 63) M (Option.some.inj h) rfl dX5_both_63
          · refine z_lconst (pc := 37) (v := 0) M dX5_both_37 (by decide) ?_
            exact z_lretW (pc := 38) M (Option.some.inj h) rfl dX5_both_38
def rmX5_shuns : Room := { frames := 3, cells := 0, slots := 0, locals := 63 }
theorem flX5_shuns_45 : Cond.fieldLink RX5 45 "ShunLotsModel" "n" "I" ∈ wsX5_shuns := by decide +kernel
theorem inX5_shuns_X5 : ∀ w ∈ wsX50, w ∈ wsX5_shuns := by decide +kernel
set_option maxRecDepth 100000 in
set_option maxHeartbeats 4000000 in
theorem LX5_shuns_2 {p : Program} {l : Launch} {e : Env} {s : State} {m : MethodId} {args : Array Value} {below : List Frame} {meth : Method} {c : Code} {Q : State → Prop} {D : va_G} {cy ad : Nat → Nat} {n : Nat} (M : MX p m c cX5_shuns 4 s args wsX5_shuns RX5 meth (some .int)) (K : KK D cy ad s) (x1 : Int32) (x2 : Int32)  (S : St) : ∀ (fuel : Nat) (x3 : Int32) (o : ((Unit) ⊕ Int32)), lX5_shuns_2 n x1 x2 S fuel x3 = some o → ∀ (hx : ∀ a, o = .inl a → Zz p l e rmX5_shuns s m args below meth c 4 Q (Hw D cy ad n s S) 47 [(0, .ref (ad 12)), (1, .int x1), (2, .int x2)] []) (hq : ∀ r, o = .inr r → Q = Qw D cy ad n below args s (some (.int r)) S), Zz p l e rmX5_shuns s m args below meth c 4 Q (Hw D cy ad n s S) 22 [(0, .ref (ad 12)), (1, .int x1), (2, .int x2), (3, .int x3)] [] := by
  intro fuel
  induction fuel with
  | zero => intro x3 o h; exact nomatch (show (none : Option _) = some o from h)
  | succ fuel ih =>
    intro x3 o h hx hq
    have h : bX5_shuns_2 n x1 x2 S (lX5_shuns_2 n x1 x2 S fuel) x3 = some o := h
    unfold bX5_shuns_2 at h
    refine z_iload_n (pc := 22) M dX5_shuns_22 rfl 3 rfl ?_
    refine z_iload_n (pc := 23) M dX5_shuns_23 rfl 2 rfl ?_
    refine z_icmp_ge (pc := 24) 47 M dX5_shuns_24 (by decide) h (fun c_6 h => ?_) (fun c_6 h => ?_)
    · refine z_locals [0, 1, 2] [(0, .ref (ad 12)), (1, .int x1), (2, .int x2)] rfl ?_
      cases h
      exact hx _ rfl
    · refine z_aload_n (pc := 27) M dX5_shuns_27 rfl 0 rfl ?_
      refine z_iload_n (pc := 28) M dX5_shuns_28 rfl 1 rfl ?_
      refine z_iload_n (pc := 29) M dX5_shuns_29 rfl 2 rfl ?_
      refine z_iload_n (pc := 30) M dX5_shuns_30 rfl 3 rfl ?_
      obtain ⟨r3, h4, h⟩ := bo_in h
      refine z_vcall (pc := 31) (As := [.int x1, .int x2, .int x3]) M K (kX5_shunning l D cy ad n x1 x2 x3 S r3 h4) (cwV 3 M.1.2.2.2.2 gX5_shuns_X5_shunning rfl rfl rfl (by decide +kernel) ⟨Nat.le_of_ble_eq_true rfl, Nat.le_of_ble_eq_true rfl⟩) o_mod rfl rfl rfl (Nat.le_of_ble_eq_true rfl) dX5_shuns_31 ?_
      refine z_lconst (pc := 34) (v := 0) M dX5_shuns_34 (by decide) ?_
      refine z_lcmp (pc := 35) M dX5_shuns_35 ?_
      refine z_if_ge (pc := 36) 41 M dX5_shuns_36 (by decide) h (fun c_5 h => ?_) (fun c_5 h => ?_)
      · refine z_iinc (pc := 41) M dX5_shuns_41 (x3 + 1) rfl 3 rfl (by decide) [1, 2, 3, 0] [(0, .ref (ad 12)), (1, .int x1), (2, .int x2), (3, .int (x3 + 1))] rfl ?_
        refine z_goto (pc := 44) 22 M dX5_shuns_44 (by decide) ?_
        refine z_locals [0, 1, 2, 3] [(0, .ref (ad 12)), (1, .int x1), (2, .int x2), (3, .int (x3 + 1))] rfl ?_
        exact ih (x3 + 1) _ h hx hq
      · refine z_iconst (pc := 39) (v := 0) M dX5_shuns_39 (by decide) ?_
        cases h
        rw [hq _ rfl]
        exact z_iretW (pc := 40) M rfl rfl dX5_shuns_40
set_option maxRecDepth 100000 in
set_option maxHeartbeats 4000000 in
theorem LX5_shuns_1 {p : Program} {l : Launch} {e : Env} {s : State} {m : MethodId} {args : Array Value} {below : List Frame} {meth : Method} {c : Code} {Q : State → Prop} {D : va_G} {cy ad : Nat → Nat} {n : Nat} (M : MX p m c cX5_shuns 4 s args wsX5_shuns RX5 meth (some .int)) (K : KK D cy ad s) (x1 : Int32)  (S : St) : ∀ (fuel : Nat) (x2 : Int32) (o : ((Unit) ⊕ Int32)), lX5_shuns_1 n x1 S fuel x2 = some o → ∀ (hx : ∀ a, o = .inl a → Zz p l e rmX5_shuns s m args below meth c 4 Q (Hw D cy ad n s S) 53 [] []) (hq : ∀ r, o = .inr r → Q = Qw D cy ad n below args s (some (.int r)) S), Zz p l e rmX5_shuns s m args below meth c 4 Q (Hw D cy ad n s S) 12 [(0, .ref (ad 12)), (1, .int x1), (2, .int x2)] [] := by
  intro fuel
  induction fuel with
  | zero => intro x2 o h; exact nomatch (show (none : Option _) = some o from h)
  | succ fuel ih =>
    intro x2 o h hx hq
    have h : bX5_shuns_1 n x1 S (lX5_shuns_1 n x1 S fuel) x2 = some o := h
    unfold bX5_shuns_1 at h
    refine z_iload_n (pc := 12) M dX5_shuns_12 rfl 2 rfl ?_
    refine z_aload_n (pc := 13) M dX5_shuns_13 rfl 0 rfl ?_
    refine z_get (pc := 14) (v := .int (nI n)) M K inX5_shuns_X5 o_mod rfl 0 (by decide) flX5_shuns_45 rfl rfl dX5_shuns_14 ?_
    refine z_icmp_ge (pc := 17) 53 M dX5_shuns_17 (by decide) h (fun c_9 h => ?_) (fun c_9 h => ?_)
    · refine z_locals [] [] rfl ?_
      cases h
      exact hx _ rfl
    · refine z_iconst (pc := 20) (v := 0) M dX5_shuns_20 (by decide) ?_
      refine z_istore_n (pc := 21) M dX5_shuns_21 rfl (by decide) [1, 2, 3, 0] [(0, .ref (ad 12)), (1, .int x1), (2, .int x2), (3, .int (0 : Int32))] rfl ?_
      refine z_locals [0, 1, 2, 3] [(0, .ref (ad 12)), (1, .int x1), (2, .int x2), (3, .int (0 : Int32))] rfl ?_
      rcases bs_in h with ⟨q7, h8, h⟩ | ⟨r9, h8, h⟩
      · refine LX5_shuns_2 M K x1 x2 S FU (0 : Int32) _ h8 (fun a hE => ?_) (fun r e9 => nomatch e9)
        cases hE
        refine z_iinc (pc := 47) M dX5_shuns_47 (x2 + 1) rfl 2 rfl (by decide) [1, 2, 0] [(0, .ref (ad 12)), (1, .int x1), (2, .int (x2 + 1))] rfl ?_
        refine z_goto (pc := 50) 12 M dX5_shuns_50 (by decide) ?_
        refine z_locals [0, 1, 2] [(0, .ref (ad 12)), (1, .int x1), (2, .int (x2 + 1))] rfl ?_
        exact ih (x2 + 1) _ h hx hq
      · exact LX5_shuns_2 M K x1 x2 S FU (0 : Int32) _ h8 (fun a e9 => nomatch e9) (fun r e9 => by cases e9; exact hq _ (Option.some.inj h).symm)
set_option maxRecDepth 100000 in
set_option maxHeartbeats 4000000 in
theorem kX5_shuns (l : Launch) (D : va_G) (cy ad : Nat → Nat) (n : Nat) (p0 : Int32) (S : St) (r : Int32) (h : fX5_shuns n p0 S = some r) : CW l D cy ad n yX5_shuns wsX5_shuns rmX5_shuns [.ref (ad 12), .int p0] S (some (.int r)) S := by
  refine CW.of (cc := cX5_shuns) (nL := 4) (ret := (some .int)) (own := RX5) rfl (by decide +kernel) rfl (Nat.le_of_ble_eq_true rfl) ?_
  intro p e s m args below meth c M K
  unfold fX5_shuns at h
  refine z_locals [0, 1] [(0, .ref (ad 12)), (1, .int p0)] rfl ?_
  refine z_aload_n (pc := 0) M dX5_shuns_0 rfl 0 rfl ?_
  refine z_iload_n (pc := 1) M dX5_shuns_1 rfl 1 rfl ?_
  obtain ⟨r1, h2, h⟩ := bo_in h
  refine z_vcall (pc := 2) (As := [.int p0]) M K (kX5_isLaw l D cy ad n p0 S r1 h2) (cwV 1 M.1.2.2.2.2 gX5_shuns_X5_isLaw rfl rfl rfl (by decide +kernel) ⟨Nat.le_of_ble_eq_true rfl, Nat.le_of_ble_eq_true rfl⟩) o_mod rfl rfl rfl (Nat.le_of_ble_eq_true rfl) dX5_shuns_2 ?_
  refine z_if_neB (pc := 5) 10 M dX5_shuns_5 (by decide) h (fun c_12 h => ?_) (fun c_12 h => ?_)
  · refine z_iconst (pc := 10) (v := 0) M dX5_shuns_10 (by decide) ?_
    refine z_istore_n (pc := 11) M dX5_shuns_11 rfl (by decide) [1, 2, 0] [(0, .ref (ad 12)), (1, .int p0), (2, .int (0 : Int32))] rfl ?_
    refine z_locals [0, 1, 2] [(0, .ref (ad 12)), (1, .int p0), (2, .int (0 : Int32))] rfl ?_
    rcases bs_in h with ⟨q10, h11, h⟩ | ⟨r9, h11, h⟩
    · refine LX5_shuns_1 M K p0 S FU (0 : Int32) _ h11 (fun a hE => ?_) (fun r e9 => nomatch e9)
      cases hE
      refine z_iconst (pc := 53) (v := 1) M dX5_shuns_53 (by decide) ?_
      exact z_iretW (pc := 54) M (Option.some.inj h) rfl dX5_shuns_54
    · exact LX5_shuns_1 M K p0 S FU (0 : Int32) _ h11 (fun a e9 => nomatch e9) (fun r e9 => by cases e9; cases h; rfl)
  · refine z_iconst (pc := 8) (v := -1) M dX5_shuns_8 (by decide) ?_
    exact z_iretW (pc := 9) M (Option.some.inj h) rfl dX5_shuns_9
def rmX5_rises : Room := { frames := 3, cells := 0, slots := 0, locals := 63 }
theorem flX5_rises_45 : Cond.fieldLink RX5 45 "ShunLotsModel" "n" "I" ∈ wsX5_rises := by decide +kernel
theorem inX5_rises_X5 : ∀ w ∈ wsX50, w ∈ wsX5_rises := by decide +kernel
set_option maxRecDepth 100000 in
set_option maxHeartbeats 4000000 in
theorem LX5_rises_1 {p : Program} {l : Launch} {e : Env} {s : State} {m : MethodId} {args : Array Value} {below : List Frame} {meth : Method} {c : Code} {Q : State → Prop} {D : va_G} {cy ad : Nat → Nat} {n : Nat} (M : MX p m c cX5_rises 3 s args wsX5_rises RX5 meth (some .int)) (K : KK D cy ad s) (x1 : Int32)  (S : St) : ∀ (fuel : Nat) (x2 : Int32) (o : (Int32)), lX5_rises_1 n x1 S fuel x2 = some o → ∀ (hx : ∀ a, o = a → Zz p l e rmX5_rises s m args below meth c 3 Q (Hw D cy ad n s S) 44 [(0, .ref (ad 12)), (1, .int x1), (2, .int a)] []) , Zz p l e rmX5_rises s m args below meth c 3 Q (Hw D cy ad n s S) 12 [(0, .ref (ad 12)), (1, .int x1), (2, .int x2)] [] := by
  intro fuel
  induction fuel with
  | zero => intro x2 o h; exact nomatch (show (none : Option _) = some o from h)
  | succ fuel ih =>
    intro x2 o h hx 
    have h : bX5_rises_1 n x1 S (lX5_rises_1 n x1 S fuel) x2 = some o := h
    unfold bX5_rises_1 at h
    refine z_iload_n (pc := 12) M dX5_rises_12 rfl 2 rfl ?_
    refine z_aload_n (pc := 13) M dX5_rises_13 rfl 0 rfl ?_
    refine z_get (pc := 14) (v := .int (nI n)) M K inX5_rises_X5 o_mod rfl 0 (by decide) flX5_rises_45 rfl rfl dX5_rises_14 ?_
    refine z_icmp_ge (pc := 17) 44 M dX5_rises_17 (by decide) h (fun c_8 h => ?_) (fun c_8 h => ?_)
    · refine z_locals [0, 1, 2] [(0, .ref (ad 12)), (1, .int x1), (2, .int x2)] rfl ?_
      cases h
      exact hx _ rfl
    · refine z_aload_n (pc := 20) M dX5_rises_20 rfl 0 rfl ?_
      refine z_iload_n (pc := 21) M dX5_rises_21 rfl 1 rfl ?_
      refine z_iload_n (pc := 22) M dX5_rises_22 rfl 2 rfl ?_
      obtain ⟨r3, h4, h⟩ := bo_in h
      refine z_vcall (pc := 23) (As := [.int x1, .int x2]) M K (kX5_ofSize l D cy ad n x1 x2 S r3 h4) (cwV 2 M.1.2.2.2.2 gX5_rises_X5_ofSize rfl rfl rfl (by decide +kernel) ⟨Nat.le_of_ble_eq_true rfl, Nat.le_of_ble_eq_true rfl⟩) o_mod rfl rfl rfl (Nat.le_of_ble_eq_true rfl) dX5_rises_23 ?_
      refine z_aload_n (pc := 26) M dX5_rises_26 rfl 0 rfl ?_
      refine z_iload_n (pc := 27) M dX5_rises_27 rfl 1 rfl ?_
      refine z_iload_n (pc := 28) M dX5_rises_28 rfl 2 rfl ?_
      refine z_iconst (pc := 29) (v := 1) M dX5_rises_29 (by decide) ?_
      refine z_iadd (pc := 30) M dX5_rises_30 ?_
      obtain ⟨r5, h6, h⟩ := bo_in h
      refine z_vcall (pc := 31) (As := [.int x1, .int (x2 + (1 : Int32))]) M K (kX5_ofSize l D cy ad n x1 (x2 + (1 : Int32)) S r5 h6) (cwV 2 M.1.2.2.2.2 gX5_rises_X5_ofSize rfl rfl rfl (by decide +kernel) ⟨Nat.le_of_ble_eq_true rfl, Nat.le_of_ble_eq_true rfl⟩) o_mod rfl rfl rfl (Nat.le_of_ble_eq_true rfl) dX5_rises_31 ?_
      refine z_lcmp (pc := 34) M dX5_rises_34 ?_
      refine z_if_gt (pc := 35) 44 M dX5_rises_35 (by decide) h (fun c_7 h => ?_) (fun c_7 h => ?_)
      · refine z_locals [0, 1, 2] [(0, .ref (ad 12)), (1, .int x1), (2, .int x2)] rfl ?_
        cases h
        exact hx _ rfl
      · refine z_iinc (pc := 38) M dX5_rises_38 (x2 + 1) rfl 2 rfl (by decide) [1, 2, 0] [(0, .ref (ad 12)), (1, .int x1), (2, .int (x2 + 1))] rfl ?_
        refine z_goto (pc := 41) 12 M dX5_rises_41 (by decide) ?_
        refine z_locals [0, 1, 2] [(0, .ref (ad 12)), (1, .int x1), (2, .int (x2 + 1))] rfl ?_
        exact ih (x2 + 1) _ h hx
set_option maxRecDepth 100000 in
set_option maxHeartbeats 4000000 in
theorem LX5_rises_2 {p : Program} {l : Launch} {e : Env} {s : State} {m : MethodId} {args : Array Value} {below : List Frame} {meth : Method} {c : Code} {Q : State → Prop} {D : va_G} {cy ad : Nat → Nat} {n : Nat} (M : MX p m c cX5_rises 3 s args wsX5_rises RX5 meth (some .int)) (K : KK D cy ad s) (x1 : Int32)  (S : St) : ∀ (fuel : Nat) (x2 : Int32) (o : (Int32)), lX5_rises_2 n x1 S fuel x2 = some o → ∀ (hx : ∀ a, o = a → Zz p l e rmX5_rises s m args below meth c 3 Q (Hw D cy ad n s S) 76 [(0, .ref (ad 12)), (2, .int a)] []) , Zz p l e rmX5_rises s m args below meth c 3 Q (Hw D cy ad n s S) 44 [(0, .ref (ad 12)), (1, .int x1), (2, .int x2)] [] := by
  intro fuel
  induction fuel with
  | zero => intro x2 o h; exact nomatch (show (none : Option _) = some o from h)
  | succ fuel ih =>
    intro x2 o h hx 
    have h : bX5_rises_2 n x1 S (lX5_rises_2 n x1 S fuel) x2 = some o := h
    unfold bX5_rises_2 at h
    refine z_iload_n (pc := 44) M dX5_rises_44 rfl 2 rfl ?_
    refine z_aload_n (pc := 45) M dX5_rises_45 rfl 0 rfl ?_
    refine z_get (pc := 46) (v := .int (nI n)) M K inX5_rises_X5 o_mod rfl 0 (by decide) flX5_rises_45 rfl rfl dX5_rises_46 ?_
    refine z_icmp_ge (pc := 49) 76 M dX5_rises_49 (by decide) h (fun c_16 h => ?_) (fun c_16 h => ?_)
    · refine z_locals [0, 2] [(0, .ref (ad 12)), (2, .int x2)] rfl ?_
      cases h
      exact hx _ rfl
    · refine z_aload_n (pc := 52) M dX5_rises_52 rfl 0 rfl ?_
      refine z_iload_n (pc := 53) M dX5_rises_53 rfl 1 rfl ?_
      refine z_iload_n (pc := 54) M dX5_rises_54 rfl 2 rfl ?_
      obtain ⟨r11, h12, h⟩ := bo_in h
      refine z_vcall (pc := 55) (As := [.int x1, .int x2]) M K (kX5_ofSize l D cy ad n x1 x2 S r11 h12) (cwV 2 M.1.2.2.2.2 gX5_rises_X5_ofSize rfl rfl rfl (by decide +kernel) ⟨Nat.le_of_ble_eq_true rfl, Nat.le_of_ble_eq_true rfl⟩) o_mod rfl rfl rfl (Nat.le_of_ble_eq_true rfl) dX5_rises_55 ?_
      refine z_aload_n (pc := 58) M dX5_rises_58 rfl 0 rfl ?_
      refine z_iload_n (pc := 59) M dX5_rises_59 rfl 1 rfl ?_
      refine z_iload_n (pc := 60) M dX5_rises_60 rfl 2 rfl ?_
      refine z_iconst (pc := 61) (v := 1) M dX5_rises_61 (by decide) ?_
      refine z_iadd (pc := 62) M dX5_rises_62 ?_
      obtain ⟨r13, h14, h⟩ := bo_in h
      refine z_vcall (pc := 63) (As := [.int x1, .int (x2 + (1 : Int32))]) M K (kX5_ofSize l D cy ad n x1 (x2 + (1 : Int32)) S r13 h14) (cwV 2 M.1.2.2.2.2 gX5_rises_X5_ofSize rfl rfl rfl (by decide +kernel) ⟨Nat.le_of_ble_eq_true rfl, Nat.le_of_ble_eq_true rfl⟩) o_mod rfl rfl rfl (Nat.le_of_ble_eq_true rfl) dX5_rises_63 ?_
      refine z_lcmp (pc := 66) M dX5_rises_66 ?_
      refine z_if_lt (pc := 67) 76 M dX5_rises_67 (by decide) h (fun c_15 h => ?_) (fun c_15 h => ?_)
      · refine z_locals [0, 2] [(0, .ref (ad 12)), (2, .int x2)] rfl ?_
        cases h
        exact hx _ rfl
      · refine z_iinc (pc := 70) M dX5_rises_70 (x2 + 1) rfl 2 rfl (by decide) [1, 2, 0] [(0, .ref (ad 12)), (1, .int x1), (2, .int (x2 + 1))] rfl ?_
        refine z_goto (pc := 73) 44 M dX5_rises_73 (by decide) ?_
        refine z_locals [0, 1, 2] [(0, .ref (ad 12)), (1, .int x1), (2, .int (x2 + 1))] rfl ?_
        exact ih (x2 + 1) _ h hx
set_option maxRecDepth 100000 in
set_option maxHeartbeats 4000000 in
theorem kX5_rises (l : Launch) (D : va_G) (cy ad : Nat → Nat) (n : Nat) (p0 : Int32) (S : St) (r : Int32) (h : fX5_rises n p0 S = some r) : CW l D cy ad n yX5_rises wsX5_rises rmX5_rises [.ref (ad 12), .int p0] S (some (.int r)) S := by
  refine CW.of (cc := cX5_rises) (nL := 3) (ret := (some .int)) (own := RX5) rfl (by decide +kernel) rfl (Nat.le_of_ble_eq_true rfl) ?_
  intro p e s m args below meth c M K
  unfold fX5_rises at h
  refine z_locals [0, 1] [(0, .ref (ad 12)), (1, .int p0)] rfl ?_
  refine z_aload_n (pc := 0) M dX5_rises_0 rfl 0 rfl ?_
  refine z_iload_n (pc := 1) M dX5_rises_1 rfl 1 rfl ?_
  obtain ⟨r1, h2, h⟩ := bo_in h
  refine z_vcall (pc := 2) (As := [.int p0]) M K (kX5_isLaw l D cy ad n p0 S r1 h2) (cwV 1 M.1.2.2.2.2 gX5_rises_X5_isLaw rfl rfl rfl (by decide +kernel) ⟨Nat.le_of_ble_eq_true rfl, Nat.le_of_ble_eq_true rfl⟩) o_mod rfl rfl rfl (Nat.le_of_ble_eq_true rfl) dX5_rises_2 ?_
  refine z_if_neB (pc := 5) 10 M dX5_rises_5 (by decide) h (fun c_20 h => ?_) (fun c_20 h => ?_)
  · refine z_iconst (pc := 10) (v := 0) M dX5_rises_10 (by decide) ?_
    refine z_istore_n (pc := 11) M dX5_rises_11 rfl (by decide) [1, 2, 0] [(0, .ref (ad 12)), (1, .int p0), (2, .int (0 : Int32))] rfl ?_
    refine z_locals [0, 1, 2] [(0, .ref (ad 12)), (1, .int p0), (2, .int (0 : Int32))] rfl ?_
    obtain ⟨q9, h10, h⟩ := bo_in h
    refine LX5_rises_1 M K p0 S FU (0 : Int32) _ h10 (fun a hE => ?_)
    cases hE
    refine z_locals [0, 1, 2] [(0, .ref (ad 12)), (1, .int p0), (2, .int q9)] rfl ?_
    obtain ⟨q17, h18, h⟩ := bo_in h
    refine LX5_rises_2 M K p0 S FU q9 _ h18 (fun a hE => ?_)
    cases hE
    refine z_iload_n (pc := 76) M dX5_rises_76 rfl 1 rfl ?_
    refine z_aload_n (pc := 77) M dX5_rises_77 rfl 0 rfl ?_
    refine z_get (pc := 78) (v := .int (nI n)) M K inX5_rises_X5 o_mod rfl 0 (by decide) flX5_rises_45 rfl rfl dX5_rises_78 ?_
    refine z_icmp_ne (pc := 81) 88 M dX5_rises_81 (by decide) h (fun c_19 h => ?_) (fun c_19 h => ?_)
    · refine z_iconst (pc := 88) (v := 0) M dX5_rises_88 (by decide) ?_
      exact z_iretW (pc := 89) M (Option.some.inj h) rfl dX5_rises_89
    · refine z_iconst (pc := 84) (v := 1) M dX5_rises_84 (by decide) ?_
      refine z_goto (pc := 85) 89 M dX5_rises_85 (by decide) ?_
      exact z_iretW (pc := 89) M (Option.some.inj h) rfl dX5_rises_89
  · refine z_iconst (pc := 8) (v := -1) M dX5_rises_8 (by decide) ?_
    exact z_iretW (pc := 9) M (Option.some.inj h) rfl dX5_rises_9
def rmX5_greatest : Room := { frames := 3, cells := 0, slots := 0, locals := 63 }
theorem flX5_greatest_20 : Cond.fieldLink RX5 20 "ShunLotsModel" "law" "[J" ∈ wsX5_greatest := by decide +kernel
theorem flX5_greatest_49 : Cond.fieldLink RX5 49 "ShunLotsModel" "sets" "I" ∈ wsX5_greatest := by decide +kernel
theorem inX5_greatest_X5 : ∀ w ∈ wsX50, w ∈ wsX5_greatest := by decide +kernel
set_option maxRecDepth 100000 in
set_option maxHeartbeats 4000000 in
theorem LX5_greatest_1 {p : Program} {l : Launch} {e : Env} {s : State} {m : MethodId} {args : Array Value} {below : List Frame} {meth : Method} {c : Code} {Q : State → Prop} {D : va_G} {cy ad : Nat → Nat} {n : Nat} (M : MX p m c cX5_greatest 4 s args wsX5_greatest RX5 meth (some .int)) (K : KK D cy ad s) (x1 : Int32)  (S : St) : ∀ (fuel : Nat) (x2 : Int32) (x3 : Int32) (o : (Int32)), lX5_greatest_1 n x1 S fuel x2 x3 = some o → ∀ (hx : ∀ a, o = a → Zz p l e rmX5_greatest s m args below meth c 4 Q (Hw D cy ad n s S) 56 [(2, .int a)] []) , Zz p l e rmX5_greatest s m args below meth c 4 Q (Hw D cy ad n s S) 14 [(0, .ref (ad 12)), (1, .int x1), (2, .int x2), (3, .int x3)] [] := by
  intro fuel
  induction fuel with
  | zero => intro x2 x3 o h; exact nomatch (show (none : Option _) = some o from h)
  | succ fuel ih =>
    intro x2 x3 o h hx 
    have h : bX5_greatest_1 n x1 S (lX5_greatest_1 n x1 S fuel) x2 x3 = some o := h
    unfold bX5_greatest_1 at h
    refine z_iload_n (pc := 14) M dX5_greatest_14 rfl 3 rfl ?_
    refine z_aload_n (pc := 15) M dX5_greatest_15 rfl 0 rfl ?_
    refine z_get (pc := 16) (v := .int (nI (2 ^ n))) M K inX5_greatest_X5 o_mod rfl 1 (by decide) flX5_greatest_49 rfl rfl dX5_greatest_16 ?_
    refine z_icmp_ge (pc := 19) 56 M dX5_greatest_19 (by decide) h (fun c_4 h => ?_) (fun c_4 h => ?_)
    · refine z_locals [2] [(2, .int x2)] rfl ?_
      cases h
      exact hx _ rfl
    · refine z_aload_n (pc := 22) M dX5_greatest_22 rfl 0 rfl ?_
      refine z_get (pc := 23) (v := .ref (ad 40)) M K inX5_greatest_X5 o_mod rfl 5 (by decide) flX5_greatest_20 rfl rfl dX5_greatest_23 ?_
      refine z_bipush (pc := 26) (v := 64) M dX5_greatest_26 (by decide) ?_
      refine z_iload_n (pc := 28) M dX5_greatest_28 rfl 1 rfl ?_
      refine z_imul (pc := 29) M dX5_greatest_29 ?_
      refine z_iload_n (pc := 30) M dX5_greatest_30 rfl 3 rfl ?_
      refine z_iadd (pc := 31) M dX5_greatest_31 ?_
      refine z_lald (pc := 32) M K ⟨by decide, rfl, rfl⟩ h dX5_greatest_32 (fun _ h => ?_)
      refine z_aload_n (pc := 33) M dX5_greatest_33 rfl 0 rfl ?_
      refine z_get (pc := 34) (v := .ref (ad 40)) M K inX5_greatest_X5 o_mod rfl 5 (by decide) flX5_greatest_20 rfl rfl dX5_greatest_34 ?_
      refine z_bipush (pc := 37) (v := 64) M dX5_greatest_37 (by decide) ?_
      refine z_iload_n (pc := 39) M dX5_greatest_39 rfl 1 rfl ?_
      refine z_imul (pc := 40) M dX5_greatest_40 ?_
      refine z_iload_n (pc := 41) M dX5_greatest_41 rfl 2 rfl ?_
      refine z_iadd (pc := 42) M dX5_greatest_42 ?_
      refine z_lald (pc := 43) M K ⟨by decide, rfl, rfl⟩ h dX5_greatest_43 (fun _ h => ?_)
      refine z_lcmp (pc := 44) M dX5_greatest_44 ?_
      refine z_if_le (pc := 45) 50 M dX5_greatest_45 (by decide) h (fun c_3 h => ?_) (fun c_3 h => ?_)
      · refine z_iinc (pc := 50) M dX5_greatest_50 (x3 + 1) rfl 3 rfl (by decide) [1, 2, 3, 0] [(0, .ref (ad 12)), (1, .int x1), (2, .int x2), (3, .int (x3 + 1))] rfl ?_
        refine z_goto (pc := 53) 14 M dX5_greatest_53 (by decide) ?_
        refine z_locals [0, 1, 2, 3] [(0, .ref (ad 12)), (1, .int x1), (2, .int x2), (3, .int (x3 + 1))] rfl ?_
        exact ih x2 (x3 + 1) _ h hx
      · refine z_iload_n (pc := 48) M dX5_greatest_48 rfl 3 rfl ?_
        refine z_istore_n (pc := 49) M dX5_greatest_49 rfl (by decide) [1, 2, 0, 3] [(0, .ref (ad 12)), (1, .int x1), (2, .int x3), (3, .int x3)] rfl ?_
        refine z_iinc (pc := 50) M dX5_greatest_50 (x3 + 1) rfl 3 rfl (by decide) [1, 2, 3, 0] [(0, .ref (ad 12)), (1, .int x1), (2, .int x3), (3, .int (x3 + 1))] rfl ?_
        refine z_goto (pc := 53) 14 M dX5_greatest_53 (by decide) ?_
        refine z_locals [0, 1, 2, 3] [(0, .ref (ad 12)), (1, .int x1), (2, .int x3), (3, .int (x3 + 1))] rfl ?_
        exact ih x3 (x3 + 1) _ h hx
set_option maxRecDepth 100000 in
set_option maxHeartbeats 4000000 in
theorem kX5_greatest (l : Launch) (D : va_G) (cy ad : Nat → Nat) (n : Nat) (p0 : Int32) (S : St) (r : Int32) (h : fX5_greatest n p0 S = some r) : CW l D cy ad n yX5_greatest wsX5_greatest rmX5_greatest [.ref (ad 12), .int p0] S (some (.int r)) S := by
  refine CW.of (cc := cX5_greatest) (nL := 4) (ret := (some .int)) (own := RX5) rfl (by decide +kernel) rfl (Nat.le_of_ble_eq_true rfl) ?_
  intro p e s m args below meth c M K
  unfold fX5_greatest at h
  refine z_locals [0, 1] [(0, .ref (ad 12)), (1, .int p0)] rfl ?_
  refine z_aload_n (pc := 0) M dX5_greatest_0 rfl 0 rfl ?_
  refine z_iload_n (pc := 1) M dX5_greatest_1 rfl 1 rfl ?_
  obtain ⟨r1, h2, h⟩ := bo_in h
  refine z_vcall (pc := 2) (As := [.int p0]) M K (kX5_isLaw l D cy ad n p0 S r1 h2) (cwV 1 M.1.2.2.2.2 gX5_greatest_X5_isLaw rfl rfl rfl (by decide +kernel) ⟨Nat.le_of_ble_eq_true rfl, Nat.le_of_ble_eq_true rfl⟩) o_mod rfl rfl rfl (Nat.le_of_ble_eq_true rfl) dX5_greatest_2 ?_
  refine z_if_neB (pc := 5) 10 M dX5_greatest_5 (by decide) h (fun c_7 h => ?_) (fun c_7 h => ?_)
  · refine z_iconst (pc := 10) (v := 0) M dX5_greatest_10 (by decide) ?_
    refine z_istore_n (pc := 11) M dX5_greatest_11 rfl (by decide) [1, 2, 0] [(0, .ref (ad 12)), (1, .int p0), (2, .int (0 : Int32))] rfl ?_
    refine z_iconst (pc := 12) (v := 1) M dX5_greatest_12 (by decide) ?_
    refine z_istore_n (pc := 13) M dX5_greatest_13 rfl (by decide) [1, 2, 3, 0] [(0, .ref (ad 12)), (1, .int p0), (2, .int (0 : Int32)), (3, .int (1 : Int32))] rfl ?_
    refine z_locals [0, 1, 2, 3] [(0, .ref (ad 12)), (1, .int p0), (2, .int (0 : Int32)), (3, .int (1 : Int32))] rfl ?_
    obtain ⟨q5, h6, h⟩ := bo_in h
    refine LX5_greatest_1 M K p0 S FU (0 : Int32) (1 : Int32) _ h6 (fun a hE => ?_)
    cases hE
    refine z_iload_n (pc := 56) M dX5_greatest_56 rfl 0 rfl ?_
    exact z_iretW (pc := 57) M (Option.some.inj h) rfl dX5_greatest_57
  · refine z_iconst (pc := 8) (v := -1) M dX5_greatest_8 (by decide) ?_
    exact z_iretW (pc := 9) M (Option.some.inj h) rfl dX5_greatest_9
def rmX5_greedy : Room := { frames := 3, cells := 0, slots := 0, locals := 63 }
theorem flX5_greedy_20 : Cond.fieldLink RX5 20 "ShunLotsModel" "law" "[J" ∈ wsX5_greedy := by decide +kernel
theorem flX5_greedy_45 : Cond.fieldLink RX5 45 "ShunLotsModel" "n" "I" ∈ wsX5_greedy := by decide +kernel
theorem inX5_greedy_X5 : ∀ w ∈ wsX50, w ∈ wsX5_greedy := by decide +kernel
set_option maxRecDepth 100000 in
set_option maxHeartbeats 4000000 in
theorem LX5_greedy_2 {p : Program} {l : Launch} {e : Env} {s : State} {m : MethodId} {args : Array Value} {below : List Frame} {meth : Method} {c : Code} {Q : State → Prop} {D : va_G} {cy ad : Nat → Nat} {n : Nat} (M : MX p m c cX5_greedy 7 s args wsX5_greedy RX5 meth (some .int)) (K : KK D cy ad s) (x1 : Int32) (x2 : Int32) (x3 : Int32) (x4 : Int32)  (S : St) : ∀ (fuel : Nat) (x5 : Int32) (x6 : Int32) (o : (Int32)), lX5_greedy_2 n x1 x2 x3 x4 S fuel x5 x6 = some o → ∀ (hx : ∀ a, o = a → Zz p l e rmX5_greedy s m args below meth c 7 Q (Hw D cy ad n s S) 112 [(0, .ref (ad 12)), (1, .int x1), (2, .int x2), (3, .int x3), (4, .int x4), (5, .int a)] []) , Zz p l e rmX5_greedy s m args below meth c 7 Q (Hw D cy ad n s S) 39 [(0, .ref (ad 12)), (1, .int x1), (2, .int x2), (3, .int x3), (4, .int x4), (5, .int x5), (6, .int x6)] [] := by
  intro fuel
  induction fuel with
  | zero => intro x5 x6 o h; exact nomatch (show (none : Option _) = some o from h)
  | succ fuel ih =>
    intro x5 x6 o h hx 
    have h : bX5_greedy_2 n x1 x2 x3 x4 S (lX5_greedy_2 n x1 x2 x3 x4 S fuel) x5 x6 = some o := h
    unfold bX5_greedy_2 at h
    refine z_iload (pc := 39) M dX5_greedy_39 6 rfl ?_
    refine z_aload_n (pc := 41) M dX5_greedy_41 rfl 0 rfl ?_
    refine z_get (pc := 42) (v := .int (nI n)) M K inX5_greedy_X5 o_mod rfl 0 (by decide) flX5_greedy_45 rfl rfl dX5_greedy_42 ?_
    refine z_icmp_ge (pc := 45) 112 M dX5_greedy_45 (by decide) h (fun c_8 h => ?_) (fun c_8 h => ?_)
    · refine z_locals [0, 1, 2, 3, 4, 5] [(0, .ref (ad 12)), (1, .int x1), (2, .int x2), (3, .int x3), (4, .int x4), (5, .int x5)] rfl ?_
      cases h
      exact hx _ rfl
    · refine z_iload_n (pc := 48) M dX5_greedy_48 rfl 3 rfl ?_
      refine z_iload (pc := 49) M dX5_greedy_49 6 rfl ?_
      refine z_ishr (pc := 51) M dX5_greedy_51 ?_
      refine z_iconst (pc := 52) (v := 1) M dX5_greedy_52 (by decide) ?_
      refine z_iand (pc := 53) M dX5_greedy_53 ?_
      refine z_iconst (pc := 54) (v := 1) M dX5_greedy_54 (by decide) ?_
      refine z_icmp_ne (pc := 55) 61 M dX5_greedy_55 (by decide) h (fun c_7 h => ?_) (fun c_7 h => ?_)
      · refine z_iload (pc := 61) M dX5_greedy_61 5 rfl ?_
        refine z_if_lt (pc := 63) 102 M dX5_greedy_63 (by decide) h (fun c_6 h => ?_) (fun c_6 h => ?_)
        · refine z_iload (pc := 102) M dX5_greedy_102 6 rfl ?_
          refine z_istore (pc := 104) M dX5_greedy_104 (by decide) [1, 2, 3, 4, 5, 0, 6] [(0, .ref (ad 12)), (1, .int x1), (2, .int x2), (3, .int x3), (4, .int x4), (5, .int x6), (6, .int x6)] rfl ?_
          refine z_iinc (pc := 106) M dX5_greedy_106 (x6 + 1) rfl 6 rfl (by decide) [1, 2, 3, 4, 5, 6, 0] [(0, .ref (ad 12)), (1, .int x1), (2, .int x2), (3, .int x3), (4, .int x4), (5, .int x6), (6, .int (x6 + 1))] rfl ?_
          refine z_goto (pc := 109) 39 M dX5_greedy_109 (by decide) ?_
          refine z_locals [0, 1, 2, 3, 4, 5, 6] [(0, .ref (ad 12)), (1, .int x1), (2, .int x2), (3, .int x3), (4, .int x4), (5, .int x6), (6, .int (x6 + 1))] rfl ?_
          exact ih x6 (x6 + 1) _ h hx
        · refine z_aload_n (pc := 66) M dX5_greedy_66 rfl 0 rfl ?_
          refine z_get (pc := 67) (v := .ref (ad 40)) M K inX5_greedy_X5 o_mod rfl 5 (by decide) flX5_greedy_20 rfl rfl dX5_greedy_67 ?_
          refine z_bipush (pc := 70) (v := 64) M dX5_greedy_70 (by decide) ?_
          refine z_iload_n (pc := 72) M dX5_greedy_72 rfl 1 rfl ?_
          refine z_imul (pc := 73) M dX5_greedy_73 ?_
          refine z_iload_n (pc := 74) M dX5_greedy_74 rfl 3 rfl ?_
          refine z_iconst (pc := 75) (v := 1) M dX5_greedy_75 (by decide) ?_
          refine z_iload (pc := 76) M dX5_greedy_76 6 rfl ?_
          refine z_ishl (pc := 78) M dX5_greedy_78 ?_
          refine z_ior (pc := 79) M dX5_greedy_79 ?_
          refine z_iadd (pc := 80) M dX5_greedy_80 ?_
          refine z_lald (pc := 81) M K ⟨by decide, rfl, rfl⟩ h dX5_greedy_81 (fun _ h => ?_)
          refine z_aload_n (pc := 82) M dX5_greedy_82 rfl 0 rfl ?_
          refine z_get (pc := 83) (v := .ref (ad 40)) M K inX5_greedy_X5 o_mod rfl 5 (by decide) flX5_greedy_20 rfl rfl dX5_greedy_83 ?_
          refine z_bipush (pc := 86) (v := 64) M dX5_greedy_86 (by decide) ?_
          refine z_iload_n (pc := 88) M dX5_greedy_88 rfl 1 rfl ?_
          refine z_imul (pc := 89) M dX5_greedy_89 ?_
          refine z_iload_n (pc := 90) M dX5_greedy_90 rfl 3 rfl ?_
          refine z_iconst (pc := 91) (v := 1) M dX5_greedy_91 (by decide) ?_
          refine z_iload (pc := 92) M dX5_greedy_92 5 rfl ?_
          refine z_ishl (pc := 94) M dX5_greedy_94 ?_
          refine z_ior (pc := 95) M dX5_greedy_95 ?_
          refine z_iadd (pc := 96) M dX5_greedy_96 ?_
          refine z_lald (pc := 97) M K ⟨by decide, rfl, rfl⟩ h dX5_greedy_97 (fun _ h => ?_)
          refine z_lcmp (pc := 98) M dX5_greedy_98 ?_
          refine z_if_le (pc := 99) 106 M dX5_greedy_99 (by decide) h (fun c_5 h => ?_) (fun c_5 h => ?_)
          · refine z_iinc (pc := 106) M dX5_greedy_106 (x6 + 1) rfl 6 rfl (by decide) [1, 2, 3, 4, 5, 6, 0] [(0, .ref (ad 12)), (1, .int x1), (2, .int x2), (3, .int x3), (4, .int x4), (5, .int x5), (6, .int (x6 + 1))] rfl ?_
            refine z_goto (pc := 109) 39 M dX5_greedy_109 (by decide) ?_
            refine z_locals [0, 1, 2, 3, 4, 5, 6] [(0, .ref (ad 12)), (1, .int x1), (2, .int x2), (3, .int x3), (4, .int x4), (5, .int x5), (6, .int (x6 + 1))] rfl ?_
            exact ih x5 (x6 + 1) _ h hx
          · refine z_iload (pc := 102) M dX5_greedy_102 6 rfl ?_
            refine z_istore (pc := 104) M dX5_greedy_104 (by decide) [1, 2, 3, 4, 5, 0, 6] [(0, .ref (ad 12)), (1, .int x1), (2, .int x2), (3, .int x3), (4, .int x4), (5, .int x6), (6, .int x6)] rfl ?_
            refine z_iinc (pc := 106) M dX5_greedy_106 (x6 + 1) rfl 6 rfl (by decide) [1, 2, 3, 4, 5, 6, 0] [(0, .ref (ad 12)), (1, .int x1), (2, .int x2), (3, .int x3), (4, .int x4), (5, .int x6), (6, .int (x6 + 1))] rfl ?_
            refine z_goto (pc := 109) 39 M dX5_greedy_109 (by decide) ?_
            refine z_locals [0, 1, 2, 3, 4, 5, 6] [(0, .ref (ad 12)), (1, .int x1), (2, .int x2), (3, .int x3), (4, .int x4), (5, .int x6), (6, .int (x6 + 1))] rfl ?_
            exact ih x6 (x6 + 1) _ h hx
      · refine z_goto (pc := 58) 106 M dX5_greedy_58 (by decide) ?_
        refine z_iinc (pc := 106) M dX5_greedy_106 (x6 + 1) rfl 6 rfl (by decide) [1, 2, 3, 4, 5, 6, 0] [(0, .ref (ad 12)), (1, .int x1), (2, .int x2), (3, .int x3), (4, .int x4), (5, .int x5), (6, .int (x6 + 1))] rfl ?_
        refine z_goto (pc := 109) 39 M dX5_greedy_109 (by decide) ?_
        refine z_locals [0, 1, 2, 3, 4, 5, 6] [(0, .ref (ad 12)), (1, .int x1), (2, .int x2), (3, .int x3), (4, .int x4), (5, .int x5), (6, .int (x6 + 1))] rfl ?_
        exact ih x5 (x6 + 1) _ h hx
set_option maxRecDepth 100000 in
set_option maxHeartbeats 4000000 in
theorem LX5_greedy_1 {p : Program} {l : Launch} {e : Env} {s : State} {m : MethodId} {args : Array Value} {below : List Frame} {meth : Method} {c : Code} {Q : State → Prop} {D : va_G} {cy ad : Nat → Nat} {n : Nat} (M : MX p m c cX5_greedy 7 s args wsX5_greedy RX5 meth (some .int)) (K : KK D cy ad s) (x1 : Int32) (x2 : Int32)  (S : St) : ∀ (fuel : Nat) (x3 : Int32) (x4 : Int32) (o : (Int32)), lX5_greedy_1 n x1 x2 S fuel x3 x4 = some o → ∀ (hx : ∀ a, o = a → Zz p l e rmX5_greedy s m args below meth c 7 Q (Hw D cy ad n s S) 125 [(3, .int a)] []) , Zz p l e rmX5_greedy s m args below meth c 7 Q (Hw D cy ad n s S) 27 [(0, .ref (ad 12)), (1, .int x1), (2, .int x2), (3, .int x3), (4, .int x4)] [] := by
  intro fuel
  induction fuel with
  | zero => intro x3 x4 o h; exact nomatch (show (none : Option _) = some o from h)
  | succ fuel ih =>
    intro x3 x4 o h hx 
    have h : bX5_greedy_1 n x1 x2 S (lX5_greedy_1 n x1 x2 S fuel) x3 x4 = some o := h
    unfold bX5_greedy_1 at h
    refine z_iload (pc := 27) M dX5_greedy_27 4 rfl ?_
    refine z_iload_n (pc := 29) M dX5_greedy_29 rfl 2 rfl ?_
    refine z_icmp_ge (pc := 30) 125 M dX5_greedy_30 (by decide) h (fun c_11 h => ?_) (fun c_11 h => ?_)
    · refine z_locals [3] [(3, .int x3)] rfl ?_
      cases h
      exact hx _ rfl
    · refine z_iconst (pc := 33) (v := -1) M dX5_greedy_33 (by decide) ?_
      refine z_istore (pc := 34) M dX5_greedy_34 (by decide) [1, 2, 3, 4, 5, 0] [(0, .ref (ad 12)), (1, .int x1), (2, .int x2), (3, .int x3), (4, .int x4), (5, .int (-1 : Int32))] rfl ?_
      refine z_iconst (pc := 36) (v := 0) M dX5_greedy_36 (by decide) ?_
      refine z_istore (pc := 37) M dX5_greedy_37 (by decide) [1, 2, 3, 4, 5, 6, 0] [(0, .ref (ad 12)), (1, .int x1), (2, .int x2), (3, .int x3), (4, .int x4), (5, .int (-1 : Int32)), (6, .int (0 : Int32))] rfl ?_
      refine z_locals [0, 1, 2, 3, 4, 5, 6] [(0, .ref (ad 12)), (1, .int x1), (2, .int x2), (3, .int x3), (4, .int x4), (5, .int (-1 : Int32)), (6, .int (0 : Int32))] rfl ?_
      obtain ⟨q9, h10, h⟩ := bo_in h
      refine LX5_greedy_2 M K x1 x2 x3 x4 S FU (-1 : Int32) (0 : Int32) _ h10 (fun a hE => ?_)
      cases hE
      refine z_iload_n (pc := 112) M dX5_greedy_112 rfl 3 rfl ?_
      refine z_iconst (pc := 113) (v := 1) M dX5_greedy_113 (by decide) ?_
      refine z_iload (pc := 114) M dX5_greedy_114 5 rfl ?_
      refine z_ishl (pc := 116) M dX5_greedy_116 ?_
      refine z_ior (pc := 117) M dX5_greedy_117 ?_
      refine z_istore_n (pc := 118) M dX5_greedy_118 rfl (by decide) [1, 2, 3, 0, 4] [(0, .ref (ad 12)), (1, .int x1), (2, .int x2), (3, .int (x3 ||| ((1 : Int32) <<< (q9 &&& 31)))), (4, .int x4)] rfl ?_
      refine z_iinc (pc := 119) M dX5_greedy_119 (x4 + 1) rfl 4 rfl (by decide) [1, 2, 3, 4, 0] [(0, .ref (ad 12)), (1, .int x1), (2, .int x2), (3, .int (x3 ||| ((1 : Int32) <<< (q9 &&& 31)))), (4, .int (x4 + 1))] rfl ?_
      refine z_goto (pc := 122) 27 M dX5_greedy_122 (by decide) ?_
      refine z_locals [0, 1, 2, 3, 4] [(0, .ref (ad 12)), (1, .int x1), (2, .int x2), (3, .int (x3 ||| ((1 : Int32) <<< (q9 &&& 31)))), (4, .int (x4 + 1))] rfl ?_
      exact ih (x3 ||| ((1 : Int32) <<< (q9 &&& 31))) (x4 + 1) _ h hx
set_option maxRecDepth 100000 in
set_option maxHeartbeats 4000000 in
theorem kX5_greedy (l : Launch) (D : va_G) (cy ad : Nat → Nat) (n : Nat) (p0 : Int32) (p1 : Int32) (S : St) (r : Int32) (h : fX5_greedy n p0 p1 S = some r) : CW l D cy ad n yX5_greedy wsX5_greedy rmX5_greedy [.ref (ad 12), .int p0, .int p1] S (some (.int r)) S := by
  refine CW.of (cc := cX5_greedy) (nL := 7) (ret := (some .int)) (own := RX5) rfl (by decide +kernel) rfl (Nat.le_of_ble_eq_true rfl) ?_
  intro p e s m args below meth c M K
  unfold fX5_greedy at h
  refine z_locals [0, 1, 2] [(0, .ref (ad 12)), (1, .int p0), (2, .int p1)] rfl ?_
  refine z_aload_n (pc := 0) M dX5_greedy_0 rfl 0 rfl ?_
  refine z_iload_n (pc := 1) M dX5_greedy_1 rfl 1 rfl ?_
  obtain ⟨r1, h2, h⟩ := bo_in h
  refine z_vcall (pc := 2) (As := [.int p0]) M K (kX5_isLaw l D cy ad n p0 S r1 h2) (cwV 1 M.1.2.2.2.2 gX5_greedy_X5_isLaw rfl rfl rfl (by decide +kernel) ⟨Nat.le_of_ble_eq_true rfl, Nat.le_of_ble_eq_true rfl⟩) o_mod rfl rfl rfl (Nat.le_of_ble_eq_true rfl) dX5_greedy_2 ?_
  refine z_if_eqB (pc := 5) 20 M dX5_greedy_5 (by decide) h (fun c_15 h => ?_) (fun c_15 h => ?_)
  · refine z_iconst (pc := 20) (v := -1) M dX5_greedy_20 (by decide) ?_
    exact z_iretW (pc := 21) M (Option.some.inj h) rfl dX5_greedy_21
  · refine z_iload_n (pc := 8) M dX5_greedy_8 rfl 2 rfl ?_
    refine z_iconst (pc := 9) (v := 0) M dX5_greedy_9 (by decide) ?_
    refine z_aload_n (pc := 10) M dX5_greedy_10 rfl 0 rfl ?_
    refine z_get (pc := 11) (v := .int (nI n)) M K inX5_greedy_X5 o_mod rfl 0 (by decide) flX5_greedy_45 rfl rfl dX5_greedy_11 ?_
    obtain ⟨r3, h4, h⟩ := bo_in h
    refine z_scall (pc := 14) (As := [.int p1, .int (0 : Int32), .int (nI n)]) M (kX5_in l p1 (0 : Int32) (nI n) r3 h4) (va_cwS 3 M.1.2.2.2.2 gX5_greedy_X5_in rfl rfl rfl (by decide +kernel) ⟨Nat.le_of_ble_eq_true rfl, Nat.le_of_ble_eq_true rfl⟩) rfl rfl (Nat.le_of_ble_eq_true rfl) dX5_greedy_14 ?_
    refine z_if_neB (pc := 17) 22 M dX5_greedy_17 (by decide) h (fun c_14 h => ?_) (fun c_14 h => ?_)
    · refine z_iconst (pc := 22) (v := 0) M dX5_greedy_22 (by decide) ?_
      refine z_istore_n (pc := 23) M dX5_greedy_23 rfl (by decide) [1, 2, 3, 0] [(0, .ref (ad 12)), (1, .int p0), (2, .int p1), (3, .int (0 : Int32))] rfl ?_
      refine z_iconst (pc := 24) (v := 0) M dX5_greedy_24 (by decide) ?_
      refine z_istore (pc := 25) M dX5_greedy_25 (by decide) [1, 2, 3, 4, 0] [(0, .ref (ad 12)), (1, .int p0), (2, .int p1), (3, .int (0 : Int32)), (4, .int (0 : Int32))] rfl ?_
      refine z_locals [0, 1, 2, 3, 4] [(0, .ref (ad 12)), (1, .int p0), (2, .int p1), (3, .int (0 : Int32)), (4, .int (0 : Int32))] rfl ?_
      obtain ⟨q12, h13, h⟩ := bo_in h
      refine LX5_greedy_1 M K p0 p1 S FU (0 : Int32) (0 : Int32) _ h13 (fun a hE => ?_)
      cases hE
      refine z_iload_n (pc := 125) M dX5_greedy_125 rfl 0 rfl ?_
      exact z_iretW (pc := 126) M (Option.some.inj h) rfl dX5_greedy_126
    · refine z_iconst (pc := 20) (v := -1) M dX5_greedy_20 (by decide) ?_
      exact z_iretW (pc := 21) M (Option.some.inj h) rfl dX5_greedy_21
def rmX5_same : Room := { frames := 3, cells := 0, slots := 0, locals := 63 }
theorem flX5_same_20 : Cond.fieldLink RX5 20 "ShunLotsModel" "law" "[J" ∈ wsX5_same := by decide +kernel
theorem flX5_same_49 : Cond.fieldLink RX5 49 "ShunLotsModel" "sets" "I" ∈ wsX5_same := by decide +kernel
theorem inX5_same_X5 : ∀ w ∈ wsX50, w ∈ wsX5_same := by decide +kernel
set_option maxRecDepth 100000 in
set_option maxHeartbeats 4000000 in
theorem LX5_same_1 {p : Program} {l : Launch} {e : Env} {s : State} {m : MethodId} {args : Array Value} {below : List Frame} {meth : Method} {c : Code} {Q : State → Prop} {D : va_G} {cy ad : Nat → Nat} {n : Nat} (M : MX p m c cX5_same 4 s args wsX5_same RX5 meth (some .int)) (K : KK D cy ad s) (x1 : Int32) (x2 : Int32)  (S : St) : ∀ (fuel : Nat) (x3 : Int32) (o : ((Unit) ⊕ Int32)), lX5_same_1 n x1 x2 S fuel x3 = some o → ∀ (hx : ∀ a, o = .inl a → Zz p l e rmX5_same s m args below meth c 4 Q (Hw D cy ad n s S) 62 [] []) (hq : ∀ r, o = .inr r → Q = Qw D cy ad n below args s (some (.int r)) S), Zz p l e rmX5_same s m args below meth c 4 Q (Hw D cy ad n s S) 20 [(0, .ref (ad 12)), (1, .int x1), (2, .int x2), (3, .int x3)] [] := by
  intro fuel
  induction fuel with
  | zero => intro x3 o h; exact nomatch (show (none : Option _) = some o from h)
  | succ fuel ih =>
    intro x3 o h hx hq
    have h : bX5_same_1 n x1 x2 S (lX5_same_1 n x1 x2 S fuel) x3 = some o := h
    unfold bX5_same_1 at h
    refine z_iload_n (pc := 20) M dX5_same_20 rfl 3 rfl ?_
    refine z_aload_n (pc := 21) M dX5_same_21 rfl 0 rfl ?_
    refine z_get (pc := 22) (v := .int (nI (2 ^ n))) M K inX5_same_X5 o_mod rfl 1 (by decide) flX5_same_49 rfl rfl dX5_same_22 ?_
    refine z_icmp_ge (pc := 25) 62 M dX5_same_25 (by decide) h (fun c_6 h => ?_) (fun c_6 h => ?_)
    · refine z_locals [] [] rfl ?_
      cases h
      exact hx _ rfl
    · refine z_aload_n (pc := 28) M dX5_same_28 rfl 0 rfl ?_
      refine z_get (pc := 29) (v := .ref (ad 40)) M K inX5_same_X5 o_mod rfl 5 (by decide) flX5_same_20 rfl rfl dX5_same_29 ?_
      refine z_bipush (pc := 32) (v := 64) M dX5_same_32 (by decide) ?_
      refine z_iload_n (pc := 34) M dX5_same_34 rfl 1 rfl ?_
      refine z_imul (pc := 35) M dX5_same_35 ?_
      refine z_iload_n (pc := 36) M dX5_same_36 rfl 3 rfl ?_
      refine z_iadd (pc := 37) M dX5_same_37 ?_
      refine z_lald (pc := 38) M K ⟨by decide, rfl, rfl⟩ h dX5_same_38 (fun _ h => ?_)
      refine z_aload_n (pc := 39) M dX5_same_39 rfl 0 rfl ?_
      refine z_get (pc := 40) (v := .ref (ad 40)) M K inX5_same_X5 o_mod rfl 5 (by decide) flX5_same_20 rfl rfl dX5_same_40 ?_
      refine z_bipush (pc := 43) (v := 64) M dX5_same_43 (by decide) ?_
      refine z_iload_n (pc := 45) M dX5_same_45 rfl 2 rfl ?_
      refine z_imul (pc := 46) M dX5_same_46 ?_
      refine z_iload_n (pc := 47) M dX5_same_47 rfl 3 rfl ?_
      refine z_iadd (pc := 48) M dX5_same_48 ?_
      refine z_lald (pc := 49) M K ⟨by decide, rfl, rfl⟩ h dX5_same_49 (fun _ h => ?_)
      refine z_lcmp (pc := 50) M dX5_same_50 ?_
      refine z_if_eq (pc := 51) 56 M dX5_same_51 (by decide) h (fun c_5 h => ?_) (fun c_5 h => ?_)
      · refine z_iinc (pc := 56) M dX5_same_56 (x3 + 1) rfl 3 rfl (by decide) [1, 2, 3, 0] [(0, .ref (ad 12)), (1, .int x1), (2, .int x2), (3, .int (x3 + 1))] rfl ?_
        refine z_goto (pc := 59) 20 M dX5_same_59 (by decide) ?_
        refine z_locals [0, 1, 2, 3] [(0, .ref (ad 12)), (1, .int x1), (2, .int x2), (3, .int (x3 + 1))] rfl ?_
        exact ih (x3 + 1) _ h hx hq
      · refine z_iconst (pc := 54) (v := 0) M dX5_same_54 (by decide) ?_
        cases h
        rw [hq _ rfl]
        exact z_iretW (pc := 55) M rfl rfl dX5_same_55
set_option maxRecDepth 100000 in
set_option maxHeartbeats 4000000 in
theorem kX5_same (l : Launch) (D : va_G) (cy ad : Nat → Nat) (n : Nat) (p0 : Int32) (p1 : Int32) (S : St) (r : Int32) (h : fX5_same n p0 p1 S = some r) : CW l D cy ad n yX5_same wsX5_same rmX5_same [.ref (ad 12), .int p0, .int p1] S (some (.int r)) S := by
  refine CW.of (cc := cX5_same) (nL := 4) (ret := (some .int)) (own := RX5) rfl (by decide +kernel) rfl (Nat.le_of_ble_eq_true rfl) ?_
  intro p e s m args below meth c M K
  unfold fX5_same at h
  refine z_locals [0, 1, 2] [(0, .ref (ad 12)), (1, .int p0), (2, .int p1)] rfl ?_
  refine z_aload_n (pc := 0) M dX5_same_0 rfl 0 rfl ?_
  refine z_iload_n (pc := 1) M dX5_same_1 rfl 1 rfl ?_
  obtain ⟨r1, h2, h⟩ := bo_in h
  refine z_vcall (pc := 2) (As := [.int p0]) M K (kX5_isLaw l D cy ad n p0 S r1 h2) (cwV 1 M.1.2.2.2.2 gX5_same_X5_isLaw rfl rfl rfl (by decide +kernel) ⟨Nat.le_of_ble_eq_true rfl, Nat.le_of_ble_eq_true rfl⟩) o_mod rfl rfl rfl (Nat.le_of_ble_eq_true rfl) dX5_same_2 ?_
  refine z_if_eqB (pc := 5) 16 M dX5_same_5 (by decide) h (fun c_10 h => ?_) (fun c_10 h => ?_)
  · refine z_iconst (pc := 16) (v := -1) M dX5_same_16 (by decide) ?_
    exact z_iretW (pc := 17) M (Option.some.inj h) rfl dX5_same_17
  · refine z_aload_n (pc := 8) M dX5_same_8 rfl 0 rfl ?_
    refine z_iload_n (pc := 9) M dX5_same_9 rfl 2 rfl ?_
    obtain ⟨r3, h4, h⟩ := bo_in h
    refine z_vcall (pc := 10) (As := [.int p1]) M K (kX5_isLaw l D cy ad n p1 S r3 h4) (cwV 1 M.1.2.2.2.2 gX5_same_X5_isLaw rfl rfl rfl (by decide +kernel) ⟨Nat.le_of_ble_eq_true rfl, Nat.le_of_ble_eq_true rfl⟩) o_mod rfl rfl rfl (Nat.le_of_ble_eq_true rfl) dX5_same_10 ?_
    refine z_if_neB (pc := 13) 18 M dX5_same_13 (by decide) h (fun c_9 h => ?_) (fun c_9 h => ?_)
    · refine z_iconst (pc := 18) (v := 0) M dX5_same_18 (by decide) ?_
      refine z_istore_n (pc := 19) M dX5_same_19 rfl (by decide) [1, 2, 3, 0] [(0, .ref (ad 12)), (1, .int p0), (2, .int p1), (3, .int (0 : Int32))] rfl ?_
      refine z_locals [0, 1, 2, 3] [(0, .ref (ad 12)), (1, .int p0), (2, .int p1), (3, .int (0 : Int32))] rfl ?_
      rcases bs_in h with ⟨q7, h8, h⟩ | ⟨r9, h8, h⟩
      · refine LX5_same_1 M K p0 p1 S FU (0 : Int32) _ h8 (fun a hE => ?_) (fun r e9 => nomatch e9)
        cases hE
        refine z_iconst (pc := 62) (v := 1) M dX5_same_62 (by decide) ?_
        exact z_iretW (pc := 63) M (Option.some.inj h) rfl dX5_same_63
      · exact LX5_same_1 M K p0 p1 S FU (0 : Int32) _ h8 (fun a e9 => nomatch e9) (fun r e9 => by cases e9; cases h; rfl)
    · refine z_iconst (pc := 16) (v := -1) M dX5_same_16 (by decide) ?_
      exact z_iretW (pc := 17) M (Option.some.inj h) rfl dX5_same_17
def rmX5_draw : Room := { frames := 3, cells := 0, slots := 0, locals := 63 }
theorem flX5_draw_45 : Cond.fieldLink RX5 45 "ShunLotsModel" "n" "I" ∈ wsX5_draw := by decide +kernel
theorem wdX5_draw_Cond_constantLong_RX5_122_6364136223846793005 : Cond.constantLong RX5 122 (6364136223846793005) ∈ wsX5_draw := by decide +kernel
theorem wdX5_draw_Cond_constantLong_RX5_124_1442695040888963407 : Cond.constantLong RX5 124 (1442695040888963407) ∈ wsX5_draw := by decide +kernel
theorem inX5_draw_X5 : ∀ w ∈ wsX50, w ∈ wsX5_draw := by decide +kernel
set_option maxRecDepth 100000 in
set_option maxHeartbeats 4000000 in
theorem LX5_draw_1 {p : Program} {l : Launch} {e : Env} {s : State} {m : MethodId} {args : Array Value} {below : List Frame} {meth : Method} {c : Code} {Q : State → Prop} {D : va_G} {cy ad : Nat → Nat} {n : Nat} (M : MX p m c cX5_draw 13 s args wsX5_draw RX5 meth (some .int)) (K : KK D cy ad s) (x1 : Int32)  (S : St) : ∀ (fuel : Nat) (x4 : Int32) (x5 : Int32) (x6 : Int64) (x8 : Int32) (o : (Int32)), lX5_draw_1 n x1 S fuel x4 x5 x6 x8 = some o → ∀ (hx : ∀ a, o = a → Zz p l e rmX5_draw s m args below meth c 13 Q (Hw D cy ad n s S) 111 [(4, .int a)] []) , Zz p l e rmX5_draw s m args below meth c 13 Q (Hw D cy ad n s S) 22 [(0, .ref (ad 12)), (1, .int x1), (4, .int x4), (5, .int x5), (6, .long x6), (8, .int x8)] [] := by
  intro fuel
  induction fuel with
  | zero => intro x4 x5 x6 x8 o h; exact nomatch (show (none : Option _) = some o from h)
  | succ fuel ih =>
    intro x4 x5 x6 x8 o h hx 
    have h : bX5_draw_1 n x1 S (lX5_draw_1 n x1 S fuel) x4 x5 x6 x8 = some o := h
    unfold bX5_draw_1 at h
    refine z_iload (pc := 22) M dX5_draw_22 5 rfl ?_
    refine z_aload_n (pc := 24) M dX5_draw_24 rfl 0 rfl ?_
    refine z_get (pc := 25) (v := .int (nI n)) M K inX5_draw_X5 o_mod rfl 0 (by decide) flX5_draw_45 rfl rfl dX5_draw_25 ?_
    refine z_icmp_ge (pc := 28) 111 M dX5_draw_28 (by decide) h (fun c_8 h => ?_) (fun c_8 h => ?_)
    · refine z_locals [2] [(4, .int x4)] rfl ?_
      cases h
      exact hx _ rfl
    · refine z_aload_n (pc := 31) M dX5_draw_31 rfl 0 rfl ?_
      refine z_iload_n (pc := 32) M dX5_draw_32 rfl 1 rfl ?_
      refine z_iload (pc := 33) M dX5_draw_33 2 rfl ?_
      refine z_iload (pc := 35) M dX5_draw_35 3 rfl ?_
      obtain ⟨r3, h4, h⟩ := bo_in h
      refine z_vcall (pc := 37) (As := [.int x1, .int x4, .int x5]) M K (kX5_sumOf l D cy ad n x1 x4 x5 S r3 h4) (cwV 3 M.1.2.2.2.2 gX5_draw_X5_sumOf rfl rfl rfl (by decide +kernel) ⟨Nat.le_of_ble_eq_true rfl, Nat.le_of_ble_eq_true rfl⟩) o_mod rfl rfl rfl (Nat.le_of_ble_eq_true rfl) dX5_draw_37 ?_
      refine z_lstore (pc := 40) M dX5_draw_40 (by decide) [1, 2, 3, 4, 5, 6, 0] [(0, .ref (ad 12)), (1, .int x1), (4, .int x4), (5, .int x5), (6, .long x6), (8, .int x8), (9, .long r3)] rfl ?_
      refine z_aload_n (pc := 42) M dX5_draw_42 rfl 0 rfl ?_
      refine z_iload_n (pc := 43) M dX5_draw_43 rfl 1 rfl ?_
      refine z_iload (pc := 44) M dX5_draw_44 2 rfl ?_
      refine z_iconst (pc := 46) (v := 1) M dX5_draw_46 (by decide) ?_
      refine z_iload (pc := 47) M dX5_draw_47 5 rfl ?_
      refine z_ishl (pc := 49) M dX5_draw_49 ?_
      refine z_ior (pc := 50) M dX5_draw_50 ?_
      refine z_iload (pc := 51) M dX5_draw_51 3 rfl ?_
      obtain ⟨r5, h6, h⟩ := bo_in h
      refine z_vcall (pc := 53) (As := [.int x1, .int (x4 ||| ((1 : Int32) <<< (x8 &&& 31))), .int x5]) M K (kX5_sumOf l D cy ad n x1 (x4 ||| ((1 : Int32) <<< (x8 &&& 31))) x5 S r5 h6) (cwV 3 M.1.2.2.2.2 gX5_draw_X5_sumOf rfl rfl rfl (by decide +kernel) ⟨Nat.le_of_ble_eq_true rfl, Nat.le_of_ble_eq_true rfl⟩) o_mod rfl rfl rfl (Nat.le_of_ble_eq_true rfl) dX5_draw_53 ?_
      refine z_lstore (pc := 56) M dX5_draw_56 (by decide) [1, 2, 3, 4, 5, 6, 7, 0] [(0, .ref (ad 12)), (1, .int x1), (4, .int x4), (5, .int x5), (6, .long x6), (8, .int x8), (9, .long r3), (11, .long r5)] rfl ?_
      refine z_lload (pc := 58) M dX5_draw_58 4 rfl ?_
      refine z_ldc2 (pc := 60) M wdX5_draw_Cond_constantLong_RX5_122_6364136223846793005 dX5_draw_60 ?_
      refine z_lmul (pc := 63) M dX5_draw_63 ?_
      refine z_ldc2 (pc := 64) M wdX5_draw_Cond_constantLong_RX5_124_1442695040888963407 dX5_draw_64 ?_
      refine z_ladd (pc := 67) M dX5_draw_67 ?_
      refine z_lstore (pc := 68) M dX5_draw_68 (by decide) [1, 2, 3, 4, 0, 5, 6, 7] [(0, .ref (ad 12)), (1, .int x1), (4, .int x4), (5, .int x5), (6, .long ((x6 * (6364136223846793005 : Int64)) + (1442695040888963407 : Int64))), (8, .int x8), (9, .long r3), (11, .long r5)] rfl ?_
      refine z_lload (pc := 70) M dX5_draw_70 4 rfl ?_
      refine z_bipush (pc := 72) (v := 33) M dX5_draw_72 (by decide) ?_
      refine z_lushr (pc := 74) M dX5_draw_74 ?_
      refine z_lload (pc := 75) M dX5_draw_75 6 rfl ?_
      refine z_lrem (pc := 77) M dX5_draw_77 h (fun h => ?_)
      refine z_lload (pc := 78) M dX5_draw_78 7 rfl ?_
      refine z_lcmp (pc := 80) M dX5_draw_80 ?_
      refine z_if_ge (pc := 81) 96 M dX5_draw_81 (by decide) h (fun c_7 h => ?_) (fun c_7 h => ?_)
      · refine z_iload (pc := 96) M dX5_draw_96 3 rfl ?_
        refine z_iconst (pc := 98) (v := 1) M dX5_draw_98 (by decide) ?_
        refine z_iload (pc := 99) M dX5_draw_99 5 rfl ?_
        refine z_ishl (pc := 101) M dX5_draw_101 ?_
        refine z_ior (pc := 102) M dX5_draw_102 ?_
        refine z_istore (pc := 103) M dX5_draw_103 (by decide) [1, 2, 3, 0, 4, 5] [(0, .ref (ad 12)), (1, .int x1), (4, .int x4), (5, .int (x5 ||| ((1 : Int32) <<< (x8 &&& 31)))), (6, .long ((x6 * (6364136223846793005 : Int64)) + (1442695040888963407 : Int64))), (8, .int x8)] rfl ?_
        refine z_iinc (pc := 105) M dX5_draw_105 (x8 + 1) rfl 5 rfl (by decide) [1, 2, 3, 4, 5, 0] [(0, .ref (ad 12)), (1, .int x1), (4, .int x4), (5, .int (x5 ||| ((1 : Int32) <<< (x8 &&& 31)))), (6, .long ((x6 * (6364136223846793005 : Int64)) + (1442695040888963407 : Int64))), (8, .int (x8 + 1))] rfl ?_
        refine z_goto (pc := 108) 22 M dX5_draw_108 (by decide) ?_
        refine z_locals [0, 1, 2, 3, 4, 5] [(0, .ref (ad 12)), (1, .int x1), (4, .int x4), (5, .int (x5 ||| ((1 : Int32) <<< (x8 &&& 31)))), (6, .long ((x6 * (6364136223846793005 : Int64)) + (1442695040888963407 : Int64))), (8, .int (x8 + 1))] rfl ?_
        exact ih x4 (x5 ||| ((1 : Int32) <<< (x8 &&& 31))) ((x6 * (6364136223846793005 : Int64)) + (1442695040888963407 : Int64)) (x8 + 1) _ h hx
      · refine z_iload (pc := 84) M dX5_draw_84 2 rfl ?_
        refine z_iconst (pc := 86) (v := 1) M dX5_draw_86 (by decide) ?_
        refine z_iload (pc := 87) M dX5_draw_87 5 rfl ?_
        refine z_ishl (pc := 89) M dX5_draw_89 ?_
        refine z_ior (pc := 90) M dX5_draw_90 ?_
        refine z_istore (pc := 91) M dX5_draw_91 (by decide) [1, 2, 0, 3, 4, 5] [(0, .ref (ad 12)), (1, .int x1), (4, .int (x4 ||| ((1 : Int32) <<< (x8 &&& 31)))), (5, .int x5), (6, .long ((x6 * (6364136223846793005 : Int64)) + (1442695040888963407 : Int64))), (8, .int x8)] rfl ?_
        refine z_goto (pc := 93) 105 M dX5_draw_93 (by decide) ?_
        refine z_iinc (pc := 105) M dX5_draw_105 (x8 + 1) rfl 5 rfl (by decide) [1, 2, 3, 4, 5, 0] [(0, .ref (ad 12)), (1, .int x1), (4, .int (x4 ||| ((1 : Int32) <<< (x8 &&& 31)))), (5, .int x5), (6, .long ((x6 * (6364136223846793005 : Int64)) + (1442695040888963407 : Int64))), (8, .int (x8 + 1))] rfl ?_
        refine z_goto (pc := 108) 22 M dX5_draw_108 (by decide) ?_
        refine z_locals [0, 1, 2, 3, 4, 5] [(0, .ref (ad 12)), (1, .int x1), (4, .int (x4 ||| ((1 : Int32) <<< (x8 &&& 31)))), (5, .int x5), (6, .long ((x6 * (6364136223846793005 : Int64)) + (1442695040888963407 : Int64))), (8, .int (x8 + 1))] rfl ?_
        exact ih (x4 ||| ((1 : Int32) <<< (x8 &&& 31))) x5 ((x6 * (6364136223846793005 : Int64)) + (1442695040888963407 : Int64)) (x8 + 1) _ h hx
set_option maxRecDepth 100000 in
set_option maxHeartbeats 4000000 in
theorem kX5_draw (l : Launch) (D : va_G) (cy ad : Nat → Nat) (n : Nat) (p0 : Int32) (p1 : Int64) (S : St) (r : Int32) (h : fX5_draw n p0 p1 S = some r) : CW l D cy ad n yX5_draw wsX5_draw rmX5_draw [.ref (ad 12), .int p0, .long p1] S (some (.int r)) S := by
  refine CW.of (cc := cX5_draw) (nL := 13) (ret := (some .int)) (own := RX5) rfl (by decide +kernel) rfl (Nat.le_of_ble_eq_true rfl) ?_
  intro p e s m args below meth c M K
  unfold fX5_draw at h
  refine z_locals [0, 1, 2] [(0, .ref (ad 12)), (1, .int p0), (2, .long p1)] rfl ?_
  refine z_aload_n (pc := 0) M dX5_draw_0 rfl 0 rfl ?_
  refine z_iload_n (pc := 1) M dX5_draw_1 rfl 1 rfl ?_
  obtain ⟨r1, h2, h⟩ := bo_in h
  refine z_vcall (pc := 2) (As := [.int p0]) M K (kX5_isLaw l D cy ad n p0 S r1 h2) (cwV 1 M.1.2.2.2.2 gX5_draw_X5_isLaw rfl rfl rfl (by decide +kernel) ⟨Nat.le_of_ble_eq_true rfl, Nat.le_of_ble_eq_true rfl⟩) o_mod rfl rfl rfl (Nat.le_of_ble_eq_true rfl) dX5_draw_2 ?_
  refine z_if_neB (pc := 5) 10 M dX5_draw_5 (by decide) h (fun c_11 h => ?_) (fun c_11 h => ?_)
  · refine z_iconst (pc := 10) (v := 0) M dX5_draw_10 (by decide) ?_
    refine z_istore (pc := 11) M dX5_draw_11 (by decide) [1, 2, 3, 0] [(0, .ref (ad 12)), (1, .int p0), (2, .long p1), (4, .int (0 : Int32))] rfl ?_
    refine z_iconst (pc := 13) (v := 0) M dX5_draw_13 (by decide) ?_
    refine z_istore (pc := 14) M dX5_draw_14 (by decide) [1, 2, 3, 4, 0] [(0, .ref (ad 12)), (1, .int p0), (2, .long p1), (4, .int (0 : Int32)), (5, .int (0 : Int32))] rfl ?_
    refine z_lload_n (pc := 16) M dX5_draw_16 rfl 2 rfl ?_
    refine z_lstore (pc := 17) M dX5_draw_17 (by decide) [1, 2, 4, 5, 0] [(0, .ref (ad 12)), (1, .int p0), (4, .int (0 : Int32)), (5, .int (0 : Int32)), (6, .long p1)] rfl ?_
    refine z_iconst (pc := 19) (v := 0) M dX5_draw_19 (by decide) ?_
    refine z_istore (pc := 20) M dX5_draw_20 (by decide) [1, 2, 3, 4, 5, 0] [(0, .ref (ad 12)), (1, .int p0), (4, .int (0 : Int32)), (5, .int (0 : Int32)), (6, .long p1), (8, .int (0 : Int32))] rfl ?_
    refine z_locals [0, 1, 2, 3, 4, 5] [(0, .ref (ad 12)), (1, .int p0), (4, .int (0 : Int32)), (5, .int (0 : Int32)), (6, .long p1), (8, .int (0 : Int32))] rfl ?_
    obtain ⟨q9, h10, h⟩ := bo_in h
    refine LX5_draw_1 M K p0 S FU (0 : Int32) (0 : Int32) p1 (0 : Int32) _ h10 (fun a hE => ?_)
    cases hE
    refine z_iload (pc := 111) M dX5_draw_111 0 rfl ?_
    exact z_iretW (pc := 113) M (Option.some.inj h) rfl dX5_draw_113
  · refine z_iconst (pc := 8) (v := -1) M dX5_draw_8 (by decide) ?_
    exact z_iretW (pc := 9) M (Option.some.inj h) rfl dX5_draw_9
