def rmX4_spread : Room := { frames := 3, cells := 0, slots := 0, locals := 63 }
theorem flX4_spread_139 : Cond.fieldLink RX4 139 "ShunLots$Law" "sum" "J" ∈ wsX4_spread := by decide +kernel
theorem wdX4_spread_Cond_constantLong_RX4_143_1 : Cond.constantLong RX4 143 (-1) ∈ wsX4_spread := by decide +kernel
theorem inX4_spread_X0 : ∀ w ∈ wsX00, w ∈ wsX4_spread := by decide +kernel
set_option maxRecDepth 100000 in
set_option maxHeartbeats 4000000 in
theorem kX4_spread (l : Launch) (D : va_G) (cy ad : Nat → Nat) (n : Nat) (p0 : Int32) (p1 : Int32) (S : St) (r : Int64) (h : fX4_spread n p0 p1 S = some r) : CW l D cy ad n yX4_spread wsX4_spread rmX4_spread [.ref (ad 0), .int p0, .int p1] S (some (.long r)) S := by
  refine CW.of (cc := cX4_spread) (nL := 8) (ret := (some .long)) (own := RX4) rfl (by decide +kernel) rfl (Nat.le_of_ble_eq_true rfl) ?_
  intro p e s m args below meth c M K
  unfold fX4_spread at h
  refine z_locals [0, 1, 2] [(0, .ref (ad 0)), (1, .int p0), (2, .int p1)] rfl ?_
  refine z_aload_n (pc := 0) M dX4_spread_0 rfl 0 rfl ?_
  refine z_iload_n (pc := 1) M dX4_spread_1 rfl 1 rfl ?_
  obtain ⟨r1, h2, h⟩ := bo_in h
  refine z_vcall (pc := 2) (As := [.int p0]) M K (kX4_lawAt l D cy ad n p0 S r1 h2) (cwV 1 M.1.2.2.2.2 gX4_spread_X4_lawAt rfl rfl rfl (by decide +kernel) ⟨Nat.le_of_ble_eq_true rfl, Nat.le_of_ble_eq_true rfl⟩) o_obj rfl rfl rfl (Nat.le_of_ble_eq_true rfl) dX4_spread_2 ?_
  cases r1 with
  | none =>
    refine z_astore_nN (pc := 5) M dX4_spread_5 rfl (by decide) [3, 0] [(2, .int p1), (3, .null)] rfl ?_
    refine z_aload_nN (pc := 6) M dX4_spread_6 rfl 1 rfl ?_
    refine z_ifnullN (pc := 7) 17 M dX4_spread_7 (by decide) ?_
    refine z_ldc2 (pc := 17) M wdX4_spread_Cond_constantLong_RX4_143_1 dX4_spread_17 ?_
    exact z_lretW (pc := 20) M (Option.some.inj h) rfl dX4_spread_20
  | some lw3 =>
    obtain ⟨h_lw3, h⟩ := gd_in (show gd (decide (lw3 < 6)) _ = some _ from h)
    have h_lw3 := of_decide_eq_true h_lw3
    refine z_astore_n (pc := 5) M dX4_spread_5 rfl (by decide) [3, 0] [(2, .int p1), (3, .ref (ad (25 + lw3)))] rfl ?_
    refine z_aload_n (pc := 6) M dX4_spread_6 rfl 1 rfl ?_
    refine z_ifnull (pc := 7) M dX4_spread_7 ?_
    refine z_iload_n (pc := 10) M dX4_spread_10 rfl 0 rfl ?_
    obtain ⟨r4, h5, h⟩ := bo_in h
    refine z_scall (pc := 11) (As := [.int p1]) M (kX4_isWhat l p1 r4 h5) (va_cwS 1 M.1.2.2.2.2 gX4_spread_X4_isWhat rfl rfl rfl (by decide +kernel) ⟨Nat.le_of_ble_eq_true rfl, Nat.le_of_ble_eq_true rfl⟩) rfl rfl (Nat.le_of_ble_eq_true rfl) dX4_spread_11 ?_
    refine z_if_neB (pc := 14) 21 M dX4_spread_14 (by decide) h (fun c_12 h => ?_) (fun c_12 h => ?_)
    · refine z_aload_n (pc := 21) M dX4_spread_21 rfl 1 rfl ?_
      obtain ⟨r6, h7, h⟩ := bo_in h
      refine z_vcall (pc := 22) (As := []) M K (kX0_sumOfCounts l D cy ad n lw3 h_lw3 S r6 h7) (cwV 0 M.1.2.2.2.2 gX4_spread_X0_sumOfCounts rfl rfl rfl (by decide +kernel) ⟨Nat.le_of_ble_eq_true rfl, Nat.le_of_ble_eq_true rfl⟩) (o_law h_lw3) rfl rfl rfl (Nat.le_of_ble_eq_true rfl) dX4_spread_22 ?_
      refine z_lstore (pc := 25) M dX4_spread_25 (by decide) [1, 2, 0] [(2, .int p1), (3, .ref (ad (25 + lw3))), (4, .long r6)] rfl ?_
      refine z_aload_n (pc := 27) M dX4_spread_27 rfl 1 rfl ?_
      obtain ⟨r8, h9, h⟩ := bo_in h
      refine z_vcall (pc := 28) (As := []) M K (kX0_sumOfSquares l D cy ad n lw3 h_lw3 S r8 h9) (cwV 0 M.1.2.2.2.2 gX4_spread_X0_sumOfSquares rfl rfl rfl (by decide +kernel) ⟨Nat.le_of_ble_eq_true rfl, Nat.le_of_ble_eq_true rfl⟩) (o_law h_lw3) rfl rfl rfl (Nat.le_of_ble_eq_true rfl) dX4_spread_28 ?_
      refine z_aload_n (pc := 31) M dX4_spread_31 rfl 1 rfl ?_
      refine z_get (pc := 32) (v := .long (S.2 (25 + lw3) 0)) M K inX4_spread_X0 (o_law h_lw3) rfl 1 (by decide) flX4_spread_139 rfl rfl dX4_spread_32 ?_
      refine z_lmul (pc := 35) M dX4_spread_35 ?_
      refine z_lload (pc := 36) M dX4_spread_36 2 rfl ?_
      refine z_lload (pc := 38) M dX4_spread_38 2 rfl ?_
      refine z_lmul (pc := 40) M dX4_spread_40 ?_
      refine z_lsub (pc := 41) M dX4_spread_41 ?_
      refine z_lstore (pc := 42) M dX4_spread_42 (by decide) [1, 2, 0] [(2, .int p1), (3, .ref (ad (25 + lw3))), (6, .long ((r8 * (S.2 (25 + lw3) 0)) - (r6 * r6)))] rfl ?_
      refine z_lload (pc := 44) M dX4_spread_44 2 rfl ?_
      refine z_aload_n (pc := 46) M dX4_spread_46 rfl 1 rfl ?_
      refine z_get (pc := 47) (v := .long (S.2 (25 + lw3) 0)) M K inX4_spread_X0 (o_law h_lw3) rfl 1 (by decide) flX4_spread_139 rfl rfl dX4_spread_47 ?_
      refine z_aload_n (pc := 50) M dX4_spread_50 rfl 1 rfl ?_
      refine z_get (pc := 51) (v := .long (S.2 (25 + lw3) 0)) M K inX4_spread_X0 (o_law h_lw3) rfl 1 (by decide) flX4_spread_139 rfl rfl dX4_spread_51 ?_
      refine z_lmul (pc := 54) M dX4_spread_54 ?_
      refine z_iload_n (pc := 55) M dX4_spread_55 rfl 0 rfl ?_
      obtain ⟨r10, h11, h⟩ := bo_in h
      refine z_scall (pc := 56) (As := [.long ((r8 * (S.2 (25 + lw3) 0)) - (r6 * r6)), .long ((S.2 (25 + lw3) 0) * (S.2 (25 + lw3) 0)), .int p1]) M (kX4_lowest l ((r8 * (S.2 (25 + lw3) 0)) - (r6 * r6)) ((S.2 (25 + lw3) 0) * (S.2 (25 + lw3) 0)) p1 r10 h11) (va_cwS 3 M.1.2.2.2.2 gX4_spread_X4_lowest rfl rfl rfl (by decide +kernel) ⟨Nat.le_of_ble_eq_true rfl, Nat.le_of_ble_eq_true rfl⟩) rfl rfl (Nat.le_of_ble_eq_true rfl) dX4_spread_56 ?_
      exact z_lretW (pc := 59) M (Option.some.inj h) rfl dX4_spread_59
    · refine z_ldc2 (pc := 17) M wdX4_spread_Cond_constantLong_RX4_143_1 dX4_spread_17 ?_
      exact z_lretW (pc := 20) M (Option.some.inj h) rfl dX4_spread_20
def rmX4_both : Room := { frames := 3, cells := 0, slots := 0, locals := 69 }
theorem flX4_both_139 : Cond.fieldLink RX4 139 "ShunLots$Law" "sum" "J" ∈ wsX4_both := by decide +kernel
theorem inX4_both_X0 : ∀ w ∈ wsX00, w ∈ wsX4_both := by decide +kernel
set_option maxRecDepth 100000 in
set_option maxHeartbeats 4000000 in
theorem kX4_both (l : Launch) (D : va_G) (cy ad : Nat → Nat) (n : Nat) (p0 : Int32) (p1 : Int32) (p2 : Int32) (p3 : Int32) (S : St) (r : Int64) (h : fX4_both n p0 p1 p2 p3 S = some r) : CW l D cy ad n yX4_both wsX4_both rmX4_both [.ref (ad 0), .int p0, .int p1, .int p2, .int p3] S (some (.long r)) S := by
  refine CW.of (cc := cX4_both) (nL := 6) (ret := (some .long)) (own := RX4) rfl (by decide +kernel) rfl (Nat.le_of_ble_eq_true rfl) ?_
  intro p e s m args below meth c M K
  unfold fX4_both at h
  refine z_locals [0, 1, 2, 3, 4] [(0, .ref (ad 0)), (1, .int p0), (2, .int p1), (3, .int p2), (4, .int p3)] rfl ?_
  refine z_aload_n (pc := 0) M dX4_both_0 rfl 0 rfl ?_
  refine z_iload_n (pc := 1) M dX4_both_1 rfl 1 rfl ?_
  obtain ⟨r1, h2, h⟩ := bo_in h
  refine z_vcall (pc := 2) (As := [.int p0]) M K (kX4_lawAt l D cy ad n p0 S r1 h2) (cwV 1 M.1.2.2.2.2 gX4_both_X4_lawAt rfl rfl rfl (by decide +kernel) ⟨Nat.le_of_ble_eq_true rfl, Nat.le_of_ble_eq_true rfl⟩) o_obj rfl rfl rfl (Nat.le_of_ble_eq_true rfl) dX4_both_2 ?_
  cases r1 with
  | none =>
    refine z_astoreN (pc := 5) M dX4_both_5 (by decide) [1, 3, 4, 5, 0] [(0, .ref (ad 0)), (2, .int p1), (3, .int p2), (4, .int p3), (5, .null)] rfl ?_
    refine z_aloadN (pc := 7) M dX4_both_7 4 rfl ?_
    refine z_ifnullN (pc := 9) 41 M dX4_both_9 (by decide) ?_
    refine z_lconst (pc := 41) (v := 0) M dX4_both_41 (by decide) ?_
    exact z_lretW (pc := 42) M (Option.some.inj h) rfl dX4_both_42
  | some lw3 =>
    obtain ⟨h_lw3, h⟩ := gd_in (show gd (decide (lw3 < 6)) _ = some _ from h)
    have h_lw3 := of_decide_eq_true h_lw3
    refine z_astore (pc := 5) M dX4_both_5 (by decide) [1, 3, 4, 5, 0] [(0, .ref (ad 0)), (2, .int p1), (3, .int p2), (4, .int p3), (5, .ref (ad (25 + lw3)))] rfl ?_
    refine z_aload (pc := 7) M dX4_both_7 4 rfl ?_
    refine z_ifnull (pc := 9) M dX4_both_9 ?_
    refine z_aload_n (pc := 12) M dX4_both_12 rfl 0 rfl ?_
    refine z_iload_n (pc := 13) M dX4_both_13 rfl 1 rfl ?_
    obtain ⟨r4, h5, h⟩ := bo_in h
    refine z_vcall (pc := 14) (As := [.int p1]) M K (kX4_isThing l D cy ad n p1 S r4 h5) (cwV 1 M.1.2.2.2.2 gX4_both_X4_isThing rfl rfl rfl (by decide +kernel) ⟨Nat.le_of_ble_eq_true rfl, Nat.le_of_ble_eq_true rfl⟩) o_obj rfl rfl rfl (Nat.le_of_ble_eq_true rfl) dX4_both_14 ?_
    refine z_if_eqB (pc := 17) 41 M dX4_both_17 (by decide) h (fun c_17 h => ?_) (fun c_17 h => ?_)
    · refine z_lconst (pc := 41) (v := 0) M dX4_both_41 (by decide) ?_
      exact z_lretW (pc := 42) M (Option.some.inj h) rfl dX4_both_42
    · refine z_aload_n (pc := 20) M dX4_both_20 rfl 0 rfl ?_
      refine z_iload_n (pc := 21) M dX4_both_21 rfl 2 rfl ?_
      obtain ⟨r6, h7, h⟩ := bo_in h
      refine z_vcall (pc := 22) (As := [.int p2]) M K (kX4_isThing l D cy ad n p2 S r6 h7) (cwV 1 M.1.2.2.2.2 gX4_both_X4_isThing rfl rfl rfl (by decide +kernel) ⟨Nat.le_of_ble_eq_true rfl, Nat.le_of_ble_eq_true rfl⟩) o_obj rfl rfl rfl (Nat.le_of_ble_eq_true rfl) dX4_both_22 ?_
      refine z_if_eqB (pc := 25) 41 M dX4_both_25 (by decide) h (fun c_16 h => ?_) (fun c_16 h => ?_)
      · refine z_lconst (pc := 41) (v := 0) M dX4_both_41 (by decide) ?_
        exact z_lretW (pc := 42) M (Option.some.inj h) rfl dX4_both_42
      · refine z_iload_n (pc := 28) M dX4_both_28 rfl 1 rfl ?_
        refine z_iload_n (pc := 29) M dX4_both_29 rfl 2 rfl ?_
        refine z_icmp_eq (pc := 30) 41 M dX4_both_30 (by decide) h (fun c_15 h => ?_) (fun c_15 h => ?_)
        · refine z_lconst (pc := 41) (v := 0) M dX4_both_41 (by decide) ?_
          exact z_lretW (pc := 42) M (Option.some.inj h) rfl dX4_both_42
        · refine z_iload (pc := 33) M dX4_both_33 3 rfl ?_
          obtain ⟨r8, h9, h⟩ := bo_in h
          refine z_scall (pc := 35) (As := [.int p3]) M (kX4_isWhat l p3 r8 h9) (va_cwS 1 M.1.2.2.2.2 gX4_both_X4_isWhat rfl rfl rfl (by decide +kernel) ⟨Nat.le_of_ble_eq_true rfl, Nat.le_of_ble_eq_true rfl⟩) rfl rfl (Nat.le_of_ble_eq_true rfl) dX4_both_35 ?_
          refine z_if_neB (pc := 38) 43 M dX4_both_38 (by decide) h (fun c_14 h => ?_) (fun c_14 h => ?_)
          · refine z_aload (pc := 43) M dX4_both_43 4 rfl ?_
            refine z_iconst (pc := 45) (v := 1) M dX4_both_45 (by decide) ?_
            refine z_iload_n (pc := 46) M dX4_both_46 rfl 1 rfl ?_
            refine z_ishl (pc := 47) M dX4_both_47 ?_
            refine z_iconst (pc := 48) (v := 1) M dX4_both_48 (by decide) ?_
            refine z_iload_n (pc := 49) M dX4_both_49 rfl 2 rfl ?_
            refine z_ishl (pc := 50) M dX4_both_50 ?_
            obtain ⟨r10, h11, h⟩ := bo_in h
            refine z_vcall (pc := 51) (As := [.int ((1 : Int32) <<< (p1 &&& 31)), .int ((1 : Int32) <<< (p2 &&& 31))]) M K (kX0_apartness l D cy ad n lw3 h_lw3 ((1 : Int32) <<< (p1 &&& 31)) ((1 : Int32) <<< (p2 &&& 31)) S r10 h11) (cwV 2 M.1.2.2.2.2 gX4_both_X0_apartness rfl rfl rfl (by decide +kernel) ⟨Nat.le_of_ble_eq_true rfl, Nat.le_of_ble_eq_true rfl⟩) (o_law h_lw3) rfl rfl rfl (Nat.le_of_ble_eq_true rfl) dX4_both_51 ?_
            refine z_aload (pc := 54) M dX4_both_54 4 rfl ?_
            refine z_get (pc := 56) (v := .long (S.2 (25 + lw3) 0)) M K inX4_both_X0 (o_law h_lw3) rfl 1 (by decide) flX4_both_139 rfl rfl dX4_both_56 ?_
            refine z_aload (pc := 59) M dX4_both_59 4 rfl ?_
            refine z_get (pc := 61) (v := .long (S.2 (25 + lw3) 0)) M K inX4_both_X0 (o_law h_lw3) rfl 1 (by decide) flX4_both_139 rfl rfl dX4_both_61 ?_
            refine z_lmul (pc := 64) M dX4_both_64 ?_
            refine z_iload (pc := 65) M dX4_both_65 3 rfl ?_
            obtain ⟨r12, h13, h⟩ := bo_in h
            refine z_scall (pc := 67) (As := [.long r10, .long ((S.2 (25 + lw3) 0) * (S.2 (25 + lw3) 0)), .int p3]) M (kX4_lowest l r10 ((S.2 (25 + lw3) 0) * (S.2 (25 + lw3) 0)) p3 r12 h13) (va_cwS 3 M.1.2.2.2.2 gX4_both_X4_lowest rfl rfl rfl (by decide +kernel) ⟨Nat.le_of_ble_eq_true rfl, Nat.le_of_ble_eq_true rfl⟩) rfl rfl (Nat.le_of_ble_eq_true rfl) dX4_both_67 ?_
            exact z_lretW (pc := 70) M (Option.some.inj h) rfl dX4_both_70
          · refine z_lconst (pc := 41) (v := 0) M dX4_both_41 (by decide) ?_
            exact z_lretW (pc := 42) M (Option.some.inj h) rfl dX4_both_42
def rmX4_shuns : Room := { frames := 3, cells := 0, slots := 0, locals := 69 }
theorem flX4_shuns_18 : Cond.fieldLink RX4 18 "ShunLots" "things" "I" ∈ wsX4_shuns := by decide +kernel
theorem inX4_shuns_X4 : ∀ w ∈ wsX40, w ∈ wsX4_shuns := by decide +kernel
set_option maxRecDepth 100000 in
set_option maxHeartbeats 4000000 in
theorem LX4_shuns_2 {p : Program} {l : Launch} {e : Env} {s : State} {m : MethodId} {args : Array Value} {below : List Frame} {meth : Method} {c : Code} {Q : State → Prop} {D : va_G} {cy ad : Nat → Nat} {n : Nat} (M : MX p m c cX4_shuns 5 s args wsX4_shuns RX4 meth (some .int)) (K : KK D cy ad s) (t2 : Nat) (x3 : Int32) (h_t2 : t2 < 6) (S : St) : ∀ (fuel : Nat) (x4 : Int32) (o : ((Unit) ⊕ Int32)), lX4_shuns_2 n t2 x3 S fuel x4 = some o → ∀ (hx : ∀ a, o = .inl a → Zz p l e rmX4_shuns s m args below meth c 5 Q (Hw D cy ad n s S) 55 [(0, .ref (ad 0)), (2, .ref (ad (25 + t2))), (3, .int x3)] []) (hq : ∀ r, o = .inr r → Q = Qw D cy ad n below args s (some (.int r)) S), Zz p l e rmX4_shuns s m args below meth c 5 Q (Hw D cy ad n s S) 25 [(0, .ref (ad 0)), (2, .ref (ad (25 + t2))), (3, .int x3), (4, .int x4)] [] := by
  intro fuel
  induction fuel with
  | zero => intro x4 o h; exact nomatch (show (none : Option _) = some o from h)
  | succ fuel ih =>
    intro x4 o h hx hq
    have h : bX4_shuns_2 n t2 x3 S (lX4_shuns_2 n t2 x3 S fuel) x4 = some o := h
    unfold bX4_shuns_2 at h
    refine z_iload (pc := 25) M dX4_shuns_25 3 rfl ?_
    refine z_iload_n (pc := 27) M dX4_shuns_27 rfl 2 rfl ?_
    refine z_icmp_ge (pc := 28) 55 M dX4_shuns_28 (by decide) h (fun c_7 h => ?_) (fun c_7 h => ?_)
    · refine z_locals [0, 1, 2] [(0, .ref (ad 0)), (2, .ref (ad (25 + t2))), (3, .int x3)] rfl ?_
      cases h
      exact hx _ rfl
    · refine z_aload_n (pc := 31) M dX4_shuns_31 rfl 1 rfl ?_
      refine z_iconst (pc := 32) (v := 1) M dX4_shuns_32 (by decide) ?_
      refine z_iload_n (pc := 33) M dX4_shuns_33 rfl 2 rfl ?_
      refine z_ishl (pc := 34) M dX4_shuns_34 ?_
      refine z_iconst (pc := 35) (v := 1) M dX4_shuns_35 (by decide) ?_
      refine z_iload (pc := 36) M dX4_shuns_36 3 rfl ?_
      refine z_ishl (pc := 38) M dX4_shuns_38 ?_
      obtain ⟨r4, h5, h⟩ := bo_in h
      refine z_vcall (pc := 39) (As := [.int ((1 : Int32) <<< (x3 &&& 31)), .int ((1 : Int32) <<< (x4 &&& 31))]) M K (kX0_apartness l D cy ad n t2 h_t2 ((1 : Int32) <<< (x3 &&& 31)) ((1 : Int32) <<< (x4 &&& 31)) S r4 h5) (cwV 2 M.1.2.2.2.2 gX4_shuns_X0_apartness rfl rfl rfl (by decide +kernel) ⟨Nat.le_of_ble_eq_true rfl, Nat.le_of_ble_eq_true rfl⟩) (o_law h_t2) rfl rfl rfl (Nat.le_of_ble_eq_true rfl) dX4_shuns_39 ?_
      refine z_lconst (pc := 42) (v := 0) M dX4_shuns_42 (by decide) ?_
      refine z_lcmp (pc := 43) M dX4_shuns_43 ?_
      refine z_if_ge (pc := 44) 49 M dX4_shuns_44 (by decide) h (fun c_6 h => ?_) (fun c_6 h => ?_)
      · refine z_iinc (pc := 49) M dX4_shuns_49 (x4 + 1) rfl 3 rfl (by decide) [1, 2, 3, 0] [(0, .ref (ad 0)), (2, .ref (ad (25 + t2))), (3, .int x3), (4, .int (x4 + 1))] rfl ?_
        refine z_goto (pc := 52) 25 M dX4_shuns_52 (by decide) ?_
        refine z_locals [0, 1, 2, 3] [(0, .ref (ad 0)), (2, .ref (ad (25 + t2))), (3, .int x3), (4, .int (x4 + 1))] rfl ?_
        exact ih (x4 + 1) _ h hx hq
      · refine z_iconst (pc := 47) (v := 0) M dX4_shuns_47 (by decide) ?_
        cases h
        rw [hq _ rfl]
        exact z_iretW (pc := 48) M rfl rfl dX4_shuns_48
set_option maxRecDepth 100000 in
set_option maxHeartbeats 4000000 in
theorem LX4_shuns_1 {p : Program} {l : Launch} {e : Env} {s : State} {m : MethodId} {args : Array Value} {below : List Frame} {meth : Method} {c : Code} {Q : State → Prop} {D : va_G} {cy ad : Nat → Nat} {n : Nat} (M : MX p m c cX4_shuns 5 s args wsX4_shuns RX4 meth (some .int)) (K : KK D cy ad s) (t2 : Nat) (h_t2 : t2 < 6) (S : St) : ∀ (fuel : Nat) (x3 : Int32) (o : ((Unit) ⊕ Int32)), lX4_shuns_1 n t2 S fuel x3 = some o → ∀ (hx : ∀ a, o = .inl a → Zz p l e rmX4_shuns s m args below meth c 5 Q (Hw D cy ad n s S) 61 [] []) (hq : ∀ r, o = .inr r → Q = Qw D cy ad n below args s (some (.int r)) S), Zz p l e rmX4_shuns s m args below meth c 5 Q (Hw D cy ad n s S) 14 [(0, .ref (ad 0)), (2, .ref (ad (25 + t2))), (3, .int x3)] [] := by
  intro fuel
  induction fuel with
  | zero => intro x3 o h; exact nomatch (show (none : Option _) = some o from h)
  | succ fuel ih =>
    intro x3 o h hx hq
    have h : bX4_shuns_1 n t2 S (lX4_shuns_1 n t2 S fuel) x3 = some o := h
    unfold bX4_shuns_1 at h
    refine z_iload_n (pc := 14) M dX4_shuns_14 rfl 2 rfl ?_
    refine z_aload_n (pc := 15) M dX4_shuns_15 rfl 0 rfl ?_
    refine z_get (pc := 16) (v := .int (nI n)) M K inX4_shuns_X4 o_obj rfl 0 (by decide) flX4_shuns_18 rfl rfl dX4_shuns_16 ?_
    refine z_icmp_ge (pc := 19) 61 M dX4_shuns_19 (by decide) h (fun c_10 h => ?_) (fun c_10 h => ?_)
    · refine z_locals [] [] rfl ?_
      cases h
      exact hx _ rfl
    · refine z_iconst (pc := 22) (v := 0) M dX4_shuns_22 (by decide) ?_
      refine z_istore (pc := 23) M dX4_shuns_23 (by decide) [1, 2, 3, 0] [(0, .ref (ad 0)), (2, .ref (ad (25 + t2))), (3, .int x3), (4, .int (0 : Int32))] rfl ?_
      refine z_locals [0, 1, 2, 3] [(0, .ref (ad 0)), (2, .ref (ad (25 + t2))), (3, .int x3), (4, .int (0 : Int32))] rfl ?_
      rcases bs_in h with ⟨q8, h9, h⟩ | ⟨r9, h9, h⟩
      · refine LX4_shuns_2 M K t2 x3 h_t2 S FU (0 : Int32) _ h9 (fun a hE => ?_) (fun r e9 => nomatch e9)
        cases hE
        refine z_iinc (pc := 55) M dX4_shuns_55 (x3 + 1) rfl 2 rfl (by decide) [1, 2, 0] [(0, .ref (ad 0)), (2, .ref (ad (25 + t2))), (3, .int (x3 + 1))] rfl ?_
        refine z_goto (pc := 58) 14 M dX4_shuns_58 (by decide) ?_
        refine z_locals [0, 1, 2] [(0, .ref (ad 0)), (2, .ref (ad (25 + t2))), (3, .int (x3 + 1))] rfl ?_
        exact ih (x3 + 1) _ h hx hq
      · exact LX4_shuns_2 M K t2 x3 h_t2 S FU (0 : Int32) _ h9 (fun a e9 => nomatch e9) (fun r e9 => by cases e9; exact hq _ (Option.some.inj h).symm)
set_option maxRecDepth 100000 in
set_option maxHeartbeats 4000000 in
theorem kX4_shuns (l : Launch) (D : va_G) (cy ad : Nat → Nat) (n : Nat) (p0 : Int32) (S : St) (r : Int32) (h : fX4_shuns n p0 S = some r) : CW l D cy ad n yX4_shuns wsX4_shuns rmX4_shuns [.ref (ad 0), .int p0] S (some (.int r)) S := by
  refine CW.of (cc := cX4_shuns) (nL := 5) (ret := (some .int)) (own := RX4) rfl (by decide +kernel) rfl (Nat.le_of_ble_eq_true rfl) ?_
  intro p e s m args below meth c M K
  unfold fX4_shuns at h
  refine z_locals [0, 1] [(0, .ref (ad 0)), (1, .int p0)] rfl ?_
  refine z_aload_n (pc := 0) M dX4_shuns_0 rfl 0 rfl ?_
  refine z_iload_n (pc := 1) M dX4_shuns_1 rfl 1 rfl ?_
  obtain ⟨r1, h2, h⟩ := bo_in h
  refine z_vcall (pc := 2) (As := [.int p0]) M K (kX4_lawAt l D cy ad n p0 S r1 h2) (cwV 1 M.1.2.2.2.2 gX4_shuns_X4_lawAt rfl rfl rfl (by decide +kernel) ⟨Nat.le_of_ble_eq_true rfl, Nat.le_of_ble_eq_true rfl⟩) o_obj rfl rfl rfl (Nat.le_of_ble_eq_true rfl) dX4_shuns_2 ?_
  cases r1 with
  | none =>
    refine z_astore_nN (pc := 5) M dX4_shuns_5 rfl (by decide) [1, 0] [(0, .ref (ad 0)), (2, .null)] rfl ?_
    refine z_aload_nN (pc := 6) M dX4_shuns_6 rfl 1 rfl ?_
    refine z_ifnonnullN (pc := 7) M dX4_shuns_7 ?_
    refine z_iconst (pc := 10) (v := -1) M dX4_shuns_10 (by decide) ?_
    exact z_iretW (pc := 11) M (Option.some.inj h) rfl dX4_shuns_11
  | some lw3 =>
    obtain ⟨h_lw3, h⟩ := gd_in (show gd (decide (lw3 < 6)) _ = some _ from h)
    have h_lw3 := of_decide_eq_true h_lw3
    refine z_astore_n (pc := 5) M dX4_shuns_5 rfl (by decide) [1, 0] [(0, .ref (ad 0)), (2, .ref (ad (25 + lw3)))] rfl ?_
    refine z_aload_n (pc := 6) M dX4_shuns_6 rfl 1 rfl ?_
    refine z_ifnonnull (pc := 7) 12 M dX4_shuns_7 (by decide) ?_
    refine z_iconst (pc := 12) (v := 1) M dX4_shuns_12 (by decide) ?_
    refine z_istore_n (pc := 13) M dX4_shuns_13 rfl (by decide) [1, 2, 0] [(0, .ref (ad 0)), (2, .ref (ad (25 + lw3))), (3, .int (1 : Int32))] rfl ?_
    refine z_locals [0, 1, 2] [(0, .ref (ad 0)), (2, .ref (ad (25 + lw3))), (3, .int (1 : Int32))] rfl ?_
    rcases bs_in h with ⟨q11, h12, h⟩ | ⟨r9, h12, h⟩
    · refine LX4_shuns_1 M K lw3 h_lw3 S FU (1 : Int32) _ h12 (fun a hE => ?_) (fun r e9 => nomatch e9)
      cases hE
      refine z_iconst (pc := 61) (v := 1) M dX4_shuns_61 (by decide) ?_
      exact z_iretW (pc := 62) M (Option.some.inj h) rfl dX4_shuns_62
    · exact LX4_shuns_1 M K lw3 h_lw3 S FU (1 : Int32) _ h12 (fun a e9 => nomatch e9) (fun r e9 => by cases e9; cases h; rfl)
def rmX4_rises : Room := { frames := 3, cells := 0, slots := 0, locals := 63 }
theorem flX4_rises_18 : Cond.fieldLink RX4 18 "ShunLots" "things" "I" ∈ wsX4_rises := by decide +kernel
theorem inX4_rises_X4 : ∀ w ∈ wsX40, w ∈ wsX4_rises := by decide +kernel
set_option maxRecDepth 100000 in
set_option maxHeartbeats 4000000 in
theorem LX4_rises_1 {p : Program} {l : Launch} {e : Env} {s : State} {m : MethodId} {args : Array Value} {below : List Frame} {meth : Method} {c : Code} {Q : State → Prop} {D : va_G} {cy ad : Nat → Nat} {n : Nat} (M : MX p m c cX4_rises 9 s args wsX4_rises RX4 meth (some .int)) (K : KK D cy ad s) (t2 : Nat) (h_t2 : t2 < 6) (S : St) : ∀ (fuel : Nat) (x3 : Int32) (x4 : Int64) (x6 : Int32) (o : ((Unit) ⊕ Int32)), lX4_rises_1 n t2 S fuel x3 x4 x6 = some o → ∀ (hx : ∀ a, o = .inl a → Zz p l e rmX4_rises s m args below meth c 9 Q (Hw D cy ad n s S) 75 [] []) (hq : ∀ r, o = .inr r → Q = Qw D cy ad n below args s (some (.int r)) S), Zz p l e rmX4_rises s m args below meth c 9 Q (Hw D cy ad n s S) 24 [(0, .ref (ad 0)), (2, .ref (ad (25 + t2))), (3, .int x3), (4, .long x4), (6, .int x6)] [] := by
  intro fuel
  induction fuel with
  | zero => intro x3 x4 x6 o h; exact nomatch (show (none : Option _) = some o from h)
  | succ fuel ih =>
    intro x3 x4 x6 o h hx hq
    have h : bX4_rises_1 n t2 S (lX4_rises_1 n t2 S fuel) x3 x4 x6 = some o := h
    unfold bX4_rises_1 at h
    refine z_iload (pc := 24) M dX4_rises_24 4 rfl ?_
    refine z_aload_n (pc := 26) M dX4_rises_26 rfl 0 rfl ?_
    refine z_get (pc := 27) (v := .int (nI n)) M K inX4_rises_X4 o_obj rfl 0 (by decide) flX4_rises_18 rfl rfl dX4_rises_27 ?_
    refine z_icmp_gt (pc := 30) 75 M dX4_rises_30 (by decide) h (fun c_12 h => ?_) (fun c_12 h => ?_)
    · refine z_locals [] [] rfl ?_
      cases h
      exact hx _ rfl
    · refine z_aload_n (pc := 33) M dX4_rises_33 rfl 1 rfl ?_
      refine z_iload (pc := 34) M dX4_rises_34 4 rfl ?_
      obtain ⟨r6, h7, h⟩ := bo_in h
      refine z_vcall (pc := 36) (As := [.int x6]) M K (kX0_sumOfSize l D cy ad n t2 h_t2 x6 S r6 h7) (cwV 1 M.1.2.2.2.2 gX4_rises_X0_sumOfSize rfl rfl rfl (by decide +kernel) ⟨Nat.le_of_ble_eq_true rfl, Nat.le_of_ble_eq_true rfl⟩) (o_law h_t2) rfl rfl rfl (Nat.le_of_ble_eq_true rfl) dX4_rises_36 ?_
      refine z_lstore (pc := 39) M dX4_rises_39 (by decide) [1, 2, 3, 4, 5, 0] [(0, .ref (ad 0)), (2, .ref (ad (25 + t2))), (3, .int x3), (4, .long x4), (6, .int x6), (7, .long r6)] rfl ?_
      refine z_iload_n (pc := 41) M dX4_rises_41 rfl 2 rfl ?_
      refine z_if_eq (pc := 42) 55 M dX4_rises_42 (by decide) h (fun c_11 h => ?_) (fun c_11 h => ?_)
      · refine z_lload (pc := 55) M dX4_rises_55 5 rfl ?_
        refine z_lload (pc := 57) M dX4_rises_57 3 rfl ?_
        refine z_lcmp (pc := 59) M dX4_rises_59 ?_
        refine z_if_ge (pc := 60) 65 M dX4_rises_60 (by decide) h (fun c_8 h => ?_) (fun c_8 h => ?_)
        · refine z_lload (pc := 65) M dX4_rises_65 5 rfl ?_
          refine z_lstore (pc := 67) M dX4_rises_67 (by decide) [1, 2, 3, 0, 4] [(0, .ref (ad 0)), (2, .ref (ad (25 + t2))), (3, .int x3), (4, .long r6), (6, .int x6)] rfl ?_
          refine z_iinc (pc := 69) M dX4_rises_69 (x6 + 1) rfl 4 rfl (by decide) [1, 2, 3, 4, 0] [(0, .ref (ad 0)), (2, .ref (ad (25 + t2))), (3, .int x3), (4, .long r6), (6, .int (x6 + 1))] rfl ?_
          refine z_goto (pc := 72) 24 M dX4_rises_72 (by decide) ?_
          refine z_locals [0, 1, 2, 3, 4] [(0, .ref (ad 0)), (2, .ref (ad (25 + t2))), (3, .int x3), (4, .long r6), (6, .int (x6 + 1))] rfl ?_
          exact ih x3 r6 (x6 + 1) _ h hx hq
        · refine z_iconst (pc := 63) (v := 1) M dX4_rises_63 (by decide) ?_
          refine z_istore_n (pc := 64) M dX4_rises_64 rfl (by decide) [1, 2, 0, 4, 5] [(0, .ref (ad 0)), (2, .ref (ad (25 + t2))), (3, .int (1 : Int32)), (6, .int x6), (7, .long r6)] rfl ?_
          refine z_lload (pc := 65) M dX4_rises_65 4 rfl ?_
          refine z_lstore (pc := 67) M dX4_rises_67 (by decide) [1, 2, 3, 0, 4] [(0, .ref (ad 0)), (2, .ref (ad (25 + t2))), (3, .int (1 : Int32)), (4, .long r6), (6, .int x6)] rfl ?_
          refine z_iinc (pc := 69) M dX4_rises_69 (x6 + 1) rfl 4 rfl (by decide) [1, 2, 3, 4, 0] [(0, .ref (ad 0)), (2, .ref (ad (25 + t2))), (3, .int (1 : Int32)), (4, .long r6), (6, .int (x6 + 1))] rfl ?_
          refine z_goto (pc := 72) 24 M dX4_rises_72 (by decide) ?_
          refine z_locals [0, 1, 2, 3, 4] [(0, .ref (ad 0)), (2, .ref (ad (25 + t2))), (3, .int (1 : Int32)), (4, .long r6), (6, .int (x6 + 1))] rfl ?_
          exact ih (1 : Int32) r6 (x6 + 1) _ h hx hq
      · refine z_lload (pc := 45) M dX4_rises_45 5 rfl ?_
        refine z_lload (pc := 47) M dX4_rises_47 3 rfl ?_
        refine z_lcmp (pc := 49) M dX4_rises_49 ?_
        refine z_if_le (pc := 50) 55 M dX4_rises_50 (by decide) h (fun c_10 h => ?_) (fun c_10 h => ?_)
        · refine z_lload (pc := 55) M dX4_rises_55 5 rfl ?_
          refine z_lload (pc := 57) M dX4_rises_57 3 rfl ?_
          refine z_lcmp (pc := 59) M dX4_rises_59 ?_
          refine z_if_ge (pc := 60) 65 M dX4_rises_60 (by decide) h (fun c_9 h => ?_) (fun c_9 h => ?_)
          · refine z_lload (pc := 65) M dX4_rises_65 5 rfl ?_
            refine z_lstore (pc := 67) M dX4_rises_67 (by decide) [1, 2, 3, 0, 4] [(0, .ref (ad 0)), (2, .ref (ad (25 + t2))), (3, .int x3), (4, .long r6), (6, .int x6)] rfl ?_
            refine z_iinc (pc := 69) M dX4_rises_69 (x6 + 1) rfl 4 rfl (by decide) [1, 2, 3, 4, 0] [(0, .ref (ad 0)), (2, .ref (ad (25 + t2))), (3, .int x3), (4, .long r6), (6, .int (x6 + 1))] rfl ?_
            refine z_goto (pc := 72) 24 M dX4_rises_72 (by decide) ?_
            refine z_locals [0, 1, 2, 3, 4] [(0, .ref (ad 0)), (2, .ref (ad (25 + t2))), (3, .int x3), (4, .long r6), (6, .int (x6 + 1))] rfl ?_
            exact ih x3 r6 (x6 + 1) _ h hx hq
          · refine z_iconst (pc := 63) (v := 1) M dX4_rises_63 (by decide) ?_
            refine z_istore_n (pc := 64) M dX4_rises_64 rfl (by decide) [1, 2, 0, 4, 5] [(0, .ref (ad 0)), (2, .ref (ad (25 + t2))), (3, .int (1 : Int32)), (6, .int x6), (7, .long r6)] rfl ?_
            refine z_lload (pc := 65) M dX4_rises_65 4 rfl ?_
            refine z_lstore (pc := 67) M dX4_rises_67 (by decide) [1, 2, 3, 0, 4] [(0, .ref (ad 0)), (2, .ref (ad (25 + t2))), (3, .int (1 : Int32)), (4, .long r6), (6, .int x6)] rfl ?_
            refine z_iinc (pc := 69) M dX4_rises_69 (x6 + 1) rfl 4 rfl (by decide) [1, 2, 3, 4, 0] [(0, .ref (ad 0)), (2, .ref (ad (25 + t2))), (3, .int (1 : Int32)), (4, .long r6), (6, .int (x6 + 1))] rfl ?_
            refine z_goto (pc := 72) 24 M dX4_rises_72 (by decide) ?_
            refine z_locals [0, 1, 2, 3, 4] [(0, .ref (ad 0)), (2, .ref (ad (25 + t2))), (3, .int (1 : Int32)), (4, .long r6), (6, .int (x6 + 1))] rfl ?_
            exact ih (1 : Int32) r6 (x6 + 1) _ h hx hq
        · refine z_iconst (pc := 53) (v := 0) M dX4_rises_53 (by decide) ?_
          cases h
          rw [hq _ rfl]
          exact z_iretW (pc := 54) M rfl rfl dX4_rises_54
set_option maxRecDepth 100000 in
set_option maxHeartbeats 4000000 in
theorem kX4_rises (l : Launch) (D : va_G) (cy ad : Nat → Nat) (n : Nat) (p0 : Int32) (S : St) (r : Int32) (h : fX4_rises n p0 S = some r) : CW l D cy ad n yX4_rises wsX4_rises rmX4_rises [.ref (ad 0), .int p0] S (some (.int r)) S := by
  refine CW.of (cc := cX4_rises) (nL := 9) (ret := (some .int)) (own := RX4) rfl (by decide +kernel) rfl (Nat.le_of_ble_eq_true rfl) ?_
  intro p e s m args below meth c M K
  unfold fX4_rises at h
  refine z_locals [0, 1] [(0, .ref (ad 0)), (1, .int p0)] rfl ?_
  refine z_aload_n (pc := 0) M dX4_rises_0 rfl 0 rfl ?_
  refine z_iload_n (pc := 1) M dX4_rises_1 rfl 1 rfl ?_
  obtain ⟨r1, h2, h⟩ := bo_in h
  refine z_vcall (pc := 2) (As := [.int p0]) M K (kX4_lawAt l D cy ad n p0 S r1 h2) (cwV 1 M.1.2.2.2.2 gX4_rises_X4_lawAt rfl rfl rfl (by decide +kernel) ⟨Nat.le_of_ble_eq_true rfl, Nat.le_of_ble_eq_true rfl⟩) o_obj rfl rfl rfl (Nat.le_of_ble_eq_true rfl) dX4_rises_2 ?_
  cases r1 with
  | none =>
    refine z_astore_nN (pc := 5) M dX4_rises_5 rfl (by decide) [1, 0] [(0, .ref (ad 0)), (2, .null)] rfl ?_
    refine z_aload_nN (pc := 6) M dX4_rises_6 rfl 1 rfl ?_
    refine z_ifnonnullN (pc := 7) M dX4_rises_7 ?_
    refine z_iconst (pc := 10) (v := -1) M dX4_rises_10 (by decide) ?_
    exact z_iretW (pc := 11) M (Option.some.inj h) rfl dX4_rises_11
  | some lw3 =>
    obtain ⟨h_lw3, h⟩ := gd_in (show gd (decide (lw3 < 6)) _ = some _ from h)
    have h_lw3 := of_decide_eq_true h_lw3
    refine z_astore_n (pc := 5) M dX4_rises_5 rfl (by decide) [1, 0] [(0, .ref (ad 0)), (2, .ref (ad (25 + lw3)))] rfl ?_
    refine z_aload_n (pc := 6) M dX4_rises_6 rfl 1 rfl ?_
    refine z_ifnonnull (pc := 7) 12 M dX4_rises_7 (by decide) ?_
    refine z_iconst (pc := 12) (v := 0) M dX4_rises_12 (by decide) ?_
    refine z_istore_n (pc := 13) M dX4_rises_13 rfl (by decide) [1, 2, 0] [(0, .ref (ad 0)), (2, .ref (ad (25 + lw3))), (3, .int (0 : Int32))] rfl ?_
    refine z_aload_n (pc := 14) M dX4_rises_14 rfl 1 rfl ?_
    refine z_iconst (pc := 15) (v := 0) M dX4_rises_15 (by decide) ?_
    obtain ⟨r4, h5, h⟩ := bo_in h
    refine z_vcall (pc := 16) (As := [.int (0 : Int32)]) M K (kX0_sumOfSize l D cy ad n lw3 h_lw3 (0 : Int32) S r4 h5) (cwV 1 M.1.2.2.2.2 gX4_rises_X0_sumOfSize rfl rfl rfl (by decide +kernel) ⟨Nat.le_of_ble_eq_true rfl, Nat.le_of_ble_eq_true rfl⟩) (o_law h_lw3) rfl rfl rfl (Nat.le_of_ble_eq_true rfl) dX4_rises_16 ?_
    refine z_lstore (pc := 19) M dX4_rises_19 (by decide) [1, 2, 3, 0] [(0, .ref (ad 0)), (2, .ref (ad (25 + lw3))), (3, .int (0 : Int32)), (4, .long r4)] rfl ?_
    refine z_iconst (pc := 21) (v := 1) M dX4_rises_21 (by decide) ?_
    refine z_istore (pc := 22) M dX4_rises_22 (by decide) [1, 2, 3, 4, 0] [(0, .ref (ad 0)), (2, .ref (ad (25 + lw3))), (3, .int (0 : Int32)), (4, .long r4), (6, .int (1 : Int32))] rfl ?_
    refine z_locals [0, 1, 2, 3, 4] [(0, .ref (ad 0)), (2, .ref (ad (25 + lw3))), (3, .int (0 : Int32)), (4, .long r4), (6, .int (1 : Int32))] rfl ?_
    rcases bs_in h with ⟨q13, h14, h⟩ | ⟨r9, h14, h⟩
    · refine LX4_rises_1 M K lw3 h_lw3 S FU (0 : Int32) r4 (1 : Int32) _ h14 (fun a hE => ?_) (fun r e9 => nomatch e9)
      cases hE
      refine z_iconst (pc := 75) (v := 1) M dX4_rises_75 (by decide) ?_
      exact z_iretW (pc := 76) M (Option.some.inj h) rfl dX4_rises_76
    · exact LX4_rises_1 M K lw3 h_lw3 S FU (0 : Int32) r4 (1 : Int32) _ h14 (fun a e9 => nomatch e9) (fun r e9 => by cases e9; cases h; rfl)
def rmX4_greatest : Room := { frames := 3, cells := 0, slots := 0, locals := 63 }
theorem flX4_greatest_130 : Cond.fieldLink RX4 130 "ShunLots$Law" "shares" "[J" ∈ wsX4_greatest := by decide +kernel
theorem flX4_greatest_22 : Cond.fieldLink RX4 22 "ShunLots" "sets" "I" ∈ wsX4_greatest := by decide +kernel
theorem inX4_greatest_X0 : ∀ w ∈ wsX00, w ∈ wsX4_greatest := by decide +kernel
theorem inX4_greatest_X4 : ∀ w ∈ wsX40, w ∈ wsX4_greatest := by decide +kernel
set_option maxRecDepth 100000 in
set_option maxHeartbeats 4000000 in
theorem LX4_greatest_1 {p : Program} {l : Launch} {e : Env} {s : State} {m : MethodId} {args : Array Value} {below : List Frame} {meth : Method} {c : Code} {Q : State → Prop} {D : va_G} {cy ad : Nat → Nat} {n : Nat} (M : MX p m c cX4_greatest 5 s args wsX4_greatest RX4 meth (some .int)) (K : KK D cy ad s) (t2 : Nat) (h_t2 : t2 < 6) (S : St) : ∀ (fuel : Nat) (x3 : Int32) (x4 : Int32) (o : (Int32)), lX4_greatest_1 n t2 S fuel x3 x4 = some o → ∀ (hx : ∀ a, o = a → Zz p l e rmX4_greatest s m args below meth c 5 Q (Hw D cy ad n s S) 52 [(3, .int a)] []) , Zz p l e rmX4_greatest s m args below meth c 5 Q (Hw D cy ad n s S) 17 [(0, .ref (ad 0)), (2, .ref (ad (25 + t2))), (3, .int x3), (4, .int x4)] [] := by
  intro fuel
  induction fuel with
  | zero => intro x3 x4 o h; exact nomatch (show (none : Option _) = some o from h)
  | succ fuel ih =>
    intro x3 x4 o h hx 
    have h : bX4_greatest_1 n t2 S (lX4_greatest_1 n t2 S fuel) x3 x4 = some o := h
    unfold bX4_greatest_1 at h
    refine z_iload (pc := 17) M dX4_greatest_17 3 rfl ?_
    refine z_aload_n (pc := 19) M dX4_greatest_19 rfl 0 rfl ?_
    refine z_get (pc := 20) (v := .int (nI (2 ^ n))) M K inX4_greatest_X4 o_obj rfl 1 (by decide) flX4_greatest_22 rfl rfl dX4_greatest_20 ?_
    refine z_icmp_ge (pc := 23) 52 M dX4_greatest_23 (by decide) h (fun c_5 h => ?_) (fun c_5 h => ?_)
    · refine z_locals [2] [(3, .int x3)] rfl ?_
      cases h
      exact hx _ rfl
    · refine z_aload_n (pc := 26) M dX4_greatest_26 rfl 1 rfl ?_
      refine z_get (pc := 27) (v := .ref (ad (31 + t2))) M K inX4_greatest_X0 (o_law h_t2) rfl 0 (by decide) flX4_greatest_130 rfl rfl dX4_greatest_27 ?_
      refine z_iload (pc := 30) M dX4_greatest_30 3 rfl ?_
      refine z_lald (pc := 32) M K (ro_shr h_t2) h dX4_greatest_32 (fun _ h => ?_)
      refine z_aload_n (pc := 33) M dX4_greatest_33 rfl 1 rfl ?_
      refine z_get (pc := 34) (v := .ref (ad (31 + t2))) M K inX4_greatest_X0 (o_law h_t2) rfl 0 (by decide) flX4_greatest_130 rfl rfl dX4_greatest_34 ?_
      refine z_iload_n (pc := 37) M dX4_greatest_37 rfl 2 rfl ?_
      refine z_lald (pc := 38) M K (ro_shr h_t2) h dX4_greatest_38 (fun _ h => ?_)
      refine z_lcmp (pc := 39) M dX4_greatest_39 ?_
      refine z_if_le (pc := 40) 46 M dX4_greatest_40 (by decide) h (fun c_4 h => ?_) (fun c_4 h => ?_)
      · refine z_iinc (pc := 46) M dX4_greatest_46 (x4 + 1) rfl 3 rfl (by decide) [1, 2, 3, 0] [(0, .ref (ad 0)), (2, .ref (ad (25 + t2))), (3, .int x3), (4, .int (x4 + 1))] rfl ?_
        refine z_goto (pc := 49) 17 M dX4_greatest_49 (by decide) ?_
        refine z_locals [0, 1, 2, 3] [(0, .ref (ad 0)), (2, .ref (ad (25 + t2))), (3, .int x3), (4, .int (x4 + 1))] rfl ?_
        exact ih x3 (x4 + 1) _ h hx
      · refine z_iload (pc := 43) M dX4_greatest_43 3 rfl ?_
        refine z_istore_n (pc := 45) M dX4_greatest_45 rfl (by decide) [1, 2, 0, 3] [(0, .ref (ad 0)), (2, .ref (ad (25 + t2))), (3, .int x4), (4, .int x4)] rfl ?_
        refine z_iinc (pc := 46) M dX4_greatest_46 (x4 + 1) rfl 3 rfl (by decide) [1, 2, 3, 0] [(0, .ref (ad 0)), (2, .ref (ad (25 + t2))), (3, .int x4), (4, .int (x4 + 1))] rfl ?_
        refine z_goto (pc := 49) 17 M dX4_greatest_49 (by decide) ?_
        refine z_locals [0, 1, 2, 3] [(0, .ref (ad 0)), (2, .ref (ad (25 + t2))), (3, .int x4), (4, .int (x4 + 1))] rfl ?_
        exact ih x4 (x4 + 1) _ h hx
set_option maxRecDepth 100000 in
set_option maxHeartbeats 4000000 in
theorem kX4_greatest (l : Launch) (D : va_G) (cy ad : Nat → Nat) (n : Nat) (p0 : Int32) (S : St) (r : Int32) (h : fX4_greatest n p0 S = some r) : CW l D cy ad n yX4_greatest wsX4_greatest rmX4_greatest [.ref (ad 0), .int p0] S (some (.int r)) S := by
  refine CW.of (cc := cX4_greatest) (nL := 5) (ret := (some .int)) (own := RX4) rfl (by decide +kernel) rfl (Nat.le_of_ble_eq_true rfl) ?_
  intro p e s m args below meth c M K
  unfold fX4_greatest at h
  refine z_locals [0, 1] [(0, .ref (ad 0)), (1, .int p0)] rfl ?_
  refine z_aload_n (pc := 0) M dX4_greatest_0 rfl 0 rfl ?_
  refine z_iload_n (pc := 1) M dX4_greatest_1 rfl 1 rfl ?_
  obtain ⟨r1, h2, h⟩ := bo_in h
  refine z_vcall (pc := 2) (As := [.int p0]) M K (kX4_lawAt l D cy ad n p0 S r1 h2) (cwV 1 M.1.2.2.2.2 gX4_greatest_X4_lawAt rfl rfl rfl (by decide +kernel) ⟨Nat.le_of_ble_eq_true rfl, Nat.le_of_ble_eq_true rfl⟩) o_obj rfl rfl rfl (Nat.le_of_ble_eq_true rfl) dX4_greatest_2 ?_
  cases r1 with
  | none =>
    refine z_astore_nN (pc := 5) M dX4_greatest_5 rfl (by decide) [1, 0] [(0, .ref (ad 0)), (2, .null)] rfl ?_
    refine z_aload_nN (pc := 6) M dX4_greatest_6 rfl 1 rfl ?_
    refine z_ifnonnullN (pc := 7) M dX4_greatest_7 ?_
    refine z_iconst (pc := 10) (v := -1) M dX4_greatest_10 (by decide) ?_
    exact z_iretW (pc := 11) M (Option.some.inj h) rfl dX4_greatest_11
  | some lw3 =>
    obtain ⟨h_lw3, h⟩ := gd_in (show gd (decide (lw3 < 6)) _ = some _ from h)
    have h_lw3 := of_decide_eq_true h_lw3
    refine z_astore_n (pc := 5) M dX4_greatest_5 rfl (by decide) [1, 0] [(0, .ref (ad 0)), (2, .ref (ad (25 + lw3)))] rfl ?_
    refine z_aload_n (pc := 6) M dX4_greatest_6 rfl 1 rfl ?_
    refine z_ifnonnull (pc := 7) 12 M dX4_greatest_7 (by decide) ?_
    refine z_iconst (pc := 12) (v := 0) M dX4_greatest_12 (by decide) ?_
    refine z_istore_n (pc := 13) M dX4_greatest_13 rfl (by decide) [1, 2, 0] [(0, .ref (ad 0)), (2, .ref (ad (25 + lw3))), (3, .int (0 : Int32))] rfl ?_
    refine z_iconst (pc := 14) (v := 1) M dX4_greatest_14 (by decide) ?_
    refine z_istore (pc := 15) M dX4_greatest_15 (by decide) [1, 2, 3, 0] [(0, .ref (ad 0)), (2, .ref (ad (25 + lw3))), (3, .int (0 : Int32)), (4, .int (1 : Int32))] rfl ?_
    refine z_locals [0, 1, 2, 3] [(0, .ref (ad 0)), (2, .ref (ad (25 + lw3))), (3, .int (0 : Int32)), (4, .int (1 : Int32))] rfl ?_
    obtain ⟨q6, h7, h⟩ := bo_in h
    refine LX4_greatest_1 M K lw3 h_lw3 S FU (0 : Int32) (1 : Int32) _ h7 (fun a hE => ?_)
    cases hE
    refine z_iload_n (pc := 52) M dX4_greatest_52 rfl 0 rfl ?_
    exact z_iretW (pc := 53) M (Option.some.inj h) rfl dX4_greatest_53
def rmX4_withBestThing : Room := { frames := 0, cells := 0, slots := 0, locals := 0 }
theorem flX4_withBestThing_130 : Cond.fieldLink RX4 130 "ShunLots$Law" "shares" "[J" ∈ wsX4_withBestThing := by decide +kernel
theorem flX4_withBestThing_18 : Cond.fieldLink RX4 18 "ShunLots" "things" "I" ∈ wsX4_withBestThing := by decide +kernel
theorem inX4_withBestThing_X0 : ∀ w ∈ wsX00, w ∈ wsX4_withBestThing := by decide +kernel
theorem inX4_withBestThing_X4 : ∀ w ∈ wsX40, w ∈ wsX4_withBestThing := by decide +kernel
set_option maxRecDepth 100000 in
set_option maxHeartbeats 4000000 in
theorem LX4_withBestThing_1 {p : Program} {l : Launch} {e : Env} {s : State} {m : MethodId} {args : Array Value} {below : List Frame} {meth : Method} {c : Code} {Q : State → Prop} {D : va_G} {cy ad : Nat → Nat} {n : Nat} (M : MX p m c cX4_withBestThing 6 s args wsX4_withBestThing RX4 meth (some .int)) (K : KK D cy ad s) (t1 : Nat) (x2 : Int32) (h_t1 : t1 < 6) (S : St) : ∀ (fuel : Nat) (x3 : Int32) (x4 : Int32) (o : (Int32)), lX4_withBestThing_1 n t1 x2 S fuel x3 x4 = some o → ∀ (hx : ∀ a, o = a → Zz p l e rmX4_withBestThing s m args below meth c 6 Q (Hw D cy ad n s S) 59 [(3, .int a)] []) , Zz p l e rmX4_withBestThing s m args below meth c 6 Q (Hw D cy ad n s S) 5 [(0, .ref (ad 0)), (1, .ref (ad (25 + t1))), (2, .int x2), (3, .int x3), (4, .int x4)] [] := by
  intro fuel
  induction fuel with
  | zero => intro x3 x4 o h; exact nomatch (show (none : Option _) = some o from h)
  | succ fuel ih =>
    intro x3 x4 o h hx 
    have h : bX4_withBestThing_1 n t1 x2 S (lX4_withBestThing_1 n t1 x2 S fuel) x3 x4 = some o := h
    unfold bX4_withBestThing_1 at h
    refine z_iload (pc := 5) M dX4_withBestThing_5 4 rfl ?_
    refine z_aload_n (pc := 7) M dX4_withBestThing_7 rfl 0 rfl ?_
    refine z_get (pc := 8) (v := .int (nI n)) M K inX4_withBestThing_X4 o_obj rfl 0 (by decide) flX4_withBestThing_18 rfl rfl dX4_withBestThing_8 ?_
    refine z_icmp_ge (pc := 11) 59 M dX4_withBestThing_11 (by decide) h (fun c_4 h => ?_) (fun c_4 h => ?_)
    · refine z_locals [3] [(3, .int x3)] rfl ?_
      cases h
      exact hx _ rfl
    · refine z_iload_n (pc := 14) M dX4_withBestThing_14 rfl 2 rfl ?_
      refine z_iconst (pc := 15) (v := 1) M dX4_withBestThing_15 (by decide) ?_
      refine z_iload (pc := 16) M dX4_withBestThing_16 4 rfl ?_
      refine z_ishl (pc := 18) M dX4_withBestThing_18 ?_
      refine z_ior (pc := 19) M dX4_withBestThing_19 ?_
      refine z_istore (pc := 20) M dX4_withBestThing_20 (by decide) [1, 2, 3, 4, 5, 0] [(0, .ref (ad 0)), (1, .ref (ad (25 + t1))), (2, .int x2), (3, .int x3), (4, .int x4), (5, .int (x2 ||| ((1 : Int32) <<< (x4 &&& 31))))] rfl ?_
      refine z_iload (pc := 22) M dX4_withBestThing_22 5 rfl ?_
      refine z_iload_n (pc := 24) M dX4_withBestThing_24 rfl 2 rfl ?_
      refine z_icmp_eq (pc := 25) 53 M dX4_withBestThing_25 (by decide) h (fun c_3 h => ?_) (fun c_3 h => ?_)
      · refine z_iinc (pc := 53) M dX4_withBestThing_53 (x4 + 1) rfl 4 rfl (by decide) [1, 2, 3, 4, 0, 5] [(0, .ref (ad 0)), (1, .ref (ad (25 + t1))), (2, .int x2), (3, .int x3), (4, .int (x4 + 1)), (5, .int (x2 ||| ((1 : Int32) <<< (x4 &&& 31))))] rfl ?_
        refine z_goto (pc := 56) 5 M dX4_withBestThing_56 (by decide) ?_
        refine z_locals [0, 1, 2, 3, 4] [(0, .ref (ad 0)), (1, .ref (ad (25 + t1))), (2, .int x2), (3, .int x3), (4, .int (x4 + 1))] rfl ?_
        exact ih x3 (x4 + 1) _ h hx
      · refine z_iload_n (pc := 28) M dX4_withBestThing_28 rfl 3 rfl ?_
        refine z_iload_n (pc := 29) M dX4_withBestThing_29 rfl 2 rfl ?_
        refine z_icmp_eq (pc := 30) 50 M dX4_withBestThing_30 (by decide) h (fun c_2 h => ?_) (fun c_2 h => ?_)
        · refine z_iload (pc := 50) M dX4_withBestThing_50 5 rfl ?_
          refine z_istore_n (pc := 52) M dX4_withBestThing_52 rfl (by decide) [1, 2, 3, 0, 4] [(0, .ref (ad 0)), (1, .ref (ad (25 + t1))), (2, .int x2), (3, .int (x2 ||| ((1 : Int32) <<< (x4 &&& 31)))), (4, .int x4)] rfl ?_
          refine z_iinc (pc := 53) M dX4_withBestThing_53 (x4 + 1) rfl 4 rfl (by decide) [1, 2, 3, 4, 0] [(0, .ref (ad 0)), (1, .ref (ad (25 + t1))), (2, .int x2), (3, .int (x2 ||| ((1 : Int32) <<< (x4 &&& 31)))), (4, .int (x4 + 1))] rfl ?_
          refine z_goto (pc := 56) 5 M dX4_withBestThing_56 (by decide) ?_
          refine z_locals [0, 1, 2, 3, 4] [(0, .ref (ad 0)), (1, .ref (ad (25 + t1))), (2, .int x2), (3, .int (x2 ||| ((1 : Int32) <<< (x4 &&& 31)))), (4, .int (x4 + 1))] rfl ?_
          exact ih (x2 ||| ((1 : Int32) <<< (x4 &&& 31))) (x4 + 1) _ h hx
        · refine z_aload_n (pc := 33) M dX4_withBestThing_33 rfl 1 rfl ?_
          refine z_get (pc := 34) (v := .ref (ad (31 + t1))) M K inX4_withBestThing_X0 (o_law h_t1) rfl 0 (by decide) flX4_withBestThing_130 rfl rfl dX4_withBestThing_34 ?_
          refine z_iload (pc := 37) M dX4_withBestThing_37 5 rfl ?_
          refine z_lald (pc := 39) M K (ro_shr h_t1) h dX4_withBestThing_39 (fun _ h => ?_)
          refine z_aload_n (pc := 40) M dX4_withBestThing_40 rfl 1 rfl ?_
          refine z_get (pc := 41) (v := .ref (ad (31 + t1))) M K inX4_withBestThing_X0 (o_law h_t1) rfl 0 (by decide) flX4_withBestThing_130 rfl rfl dX4_withBestThing_41 ?_
          refine z_iload_n (pc := 44) M dX4_withBestThing_44 rfl 3 rfl ?_
          refine z_lald (pc := 45) M K (ro_shr h_t1) h dX4_withBestThing_45 (fun _ h => ?_)
          refine z_lcmp (pc := 46) M dX4_withBestThing_46 ?_
          refine z_if_le (pc := 47) 53 M dX4_withBestThing_47 (by decide) h (fun c_1 h => ?_) (fun c_1 h => ?_)
          · refine z_iinc (pc := 53) M dX4_withBestThing_53 (x4 + 1) rfl 4 rfl (by decide) [1, 2, 3, 4, 0, 5] [(0, .ref (ad 0)), (1, .ref (ad (25 + t1))), (2, .int x2), (3, .int x3), (4, .int (x4 + 1)), (5, .int (x2 ||| ((1 : Int32) <<< (x4 &&& 31))))] rfl ?_
            refine z_goto (pc := 56) 5 M dX4_withBestThing_56 (by decide) ?_
            refine z_locals [0, 1, 2, 3, 4] [(0, .ref (ad 0)), (1, .ref (ad (25 + t1))), (2, .int x2), (3, .int x3), (4, .int (x4 + 1))] rfl ?_
            exact ih x3 (x4 + 1) _ h hx
          · refine z_iload (pc := 50) M dX4_withBestThing_50 5 rfl ?_
            refine z_istore_n (pc := 52) M dX4_withBestThing_52 rfl (by decide) [1, 2, 3, 0, 4] [(0, .ref (ad 0)), (1, .ref (ad (25 + t1))), (2, .int x2), (3, .int (x2 ||| ((1 : Int32) <<< (x4 &&& 31)))), (4, .int x4)] rfl ?_
            refine z_iinc (pc := 53) M dX4_withBestThing_53 (x4 + 1) rfl 4 rfl (by decide) [1, 2, 3, 4, 0] [(0, .ref (ad 0)), (1, .ref (ad (25 + t1))), (2, .int x2), (3, .int (x2 ||| ((1 : Int32) <<< (x4 &&& 31)))), (4, .int (x4 + 1))] rfl ?_
            refine z_goto (pc := 56) 5 M dX4_withBestThing_56 (by decide) ?_
            refine z_locals [0, 1, 2, 3, 4] [(0, .ref (ad 0)), (1, .ref (ad (25 + t1))), (2, .int x2), (3, .int (x2 ||| ((1 : Int32) <<< (x4 &&& 31)))), (4, .int (x4 + 1))] rfl ?_
            exact ih (x2 ||| ((1 : Int32) <<< (x4 &&& 31))) (x4 + 1) _ h hx
set_option maxRecDepth 100000 in
set_option maxHeartbeats 4000000 in
theorem kX4_withBestThing (l : Launch) (D : va_G) (cy ad : Nat → Nat) (n : Nat) (a0 : Nat) (h_a0 : a0 < 6) (p1 : Int32) (S : St) (r : Int32) (h : fX4_withBestThing n a0 p1 S = some r) : CW l D cy ad n yX4_withBestThing wsX4_withBestThing rmX4_withBestThing [.ref (ad 0), .ref (ad (25 + a0)), .int p1] S (some (.int r)) S := by
  refine CW.of (cc := cX4_withBestThing) (nL := 6) (ret := (some .int)) (own := RX4) rfl (by decide +kernel) rfl (Nat.le_of_ble_eq_true rfl) ?_
  intro p e s m args below meth c M K
  unfold fX4_withBestThing at h
  refine z_locals [0, 1, 2] [(0, .ref (ad 0)), (1, .ref (ad (25 + a0))), (2, .int p1)] rfl ?_
  refine z_iload_n (pc := 0) M dX4_withBestThing_0 rfl 2 rfl ?_
  refine z_istore_n (pc := 1) M dX4_withBestThing_1 rfl (by decide) [1, 2, 3, 0] [(0, .ref (ad 0)), (1, .ref (ad (25 + a0))), (2, .int p1), (3, .int p1)] rfl ?_
  refine z_iconst (pc := 2) (v := 0) M dX4_withBestThing_2 (by decide) ?_
  refine z_istore (pc := 3) M dX4_withBestThing_3 (by decide) [1, 2, 3, 4, 0] [(0, .ref (ad 0)), (1, .ref (ad (25 + a0))), (2, .int p1), (3, .int p1), (4, .int (0 : Int32))] rfl ?_
  refine z_locals [0, 1, 2, 3, 4] [(0, .ref (ad 0)), (1, .ref (ad (25 + a0))), (2, .int p1), (3, .int p1), (4, .int (0 : Int32))] rfl ?_
  obtain ⟨q5, h6, h⟩ := bo_in h
  refine LX4_withBestThing_1 M K a0 p1 h_a0 S FU p1 (0 : Int32) _ h6 (fun a hE => ?_)
  cases hE
  refine z_iload_n (pc := 59) M dX4_withBestThing_59 rfl 0 rfl ?_
  exact z_iretW (pc := 60) M (Option.some.inj h) rfl dX4_withBestThing_60
def rmX4_greedy : Room := { frames := 3, cells := 0, slots := 0, locals := 63 }
set_option maxRecDepth 100000 in
set_option maxHeartbeats 4000000 in
theorem LX4_greedy_1 {p : Program} {l : Launch} {e : Env} {s : State} {m : MethodId} {args : Array Value} {below : List Frame} {meth : Method} {c : Code} {Q : State → Prop} {D : va_G} {cy ad : Nat → Nat} {n : Nat} (M : MX p m c cX4_greedy 6 s args wsX4_greedy RX4 meth (some .int)) (K : KK D cy ad s) (x2 : Int32) (t3 : Nat) (h_t3 : t3 < 6) (S : St) : ∀ (fuel : Nat) (x4 : Int32) (x5 : Int32) (o : (Int32)), lX4_greedy_1 n x2 t3 S fuel x4 x5 = some o → ∀ (hx : ∀ a, o = a → Zz p l e rmX4_greedy s m args below meth c 6 Q (Hw D cy ad n s S) 47 [(4, .int a)] []) , Zz p l e rmX4_greedy s m args below meth c 6 Q (Hw D cy ad n s S) 26 [(0, .ref (ad 0)), (2, .int x2), (3, .ref (ad (25 + t3))), (4, .int x4), (5, .int x5)] [] := by
  intro fuel
  induction fuel with
  | zero => intro x4 x5 o h; exact nomatch (show (none : Option _) = some o from h)
  | succ fuel ih =>
    intro x4 x5 o h hx 
    have h : bX4_greedy_1 n x2 t3 S (lX4_greedy_1 n x2 t3 S fuel) x4 x5 = some o := h
    unfold bX4_greedy_1 at h
    refine z_iload (pc := 26) M dX4_greedy_26 4 rfl ?_
    refine z_iload_n (pc := 28) M dX4_greedy_28 rfl 1 rfl ?_
    refine z_icmp_ge (pc := 29) 47 M dX4_greedy_29 (by decide) h (fun c_8 h => ?_) (fun c_8 h => ?_)
    · refine z_locals [3] [(4, .int x4)] rfl ?_
      cases h
      exact hx _ rfl
    · refine z_aload_n (pc := 32) M dX4_greedy_32 rfl 0 rfl ?_
      refine z_aload_n (pc := 33) M dX4_greedy_33 rfl 2 rfl ?_
      refine z_iload (pc := 34) M dX4_greedy_34 3 rfl ?_
      obtain ⟨r6, h7, h⟩ := bo_in h
      refine z_vcall (pc := 36) (As := [.ref (ad (25 + t3)), .int x4]) M K (kX4_withBestThing l D cy ad n t3 h_t3 x4 S r6 h7) (cwV 2 M.1.2.2.2.2 gX4_greedy_X4_withBestThing rfl rfl rfl (by decide +kernel) ⟨Nat.le_of_ble_eq_true rfl, Nat.le_of_ble_eq_true rfl⟩) o_obj rfl rfl rfl (Nat.le_of_ble_eq_true rfl) dX4_greedy_36 ?_
      refine z_istore (pc := 39) M dX4_greedy_39 (by decide) [1, 2, 3, 0, 4] [(0, .ref (ad 0)), (2, .int x2), (3, .ref (ad (25 + t3))), (4, .int r6), (5, .int x5)] rfl ?_
      refine z_iinc (pc := 41) M dX4_greedy_41 (x5 + 1) rfl 4 rfl (by decide) [1, 2, 3, 4, 0] [(0, .ref (ad 0)), (2, .int x2), (3, .ref (ad (25 + t3))), (4, .int r6), (5, .int (x5 + 1))] rfl ?_
      refine z_goto (pc := 44) 26 M dX4_greedy_44 (by decide) ?_
      refine z_locals [0, 1, 2, 3, 4] [(0, .ref (ad 0)), (2, .int x2), (3, .ref (ad (25 + t3))), (4, .int r6), (5, .int (x5 + 1))] rfl ?_
      exact ih r6 (x5 + 1) _ h hx
set_option maxRecDepth 100000 in
set_option maxHeartbeats 4000000 in
theorem kX4_greedy (l : Launch) (D : va_G) (cy ad : Nat → Nat) (n : Nat) (p0 : Int32) (p1 : Int32) (S : St) (r : Int32) (h : fX4_greedy n p0 p1 S = some r) : CW l D cy ad n yX4_greedy wsX4_greedy rmX4_greedy [.ref (ad 0), .int p0, .int p1] S (some (.int r)) S := by
  refine CW.of (cc := cX4_greedy) (nL := 6) (ret := (some .int)) (own := RX4) rfl (by decide +kernel) rfl (Nat.le_of_ble_eq_true rfl) ?_
  intro p e s m args below meth c M K
  unfold fX4_greedy at h
  refine z_locals [0, 1, 2] [(0, .ref (ad 0)), (1, .int p0), (2, .int p1)] rfl ?_
  refine z_aload_n (pc := 0) M dX4_greedy_0 rfl 0 rfl ?_
  refine z_iload_n (pc := 1) M dX4_greedy_1 rfl 1 rfl ?_
  obtain ⟨r1, h2, h⟩ := bo_in h
  refine z_vcall (pc := 2) (As := [.int p0]) M K (kX4_lawAt l D cy ad n p0 S r1 h2) (cwV 1 M.1.2.2.2.2 gX4_greedy_X4_lawAt rfl rfl rfl (by decide +kernel) ⟨Nat.le_of_ble_eq_true rfl, Nat.le_of_ble_eq_true rfl⟩) o_obj rfl rfl rfl (Nat.le_of_ble_eq_true rfl) dX4_greedy_2 ?_
  cases r1 with
  | none =>
    refine z_astore_nN (pc := 5) M dX4_greedy_5 rfl (by decide) [1, 3, 0] [(0, .ref (ad 0)), (2, .int p1), (3, .null)] rfl ?_
    refine z_aload_nN (pc := 6) M dX4_greedy_6 rfl 2 rfl ?_
    refine z_ifnullN (pc := 7) 18 M dX4_greedy_7 (by decide) ?_
    refine z_iconst (pc := 18) (v := -1) M dX4_greedy_18 (by decide) ?_
    exact z_iretW (pc := 19) M (Option.some.inj h) rfl dX4_greedy_19
  | some lw3 =>
    obtain ⟨h_lw3, h⟩ := gd_in (show gd (decide (lw3 < 6)) _ = some _ from h)
    have h_lw3 := of_decide_eq_true h_lw3
    refine z_astore_n (pc := 5) M dX4_greedy_5 rfl (by decide) [1, 3, 0] [(0, .ref (ad 0)), (2, .int p1), (3, .ref (ad (25 + lw3)))] rfl ?_
    refine z_aload_n (pc := 6) M dX4_greedy_6 rfl 2 rfl ?_
    refine z_ifnull (pc := 7) M dX4_greedy_7 ?_
    refine z_aload_n (pc := 10) M dX4_greedy_10 rfl 0 rfl ?_
    refine z_iload_n (pc := 11) M dX4_greedy_11 rfl 1 rfl ?_
    obtain ⟨r4, h5, h⟩ := bo_in h
    refine z_vcall (pc := 12) (As := [.int p1]) M K (kX4_isCount l D cy ad n p1 S r4 h5) (cwV 1 M.1.2.2.2.2 gX4_greedy_X4_isCount rfl rfl rfl (by decide +kernel) ⟨Nat.le_of_ble_eq_true rfl, Nat.le_of_ble_eq_true rfl⟩) o_obj rfl rfl rfl (Nat.le_of_ble_eq_true rfl) dX4_greedy_12 ?_
    refine z_if_neB (pc := 15) 20 M dX4_greedy_15 (by decide) h (fun c_11 h => ?_) (fun c_11 h => ?_)
    · refine z_iconst (pc := 20) (v := 0) M dX4_greedy_20 (by decide) ?_
      refine z_istore (pc := 21) M dX4_greedy_21 (by decide) [1, 2, 3, 0] [(0, .ref (ad 0)), (2, .int p1), (3, .ref (ad (25 + lw3))), (4, .int (0 : Int32))] rfl ?_
      refine z_iconst (pc := 23) (v := 0) M dX4_greedy_23 (by decide) ?_
      refine z_istore (pc := 24) M dX4_greedy_24 (by decide) [1, 2, 3, 4, 0] [(0, .ref (ad 0)), (2, .int p1), (3, .ref (ad (25 + lw3))), (4, .int (0 : Int32)), (5, .int (0 : Int32))] rfl ?_
      refine z_locals [0, 1, 2, 3, 4] [(0, .ref (ad 0)), (2, .int p1), (3, .ref (ad (25 + lw3))), (4, .int (0 : Int32)), (5, .int (0 : Int32))] rfl ?_
      obtain ⟨q9, h10, h⟩ := bo_in h
      refine LX4_greedy_1 M K p1 lw3 h_lw3 S FU (0 : Int32) (0 : Int32) _ h10 (fun a hE => ?_)
      cases hE
      refine z_iload (pc := 47) M dX4_greedy_47 0 rfl ?_
      exact z_iretW (pc := 49) M (Option.some.inj h) rfl dX4_greedy_49
    · refine z_iconst (pc := 18) (v := -1) M dX4_greedy_18 (by decide) ?_
      exact z_iretW (pc := 19) M (Option.some.inj h) rfl dX4_greedy_19
def rmX4_same : Room := { frames := 3, cells := 0, slots := 0, locals := 63 }
theorem flX4_same_130 : Cond.fieldLink RX4 130 "ShunLots$Law" "shares" "[J" ∈ wsX4_same := by decide +kernel
theorem flX4_same_22 : Cond.fieldLink RX4 22 "ShunLots" "sets" "I" ∈ wsX4_same := by decide +kernel
theorem inX4_same_X0 : ∀ w ∈ wsX00, w ∈ wsX4_same := by decide +kernel
theorem inX4_same_X4 : ∀ w ∈ wsX40, w ∈ wsX4_same := by decide +kernel
set_option maxRecDepth 100000 in
set_option maxHeartbeats 4000000 in
theorem LX4_same_1 {p : Program} {l : Launch} {e : Env} {s : State} {m : MethodId} {args : Array Value} {below : List Frame} {meth : Method} {c : Code} {Q : State → Prop} {D : va_G} {cy ad : Nat → Nat} {n : Nat} (M : MX p m c cX4_same 6 s args wsX4_same RX4 meth (some .int)) (K : KK D cy ad s) (t3 : Nat) (t4 : Nat) (h_t3 : t3 < 6) (h_t4 : t4 < 6) (S : St) : ∀ (fuel : Nat) (x5 : Int32) (o : ((Unit) ⊕ Int32)), lX4_same_1 n t3 t4 S fuel x5 = some o → ∀ (hx : ∀ a, o = .inl a → Zz p l e rmX4_same s m args below meth c 6 Q (Hw D cy ad n s S) 63 [] []) (hq : ∀ r, o = .inr r → Q = Qw D cy ad n below args s (some (.int r)) S), Zz p l e rmX4_same s m args below meth c 6 Q (Hw D cy ad n s S) 27 [(0, .ref (ad 0)), (3, .ref (ad (25 + t3))), (4, .ref (ad (25 + t4))), (5, .int x5)] [] := by
  intro fuel
  induction fuel with
  | zero => intro x5 o h; exact nomatch (show (none : Option _) = some o from h)
  | succ fuel ih =>
    intro x5 o h hx hq
    have h : bX4_same_1 n t3 t4 S (lX4_same_1 n t3 t4 S fuel) x5 = some o := h
    unfold bX4_same_1 at h
    refine z_iload (pc := 27) M dX4_same_27 3 rfl ?_
    refine z_aload_n (pc := 29) M dX4_same_29 rfl 0 rfl ?_
    refine z_get (pc := 30) (v := .int (nI (2 ^ n))) M K inX4_same_X4 o_obj rfl 1 (by decide) flX4_same_22 rfl rfl dX4_same_30 ?_
    refine z_icmp_ge (pc := 33) 63 M dX4_same_33 (by decide) h (fun c_11 h => ?_) (fun c_11 h => ?_)
    · refine z_locals [] [] rfl ?_
      cases h
      exact hx _ rfl
    · refine z_aload_n (pc := 36) M dX4_same_36 rfl 1 rfl ?_
      refine z_get (pc := 37) (v := .ref (ad (31 + t3))) M K inX4_same_X0 (o_law h_t3) rfl 0 (by decide) flX4_same_130 rfl rfl dX4_same_37 ?_
      refine z_iload (pc := 40) M dX4_same_40 3 rfl ?_
      refine z_lald (pc := 42) M K (ro_shr h_t3) h dX4_same_42 (fun _ h => ?_)
      refine z_aload (pc := 43) M dX4_same_43 2 rfl ?_
      refine z_get (pc := 45) (v := .ref (ad (31 + t4))) M K inX4_same_X0 (o_law h_t4) rfl 0 (by decide) flX4_same_130 rfl rfl dX4_same_45 ?_
      refine z_iload (pc := 48) M dX4_same_48 3 rfl ?_
      refine z_lald (pc := 50) M K (ro_shr h_t4) h dX4_same_50 (fun _ h => ?_)
      refine z_lcmp (pc := 51) M dX4_same_51 ?_
      refine z_if_eq (pc := 52) 57 M dX4_same_52 (by decide) h (fun c_10 h => ?_) (fun c_10 h => ?_)
      · refine z_iinc (pc := 57) M dX4_same_57 (x5 + 1) rfl 3 rfl (by decide) [1, 2, 3, 0] [(0, .ref (ad 0)), (3, .ref (ad (25 + t3))), (4, .ref (ad (25 + t4))), (5, .int (x5 + 1))] rfl ?_
        refine z_goto (pc := 60) 27 M dX4_same_60 (by decide) ?_
        refine z_locals [0, 1, 2, 3] [(0, .ref (ad 0)), (3, .ref (ad (25 + t3))), (4, .ref (ad (25 + t4))), (5, .int (x5 + 1))] rfl ?_
        exact ih (x5 + 1) _ h hx hq
      · refine z_iconst (pc := 55) (v := 0) M dX4_same_55 (by decide) ?_
        cases h
        rw [hq _ rfl]
        exact z_iretW (pc := 56) M rfl rfl dX4_same_56
set_option maxRecDepth 100000 in
set_option maxHeartbeats 4000000 in
theorem kX4_same (l : Launch) (D : va_G) (cy ad : Nat → Nat) (n : Nat) (p0 : Int32) (p1 : Int32) (S : St) (r : Int32) (h : fX4_same n p0 p1 S = some r) : CW l D cy ad n yX4_same wsX4_same rmX4_same [.ref (ad 0), .int p0, .int p1] S (some (.int r)) S := by
  refine CW.of (cc := cX4_same) (nL := 6) (ret := (some .int)) (own := RX4) rfl (by decide +kernel) rfl (Nat.le_of_ble_eq_true rfl) ?_
  intro p e s m args below meth c M K
  unfold fX4_same at h
  refine z_locals [0, 1, 2] [(0, .ref (ad 0)), (1, .int p0), (2, .int p1)] rfl ?_
  refine z_aload_n (pc := 0) M dX4_same_0 rfl 0 rfl ?_
  refine z_iload_n (pc := 1) M dX4_same_1 rfl 1 rfl ?_
  obtain ⟨r1, h2, h⟩ := bo_in h
  refine z_vcall (pc := 2) (As := [.int p0]) M K (kX4_lawAt l D cy ad n p0 S r1 h2) (cwV 1 M.1.2.2.2.2 gX4_same_X4_lawAt rfl rfl rfl (by decide +kernel) ⟨Nat.le_of_ble_eq_true rfl, Nat.le_of_ble_eq_true rfl⟩) o_obj rfl rfl rfl (Nat.le_of_ble_eq_true rfl) dX4_same_2 ?_
  cases r1 with
  | none =>
    refine z_astore_nN (pc := 5) M dX4_same_5 rfl (by decide) [1, 3, 0] [(0, .ref (ad 0)), (2, .int p1), (3, .null)] rfl ?_
    refine z_aload_n (pc := 6) M dX4_same_6 rfl 0 rfl ?_
    refine z_iload_n (pc := 7) M dX4_same_7 rfl 1 rfl ?_
    obtain ⟨r4, h5, h⟩ := bo_in h
    refine z_vcall (pc := 8) (As := [.int p1]) M K (kX4_lawAt l D cy ad n p1 S r4 h5) (cwV 1 M.1.2.2.2.2 gX4_same_X4_lawAt rfl rfl rfl (by decide +kernel) ⟨Nat.le_of_ble_eq_true rfl, Nat.le_of_ble_eq_true rfl⟩) o_obj rfl rfl rfl (Nat.le_of_ble_eq_true rfl) dX4_same_8 ?_
    cases r4 with
    | none =>
      refine z_astoreN (pc := 11) M dX4_same_11 (by decide) [1, 3, 0] [(0, .ref (ad 0)), (3, .null), (4, .null)] rfl ?_
      refine z_aload_nN (pc := 13) M dX4_same_13 rfl 1 rfl ?_
      refine z_ifnullN (pc := 14) 22 M dX4_same_14 (by decide) ?_
      refine z_iconst (pc := 22) (v := -1) M dX4_same_22 (by decide) ?_
      exact z_iretW (pc := 23) M (Option.some.inj h) rfl dX4_same_23
    | some lw6 =>
      obtain ⟨h_lw6, h⟩ := gd_in (show gd (decide (lw6 < 6)) _ = some _ from h)
      have h_lw6 := of_decide_eq_true h_lw6
      refine z_astore (pc := 11) M dX4_same_11 (by decide) [1, 3, 0] [(0, .ref (ad 0)), (3, .null), (4, .ref (ad (25 + lw6)))] rfl ?_
      refine z_aload_nN (pc := 13) M dX4_same_13 rfl 1 rfl ?_
      refine z_ifnullN (pc := 14) 22 M dX4_same_14 (by decide) ?_
      refine z_iconst (pc := 22) (v := -1) M dX4_same_22 (by decide) ?_
      exact z_iretW (pc := 23) M (Option.some.inj h) rfl dX4_same_23
  | some lw3 =>
    obtain ⟨h_lw3, h⟩ := gd_in (show gd (decide (lw3 < 6)) _ = some _ from h)
    have h_lw3 := of_decide_eq_true h_lw3
    refine z_astore_n (pc := 5) M dX4_same_5 rfl (by decide) [1, 3, 0] [(0, .ref (ad 0)), (2, .int p1), (3, .ref (ad (25 + lw3)))] rfl ?_
    refine z_aload_n (pc := 6) M dX4_same_6 rfl 0 rfl ?_
    refine z_iload_n (pc := 7) M dX4_same_7 rfl 1 rfl ?_
    obtain ⟨r7, h8, h⟩ := bo_in h
    refine z_vcall (pc := 8) (As := [.int p1]) M K (kX4_lawAt l D cy ad n p1 S r7 h8) (cwV 1 M.1.2.2.2.2 gX4_same_X4_lawAt rfl rfl rfl (by decide +kernel) ⟨Nat.le_of_ble_eq_true rfl, Nat.le_of_ble_eq_true rfl⟩) o_obj rfl rfl rfl (Nat.le_of_ble_eq_true rfl) dX4_same_8 ?_
    cases r7 with
    | none =>
      refine z_astoreN (pc := 11) M dX4_same_11 (by decide) [1, 3, 0] [(0, .ref (ad 0)), (3, .ref (ad (25 + lw3))), (4, .null)] rfl ?_
      refine z_aload_n (pc := 13) M dX4_same_13 rfl 1 rfl ?_
      refine z_ifnull (pc := 14) M dX4_same_14 ?_
      refine z_aloadN (pc := 17) M dX4_same_17 2 rfl ?_
      refine z_ifnonnullN (pc := 19) M dX4_same_19 ?_
      refine z_iconst (pc := 22) (v := -1) M dX4_same_22 (by decide) ?_
      exact z_iretW (pc := 23) M (Option.some.inj h) rfl dX4_same_23
    | some lw9 =>
      obtain ⟨h_lw9, h⟩ := gd_in (show gd (decide (lw9 < 6)) _ = some _ from h)
      have h_lw9 := of_decide_eq_true h_lw9
      refine z_astore (pc := 11) M dX4_same_11 (by decide) [1, 3, 0] [(0, .ref (ad 0)), (3, .ref (ad (25 + lw3))), (4, .ref (ad (25 + lw9)))] rfl ?_
      refine z_aload_n (pc := 13) M dX4_same_13 rfl 1 rfl ?_
      refine z_ifnull (pc := 14) M dX4_same_14 ?_
      refine z_aload (pc := 17) M dX4_same_17 2 rfl ?_
      refine z_ifnonnull (pc := 19) 24 M dX4_same_19 (by decide) ?_
      refine z_iconst (pc := 24) (v := 0) M dX4_same_24 (by decide) ?_
      refine z_istore (pc := 25) M dX4_same_25 (by decide) [1, 2, 3, 0] [(0, .ref (ad 0)), (3, .ref (ad (25 + lw3))), (4, .ref (ad (25 + lw9))), (5, .int (0 : Int32))] rfl ?_
      refine z_locals [0, 1, 2, 3] [(0, .ref (ad 0)), (3, .ref (ad (25 + lw3))), (4, .ref (ad (25 + lw9))), (5, .int (0 : Int32))] rfl ?_
      rcases bs_in h with ⟨q12, h13, h⟩ | ⟨r9, h13, h⟩
      · refine LX4_same_1 M K lw3 lw9 h_lw3 h_lw9 S FU (0 : Int32) _ h13 (fun a hE => ?_) (fun r e9 => nomatch e9)
        cases hE
        refine z_iconst (pc := 63) (v := 1) M dX4_same_63 (by decide) ?_
        exact z_iretW (pc := 64) M (Option.some.inj h) rfl dX4_same_64
      · exact LX4_same_1 M K lw3 lw9 h_lw3 h_lw9 S FU (0 : Int32) _ h13 (fun a e9 => nomatch e9) (fun r e9 => by cases e9; cases h; rfl)
def rmX4_draw : Room := { frames := 3, cells := 0, slots := 0, locals := 63 }
theorem flX4_draw_18 : Cond.fieldLink RX4 18 "ShunLots" "things" "I" ∈ wsX4_draw := by decide +kernel
theorem wdX4_draw_Cond_constantLong_RX4_176_6364136223846793005 : Cond.constantLong RX4 176 (6364136223846793005) ∈ wsX4_draw := by decide +kernel
theorem wdX4_draw_Cond_constantLong_RX4_178_1442695040888963407 : Cond.constantLong RX4 178 (1442695040888963407) ∈ wsX4_draw := by decide +kernel
theorem inX4_draw_X4 : ∀ w ∈ wsX40, w ∈ wsX4_draw := by decide +kernel
set_option maxRecDepth 100000 in
set_option maxHeartbeats 4000000 in
theorem LX4_draw_1 {p : Program} {l : Launch} {e : Env} {s : State} {m : MethodId} {args : Array Value} {below : List Frame} {meth : Method} {c : Code} {Q : State → Prop} {D : va_G} {cy ad : Nat → Nat} {n : Nat} (M : MX p m c cX4_draw 15 s args wsX4_draw RX4 meth (some .int)) (K : KK D cy ad s) (t4 : Nat) (h_t4 : t4 < 6) (S : St) : ∀ (fuel : Nat) (x5 : Int64) (x7 : Int32) (x8 : Int32) (o : (Int32)), lX4_draw_1 n t4 S fuel x5 x7 x8 = some o → ∀ (hx : ∀ a, o = a → Zz p l e rmX4_draw s m args below meth c 15 Q (Hw D cy ad n s S) 120 [(7, .int a)] []) , Zz p l e rmX4_draw s m args below meth c 15 Q (Hw D cy ad n s S) 23 [(0, .ref (ad 0)), (4, .ref (ad (25 + t4))), (5, .long x5), (7, .int x7), (8, .int x8)] [] := by
  intro fuel
  induction fuel with
  | zero => intro x5 x7 x8 o h; exact nomatch (show (none : Option _) = some o from h)
  | succ fuel ih =>
    intro x5 x7 x8 o h hx 
    have h : bX4_draw_1 n t4 S (lX4_draw_1 n t4 S fuel) x5 x7 x8 = some o := h
    unfold bX4_draw_1 at h
    refine z_iload (pc := 23) M dX4_draw_23 4 rfl ?_
    refine z_aload_n (pc := 25) M dX4_draw_25 rfl 0 rfl ?_
    refine z_get (pc := 26) (v := .int (nI n)) M K inX4_draw_X4 o_obj rfl 0 (by decide) flX4_draw_18 rfl rfl dX4_draw_26 ?_
    refine z_icmp_ge (pc := 29) 120 M dX4_draw_29 (by decide) h (fun c_10 h => ?_) (fun c_10 h => ?_)
    · refine z_locals [3] [(7, .int x7)] rfl ?_
      cases h
      exact hx _ rfl
    · refine z_iconst (pc := 32) (v := 1) M dX4_draw_32 (by decide) ?_
      refine z_iload (pc := 33) M dX4_draw_33 4 rfl ?_
      refine z_ishl (pc := 35) M dX4_draw_35 ?_
      refine z_istore (pc := 36) M dX4_draw_36 (by decide) [1, 2, 3, 4, 5, 0] [(0, .ref (ad 0)), (4, .ref (ad (25 + t4))), (5, .long x5), (7, .int x7), (8, .int x8), (9, .int ((1 : Int32) <<< (x8 &&& 31)))] rfl ?_
      refine z_iload (pc := 38) M dX4_draw_38 5 rfl ?_
      refine z_iconst (pc := 40) (v := 1) M dX4_draw_40 (by decide) ?_
      refine z_isub (pc := 41) M dX4_draw_41 ?_
      refine z_iload (pc := 42) M dX4_draw_42 3 rfl ?_
      refine z_iconst (pc := 44) (v := -1) M dX4_draw_44 (by decide) ?_
      refine z_ixor (pc := 45) M dX4_draw_45 ?_
      refine z_iand (pc := 46) M dX4_draw_46 ?_
      refine z_istore (pc := 47) M dX4_draw_47 (by decide) [1, 2, 3, 4, 5, 6, 0] [(0, .ref (ad 0)), (4, .ref (ad (25 + t4))), (5, .long x5), (7, .int x7), (8, .int x8), (9, .int ((1 : Int32) <<< (x8 &&& 31))), (10, .int ((((1 : Int32) <<< (x8 &&& 31)) - (1 : Int32)) &&& (x7 ^^^ (-1 : Int32))))] rfl ?_
      refine z_aload (pc := 49) M dX4_draw_49 1 rfl ?_
      refine z_iload (pc := 51) M dX4_draw_51 3 rfl ?_
      refine z_iload (pc := 53) M dX4_draw_53 6 rfl ?_
      obtain ⟨r4, h5, h⟩ := bo_in h
      refine z_vcall (pc := 55) (As := [.int x7, .int ((((1 : Int32) <<< (x8 &&& 31)) - (1 : Int32)) &&& (x7 ^^^ (-1 : Int32)))]) M K (kX0_sumFitting l D cy ad n t4 h_t4 x7 ((((1 : Int32) <<< (x8 &&& 31)) - (1 : Int32)) &&& (x7 ^^^ (-1 : Int32))) S r4 h5) (cwV 2 M.1.2.2.2.2 gX4_draw_X0_sumFitting rfl rfl rfl (by decide +kernel) ⟨Nat.le_of_ble_eq_true rfl, Nat.le_of_ble_eq_true rfl⟩) (o_law h_t4) rfl rfl rfl (Nat.le_of_ble_eq_true rfl) dX4_draw_55 ?_
      refine z_lstore (pc := 58) M dX4_draw_58 (by decide) [1, 2, 3, 4, 5, 6, 7, 0] [(0, .ref (ad 0)), (4, .ref (ad (25 + t4))), (5, .long x5), (7, .int x7), (8, .int x8), (9, .int ((1 : Int32) <<< (x8 &&& 31))), (10, .int ((((1 : Int32) <<< (x8 &&& 31)) - (1 : Int32)) &&& (x7 ^^^ (-1 : Int32)))), (11, .long r4)] rfl ?_
      refine z_aload (pc := 60) M dX4_draw_60 1 rfl ?_
      refine z_iload (pc := 62) M dX4_draw_62 3 rfl ?_
      refine z_iload (pc := 64) M dX4_draw_64 5 rfl ?_
      refine z_ior (pc := 66) M dX4_draw_66 ?_
      refine z_iload (pc := 67) M dX4_draw_67 6 rfl ?_
      obtain ⟨r6, h7, h⟩ := bo_in h
      refine z_vcall (pc := 69) (As := [.int (x7 ||| ((1 : Int32) <<< (x8 &&& 31))), .int ((((1 : Int32) <<< (x8 &&& 31)) - (1 : Int32)) &&& (x7 ^^^ (-1 : Int32)))]) M K (kX0_sumFitting l D cy ad n t4 h_t4 (x7 ||| ((1 : Int32) <<< (x8 &&& 31))) ((((1 : Int32) <<< (x8 &&& 31)) - (1 : Int32)) &&& (x7 ^^^ (-1 : Int32))) S r6 h7) (cwV 2 M.1.2.2.2.2 gX4_draw_X0_sumFitting rfl rfl rfl (by decide +kernel) ⟨Nat.le_of_ble_eq_true rfl, Nat.le_of_ble_eq_true rfl⟩) (o_law h_t4) rfl rfl rfl (Nat.le_of_ble_eq_true rfl) dX4_draw_69 ?_
      refine z_lstore (pc := 72) M dX4_draw_72 (by decide) [1, 2, 3, 4, 5, 6, 8, 0] [(0, .ref (ad 0)), (4, .ref (ad (25 + t4))), (5, .long x5), (7, .int x7), (8, .int x8), (9, .int ((1 : Int32) <<< (x8 &&& 31))), (11, .long r4), (13, .long r6)] rfl ?_
      refine z_lload (pc := 74) M dX4_draw_74 2 rfl ?_
      refine z_ldc2 (pc := 76) M wdX4_draw_Cond_constantLong_RX4_176_6364136223846793005 dX4_draw_76 ?_
      refine z_lmul (pc := 79) M dX4_draw_79 ?_
      refine z_ldc2 (pc := 80) M wdX4_draw_Cond_constantLong_RX4_178_1442695040888963407 dX4_draw_80 ?_
      refine z_ladd (pc := 83) M dX4_draw_83 ?_
      refine z_lstore (pc := 84) M dX4_draw_84 (by decide) [1, 2, 0, 3, 4, 5, 6, 7] [(0, .ref (ad 0)), (4, .ref (ad (25 + t4))), (5, .long ((x5 * (6364136223846793005 : Int64)) + (1442695040888963407 : Int64))), (7, .int x7), (8, .int x8), (9, .int ((1 : Int32) <<< (x8 &&& 31))), (11, .long r4), (13, .long r6)] rfl ?_
      refine z_lload (pc := 86) M dX4_draw_86 6 rfl ?_
      refine z_lconst (pc := 88) (v := 0) M dX4_draw_88 (by decide) ?_
      refine z_lcmp (pc := 89) M dX4_draw_89 ?_
      refine z_if_le (pc := 90) 114 M dX4_draw_90 (by decide) h (fun c_9 h => ?_) (fun c_9 h => ?_)
      · refine z_iinc (pc := 114) M dX4_draw_114 (x8 + 1) rfl 4 rfl (by decide) [1, 2, 3, 4, 0, 5, 6, 7] [(0, .ref (ad 0)), (4, .ref (ad (25 + t4))), (5, .long ((x5 * (6364136223846793005 : Int64)) + (1442695040888963407 : Int64))), (7, .int x7), (8, .int (x8 + 1)), (9, .int ((1 : Int32) <<< (x8 &&& 31))), (11, .long r4), (13, .long r6)] rfl ?_
        refine z_goto (pc := 117) 23 M dX4_draw_117 (by decide) ?_
        refine z_locals [0, 1, 2, 3, 4] [(0, .ref (ad 0)), (4, .ref (ad (25 + t4))), (5, .long ((x5 * (6364136223846793005 : Int64)) + (1442695040888963407 : Int64))), (7, .int x7), (8, .int (x8 + 1))] rfl ?_
        exact ih ((x5 * (6364136223846793005 : Int64)) + (1442695040888963407 : Int64)) x7 (x8 + 1) _ h hx
      · refine z_lload (pc := 93) M dX4_draw_93 2 rfl ?_
        refine z_bipush (pc := 95) (v := 33) M dX4_draw_95 (by decide) ?_
        refine z_lushr (pc := 97) M dX4_draw_97 ?_
        refine z_lload (pc := 98) M dX4_draw_98 6 rfl ?_
        refine z_lrem (pc := 100) M dX4_draw_100 h (fun h => ?_)
        refine z_lload (pc := 101) M dX4_draw_101 7 rfl ?_
        refine z_lcmp (pc := 103) M dX4_draw_103 ?_
        refine z_if_ge (pc := 104) 114 M dX4_draw_104 (by decide) h (fun c_8 h => ?_) (fun c_8 h => ?_)
        · refine z_iinc (pc := 114) M dX4_draw_114 (x8 + 1) rfl 4 rfl (by decide) [1, 2, 3, 4, 0, 5, 6, 7] [(0, .ref (ad 0)), (4, .ref (ad (25 + t4))), (5, .long ((x5 * (6364136223846793005 : Int64)) + (1442695040888963407 : Int64))), (7, .int x7), (8, .int (x8 + 1)), (9, .int ((1 : Int32) <<< (x8 &&& 31))), (11, .long r4), (13, .long r6)] rfl ?_
          refine z_goto (pc := 117) 23 M dX4_draw_117 (by decide) ?_
          refine z_locals [0, 1, 2, 3, 4] [(0, .ref (ad 0)), (4, .ref (ad (25 + t4))), (5, .long ((x5 * (6364136223846793005 : Int64)) + (1442695040888963407 : Int64))), (7, .int x7), (8, .int (x8 + 1))] rfl ?_
          exact ih ((x5 * (6364136223846793005 : Int64)) + (1442695040888963407 : Int64)) x7 (x8 + 1) _ h hx
        · refine z_iload (pc := 107) M dX4_draw_107 3 rfl ?_
          refine z_iload (pc := 109) M dX4_draw_109 5 rfl ?_
          refine z_ior (pc := 111) M dX4_draw_111 ?_
          refine z_istore (pc := 112) M dX4_draw_112 (by decide) [1, 2, 3, 0, 4] [(0, .ref (ad 0)), (4, .ref (ad (25 + t4))), (5, .long ((x5 * (6364136223846793005 : Int64)) + (1442695040888963407 : Int64))), (7, .int (x7 ||| ((1 : Int32) <<< (x8 &&& 31)))), (8, .int x8)] rfl ?_
          refine z_iinc (pc := 114) M dX4_draw_114 (x8 + 1) rfl 4 rfl (by decide) [1, 2, 3, 4, 0] [(0, .ref (ad 0)), (4, .ref (ad (25 + t4))), (5, .long ((x5 * (6364136223846793005 : Int64)) + (1442695040888963407 : Int64))), (7, .int (x7 ||| ((1 : Int32) <<< (x8 &&& 31)))), (8, .int (x8 + 1))] rfl ?_
          refine z_goto (pc := 117) 23 M dX4_draw_117 (by decide) ?_
          refine z_locals [0, 1, 2, 3, 4] [(0, .ref (ad 0)), (4, .ref (ad (25 + t4))), (5, .long ((x5 * (6364136223846793005 : Int64)) + (1442695040888963407 : Int64))), (7, .int (x7 ||| ((1 : Int32) <<< (x8 &&& 31)))), (8, .int (x8 + 1))] rfl ?_
          exact ih ((x5 * (6364136223846793005 : Int64)) + (1442695040888963407 : Int64)) (x7 ||| ((1 : Int32) <<< (x8 &&& 31))) (x8 + 1) _ h hx
set_option maxRecDepth 100000 in
set_option maxHeartbeats 4000000 in
theorem kX4_draw (l : Launch) (D : va_G) (cy ad : Nat → Nat) (n : Nat) (p0 : Int32) (p1 : Int64) (S : St) (r : Int32) (h : fX4_draw n p0 p1 S = some r) : CW l D cy ad n yX4_draw wsX4_draw rmX4_draw [.ref (ad 0), .int p0, .long p1] S (some (.int r)) S := by
  refine CW.of (cc := cX4_draw) (nL := 15) (ret := (some .int)) (own := RX4) rfl (by decide +kernel) rfl (Nat.le_of_ble_eq_true rfl) ?_
  intro p e s m args below meth c M K
  unfold fX4_draw at h
  refine z_locals [0, 1, 2] [(0, .ref (ad 0)), (1, .int p0), (2, .long p1)] rfl ?_
  refine z_aload_n (pc := 0) M dX4_draw_0 rfl 0 rfl ?_
  refine z_iload_n (pc := 1) M dX4_draw_1 rfl 1 rfl ?_
  obtain ⟨r1, h2, h⟩ := bo_in h
  refine z_vcall (pc := 2) (As := [.int p0]) M K (kX4_lawAt l D cy ad n p0 S r1 h2) (cwV 1 M.1.2.2.2.2 gX4_draw_X4_lawAt rfl rfl rfl (by decide +kernel) ⟨Nat.le_of_ble_eq_true rfl, Nat.le_of_ble_eq_true rfl⟩) o_obj rfl rfl rfl (Nat.le_of_ble_eq_true rfl) dX4_draw_2 ?_
  cases r1 with
  | none =>
    refine z_astoreN (pc := 5) M dX4_draw_5 (by decide) [1, 3, 0] [(0, .ref (ad 0)), (2, .long p1), (4, .null)] rfl ?_
    refine z_aloadN (pc := 7) M dX4_draw_7 2 rfl ?_
    refine z_ifnonnullN (pc := 9) M dX4_draw_9 ?_
    refine z_iconst (pc := 12) (v := -1) M dX4_draw_12 (by decide) ?_
    exact z_iretW (pc := 13) M (Option.some.inj h) rfl dX4_draw_13
  | some lw3 =>
    obtain ⟨h_lw3, h⟩ := gd_in (show gd (decide (lw3 < 6)) _ = some _ from h)
    have h_lw3 := of_decide_eq_true h_lw3
    refine z_astore (pc := 5) M dX4_draw_5 (by decide) [1, 3, 0] [(0, .ref (ad 0)), (2, .long p1), (4, .ref (ad (25 + lw3)))] rfl ?_
    refine z_aload (pc := 7) M dX4_draw_7 2 rfl ?_
    refine z_ifnonnull (pc := 9) 14 M dX4_draw_9 (by decide) ?_
    refine z_lload_n (pc := 14) M dX4_draw_14 rfl 1 rfl ?_
    refine z_lstore (pc := 15) M dX4_draw_15 (by decide) [1, 3, 0] [(0, .ref (ad 0)), (4, .ref (ad (25 + lw3))), (5, .long p1)] rfl ?_
    refine z_iconst (pc := 17) (v := 0) M dX4_draw_17 (by decide) ?_
    refine z_istore (pc := 18) M dX4_draw_18 (by decide) [1, 2, 3, 0] [(0, .ref (ad 0)), (4, .ref (ad (25 + lw3))), (5, .long p1), (7, .int (0 : Int32))] rfl ?_
    refine z_iconst (pc := 20) (v := 0) M dX4_draw_20 (by decide) ?_
    refine z_istore (pc := 21) M dX4_draw_21 (by decide) [1, 2, 3, 4, 0] [(0, .ref (ad 0)), (4, .ref (ad (25 + lw3))), (5, .long p1), (7, .int (0 : Int32)), (8, .int (0 : Int32))] rfl ?_
    refine z_locals [0, 1, 2, 3, 4] [(0, .ref (ad 0)), (4, .ref (ad (25 + lw3))), (5, .long p1), (7, .int (0 : Int32)), (8, .int (0 : Int32))] rfl ?_
    obtain ⟨q11, h12, h⟩ := bo_in h
    refine LX4_draw_1 M K lw3 h_lw3 S FU p1 (0 : Int32) (0 : Int32) _ h12 (fun a hE => ?_)
    cases hE
    refine z_iload (pc := 120) M dX4_draw_120 0 rfl ?_
    exact z_iretW (pc := 122) M (Option.some.inj h) rfl dX4_draw_122
def rmX5_in : Room := { frames := 0, cells := 0, slots := 0, locals := 0 }
set_option maxRecDepth 100000 in
set_option maxHeartbeats 4000000 in
theorem kX5_in (l : Launch) (p0 : Int32) (p1 : Int32) (p2 : Int32) (r : Bool) (h : fX5_in p0 p1 p2 = some r) : CP l yX5_in wsX5_in rmX5_in [.int p0, .int p1, .int p2] (some (.int (b2i r))) := by
  refine CP.of (cc := cX5_in) (nL := 3) (ret := (some .boolean)) (own := RX5) rfl (by decide +kernel) rfl (Nat.le_of_ble_eq_true rfl) ?_
  intro p e s m args below meth c M
  unfold fX5_in at h
  refine z_locals [0, 1, 2] [(0, .int p0), (1, .int p1), (2, .int p2)] rfl ?_
  refine z_iload_n (pc := 0) M dX5_in_0 rfl 0 rfl ?_
  refine z_iload_n (pc := 1) M dX5_in_1 rfl 1 rfl ?_
  refine z_icmp_lt (pc := 2) 14 M dX5_in_2 (by decide) h (fun c_2 h => ?_) (fun c_2 h => ?_)
  · refine z_iconst (pc := 14) (v := 0) M dX5_in_14 (by decide) ?_
    exact z_zretP (pc := 15) M h rfl dX5_in_15
  · refine z_iload_n (pc := 5) M dX5_in_5 rfl 0 rfl ?_
    refine z_iload_n (pc := 6) M dX5_in_6 rfl 2 rfl ?_
    refine z_icmp_gt (pc := 7) 14 M dX5_in_7 (by decide) h (fun c_1 h => ?_) (fun c_1 h => ?_)
    · refine z_iconst (pc := 14) (v := 0) M dX5_in_14 (by decide) ?_
      exact z_zretP (pc := 15) M h rfl dX5_in_15
    · refine z_iconst (pc := 10) (v := 1) M dX5_in_10 (by decide) ?_
      refine z_goto (pc := 11) 15 M dX5_in_11 (by decide) ?_
      exact z_zretP (pc := 15) M h rfl dX5_in_15
def rmX5_isThing : Room := { frames := 1, cells := 0, slots := 0, locals := 22 }
theorem flX5_isThing_45 : Cond.fieldLink RX5 45 "ShunLotsModel" "n" "I" ∈ wsX5_isThing := by decide +kernel
theorem inX5_isThing_X5 : ∀ w ∈ wsX50, w ∈ wsX5_isThing := by decide +kernel
set_option maxRecDepth 100000 in
set_option maxHeartbeats 4000000 in
theorem kX5_isThing (l : Launch) (D : va_G) (cy ad : Nat → Nat) (n : Nat) (p0 : Int32) (S : St) (r : Bool) (h : fX5_isThing n p0 S = some r) : CW l D cy ad n yX5_isThing wsX5_isThing rmX5_isThing [.ref (ad 12), .int p0] S (some (.int (b2i r))) S := by
  refine CW.of (cc := cX5_isThing) (nL := 2) (ret := (some .boolean)) (own := RX5) rfl (by decide +kernel) rfl (Nat.le_of_ble_eq_true rfl) ?_
  intro p e s m args below meth c M K
  unfold fX5_isThing at h
  refine z_locals [0, 1] [(0, .ref (ad 12)), (1, .int p0)] rfl ?_
  refine z_iload_n (pc := 0) M dX5_isThing_0 rfl 1 rfl ?_
  refine z_iconst (pc := 1) (v := 0) M dX5_isThing_1 (by decide) ?_
  refine z_aload_n (pc := 2) M dX5_isThing_2 rfl 0 rfl ?_
  refine z_get (pc := 3) (v := .int (nI n)) M K inX5_isThing_X5 o_mod rfl 0 (by decide) flX5_isThing_45 rfl rfl dX5_isThing_3 ?_
  refine z_iconst (pc := 6) (v := 1) M dX5_isThing_6 (by decide) ?_
  refine z_isub (pc := 7) M dX5_isThing_7 ?_
  obtain ⟨r1, h2, h⟩ := bo_in h
  refine z_scall (pc := 8) (As := [.int p0, .int (0 : Int32), .int ((nI n) - (1 : Int32))]) M (kX5_in l p0 (0 : Int32) ((nI n) - (1 : Int32)) r1 h2) (va_cwS 3 M.1.2.2.2.2 gX5_isThing_X5_in rfl rfl rfl (by decide +kernel) ⟨Nat.le_of_ble_eq_true rfl, Nat.le_of_ble_eq_true rfl⟩) rfl rfl (Nat.le_of_ble_eq_true rfl) dX5_isThing_8 ?_
  exact z_zretW (pc := 11) M (Option.some.inj h) rfl rfl dX5_isThing_11
def rmX5_isSet : Room := { frames := 1, cells := 0, slots := 0, locals := 22 }
theorem flX5_isSet_49 : Cond.fieldLink RX5 49 "ShunLotsModel" "sets" "I" ∈ wsX5_isSet := by decide +kernel
theorem inX5_isSet_X5 : ∀ w ∈ wsX50, w ∈ wsX5_isSet := by decide +kernel
set_option maxRecDepth 100000 in
set_option maxHeartbeats 4000000 in
theorem kX5_isSet (l : Launch) (D : va_G) (cy ad : Nat → Nat) (n : Nat) (p0 : Int32) (S : St) (r : Bool) (h : fX5_isSet n p0 S = some r) : CW l D cy ad n yX5_isSet wsX5_isSet rmX5_isSet [.ref (ad 12), .int p0] S (some (.int (b2i r))) S := by
  refine CW.of (cc := cX5_isSet) (nL := 2) (ret := (some .boolean)) (own := RX5) rfl (by decide +kernel) rfl (Nat.le_of_ble_eq_true rfl) ?_
  intro p e s m args below meth c M K
  unfold fX5_isSet at h
  refine z_locals [0, 1] [(0, .ref (ad 12)), (1, .int p0)] rfl ?_
  refine z_iload_n (pc := 0) M dX5_isSet_0 rfl 1 rfl ?_
  refine z_iconst (pc := 1) (v := 0) M dX5_isSet_1 (by decide) ?_
  refine z_aload_n (pc := 2) M dX5_isSet_2 rfl 0 rfl ?_
  refine z_get (pc := 3) (v := .int (nI (2 ^ n))) M K inX5_isSet_X5 o_mod rfl 1 (by decide) flX5_isSet_49 rfl rfl dX5_isSet_3 ?_
  refine z_iconst (pc := 6) (v := 1) M dX5_isSet_6 (by decide) ?_
  refine z_isub (pc := 7) M dX5_isSet_7 ?_
  obtain ⟨r1, h2, h⟩ := bo_in h
  refine z_scall (pc := 8) (As := [.int p0, .int (0 : Int32), .int ((nI (2 ^ n)) - (1 : Int32))]) M (kX5_in l p0 (0 : Int32) ((nI (2 ^ n)) - (1 : Int32)) r1 h2) (va_cwS 3 M.1.2.2.2.2 gX5_isSet_X5_in rfl rfl rfl (by decide +kernel) ⟨Nat.le_of_ble_eq_true rfl, Nat.le_of_ble_eq_true rfl⟩) rfl rfl (Nat.le_of_ble_eq_true rfl) dX5_isSet_8 ?_
  exact z_zretW (pc := 11) M (Option.some.inj h) rfl rfl dX5_isSet_11
def rmX5_isPlace : Room := { frames := 1, cells := 0, slots := 0, locals := 22 }
set_option maxRecDepth 100000 in
set_option maxHeartbeats 4000000 in
theorem kX5_isPlace (l : Launch) (p0 : Int32) (r : Bool) (h : fX5_isPlace p0 = some r) : CP l yX5_isPlace wsX5_isPlace rmX5_isPlace [.int p0] (some (.int (b2i r))) := by
  refine CP.of (cc := cX5_isPlace) (nL := 1) (ret := (some .boolean)) (own := RX5) rfl (by decide +kernel) rfl (Nat.le_of_ble_eq_true rfl) ?_
  intro p e s m args below meth c M
  unfold fX5_isPlace at h
  refine z_locals [0] [(0, .int p0)] rfl ?_
  refine z_iload_n (pc := 0) M dX5_isPlace_0 rfl 0 rfl ?_
  refine z_iconst (pc := 1) (v := 0) M dX5_isPlace_1 (by decide) ?_
  refine z_iconst (pc := 2) (v := 5) M dX5_isPlace_2 (by decide) ?_
  obtain ⟨r1, h2, h⟩ := bo_in h
  refine z_scall (pc := 3) (As := [.int p0, .int (0 : Int32), .int (5 : Int32)]) M (kX5_in l p0 (0 : Int32) (5 : Int32) r1 h2) (va_cwS 3 M.1.2.2.2.2 gX5_isPlace_X5_in rfl rfl rfl (by decide +kernel) ⟨Nat.le_of_ble_eq_true rfl, Nat.le_of_ble_eq_true rfl⟩) rfl rfl (Nat.le_of_ble_eq_true rfl) dX5_isPlace_3 ?_
  exact z_zretP (pc := 6) M h rfl dX5_isPlace_6
def rmX5_sizeOf : Room := { frames := 0, cells := 0, slots := 0, locals := 0 }
set_option maxRecDepth 100000 in
set_option maxHeartbeats 4000000 in
theorem LX5_sizeOf_1 {p : Program} {l : Launch} {e : Env} {s : State} {m : MethodId} {args : Array Value} {below : List Frame} {meth : Method} {c : Code} {Q : State → Prop} (M : MX p m c cX5_sizeOf 3 s args wsX5_sizeOf RX5 meth (some .int)) (x0 : Int32)   : ∀ (fuel : Nat) (x1 : Int32) (x2 : Int32) (o : (Int32)), lX5_sizeOf_1 x0 fuel x1 x2 = some o → ∀ (hx : ∀ a, o = a → Zz p l e rmX5_sizeOf s m args below meth c 3 Q (Hp s) 24 [(1, .int a)] []) , Zz p l e rmX5_sizeOf s m args below meth c 3 Q (Hp s) 4 [(0, .int x0), (1, .int x1), (2, .int x2)] [] := by
  intro fuel
  induction fuel with
  | zero => intro x1 x2 o h; exact nomatch (show (none : Option _) = some o from h)
  | succ fuel ih =>
    intro x1 x2 o h hx 
    have h : bX5_sizeOf_1 x0 (lX5_sizeOf_1 x0 fuel) x1 x2 = some o := h
    unfold bX5_sizeOf_1 at h
    refine z_iload_n (pc := 4) M dX5_sizeOf_4 rfl 2 rfl ?_
    refine z_bipush (pc := 5) (v := 6) M dX5_sizeOf_5 (by decide) ?_
    refine z_icmp_ge (pc := 7) 24 M dX5_sizeOf_7 (by decide) h (fun c_1 h => ?_) (fun c_1 h => ?_)
    · refine z_locals [1] [(1, .int x1)] rfl ?_
      cases h
      exact hx _ rfl
    · refine z_iload_n (pc := 10) M dX5_sizeOf_10 rfl 1 rfl ?_
      refine z_iload_n (pc := 11) M dX5_sizeOf_11 rfl 0 rfl ?_
      refine z_iload_n (pc := 12) M dX5_sizeOf_12 rfl 2 rfl ?_
      refine z_ishr (pc := 13) M dX5_sizeOf_13 ?_
      refine z_iconst (pc := 14) (v := 1) M dX5_sizeOf_14 (by decide) ?_
      refine z_iand (pc := 15) M dX5_sizeOf_15 ?_
      refine z_iadd (pc := 16) M dX5_sizeOf_16 ?_
      refine z_istore_n (pc := 17) M dX5_sizeOf_17 rfl (by decide) [1, 0, 2] [(0, .int x0), (1, .int (x1 + ((x0 >>> (x2 &&& 31)) &&& (1 : Int32)))), (2, .int x2)] rfl ?_
      refine z_iinc (pc := 18) M dX5_sizeOf_18 (x2 + 1) rfl 2 rfl (by decide) [1, 2, 0] [(0, .int x0), (1, .int (x1 + ((x0 >>> (x2 &&& 31)) &&& (1 : Int32)))), (2, .int (x2 + 1))] rfl ?_
      refine z_goto (pc := 21) 4 M dX5_sizeOf_21 (by decide) ?_
      refine z_locals [0, 1, 2] [(0, .int x0), (1, .int (x1 + ((x0 >>> (x2 &&& 31)) &&& (1 : Int32)))), (2, .int (x2 + 1))] rfl ?_
      exact ih (x1 + ((x0 >>> (x2 &&& 31)) &&& (1 : Int32))) (x2 + 1) _ h hx
set_option maxRecDepth 100000 in
set_option maxHeartbeats 4000000 in
theorem kX5_sizeOf (l : Launch) (p0 : Int32) (r : Int32) (h : fX5_sizeOf p0 = some r) : CP l yX5_sizeOf wsX5_sizeOf rmX5_sizeOf [.int p0] (some (.int r)) := by
  refine CP.of (cc := cX5_sizeOf) (nL := 3) (ret := (some .int)) (own := RX5) rfl (by decide +kernel) rfl (Nat.le_of_ble_eq_true rfl) ?_
  intro p e s m args below meth c M
  unfold fX5_sizeOf at h
  refine z_locals [0] [(0, .int p0)] rfl ?_
  refine z_iconst (pc := 0) (v := 0) M dX5_sizeOf_0 (by decide) ?_
  refine z_istore_n (pc := 1) M dX5_sizeOf_1 rfl (by decide) [1, 0] [(0, .int p0), (1, .int (0 : Int32))] rfl ?_
  refine z_iconst (pc := 2) (v := 0) M dX5_sizeOf_2 (by decide) ?_
  refine z_istore_n (pc := 3) M dX5_sizeOf_3 rfl (by decide) [1, 2, 0] [(0, .int p0), (1, .int (0 : Int32)), (2, .int (0 : Int32))] rfl ?_
  refine z_locals [0, 1, 2] [(0, .int p0), (1, .int (0 : Int32)), (2, .int (0 : Int32))] rfl ?_
  obtain ⟨q2, h3, h⟩ := bo_in h
  refine LX5_sizeOf_1 M p0 FU (0 : Int32) (0 : Int32) _ h3 (fun a hE => ?_)
  cases hE
  refine z_iload_n (pc := 24) M dX5_sizeOf_24 rfl 0 rfl ?_
  exact z_iretP (pc := 25) M h dX5_sizeOf_25
def rmX5_entry : Room := { frames := 2, cells := 0, slots := 0, locals := 43 }
theorem flX5_entry_7 : Cond.fieldLink RX5 7 "ShunLotsModel" "table" "[I" ∈ wsX5_entry := by decide +kernel
theorem inX5_entry_X5 : ∀ w ∈ wsX50, w ∈ wsX5_entry := by decide +kernel
set_option maxRecDepth 100000 in
set_option maxHeartbeats 4000000 in
theorem kX5_entry (l : Launch) (D : va_G) (cy ad : Nat → Nat) (n : Nat) (p0 : Int32) (p1 : Int32) (p2 : Int32) (p3 : Int32) (S : St) (r : Bool) (S' : St) (h : fX5_entry n p0 p1 p2 p3 S = some (r, S')) : CW l D cy ad n yX5_entry wsX5_entry rmX5_entry [.ref (ad 12), .int p0, .int p1, .int p2, .int p3] S (some (.int (b2i r))) S' := by
  refine CW.of (cc := cX5_entry) (nL := 5) (ret := (some .boolean)) (own := RX5) rfl (by decide +kernel) rfl (Nat.le_of_ble_eq_true rfl) ?_
  intro p e s m args below meth c M K
  unfold fX5_entry at h
  refine z_locals [0, 1, 2, 3, 4] [(0, .ref (ad 12)), (1, .int p0), (2, .int p1), (3, .int p2), (4, .int p3)] rfl ?_
  refine z_iload_n (pc := 0) M dX5_entry_0 rfl 1 rfl ?_
  obtain ⟨r1, h2, h⟩ := bo_in h
  refine z_scall (pc := 1) (As := [.int p0]) M (kX5_isPlace l p0 r1 h2) (va_cwS 1 M.1.2.2.2.2 gX5_entry_X5_isPlace rfl rfl rfl (by decide +kernel) ⟨Nat.le_of_ble_eq_true rfl, Nat.le_of_ble_eq_true rfl⟩) rfl rfl (Nat.le_of_ble_eq_true rfl) dX5_entry_1 ?_
  refine z_if_eqB (pc := 4) 34 M dX5_entry_4 (by decide) h (fun c_12 h => ?_) (fun c_12 h => ?_)
  · refine z_iconst (pc := 34) (v := 0) M dX5_entry_34 (by decide) ?_
    exact z_zretW (pc := 35) M (congrArg Prod.fst (Option.some.inj h)) (congrArg Prod.snd (Option.some.inj h)) rfl dX5_entry_35
  · refine z_aload_n (pc := 7) M dX5_entry_7 rfl 0 rfl ?_
    refine z_iload_n (pc := 8) M dX5_entry_8 rfl 2 rfl ?_
    obtain ⟨r3, h4, h⟩ := bo_in h
    refine z_vcall (pc := 9) (As := [.int p1]) M K (kX5_isThing l D cy ad n p1 S r3 h4) (cwV 1 M.1.2.2.2.2 gX5_entry_X5_isThing rfl rfl rfl (by decide +kernel) ⟨Nat.le_of_ble_eq_true rfl, Nat.le_of_ble_eq_true rfl⟩) o_mod rfl rfl rfl (Nat.le_of_ble_eq_true rfl) dX5_entry_9 ?_
    refine z_if_eqB (pc := 12) 34 M dX5_entry_12 (by decide) h (fun c_11 h => ?_) (fun c_11 h => ?_)
    · refine z_iconst (pc := 34) (v := 0) M dX5_entry_34 (by decide) ?_
      exact z_zretW (pc := 35) M (congrArg Prod.fst (Option.some.inj h)) (congrArg Prod.snd (Option.some.inj h)) rfl dX5_entry_35
    · refine z_aload_n (pc := 15) M dX5_entry_15 rfl 0 rfl ?_
      refine z_iload_n (pc := 16) M dX5_entry_16 rfl 3 rfl ?_
      obtain ⟨r5, h6, h⟩ := bo_in h
      refine z_vcall (pc := 17) (As := [.int p2]) M K (kX5_isThing l D cy ad n p2 S r5 h6) (cwV 1 M.1.2.2.2.2 gX5_entry_X5_isThing rfl rfl rfl (by decide +kernel) ⟨Nat.le_of_ble_eq_true rfl, Nat.le_of_ble_eq_true rfl⟩) o_mod rfl rfl rfl (Nat.le_of_ble_eq_true rfl) dX5_entry_17 ?_
      refine z_if_eqB (pc := 20) 34 M dX5_entry_20 (by decide) h (fun c_10 h => ?_) (fun c_10 h => ?_)
      · refine z_iconst (pc := 34) (v := 0) M dX5_entry_34 (by decide) ?_
        exact z_zretW (pc := 35) M (congrArg Prod.fst (Option.some.inj h)) (congrArg Prod.snd (Option.some.inj h)) rfl dX5_entry_35
      · refine z_iload (pc := 23) M dX5_entry_23 4 rfl ?_
        refine z_bipush (pc := 25) (v := -5) M dX5_entry_25 (by decide) ?_
        refine z_iconst (pc := 27) (v := 5) M dX5_entry_27 (by decide) ?_
        obtain ⟨r7, h8, h⟩ := bo_in h
        refine z_scall (pc := 28) (As := [.int p3, .int (-5 : Int32), .int (5 : Int32)]) M (kX5_in l p3 (-5 : Int32) (5 : Int32) r7 h8) (va_cwS 3 M.1.2.2.2.2 gX5_entry_X5_in rfl rfl rfl (by decide +kernel) ⟨Nat.le_of_ble_eq_true rfl, Nat.le_of_ble_eq_true rfl⟩) rfl rfl (Nat.le_of_ble_eq_true rfl) dX5_entry_28 ?_
        refine z_if_neB (pc := 31) 36 M dX5_entry_31 (by decide) h (fun c_9 h => ?_) (fun c_9 h => ?_)
        · refine z_aload_n (pc := 36) M dX5_entry_36 rfl 0 rfl ?_
          refine z_get (pc := 37) (v := .ref (ad 37)) M K inX5_entry_X5 o_mod rfl 2 (by decide) flX5_entry_7 rfl rfl dX5_entry_37 ?_
          refine z_bipush (pc := 40) (v := 36) M dX5_entry_40 (by decide) ?_
          refine z_iload_n (pc := 42) M dX5_entry_42 rfl 1 rfl ?_
          refine z_imul (pc := 43) M dX5_entry_43 ?_
          refine z_bipush (pc := 44) (v := 6) M dX5_entry_44 (by decide) ?_
          refine z_iload_n (pc := 46) M dX5_entry_46 rfl 2 rfl ?_
          refine z_imul (pc := 47) M dX5_entry_47 ?_
          refine z_iadd (pc := 48) M dX5_entry_48 ?_
          refine z_iload_n (pc := 49) M dX5_entry_49 rfl 3 rfl ?_
          refine z_iadd (pc := 50) M dX5_entry_50 ?_
          refine z_iload (pc := 51) M dX5_entry_51 4 rfl ?_
          refine z_iast (pc := 53) M K ⟨by decide, rfl, rfl⟩ h dX5_entry_53 (fun h => ?_)
          refine z_aload_n (pc := 54) M dX5_entry_54 rfl 0 rfl ?_
          refine z_get (pc := 55) (v := .ref (ad 37)) M K inX5_entry_X5 o_mod rfl 2 (by decide) flX5_entry_7 rfl rfl dX5_entry_55 ?_
          refine z_bipush (pc := 58) (v := 36) M dX5_entry_58 (by decide) ?_
          refine z_iload_n (pc := 60) M dX5_entry_60 rfl 1 rfl ?_
          refine z_imul (pc := 61) M dX5_entry_61 ?_
          refine z_bipush (pc := 62) (v := 6) M dX5_entry_62 (by decide) ?_
          refine z_iload_n (pc := 64) M dX5_entry_64 rfl 3 rfl ?_
          refine z_imul (pc := 65) M dX5_entry_65 ?_
          refine z_iadd (pc := 66) M dX5_entry_66 ?_
          refine z_iload_n (pc := 67) M dX5_entry_67 rfl 2 rfl ?_
          refine z_iadd (pc := 68) M dX5_entry_68 ?_
          refine z_iload (pc := 69) M dX5_entry_69 4 rfl ?_
          refine z_iast (pc := 71) M K ⟨by decide, rfl, rfl⟩ h dX5_entry_71 (fun h => ?_)
          refine z_iconst (pc := 72) (v := 1) M dX5_entry_72 (by decide) ?_
          exact z_zretW (pc := 73) M (congrArg Prod.fst (Option.some.inj h)) (congrArg Prod.snd (Option.some.inj h)) rfl dX5_entry_73
        · refine z_iconst (pc := 34) (v := 0) M dX5_entry_34 (by decide) ?_
          exact z_zretW (pc := 35) M (congrArg Prod.fst (Option.some.inj h)) (congrArg Prod.snd (Option.some.inj h)) rfl dX5_entry_35
def rmX5_told : Room := { frames := 2, cells := 0, slots := 0, locals := 43 }
theorem flX5_told_7 : Cond.fieldLink RX5 7 "ShunLotsModel" "table" "[I" ∈ wsX5_told := by decide +kernel
theorem inX5_told_X5 : ∀ w ∈ wsX50, w ∈ wsX5_told := by decide +kernel
set_option maxRecDepth 100000 in
set_option maxHeartbeats 4000000 in
theorem kX5_told (l : Launch) (D : va_G) (cy ad : Nat → Nat) (n : Nat) (p0 : Int32) (p1 : Int32) (p2 : Int32) (S : St) (r : Int32) (h : fX5_told n p0 p1 p2 S = some r) : CW l D cy ad n yX5_told wsX5_told rmX5_told [.ref (ad 12), .int p0, .int p1, .int p2] S (some (.int r)) S := by
  refine CW.of (cc := cX5_told) (nL := 4) (ret := (some .int)) (own := RX5) rfl (by decide +kernel) rfl (Nat.le_of_ble_eq_true rfl) ?_
  intro p e s m args below meth c M K
  unfold fX5_told at h
  refine z_locals [0, 1, 2, 3] [(0, .ref (ad 12)), (1, .int p0), (2, .int p1), (3, .int p2)] rfl ?_
  refine z_iload_n (pc := 0) M dX5_told_0 rfl 1 rfl ?_
  obtain ⟨r1, h2, h⟩ := bo_in h
  refine z_scall (pc := 1) (As := [.int p0]) M (kX5_isPlace l p0 r1 h2) (va_cwS 1 M.1.2.2.2.2 gX5_told_X5_isPlace rfl rfl rfl (by decide +kernel) ⟨Nat.le_of_ble_eq_true rfl, Nat.le_of_ble_eq_true rfl⟩) rfl rfl (Nat.le_of_ble_eq_true rfl) dX5_told_1 ?_
  refine z_if_eqB (pc := 4) 42 M dX5_told_4 (by decide) h (fun c_9 h => ?_) (fun c_9 h => ?_)
  · refine z_bipush (pc := 42) (v := -10) M dX5_told_42 (by decide) ?_
    exact z_iretW (pc := 44) M (Option.some.inj h) rfl dX5_told_44
  · refine z_aload_n (pc := 7) M dX5_told_7 rfl 0 rfl ?_
    refine z_iload_n (pc := 8) M dX5_told_8 rfl 2 rfl ?_
    obtain ⟨r3, h4, h⟩ := bo_in h
    refine z_vcall (pc := 9) (As := [.int p1]) M K (kX5_isThing l D cy ad n p1 S r3 h4) (cwV 1 M.1.2.2.2.2 gX5_told_X5_isThing rfl rfl rfl (by decide +kernel) ⟨Nat.le_of_ble_eq_true rfl, Nat.le_of_ble_eq_true rfl⟩) o_mod rfl rfl rfl (Nat.le_of_ble_eq_true rfl) dX5_told_9 ?_
    refine z_if_eqB (pc := 12) 42 M dX5_told_12 (by decide) h (fun c_8 h => ?_) (fun c_8 h => ?_)
    · refine z_bipush (pc := 42) (v := -10) M dX5_told_42 (by decide) ?_
      exact z_iretW (pc := 44) M (Option.some.inj h) rfl dX5_told_44
    · refine z_aload_n (pc := 15) M dX5_told_15 rfl 0 rfl ?_
      refine z_iload_n (pc := 16) M dX5_told_16 rfl 3 rfl ?_
      obtain ⟨r5, h6, h⟩ := bo_in h
      refine z_vcall (pc := 17) (As := [.int p2]) M K (kX5_isThing l D cy ad n p2 S r5 h6) (cwV 1 M.1.2.2.2.2 gX5_told_X5_isThing rfl rfl rfl (by decide +kernel) ⟨Nat.le_of_ble_eq_true rfl, Nat.le_of_ble_eq_true rfl⟩) o_mod rfl rfl rfl (Nat.le_of_ble_eq_true rfl) dX5_told_17 ?_
      refine z_if_eqB (pc := 20) 42 M dX5_told_20 (by decide) h (fun c_7 h => ?_) (fun c_7 h => ?_)
      · refine z_bipush (pc := 42) (v := -10) M dX5_told_42 (by decide) ?_
        exact z_iretW (pc := 44) M (Option.some.inj h) rfl dX5_told_44
      · refine z_aload_n (pc := 23) M dX5_told_23 rfl 0 rfl ?_
        refine z_get (pc := 24) (v := .ref (ad 37)) M K inX5_told_X5 o_mod rfl 2 (by decide) flX5_told_7 rfl rfl dX5_told_24 ?_
        refine z_bipush (pc := 27) (v := 36) M dX5_told_27 (by decide) ?_
        refine z_iload_n (pc := 29) M dX5_told_29 rfl 1 rfl ?_
        refine z_imul (pc := 30) M dX5_told_30 ?_
        refine z_bipush (pc := 31) (v := 6) M dX5_told_31 (by decide) ?_
        refine z_iload_n (pc := 33) M dX5_told_33 rfl 2 rfl ?_
        refine z_imul (pc := 34) M dX5_told_34 ?_
        refine z_iadd (pc := 35) M dX5_told_35 ?_
        refine z_iload_n (pc := 36) M dX5_told_36 rfl 3 rfl ?_
        refine z_iadd (pc := 37) M dX5_told_37 ?_
        refine z_iald (pc := 38) M K ⟨by decide, rfl, rfl⟩ h dX5_told_38 (fun _ h => ?_)
        refine z_goto (pc := 39) 44 M dX5_told_39 (by decide) ?_
        exact z_iretW (pc := 44) M (Option.some.inj h) rfl dX5_told_44
def rmX5_determinant : Room := { frames := 1, cells := 0, slots := 0, locals := 22 }
theorem flX5_determinant_13 : Cond.fieldLink RX5 13 "ShunLotsModel" "thing" "[I" ∈ wsX5_determinant := by decide +kernel
theorem flX5_determinant_16 : Cond.fieldLink RX5 16 "ShunLotsModel" "by" "[J" ∈ wsX5_determinant := by decide +kernel
theorem flX5_determinant_45 : Cond.fieldLink RX5 45 "ShunLotsModel" "n" "I" ∈ wsX5_determinant := by decide +kernel
theorem flX5_determinant_7 : Cond.fieldLink RX5 7 "ShunLotsModel" "table" "[I" ∈ wsX5_determinant := by decide +kernel
theorem inX5_determinant_X5 : ∀ w ∈ wsX50, w ∈ wsX5_determinant := by decide +kernel
set_option maxRecDepth 100000 in
set_option maxHeartbeats 4000000 in
theorem LX5_determinant_1 {p : Program} {l : Launch} {e : Env} {s : State} {m : MethodId} {args : Array Value} {below : List Frame} {meth : Method} {c : Code} {Q : State → Prop} {D : va_G} {cy ad : Nat → Nat} {n : Nat} (M : MX p m c cX5_determinant 11 s args wsX5_determinant RX5 meth (some .long)) (K : KK D cy ad s) (x1 : Int32) (x2 : Int32) (x3 : Int32)   : ∀ (fuel : Nat) (x4 : Int32) (x5 : Int32) (S : St) (o : (Int32) × St), lX5_determinant_1 n x1 x2 x3 fuel x4 x5 S = some o → ∀ (hx : ∀ a S', o = (a, S') → Zz p l e rmX5_determinant s m args below meth c 11 Q (Hw D cy ad n s S') 45 [(0, .ref (ad 12)), (1, .int x1), (3, .int x3), (4, .int a)] []) , Zz p l e rmX5_determinant s m args below meth c 11 Q (Hw D cy ad n s S) 6 [(0, .ref (ad 12)), (1, .int x1), (2, .int x2), (3, .int x3), (4, .int x4), (5, .int x5)] [] := by
  intro fuel
  induction fuel with
  | zero => intro x4 x5 S o h; exact nomatch (show (none : Option _) = some o from h)
  | succ fuel ih =>
    intro x4 x5 S o h hx 
    have h : bX5_determinant_1 n x1 x2 x3 (lX5_determinant_1 n x1 x2 x3 fuel) x4 x5 S = some o := h
    unfold bX5_determinant_1 at h
    refine z_iload (pc := 6) M dX5_determinant_6 5 rfl ?_
    refine z_aload_n (pc := 8) M dX5_determinant_8 rfl 0 rfl ?_
    refine z_get (pc := 9) (v := .int (nI n)) M K inX5_determinant_X5 o_mod rfl 0 (by decide) flX5_determinant_45 rfl rfl dX5_determinant_9 ?_
    refine z_icmp_ge (pc := 12) 45 M dX5_determinant_12 (by decide) h (fun c_2 h => ?_) (fun c_2 h => ?_)
    · refine z_locals [0, 1, 3, 4] [(0, .ref (ad 12)), (1, .int x1), (3, .int x3), (4, .int x4)] rfl ?_
      cases h
      exact hx _ _ rfl
    · refine z_iload_n (pc := 15) M dX5_determinant_15 rfl 2 rfl ?_
      refine z_iload (pc := 16) M dX5_determinant_16 5 rfl ?_
      refine z_ishr (pc := 18) M dX5_determinant_18 ?_
      refine z_iconst (pc := 19) (v := 1) M dX5_determinant_19 (by decide) ?_
      refine z_iand (pc := 20) M dX5_determinant_20 ?_
      refine z_if_ne (pc := 21) 27 M dX5_determinant_21 (by decide) h (fun c_1 h => ?_) (fun c_1 h => ?_)
      · refine z_aload_n (pc := 27) M dX5_determinant_27 rfl 0 rfl ?_
        refine z_get (pc := 28) (v := .ref (ad 38)) M K inX5_determinant_X5 o_mod rfl 3 (by decide) flX5_determinant_13 rfl rfl dX5_determinant_28 ?_
        refine z_iload (pc := 31) M dX5_determinant_31 4 rfl ?_
        refine z_iload (pc := 33) M dX5_determinant_33 5 rfl ?_
        refine z_iast (pc := 35) M K ⟨by decide, rfl, rfl⟩ h dX5_determinant_35 (fun h => ?_)
        refine z_iinc (pc := 36) M dX5_determinant_36 (x4 + 1) rfl 4 rfl (by decide) [1, 2, 3, 4, 0, 5] [(0, .ref (ad 12)), (1, .int x1), (2, .int x2), (3, .int x3), (4, .int (x4 + 1)), (5, .int x5)] rfl ?_
        refine z_iinc (pc := 39) M dX5_determinant_39 (x5 + 1) rfl 5 rfl (by decide) [1, 2, 3, 4, 5, 0] [(0, .ref (ad 12)), (1, .int x1), (2, .int x2), (3, .int x3), (4, .int (x4 + 1)), (5, .int (x5 + 1))] rfl ?_
        refine z_goto (pc := 42) 6 M dX5_determinant_42 (by decide) ?_
        refine z_locals [0, 1, 2, 3, 4, 5] [(0, .ref (ad 12)), (1, .int x1), (2, .int x2), (3, .int x3), (4, .int (x4 + 1)), (5, .int (x5 + 1))] rfl ?_
        exact ih (x4 + 1) (x5 + 1) (sI S 38 (Int32.toNatClampNeg x4) x5) _ h hx
      · refine z_goto (pc := 24) 39 M dX5_determinant_24 (by decide) ?_
        refine z_iinc (pc := 39) M dX5_determinant_39 (x5 + 1) rfl 5 rfl (by decide) [1, 2, 3, 4, 5, 0] [(0, .ref (ad 12)), (1, .int x1), (2, .int x2), (3, .int x3), (4, .int x4), (5, .int (x5 + 1))] rfl ?_
        refine z_goto (pc := 42) 6 M dX5_determinant_42 (by decide) ?_
        refine z_locals [0, 1, 2, 3, 4, 5] [(0, .ref (ad 12)), (1, .int x1), (2, .int x2), (3, .int x3), (4, .int x4), (5, .int (x5 + 1))] rfl ?_
        exact ih x4 (x5 + 1) S _ h hx
set_option maxRecDepth 100000 in
set_option maxHeartbeats 4000000 in
theorem LX5_determinant_3 {p : Program} {l : Launch} {e : Env} {s : State} {m : MethodId} {args : Array Value} {below : List Frame} {meth : Method} {c : Code} {Q : State → Prop} {D : va_G} {cy ad : Nat → Nat} {n : Nat} (M : MX p m c cX5_determinant 11 s args wsX5_determinant RX5 meth (some .long)) (K : KK D cy ad s) (x1 : Int32) (x3 : Int32) (x4 : Int32) (x5 : Int32) (x6 : Int32)   : ∀ (fuel : Nat) (x7 : Int32) (S : St) (o : (Unit) × St), lX5_determinant_3 n x1 x3 x4 x5 x6 fuel x7 S = some o → ∀ (hx : ∀ a S', o = (a, S') → Zz p l e rmX5_determinant s m args below meth c 11 Q (Hw D cy ad n s S') 215 [(0, .ref (ad 12)), (1, .int x1), (3, .int x3), (4, .int x4), (5, .int x5)] []) , Zz p l e rmX5_determinant s m args below meth c 11 Q (Hw D cy ad n s S) 84 [(0, .ref (ad 12)), (1, .int x1), (3, .int x3), (4, .int x4), (5, .int x5), (6, .int x6), (7, .int x7)] [] := by
  intro fuel
  induction fuel with
  | zero => intro x7 S o h; exact nomatch (show (none : Option _) = some o from h)
  | succ fuel ih =>
    intro x7 S o h hx 
    have h : bX5_determinant_3 n x1 x3 x4 x5 x6 (lX5_determinant_3 n x1 x3 x4 x5 x6 fuel) x7 S = some o := h
    unfold bX5_determinant_3 at h
    refine z_iload (pc := 84) M dX5_determinant_84 6 rfl ?_
    refine z_iload (pc := 86) M dX5_determinant_86 3 rfl ?_
    refine z_icmp_ge (pc := 88) 215 M dX5_determinant_88 (by decide) h (fun c_20 h => ?_) (fun c_20 h => ?_)
    · refine z_locals [0, 1, 2, 3, 4] [(0, .ref (ad 12)), (1, .int x1), (3, .int x3), (4, .int x4), (5, .int x5)] rfl ?_
      cases h
      exact hx _ _ rfl
    · refine z_iload (pc := 91) M dX5_determinant_91 4 rfl ?_
      refine z_iload (pc := 93) M dX5_determinant_93 6 rfl ?_
      refine z_ishr (pc := 95) M dX5_determinant_95 ?_
      refine z_iconst (pc := 96) (v := 1) M dX5_determinant_96 (by decide) ?_
      refine z_iand (pc := 97) M dX5_determinant_97 ?_
      refine z_if_ne (pc := 98) 104 M dX5_determinant_98 (by decide) h (fun c_19 h => ?_) (fun c_19 h => ?_)
      · refine z_aload_n (pc := 104) M dX5_determinant_104 rfl 0 rfl ?_
        refine z_get (pc := 105) (v := .ref (ad 37)) M K inX5_determinant_X5 o_mod rfl 2 (by decide) flX5_determinant_7 rfl rfl dX5_determinant_105 ?_
        refine z_bipush (pc := 108) (v := 36) M dX5_determinant_108 (by decide) ?_
        refine z_iload_n (pc := 110) M dX5_determinant_110 rfl 1 rfl ?_
        refine z_imul (pc := 111) M dX5_determinant_111 ?_
        refine z_bipush (pc := 112) (v := 6) M dX5_determinant_112 (by decide) ?_
        refine z_aload_n (pc := 114) M dX5_determinant_114 rfl 0 rfl ?_
        refine z_get (pc := 115) (v := .ref (ad 38)) M K inX5_determinant_X5 o_mod rfl 3 (by decide) flX5_determinant_13 rfl rfl dX5_determinant_115 ?_
        refine z_iload (pc := 118) M dX5_determinant_118 5 rfl ?_
        refine z_iald (pc := 120) M K ⟨by decide, rfl, rfl⟩ h dX5_determinant_120 (fun _ h => ?_)
        refine z_imul (pc := 121) M dX5_determinant_121 ?_
        refine z_iadd (pc := 122) M dX5_determinant_122 ?_
        refine z_aload_n (pc := 123) M dX5_determinant_123 rfl 0 rfl ?_
        refine z_get (pc := 124) (v := .ref (ad 38)) M K inX5_determinant_X5 o_mod rfl 3 (by decide) flX5_determinant_13 rfl rfl dX5_determinant_124 ?_
        refine z_iload (pc := 127) M dX5_determinant_127 6 rfl ?_
        refine z_iald (pc := 129) M K ⟨by decide, rfl, rfl⟩ h dX5_determinant_129 (fun _ h => ?_)
        refine z_iadd (pc := 130) M dX5_determinant_130 ?_
        refine z_iald (pc := 131) M K ⟨by decide, rfl, rfl⟩ h dX5_determinant_131 (fun _ h => ?_)
        refine z_iload (pc := 132) M dX5_determinant_132 5 rfl ?_
        refine z_iload (pc := 134) M dX5_determinant_134 6 rfl ?_
        refine z_icmp_ne (pc := 136) 143 M dX5_determinant_136 (by decide) h (fun c_18 h => ?_) (fun c_18 h => ?_)
        · refine z_iconst (pc := 143) (v := 0) M dX5_determinant_143 (by decide) ?_
          refine z_iadd (pc := 144) M dX5_determinant_144 ?_
          refine z_i2l (pc := 145) M dX5_determinant_145 ?_
          refine z_lstore (pc := 146) M dX5_determinant_146 (by decide) [1, 2, 3, 4, 5, 6, 7, 0] [(0, .ref (ad 12)), (1, .int x1), (3, .int x3), (4, .int x4), (5, .int x5), (6, .int x6), (7, .int x7), (8, .long (Int32.toInt64 ((S.1 37 (Int32.toNatClampNeg ((((36 : Int32) * x1) + ((6 : Int32) * (S.1 38 (Int32.toNatClampNeg x6)))) + (S.1 38 (Int32.toNatClampNeg x7))))) + (0 : Int32))))] rfl ?_
          refine z_iload (pc := 148) M dX5_determinant_148 4 rfl ?_
          refine z_iload (pc := 150) M dX5_determinant_150 6 rfl ?_
          refine z_iconst (pc := 152) (v := 1) M dX5_determinant_152 (by decide) ?_
          refine z_iadd (pc := 153) M dX5_determinant_153 ?_
          refine z_ishr (pc := 154) M dX5_determinant_154 ?_
          obtain ⟨r8, h9, h⟩ := bo_in h
          refine z_scall (pc := 155) (As := [.int (x5 >>> ((x7 + (1 : Int32)) &&& 31))]) M (kX5_sizeOf l (x5 >>> ((x7 + (1 : Int32)) &&& 31)) r8 h9) (va_cwS 1 M.1.2.2.2.2 gX5_determinant_X5_sizeOf rfl rfl rfl (by decide +kernel) ⟨Nat.le_of_ble_eq_true rfl, Nat.le_of_ble_eq_true rfl⟩) rfl rfl (Nat.le_of_ble_eq_true rfl) dX5_determinant_155 ?_
          refine z_iconst (pc := 158) (v := 2) M dX5_determinant_158 (by decide) ?_
          refine z_irem_c (pc := 159) M dX5_determinant_159 (by decide) ?_
          refine z_iconst (pc := 160) (v := 1) M dX5_determinant_160 (by decide) ?_
          refine z_icmp_ne (pc := 161) 168 M dX5_determinant_161 (by decide) h (fun c_12 h => ?_) (fun c_12 h => ?_)
          · refine z_iconst (pc := 168) (v := 0) M dX5_determinant_168 (by decide) ?_
            refine z_istore (pc := 169) M dX5_determinant_169 (by decide) [1, 2, 3, 4, 5, 6, 7, 8, 0] [(0, .ref (ad 12)), (1, .int x1), (3, .int x3), (4, .int x4), (5, .int x5), (6, .int x6), (7, .int x7), (8, .long (Int32.toInt64 ((S.1 37 (Int32.toNatClampNeg ((((36 : Int32) * x1) + ((6 : Int32) * (S.1 38 (Int32.toNatClampNeg x6)))) + (S.1 38 (Int32.toNatClampNeg x7))))) + (0 : Int32)))), (10, .int (0 : Int32))] rfl ?_
            refine z_aload_n (pc := 171) M dX5_determinant_171 rfl 0 rfl ?_
            refine z_get (pc := 172) (v := .ref (ad 39)) M K inX5_determinant_X5 o_mod rfl 4 (by decide) flX5_determinant_16 rfl rfl dX5_determinant_172 ?_
            refine z_iload (pc := 175) M dX5_determinant_175 4 rfl ?_
            refine z_dup2_11 (pc := 177) M dX5_determinant_177 rfl rfl ?_
            refine z_lald (pc := 178) M K ⟨by decide, rfl, rfl⟩ h dX5_determinant_178 (fun _ h => ?_)
            refine z_iload (pc := 179) M dX5_determinant_179 8 rfl ?_
            refine z_if_eq (pc := 181) 190 M dX5_determinant_181 (by decide) h (fun c_10 h => ?_) (fun c_10 h => ?_)
            · refine z_lload (pc := 190) M dX5_determinant_190 7 rfl ?_
              refine z_aload_n (pc := 192) M dX5_determinant_192 rfl 0 rfl ?_
              refine z_get (pc := 193) (v := .ref (ad 39)) M K inX5_determinant_X5 o_mod rfl 4 (by decide) flX5_determinant_16 rfl rfl dX5_determinant_193 ?_
              refine z_iload (pc := 196) M dX5_determinant_196 4 rfl ?_
              refine z_iconst (pc := 198) (v := 1) M dX5_determinant_198 (by decide) ?_
              refine z_iload (pc := 199) M dX5_determinant_199 6 rfl ?_
              refine z_ishl (pc := 201) M dX5_determinant_201 ?_
              refine z_iconst (pc := 202) (v := -1) M dX5_determinant_202 (by decide) ?_
              refine z_ixor (pc := 203) M dX5_determinant_203 ?_
              refine z_iand (pc := 204) M dX5_determinant_204 ?_
              refine z_lald (pc := 205) M K ⟨by decide, rfl, rfl⟩ h dX5_determinant_205 (fun _ h => ?_)
              refine z_lmul (pc := 206) M dX5_determinant_206 ?_
              refine z_ladd (pc := 207) M dX5_determinant_207 ?_
              refine z_last (pc := 208) M K ⟨by decide, rfl, rfl⟩ h dX5_determinant_208 (fun h => ?_)
              refine z_iinc (pc := 209) M dX5_determinant_209 (x7 + 1) rfl 6 rfl (by decide) [1, 2, 3, 4, 5, 6, 0, 7, 8] [(0, .ref (ad 12)), (1, .int x1), (3, .int x3), (4, .int x4), (5, .int x5), (6, .int x6), (7, .int (x7 + 1)), (8, .long (Int32.toInt64 ((S.1 37 (Int32.toNatClampNeg ((((36 : Int32) * x1) + ((6 : Int32) * (S.1 38 (Int32.toNatClampNeg x6)))) + (S.1 38 (Int32.toNatClampNeg x7))))) + (0 : Int32)))), (10, .int (0 : Int32))] rfl ?_
              refine z_goto (pc := 212) 84 M dX5_determinant_212 (by decide) ?_
              refine z_locals [0, 1, 2, 3, 4, 5, 6] [(0, .ref (ad 12)), (1, .int x1), (3, .int x3), (4, .int x4), (5, .int x5), (6, .int x6), (7, .int (x7 + 1))] rfl ?_
              exact ih (x7 + 1) (sJ S 39 (Int32.toNatClampNeg x5) ((S.2 39 (Int32.toNatClampNeg x5)) + ((Int32.toInt64 ((S.1 37 (Int32.toNatClampNeg ((((36 : Int32) * x1) + ((6 : Int32) * (S.1 38 (Int32.toNatClampNeg x6)))) + (S.1 38 (Int32.toNatClampNeg x7))))) + (0 : Int32))) * (S.2 39 (Int32.toNatClampNeg (x5 &&& (((1 : Int32) <<< (x7 &&& 31)) ^^^ (-1 : Int32)))))))) _ h hx
            · refine z_lload (pc := 184) M dX5_determinant_184 7 rfl ?_
              refine z_lneg (pc := 186) M dX5_determinant_186 ?_
              refine z_goto (pc := 187) 192 M dX5_determinant_187 (by decide) ?_
              refine z_aload_n (pc := 192) M dX5_determinant_192 rfl 0 rfl ?_
              refine z_get (pc := 193) (v := .ref (ad 39)) M K inX5_determinant_X5 o_mod rfl 4 (by decide) flX5_determinant_16 rfl rfl dX5_determinant_193 ?_
              refine z_iload (pc := 196) M dX5_determinant_196 4 rfl ?_
              refine z_iconst (pc := 198) (v := 1) M dX5_determinant_198 (by decide) ?_
              refine z_iload (pc := 199) M dX5_determinant_199 6 rfl ?_
              refine z_ishl (pc := 201) M dX5_determinant_201 ?_
              refine z_iconst (pc := 202) (v := -1) M dX5_determinant_202 (by decide) ?_
              refine z_ixor (pc := 203) M dX5_determinant_203 ?_
              refine z_iand (pc := 204) M dX5_determinant_204 ?_
              refine z_lald (pc := 205) M K ⟨by decide, rfl, rfl⟩ h dX5_determinant_205 (fun _ h => ?_)
              refine z_lmul (pc := 206) M dX5_determinant_206 ?_
              refine z_ladd (pc := 207) M dX5_determinant_207 ?_
              refine z_last (pc := 208) M K ⟨by decide, rfl, rfl⟩ h dX5_determinant_208 (fun h => ?_)
              refine z_iinc (pc := 209) M dX5_determinant_209 (x7 + 1) rfl 6 rfl (by decide) [1, 2, 3, 4, 5, 6, 0, 7, 8] [(0, .ref (ad 12)), (1, .int x1), (3, .int x3), (4, .int x4), (5, .int x5), (6, .int x6), (7, .int (x7 + 1)), (8, .long (Int32.toInt64 ((S.1 37 (Int32.toNatClampNeg ((((36 : Int32) * x1) + ((6 : Int32) * (S.1 38 (Int32.toNatClampNeg x6)))) + (S.1 38 (Int32.toNatClampNeg x7))))) + (0 : Int32)))), (10, .int (0 : Int32))] rfl ?_
              refine z_goto (pc := 212) 84 M dX5_determinant_212 (by decide) ?_
              refine z_locals [0, 1, 2, 3, 4, 5, 6] [(0, .ref (ad 12)), (1, .int x1), (3, .int x3), (4, .int x4), (5, .int x5), (6, .int x6), (7, .int (x7 + 1))] rfl ?_
              exact ih (x7 + 1) (sJ S 39 (Int32.toNatClampNeg x5) ((S.2 39 (Int32.toNatClampNeg x5)) + ((-(Int32.toInt64 ((S.1 37 (Int32.toNatClampNeg ((((36 : Int32) * x1) + ((6 : Int32) * (S.1 38 (Int32.toNatClampNeg x6)))) + (S.1 38 (Int32.toNatClampNeg x7))))) + (0 : Int32)))) * (S.2 39 (Int32.toNatClampNeg (x5 &&& (((1 : Int32) <<< (x7 &&& 31)) ^^^ (-1 : Int32)))))))) _ h hx
          · refine z_iconst (pc := 164) (v := 1) M dX5_determinant_164 (by decide) ?_
            refine z_goto (pc := 165) 169 M dX5_determinant_165 (by decide) ?_
            refine z_istore (pc := 169) M dX5_determinant_169 (by decide) [1, 2, 3, 4, 5, 6, 7, 8, 0] [(0, .ref (ad 12)), (1, .int x1), (3, .int x3), (4, .int x4), (5, .int x5), (6, .int x6), (7, .int x7), (8, .long (Int32.toInt64 ((S.1 37 (Int32.toNatClampNeg ((((36 : Int32) * x1) + ((6 : Int32) * (S.1 38 (Int32.toNatClampNeg x6)))) + (S.1 38 (Int32.toNatClampNeg x7))))) + (0 : Int32)))), (10, .int (1 : Int32))] rfl ?_
            refine z_aload_n (pc := 171) M dX5_determinant_171 rfl 0 rfl ?_
            refine z_get (pc := 172) (v := .ref (ad 39)) M K inX5_determinant_X5 o_mod rfl 4 (by decide) flX5_determinant_16 rfl rfl dX5_determinant_172 ?_
            refine z_iload (pc := 175) M dX5_determinant_175 4 rfl ?_
            refine z_dup2_11 (pc := 177) M dX5_determinant_177 rfl rfl ?_
            refine z_lald (pc := 178) M K ⟨by decide, rfl, rfl⟩ h dX5_determinant_178 (fun _ h => ?_)
            refine z_iload (pc := 179) M dX5_determinant_179 8 rfl ?_
            refine z_if_eq (pc := 181) 190 M dX5_determinant_181 (by decide) h (fun c_11 h => ?_) (fun c_11 h => ?_)
            · refine z_lload (pc := 190) M dX5_determinant_190 7 rfl ?_
              refine z_aload_n (pc := 192) M dX5_determinant_192 rfl 0 rfl ?_
              refine z_get (pc := 193) (v := .ref (ad 39)) M K inX5_determinant_X5 o_mod rfl 4 (by decide) flX5_determinant_16 rfl rfl dX5_determinant_193 ?_
              refine z_iload (pc := 196) M dX5_determinant_196 4 rfl ?_
              refine z_iconst (pc := 198) (v := 1) M dX5_determinant_198 (by decide) ?_
              refine z_iload (pc := 199) M dX5_determinant_199 6 rfl ?_
              refine z_ishl (pc := 201) M dX5_determinant_201 ?_
              refine z_iconst (pc := 202) (v := -1) M dX5_determinant_202 (by decide) ?_
              refine z_ixor (pc := 203) M dX5_determinant_203 ?_
              refine z_iand (pc := 204) M dX5_determinant_204 ?_
              refine z_lald (pc := 205) M K ⟨by decide, rfl, rfl⟩ h dX5_determinant_205 (fun _ h => ?_)
              refine z_lmul (pc := 206) M dX5_determinant_206 ?_
              refine z_ladd (pc := 207) M dX5_determinant_207 ?_
              refine z_last (pc := 208) M K ⟨by decide, rfl, rfl⟩ h dX5_determinant_208 (fun h => ?_)
              refine z_iinc (pc := 209) M dX5_determinant_209 (x7 + 1) rfl 6 rfl (by decide) [1, 2, 3, 4, 5, 6, 0, 7, 8] [(0, .ref (ad 12)), (1, .int x1), (3, .int x3), (4, .int x4), (5, .int x5), (6, .int x6), (7, .int (x7 + 1)), (8, .long (Int32.toInt64 ((S.1 37 (Int32.toNatClampNeg ((((36 : Int32) * x1) + ((6 : Int32) * (S.1 38 (Int32.toNatClampNeg x6)))) + (S.1 38 (Int32.toNatClampNeg x7))))) + (0 : Int32)))), (10, .int (1 : Int32))] rfl ?_
              refine z_goto (pc := 212) 84 M dX5_determinant_212 (by decide) ?_
              refine z_locals [0, 1, 2, 3, 4, 5, 6] [(0, .ref (ad 12)), (1, .int x1), (3, .int x3), (4, .int x4), (5, .int x5), (6, .int x6), (7, .int (x7 + 1))] rfl ?_
              exact ih (x7 + 1) (sJ S 39 (Int32.toNatClampNeg x5) ((S.2 39 (Int32.toNatClampNeg x5)) + ((Int32.toInt64 ((S.1 37 (Int32.toNatClampNeg ((((36 : Int32) * x1) + ((6 : Int32) * (S.1 38 (Int32.toNatClampNeg x6)))) + (S.1 38 (Int32.toNatClampNeg x7))))) + (0 : Int32))) * (S.2 39 (Int32.toNatClampNeg (x5 &&& (((1 : Int32) <<< (x7 &&& 31)) ^^^ (-1 : Int32)))))))) _ h hx
            · refine z_lload (pc := 184) M dX5_determinant_184 7 rfl ?_
              refine z_lneg (pc := 186) M dX5_determinant_186 ?_
              refine z_goto (pc := 187) 192 M dX5_determinant_187 (by decide) ?_
              refine z_aload_n (pc := 192) M dX5_determinant_192 rfl 0 rfl ?_
              refine z_get (pc := 193) (v := .ref (ad 39)) M K inX5_determinant_X5 o_mod rfl 4 (by decide) flX5_determinant_16 rfl rfl dX5_determinant_193 ?_
              refine z_iload (pc := 196) M dX5_determinant_196 4 rfl ?_
              refine z_iconst (pc := 198) (v := 1) M dX5_determinant_198 (by decide) ?_
              refine z_iload (pc := 199) M dX5_determinant_199 6 rfl ?_
              refine z_ishl (pc := 201) M dX5_determinant_201 ?_
              refine z_iconst (pc := 202) (v := -1) M dX5_determinant_202 (by decide) ?_
              refine z_ixor (pc := 203) M dX5_determinant_203 ?_
              refine z_iand (pc := 204) M dX5_determinant_204 ?_
              refine z_lald (pc := 205) M K ⟨by decide, rfl, rfl⟩ h dX5_determinant_205 (fun _ h => ?_)
              refine z_lmul (pc := 206) M dX5_determinant_206 ?_
              refine z_ladd (pc := 207) M dX5_determinant_207 ?_
              refine z_last (pc := 208) M K ⟨by decide, rfl, rfl⟩ h dX5_determinant_208 (fun h => ?_)
              refine z_iinc (pc := 209) M dX5_determinant_209 (x7 + 1) rfl 6 rfl (by decide) [1, 2, 3, 4, 5, 6, 0, 7, 8] [(0, .ref (ad 12)), (1, .int x1), (3, .int x3), (4, .int x4), (5, .int x5), (6, .int x6), (7, .int (x7 + 1)), (8, .long (Int32.toInt64 ((S.1 37 (Int32.toNatClampNeg ((((36 : Int32) * x1) + ((6 : Int32) * (S.1 38 (Int32.toNatClampNeg x6)))) + (S.1 38 (Int32.toNatClampNeg x7))))) + (0 : Int32)))), (10, .int (1 : Int32))] rfl ?_
              refine z_goto (pc := 212) 84 M dX5_determinant_212 (by decide) ?_
              refine z_locals [0, 1, 2, 3, 4, 5, 6] [(0, .ref (ad 12)), (1, .int x1), (3, .int x3), (4, .int x4), (5, .int x5), (6, .int x6), (7, .int (x7 + 1))] rfl ?_
              exact ih (x7 + 1) (sJ S 39 (Int32.toNatClampNeg x5) ((S.2 39 (Int32.toNatClampNeg x5)) + ((-(Int32.toInt64 ((S.1 37 (Int32.toNatClampNeg ((((36 : Int32) * x1) + ((6 : Int32) * (S.1 38 (Int32.toNatClampNeg x6)))) + (S.1 38 (Int32.toNatClampNeg x7))))) + (0 : Int32)))) * (S.2 39 (Int32.toNatClampNeg (x5 &&& (((1 : Int32) <<< (x7 &&& 31)) ^^^ (-1 : Int32)))))))) _ h hx
        · refine z_iload_n (pc := 139) M dX5_determinant_139 rfl 2 rfl ?_
          refine z_goto (pc := 140) 144 M dX5_determinant_140 (by decide) ?_
          refine z_iadd (pc := 144) M dX5_determinant_144 ?_
          refine z_i2l (pc := 145) M dX5_determinant_145 ?_
          refine z_lstore (pc := 146) M dX5_determinant_146 (by decide) [1, 2, 3, 4, 5, 6, 7, 0] [(0, .ref (ad 12)), (1, .int x1), (3, .int x3), (4, .int x4), (5, .int x5), (6, .int x6), (7, .int x7), (8, .long (Int32.toInt64 ((S.1 37 (Int32.toNatClampNeg ((((36 : Int32) * x1) + ((6 : Int32) * (S.1 38 (Int32.toNatClampNeg x6)))) + (S.1 38 (Int32.toNatClampNeg x7))))) + x3)))] rfl ?_
          refine z_iload (pc := 148) M dX5_determinant_148 4 rfl ?_
          refine z_iload (pc := 150) M dX5_determinant_150 6 rfl ?_
          refine z_iconst (pc := 152) (v := 1) M dX5_determinant_152 (by decide) ?_
          refine z_iadd (pc := 153) M dX5_determinant_153 ?_
          refine z_ishr (pc := 154) M dX5_determinant_154 ?_
          obtain ⟨r13, h14, h⟩ := bo_in h
          refine z_scall (pc := 155) (As := [.int (x5 >>> ((x7 + (1 : Int32)) &&& 31))]) M (kX5_sizeOf l (x5 >>> ((x7 + (1 : Int32)) &&& 31)) r13 h14) (va_cwS 1 M.1.2.2.2.2 gX5_determinant_X5_sizeOf rfl rfl rfl (by decide +kernel) ⟨Nat.le_of_ble_eq_true rfl, Nat.le_of_ble_eq_true rfl⟩) rfl rfl (Nat.le_of_ble_eq_true rfl) dX5_determinant_155 ?_
          refine z_iconst (pc := 158) (v := 2) M dX5_determinant_158 (by decide) ?_
          refine z_irem_c (pc := 159) M dX5_determinant_159 (by decide) ?_
          refine z_iconst (pc := 160) (v := 1) M dX5_determinant_160 (by decide) ?_
          refine z_icmp_ne (pc := 161) 168 M dX5_determinant_161 (by decide) h (fun c_17 h => ?_) (fun c_17 h => ?_)
          · refine z_iconst (pc := 168) (v := 0) M dX5_determinant_168 (by decide) ?_
            refine z_istore (pc := 169) M dX5_determinant_169 (by decide) [1, 2, 3, 4, 5, 6, 7, 8, 0] [(0, .ref (ad 12)), (1, .int x1), (3, .int x3), (4, .int x4), (5, .int x5), (6, .int x6), (7, .int x7), (8, .long (Int32.toInt64 ((S.1 37 (Int32.toNatClampNeg ((((36 : Int32) * x1) + ((6 : Int32) * (S.1 38 (Int32.toNatClampNeg x6)))) + (S.1 38 (Int32.toNatClampNeg x7))))) + x3))), (10, .int (0 : Int32))] rfl ?_
            refine z_aload_n (pc := 171) M dX5_determinant_171 rfl 0 rfl ?_
            refine z_get (pc := 172) (v := .ref (ad 39)) M K inX5_determinant_X5 o_mod rfl 4 (by decide) flX5_determinant_16 rfl rfl dX5_determinant_172 ?_
            refine z_iload (pc := 175) M dX5_determinant_175 4 rfl ?_
            refine z_dup2_11 (pc := 177) M dX5_determinant_177 rfl rfl ?_
            refine z_lald (pc := 178) M K ⟨by decide, rfl, rfl⟩ h dX5_determinant_178 (fun _ h => ?_)
            refine z_iload (pc := 179) M dX5_determinant_179 8 rfl ?_
            refine z_if_eq (pc := 181) 190 M dX5_determinant_181 (by decide) h (fun c_15 h => ?_) (fun c_15 h => ?_)
            · refine z_lload (pc := 190) M dX5_determinant_190 7 rfl ?_
              refine z_aload_n (pc := 192) M dX5_determinant_192 rfl 0 rfl ?_
              refine z_get (pc := 193) (v := .ref (ad 39)) M K inX5_determinant_X5 o_mod rfl 4 (by decide) flX5_determinant_16 rfl rfl dX5_determinant_193 ?_
              refine z_iload (pc := 196) M dX5_determinant_196 4 rfl ?_
              refine z_iconst (pc := 198) (v := 1) M dX5_determinant_198 (by decide) ?_
              refine z_iload (pc := 199) M dX5_determinant_199 6 rfl ?_
              refine z_ishl (pc := 201) M dX5_determinant_201 ?_
              refine z_iconst (pc := 202) (v := -1) M dX5_determinant_202 (by decide) ?_
              refine z_ixor (pc := 203) M dX5_determinant_203 ?_
              refine z_iand (pc := 204) M dX5_determinant_204 ?_
              refine z_lald (pc := 205) M K ⟨by decide, rfl, rfl⟩ h dX5_determinant_205 (fun _ h => ?_)
              refine z_lmul (pc := 206) M dX5_determinant_206 ?_
              refine z_ladd (pc := 207) M dX5_determinant_207 ?_
              refine z_last (pc := 208) M K ⟨by decide, rfl, rfl⟩ h dX5_determinant_208 (fun h => ?_)
              refine z_iinc (pc := 209) M dX5_determinant_209 (x7 + 1) rfl 6 rfl (by decide) [1, 2, 3, 4, 5, 6, 0, 7, 8] [(0, .ref (ad 12)), (1, .int x1), (3, .int x3), (4, .int x4), (5, .int x5), (6, .int x6), (7, .int (x7 + 1)), (8, .long (Int32.toInt64 ((S.1 37 (Int32.toNatClampNeg ((((36 : Int32) * x1) + ((6 : Int32) * (S.1 38 (Int32.toNatClampNeg x6)))) + (S.1 38 (Int32.toNatClampNeg x7))))) + x3))), (10, .int (0 : Int32))] rfl ?_
              refine z_goto (pc := 212) 84 M dX5_determinant_212 (by decide) ?_
              refine z_locals [0, 1, 2, 3, 4, 5, 6] [(0, .ref (ad 12)), (1, .int x1), (3, .int x3), (4, .int x4), (5, .int x5), (6, .int x6), (7, .int (x7 + 1))] rfl ?_
              exact ih (x7 + 1) (sJ S 39 (Int32.toNatClampNeg x5) ((S.2 39 (Int32.toNatClampNeg x5)) + ((Int32.toInt64 ((S.1 37 (Int32.toNatClampNeg ((((36 : Int32) * x1) + ((6 : Int32) * (S.1 38 (Int32.toNatClampNeg x6)))) + (S.1 38 (Int32.toNatClampNeg x7))))) + x3)) * (S.2 39 (Int32.toNatClampNeg (x5 &&& (((1 : Int32) <<< (x7 &&& 31)) ^^^ (-1 : Int32)))))))) _ h hx
            · refine z_lload (pc := 184) M dX5_determinant_184 7 rfl ?_
              refine z_lneg (pc := 186) M dX5_determinant_186 ?_
              refine z_goto (pc := 187) 192 M dX5_determinant_187 (by decide) ?_
              refine z_aload_n (pc := 192) M dX5_determinant_192 rfl 0 rfl ?_
              refine z_get (pc := 193) (v := .ref (ad 39)) M K inX5_determinant_X5 o_mod rfl 4 (by decide) flX5_determinant_16 rfl rfl dX5_determinant_193 ?_
              refine z_iload (pc := 196) M dX5_determinant_196 4 rfl ?_
              refine z_iconst (pc := 198) (v := 1) M dX5_determinant_198 (by decide) ?_
              refine z_iload (pc := 199) M dX5_determinant_199 6 rfl ?_
              refine z_ishl (pc := 201) M dX5_determinant_201 ?_
              refine z_iconst (pc := 202) (v := -1) M dX5_determinant_202 (by decide) ?_
              refine z_ixor (pc := 203) M dX5_determinant_203 ?_
              refine z_iand (pc := 204) M dX5_determinant_204 ?_
              refine z_lald (pc := 205) M K ⟨by decide, rfl, rfl⟩ h dX5_determinant_205 (fun _ h => ?_)
              refine z_lmul (pc := 206) M dX5_determinant_206 ?_
              refine z_ladd (pc := 207) M dX5_determinant_207 ?_
              refine z_last (pc := 208) M K ⟨by decide, rfl, rfl⟩ h dX5_determinant_208 (fun h => ?_)
              refine z_iinc (pc := 209) M dX5_determinant_209 (x7 + 1) rfl 6 rfl (by decide) [1, 2, 3, 4, 5, 6, 0, 7, 8] [(0, .ref (ad 12)), (1, .int x1), (3, .int x3), (4, .int x4), (5, .int x5), (6, .int x6), (7, .int (x7 + 1)), (8, .long (Int32.toInt64 ((S.1 37 (Int32.toNatClampNeg ((((36 : Int32) * x1) + ((6 : Int32) * (S.1 38 (Int32.toNatClampNeg x6)))) + (S.1 38 (Int32.toNatClampNeg x7))))) + x3))), (10, .int (0 : Int32))] rfl ?_
              refine z_goto (pc := 212) 84 M dX5_determinant_212 (by decide) ?_
              refine z_locals [0, 1, 2, 3, 4, 5, 6] [(0, .ref (ad 12)), (1, .int x1), (3, .int x3), (4, .int x4), (5, .int x5), (6, .int x6), (7, .int (x7 + 1))] rfl ?_
              exact ih (x7 + 1) (sJ S 39 (Int32.toNatClampNeg x5) ((S.2 39 (Int32.toNatClampNeg x5)) + ((-(Int32.toInt64 ((S.1 37 (Int32.toNatClampNeg ((((36 : Int32) * x1) + ((6 : Int32) * (S.1 38 (Int32.toNatClampNeg x6)))) + (S.1 38 (Int32.toNatClampNeg x7))))) + x3))) * (S.2 39 (Int32.toNatClampNeg (x5 &&& (((1 : Int32) <<< (x7 &&& 31)) ^^^ (-1 : Int32)))))))) _ h hx
          · refine z_iconst (pc := 164) (v := 1) M dX5_determinant_164 (by decide) ?_
            refine z_goto (pc := 165) 169 M dX5_determinant_165 (by decide) ?_
            refine z_istore (pc := 169) M dX5_determinant_169 (by decide) [1, 2, 3, 4, 5, 6, 7, 8, 0] [(0, .ref (ad 12)), (1, .int x1), (3, .int x3), (4, .int x4), (5, .int x5), (6, .int x6), (7, .int x7), (8, .long (Int32.toInt64 ((S.1 37 (Int32.toNatClampNeg ((((36 : Int32) * x1) + ((6 : Int32) * (S.1 38 (Int32.toNatClampNeg x6)))) + (S.1 38 (Int32.toNatClampNeg x7))))) + x3))), (10, .int (1 : Int32))] rfl ?_
            refine z_aload_n (pc := 171) M dX5_determinant_171 rfl 0 rfl ?_
            refine z_get (pc := 172) (v := .ref (ad 39)) M K inX5_determinant_X5 o_mod rfl 4 (by decide) flX5_determinant_16 rfl rfl dX5_determinant_172 ?_
            refine z_iload (pc := 175) M dX5_determinant_175 4 rfl ?_
            refine z_dup2_11 (pc := 177) M dX5_determinant_177 rfl rfl ?_
            refine z_lald (pc := 178) M K ⟨by decide, rfl, rfl⟩ h dX5_determinant_178 (fun _ h => ?_)
            refine z_iload (pc := 179) M dX5_determinant_179 8 rfl ?_
            refine z_if_eq (pc := 181) 190 M dX5_determinant_181 (by decide) h (fun c_16 h => ?_) (fun c_16 h => ?_)
            · refine z_lload (pc := 190) M dX5_determinant_190 7 rfl ?_
              refine z_aload_n (pc := 192) M dX5_determinant_192 rfl 0 rfl ?_
              refine z_get (pc := 193) (v := .ref (ad 39)) M K inX5_determinant_X5 o_mod rfl 4 (by decide) flX5_determinant_16 rfl rfl dX5_determinant_193 ?_
              refine z_iload (pc := 196) M dX5_determinant_196 4 rfl ?_
              refine z_iconst (pc := 198) (v := 1) M dX5_determinant_198 (by decide) ?_
              refine z_iload (pc := 199) M dX5_determinant_199 6 rfl ?_
              refine z_ishl (pc := 201) M dX5_determinant_201 ?_
              refine z_iconst (pc := 202) (v := -1) M dX5_determinant_202 (by decide) ?_
              refine z_ixor (pc := 203) M dX5_determinant_203 ?_
              refine z_iand (pc := 204) M dX5_determinant_204 ?_
              refine z_lald (pc := 205) M K ⟨by decide, rfl, rfl⟩ h dX5_determinant_205 (fun _ h => ?_)
              refine z_lmul (pc := 206) M dX5_determinant_206 ?_
              refine z_ladd (pc := 207) M dX5_determinant_207 ?_
              refine z_last (pc := 208) M K ⟨by decide, rfl, rfl⟩ h dX5_determinant_208 (fun h => ?_)
              refine z_iinc (pc := 209) M dX5_determinant_209 (x7 + 1) rfl 6 rfl (by decide) [1, 2, 3, 4, 5, 6, 0, 7, 8] [(0, .ref (ad 12)), (1, .int x1), (3, .int x3), (4, .int x4), (5, .int x5), (6, .int x6), (7, .int (x7 + 1)), (8, .long (Int32.toInt64 ((S.1 37 (Int32.toNatClampNeg ((((36 : Int32) * x1) + ((6 : Int32) * (S.1 38 (Int32.toNatClampNeg x6)))) + (S.1 38 (Int32.toNatClampNeg x7))))) + x3))), (10, .int (1 : Int32))] rfl ?_
              refine z_goto (pc := 212) 84 M dX5_determinant_212 (by decide) ?_
              refine z_locals [0, 1, 2, 3, 4, 5, 6] [(0, .ref (ad 12)), (1, .int x1), (3, .int x3), (4, .int x4), (5, .int x5), (6, .int x6), (7, .int (x7 + 1))] rfl ?_
              exact ih (x7 + 1) (sJ S 39 (Int32.toNatClampNeg x5) ((S.2 39 (Int32.toNatClampNeg x5)) + ((Int32.toInt64 ((S.1 37 (Int32.toNatClampNeg ((((36 : Int32) * x1) + ((6 : Int32) * (S.1 38 (Int32.toNatClampNeg x6)))) + (S.1 38 (Int32.toNatClampNeg x7))))) + x3)) * (S.2 39 (Int32.toNatClampNeg (x5 &&& (((1 : Int32) <<< (x7 &&& 31)) ^^^ (-1 : Int32)))))))) _ h hx
            · refine z_lload (pc := 184) M dX5_determinant_184 7 rfl ?_
              refine z_lneg (pc := 186) M dX5_determinant_186 ?_
              refine z_goto (pc := 187) 192 M dX5_determinant_187 (by decide) ?_
              refine z_aload_n (pc := 192) M dX5_determinant_192 rfl 0 rfl ?_
              refine z_get (pc := 193) (v := .ref (ad 39)) M K inX5_determinant_X5 o_mod rfl 4 (by decide) flX5_determinant_16 rfl rfl dX5_determinant_193 ?_
              refine z_iload (pc := 196) M dX5_determinant_196 4 rfl ?_
              refine z_iconst (pc := 198) (v := 1) M dX5_determinant_198 (by decide) ?_
              refine z_iload (pc := 199) M dX5_determinant_199 6 rfl ?_
              refine z_ishl (pc := 201) M dX5_determinant_201 ?_
              refine z_iconst (pc := 202) (v := -1) M dX5_determinant_202 (by decide) ?_
              refine z_ixor (pc := 203) M dX5_determinant_203 ?_
              refine z_iand (pc := 204) M dX5_determinant_204 ?_
              refine z_lald (pc := 205) M K ⟨by decide, rfl, rfl⟩ h dX5_determinant_205 (fun _ h => ?_)
              refine z_lmul (pc := 206) M dX5_determinant_206 ?_
              refine z_ladd (pc := 207) M dX5_determinant_207 ?_
              refine z_last (pc := 208) M K ⟨by decide, rfl, rfl⟩ h dX5_determinant_208 (fun h => ?_)
              refine z_iinc (pc := 209) M dX5_determinant_209 (x7 + 1) rfl 6 rfl (by decide) [1, 2, 3, 4, 5, 6, 0, 7, 8] [(0, .ref (ad 12)), (1, .int x1), (3, .int x3), (4, .int x4), (5, .int x5), (6, .int x6), (7, .int (x7 + 1)), (8, .long (Int32.toInt64 ((S.1 37 (Int32.toNatClampNeg ((((36 : Int32) * x1) + ((6 : Int32) * (S.1 38 (Int32.toNatClampNeg x6)))) + (S.1 38 (Int32.toNatClampNeg x7))))) + x3))), (10, .int (1 : Int32))] rfl ?_
              refine z_goto (pc := 212) 84 M dX5_determinant_212 (by decide) ?_
              refine z_locals [0, 1, 2, 3, 4, 5, 6] [(0, .ref (ad 12)), (1, .int x1), (3, .int x3), (4, .int x4), (5, .int x5), (6, .int x6), (7, .int (x7 + 1))] rfl ?_
              exact ih (x7 + 1) (sJ S 39 (Int32.toNatClampNeg x5) ((S.2 39 (Int32.toNatClampNeg x5)) + ((-(Int32.toInt64 ((S.1 37 (Int32.toNatClampNeg ((((36 : Int32) * x1) + ((6 : Int32) * (S.1 38 (Int32.toNatClampNeg x6)))) + (S.1 38 (Int32.toNatClampNeg x7))))) + x3))) * (S.2 39 (Int32.toNatClampNeg (x5 &&& (((1 : Int32) <<< (x7 &&& 31)) ^^^ (-1 : Int32)))))))) _ h hx
      · refine z_goto (pc := 101) 209 M dX5_determinant_101 (by decide) ?_
        refine z_iinc (pc := 209) M dX5_determinant_209 (x7 + 1) rfl 6 rfl (by decide) [1, 2, 3, 4, 5, 6, 0] [(0, .ref (ad 12)), (1, .int x1), (3, .int x3), (4, .int x4), (5, .int x5), (6, .int x6), (7, .int (x7 + 1))] rfl ?_
        refine z_goto (pc := 212) 84 M dX5_determinant_212 (by decide) ?_
        refine z_locals [0, 1, 2, 3, 4, 5, 6] [(0, .ref (ad 12)), (1, .int x1), (3, .int x3), (4, .int x4), (5, .int x5), (6, .int x6), (7, .int (x7 + 1))] rfl ?_
        exact ih (x7 + 1) S _ h hx
set_option maxRecDepth 100000 in
set_option maxHeartbeats 4000000 in
theorem LX5_determinant_2 {p : Program} {l : Launch} {e : Env} {s : State} {m : MethodId} {args : Array Value} {below : List Frame} {meth : Method} {c : Code} {Q : State → Prop} {D : va_G} {cy ad : Nat → Nat} {n : Nat} (M : MX p m c cX5_determinant 11 s args wsX5_determinant RX5 meth (some .long)) (K : KK D cy ad s) (x1 : Int32) (x3 : Int32) (x4 : Int32)   : ∀ (fuel : Nat) (x5 : Int32) (S : St) (o : (Unit) × St), lX5_determinant_2 n x1 x3 x4 fuel x5 S = some o → ∀ (hx : ∀ a S', o = (a, S') → Zz p l e rmX5_determinant s m args below meth c 11 Q (Hw D cy ad n s S') 221 [(0, .ref (ad 12)), (4, .int x4)] []) , Zz p l e rmX5_determinant s m args below meth c 11 Q (Hw D cy ad n s S) 55 [(0, .ref (ad 12)), (1, .int x1), (3, .int x3), (4, .int x4), (5, .int x5)] [] := by
  intro fuel
  induction fuel with
  | zero => intro x5 S o h; exact nomatch (show (none : Option _) = some o from h)
  | succ fuel ih =>
    intro x5 S o h hx 
    have h : bX5_determinant_2 n x1 x3 x4 (lX5_determinant_2 n x1 x3 x4 fuel) x5 S = some o := h
    unfold bX5_determinant_2 at h
    refine z_iload (pc := 55) M dX5_determinant_55 4 rfl ?_
    refine z_iconst (pc := 57) (v := 1) M dX5_determinant_57 (by decide) ?_
    refine z_iload (pc := 58) M dX5_determinant_58 3 rfl ?_
    refine z_ishl (pc := 60) M dX5_determinant_60 ?_
    refine z_icmp_ge (pc := 61) 221 M dX5_determinant_61 (by decide) h (fun c_24 h => ?_) (fun c_24 h => ?_)
    · refine z_locals [0, 3] [(0, .ref (ad 12)), (4, .int x4)] rfl ?_
      cases h
      exact hx _ _ rfl
    · refine z_iload (pc := 64) M dX5_determinant_64 4 rfl ?_
      obtain ⟨r6, h7, h⟩ := bo_in h
      refine z_scall (pc := 66) (As := [.int x5]) M (kX5_sizeOf l x5 r6 h7) (va_cwS 1 M.1.2.2.2.2 gX5_determinant_X5_sizeOf rfl rfl rfl (by decide +kernel) ⟨Nat.le_of_ble_eq_true rfl, Nat.le_of_ble_eq_true rfl⟩) rfl rfl (Nat.le_of_ble_eq_true rfl) dX5_determinant_66 ?_
      refine z_iconst (pc := 69) (v := 1) M dX5_determinant_69 (by decide) ?_
      refine z_isub (pc := 70) M dX5_determinant_70 ?_
      refine z_istore (pc := 71) M dX5_determinant_71 (by decide) [1, 2, 3, 4, 5, 0] [(0, .ref (ad 12)), (1, .int x1), (3, .int x3), (4, .int x4), (5, .int x5), (6, .int (r6 - (1 : Int32)))] rfl ?_
      refine z_aload_n (pc := 73) M dX5_determinant_73 rfl 0 rfl ?_
      refine z_get (pc := 74) (v := .ref (ad 39)) M K inX5_determinant_X5 o_mod rfl 4 (by decide) flX5_determinant_16 rfl rfl dX5_determinant_74 ?_
      refine z_iload (pc := 77) M dX5_determinant_77 4 rfl ?_
      refine z_lconst (pc := 79) (v := 0) M dX5_determinant_79 (by decide) ?_
      refine z_last (pc := 80) M K ⟨by decide, rfl, rfl⟩ h dX5_determinant_80 (fun h => ?_)
      refine z_iconst (pc := 81) (v := 0) M dX5_determinant_81 (by decide) ?_
      refine z_istore (pc := 82) M dX5_determinant_82 (by decide) [1, 2, 3, 4, 5, 6, 0] [(0, .ref (ad 12)), (1, .int x1), (3, .int x3), (4, .int x4), (5, .int x5), (6, .int (r6 - (1 : Int32))), (7, .int (0 : Int32))] rfl ?_
      refine z_locals [0, 1, 2, 3, 4, 5, 6] [(0, .ref (ad 12)), (1, .int x1), (3, .int x3), (4, .int x4), (5, .int x5), (6, .int (r6 - (1 : Int32))), (7, .int (0 : Int32))] rfl ?_
      obtain ⟨q21, S23, h22, h⟩ := bw_in h
      refine LX5_determinant_3 M K x1 x3 x4 x5 (r6 - (1 : Int32)) FU (0 : Int32) (sJ S 39 (Int32.toNatClampNeg x5) (0 : Int64)) _ h22 (fun a S' hE => ?_)
      cases hE
      refine z_iinc (pc := 215) M dX5_determinant_215 (x5 + 1) rfl 4 rfl (by decide) [1, 2, 3, 4, 0] [(0, .ref (ad 12)), (1, .int x1), (3, .int x3), (4, .int x4), (5, .int (x5 + 1))] rfl ?_
      refine z_goto (pc := 218) 55 M dX5_determinant_218 (by decide) ?_
      refine z_locals [0, 1, 2, 3, 4] [(0, .ref (ad 12)), (1, .int x1), (3, .int x3), (4, .int x4), (5, .int (x5 + 1))] rfl ?_
      exact ih (x5 + 1) S23 _ h hx
set_option maxRecDepth 100000 in
set_option maxHeartbeats 4000000 in
theorem kX5_determinant (l : Launch) (D : va_G) (cy ad : Nat → Nat) (n : Nat) (p0 : Int32) (p1 : Int32) (p2 : Int32) (S : St) (r : Int64) (S' : St) (h : fX5_determinant n p0 p1 p2 S = some (r, S')) : CW l D cy ad n yX5_determinant wsX5_determinant rmX5_determinant [.ref (ad 12), .int p0, .int p1, .int p2] S (some (.long r)) S' := by
  refine CW.of (cc := cX5_determinant) (nL := 11) (ret := (some .long)) (own := RX5) rfl (by decide +kernel) rfl (Nat.le_of_ble_eq_true rfl) ?_
  intro p e s m args below meth c M K
  unfold fX5_determinant at h
  refine z_locals [0, 1, 2, 3] [(0, .ref (ad 12)), (1, .int p0), (2, .int p1), (3, .int p2)] rfl ?_
  refine z_iconst (pc := 0) (v := 0) M dX5_determinant_0 (by decide) ?_
  refine z_istore (pc := 1) M dX5_determinant_1 (by decide) [1, 2, 3, 4, 0] [(0, .ref (ad 12)), (1, .int p0), (2, .int p1), (3, .int p2), (4, .int (0 : Int32))] rfl ?_
  refine z_iconst (pc := 3) (v := 0) M dX5_determinant_3 (by decide) ?_
  refine z_istore (pc := 4) M dX5_determinant_4 (by decide) [1, 2, 3, 4, 5, 0] [(0, .ref (ad 12)), (1, .int p0), (2, .int p1), (3, .int p2), (4, .int (0 : Int32)), (5, .int (0 : Int32))] rfl ?_
  refine z_locals [0, 1, 2, 3, 4, 5] [(0, .ref (ad 12)), (1, .int p0), (2, .int p1), (3, .int p2), (4, .int (0 : Int32)), (5, .int (0 : Int32))] rfl ?_
  obtain ⟨q3, S5, h4, h⟩ := bw_in h
  refine LX5_determinant_1 M K p0 p1 p2 FU (0 : Int32) (0 : Int32) S _ h4 (fun a S' hE => ?_)
  cases hE
  refine z_aload_n (pc := 45) M dX5_determinant_45 rfl 0 rfl ?_
  refine z_get (pc := 46) (v := .ref (ad 39)) M K inX5_determinant_X5 o_mod rfl 4 (by decide) flX5_determinant_16 rfl rfl dX5_determinant_46 ?_
  refine z_iconst (pc := 49) (v := 0) M dX5_determinant_49 (by decide) ?_
  refine z_lconst (pc := 50) (v := 1) M dX5_determinant_50 (by decide) ?_
  refine z_last (pc := 51) M K ⟨by decide, rfl, rfl⟩ h dX5_determinant_51 (fun h => ?_)
  refine z_iconst (pc := 52) (v := 1) M dX5_determinant_52 (by decide) ?_
  refine z_istore (pc := 53) M dX5_determinant_53 (by decide) [1, 2, 3, 4, 0] [(0, .ref (ad 12)), (1, .int p0), (3, .int p2), (4, .int q3), (5, .int (1 : Int32))] rfl ?_
  refine z_locals [0, 1, 2, 3, 4] [(0, .ref (ad 12)), (1, .int p0), (3, .int p2), (4, .int q3), (5, .int (1 : Int32))] rfl ?_
  obtain ⟨q25, S27, h26, h⟩ := bw_in h
  refine LX5_determinant_2 M K p0 p2 q3 FU (1 : Int32) (sJ S5 39 (Int32.toNatClampNeg (0 : Int32)) (1 : Int64)) _ h26 (fun a S' hE => ?_)
  cases hE
  refine z_aload_n (pc := 221) M dX5_determinant_221 rfl 0 rfl ?_
  refine z_get (pc := 222) (v := .ref (ad 39)) M K inX5_determinant_X5 o_mod rfl 4 (by decide) flX5_determinant_16 rfl rfl dX5_determinant_222 ?_
  refine z_iconst (pc := 225) (v := 1) M dX5_determinant_225 (by decide) ?_
  refine z_iload (pc := 226) M dX5_determinant_226 1 rfl ?_
  refine z_ishl (pc := 228) M dX5_determinant_228 ?_
  refine z_iconst (pc := 229) (v := 1) M dX5_determinant_229 (by decide) ?_
  refine z_isub (pc := 230) M dX5_determinant_230 ?_
  refine z_lald (pc := 231) M K ⟨by decide, rfl, rfl⟩ h dX5_determinant_231 (fun _ h => ?_)
  exact z_lretW (pc := 232) M (congrArg Prod.fst (Option.some.inj h)) (congrArg Prod.snd (Option.some.inj h)) dX5_determinant_232
def rmX5_worth : Room := { frames := 2, cells := 0, slots := 0, locals := 52 }
set_option maxRecDepth 100000 in
set_option maxHeartbeats 4000000 in
theorem kX5_worth (l : Launch) (D : va_G) (cy ad : Nat → Nat) (n : Nat) (p0 : Int32) (p1 : Int32) (S : St) (r : Int64) (S' : St) (h : fX5_worth n p0 p1 S = some (r, S')) : CW l D cy ad n yX5_worth wsX5_worth rmX5_worth [.ref (ad 12), .int p0, .int p1] S (some (.long r)) S' := by
  refine CW.of (cc := cX5_worth) (nL := 3) (ret := (some .long)) (own := RX5) rfl (by decide +kernel) rfl (Nat.le_of_ble_eq_true rfl) ?_
  intro p e s m args below meth c M K
  unfold fX5_worth at h
  refine z_locals [0, 1, 2] [(0, .ref (ad 12)), (1, .int p0), (2, .int p1)] rfl ?_
  refine z_iload_n (pc := 0) M dX5_worth_0 rfl 1 rfl ?_
  obtain ⟨r1, h2, h⟩ := bo_in h
  refine z_scall (pc := 1) (As := [.int p0]) M (kX5_isPlace l p0 r1 h2) (va_cwS 1 M.1.2.2.2.2 gX5_worth_X5_isPlace rfl rfl rfl (by decide +kernel) ⟨Nat.le_of_ble_eq_true rfl, Nat.le_of_ble_eq_true rfl⟩) rfl rfl (Nat.le_of_ble_eq_true rfl) dX5_worth_1 ?_
  refine z_if_eqB (pc := 4) 25 M dX5_worth_4 (by decide) h (fun c_9 h => ?_) (fun c_9 h => ?_)
  · refine z_lconst (pc := 25) (v := 0) M dX5_worth_25 (by decide) ?_
    exact z_lretW (pc := 26) M (congrArg Prod.fst (Option.some.inj h)) (congrArg Prod.snd (Option.some.inj h)) dX5_worth_26
  · refine z_aload_n (pc := 7) M dX5_worth_7 rfl 0 rfl ?_
    refine z_iload_n (pc := 8) M dX5_worth_8 rfl 2 rfl ?_
    obtain ⟨r3, h4, h⟩ := bo_in h
    refine z_vcall (pc := 9) (As := [.int p1]) M K (kX5_isSet l D cy ad n p1 S r3 h4) (cwV 1 M.1.2.2.2.2 gX5_worth_X5_isSet rfl rfl rfl (by decide +kernel) ⟨Nat.le_of_ble_eq_true rfl, Nat.le_of_ble_eq_true rfl⟩) o_mod rfl rfl rfl (Nat.le_of_ble_eq_true rfl) dX5_worth_9 ?_
    refine z_if_eqB (pc := 12) 25 M dX5_worth_12 (by decide) h (fun c_8 h => ?_) (fun c_8 h => ?_)
    · refine z_lconst (pc := 25) (v := 0) M dX5_worth_25 (by decide) ?_
      exact z_lretW (pc := 26) M (congrArg Prod.fst (Option.some.inj h)) (congrArg Prod.snd (Option.some.inj h)) dX5_worth_26
    · refine z_aload_n (pc := 15) M dX5_worth_15 rfl 0 rfl ?_
      refine z_iload_n (pc := 16) M dX5_worth_16 rfl 1 rfl ?_
      refine z_iload_n (pc := 17) M dX5_worth_17 rfl 2 rfl ?_
      refine z_iconst (pc := 18) (v := 0) M dX5_worth_18 (by decide) ?_
      obtain ⟨r5, S7, h6, h⟩ := bw_in h
      refine z_vcall (pc := 19) (As := [.int p0, .int p1, .int (0 : Int32)]) M K (kX5_determinant l D cy ad n p0 p1 (0 : Int32) S r5 S7 h6) (cwV 3 M.1.2.2.2.2 gX5_worth_X5_determinant rfl rfl rfl (by decide +kernel) ⟨Nat.le_of_ble_eq_true rfl, Nat.le_of_ble_eq_true rfl⟩) o_mod rfl rfl rfl (Nat.le_of_ble_eq_true rfl) dX5_worth_19 ?_
      refine z_goto (pc := 22) 26 M dX5_worth_22 (by decide) ?_
      exact z_lretW (pc := 26) M (congrArg Prod.fst (Option.some.inj h)) (congrArg Prod.snd (Option.some.inj h)) dX5_worth_26
def rmX5_why : Room := { frames := 2, cells := 0, slots := 0, locals := 52 }
theorem flX5_why_49 : Cond.fieldLink RX5 49 "ShunLotsModel" "sets" "I" ∈ wsX5_why := by decide +kernel
theorem inX5_why_X5 : ∀ w ∈ wsX50, w ∈ wsX5_why := by decide +kernel
set_option maxRecDepth 100000 in
set_option maxHeartbeats 4000000 in
theorem LX5_why_1 {p : Program} {l : Launch} {e : Env} {s : State} {m : MethodId} {args : Array Value} {below : List Frame} {meth : Method} {c : Code} {Q : State → Prop} {D : va_G} {cy ad : Nat → Nat} {n : Nat} (M : MX p m c cX5_why 3 s args wsX5_why RX5 meth (some .int)) (K : KK D cy ad s) (x1 : Int32)   : ∀ (fuel : Nat) (x2 : Int32) (S : St) (o : ((Unit) ⊕ Int32) × St), lX5_why_1 n x1 fuel x2 S = some o → ∀ (hx : ∀ a S', o = (.inl a, S') → Zz p l e rmX5_why s m args below meth c 3 Q (Hw D cy ad n s S') 37 [] []) (hq : ∀ r S', o = (.inr r, S') → Q = Qw D cy ad n below args s (some (.int r)) S'), Zz p l e rmX5_why s m args below meth c 3 Q (Hw D cy ad n s S) 2 [(0, .ref (ad 12)), (1, .int x1), (2, .int x2)] [] := by
  intro fuel
  induction fuel with
  | zero => intro x2 S o h; exact nomatch (show (none : Option _) = some o from h)
  | succ fuel ih =>
    intro x2 S o h hx hq
    have h : bX5_why_1 n x1 (lX5_why_1 n x1 fuel) x2 S = some o := h
    unfold bX5_why_1 at h
    refine z_iload_n (pc := 2) M dX5_why_2 rfl 2 rfl ?_
    refine z_aload_n (pc := 3) M dX5_why_3 rfl 0 rfl ?_
    refine z_get (pc := 4) (v := .int (nI (2 ^ n))) M K inX5_why_X5 o_mod rfl 1 (by decide) flX5_why_49 rfl rfl dX5_why_4 ?_
    refine z_icmp_ge (pc := 7) 37 M dX5_why_7 (by decide) h (fun c_8 h => ?_) (fun c_8 h => ?_)
    · refine z_locals [] [] rfl ?_
      cases h
      exact hx _ _ rfl
    · refine z_iload_n (pc := 10) M dX5_why_10 rfl 1 rfl ?_
      obtain ⟨r1, h2, h⟩ := bo_in h
      refine z_scall (pc := 11) (As := [.int x1]) M (kX5_isPlace l x1 r1 h2) (va_cwS 1 M.1.2.2.2.2 gX5_why_X5_isPlace rfl rfl rfl (by decide +kernel) ⟨Nat.le_of_ble_eq_true rfl, Nat.le_of_ble_eq_true rfl⟩) rfl rfl (Nat.le_of_ble_eq_true rfl) dX5_why_11 ?_
      refine z_if_eqB (pc := 14) 37 M dX5_why_14 (by decide) h (fun c_7 h => ?_) (fun c_7 h => ?_)
      · refine z_locals [] [] rfl ?_
        cases h
        exact hx _ _ rfl
      · refine z_aload_n (pc := 17) M dX5_why_17 rfl 0 rfl ?_
        refine z_iload_n (pc := 18) M dX5_why_18 rfl 1 rfl ?_
        refine z_iload_n (pc := 19) M dX5_why_19 rfl 2 rfl ?_
        refine z_iconst (pc := 20) (v := 0) M dX5_why_20 (by decide) ?_
        obtain ⟨r3, S5, h4, h⟩ := bw_in h
        refine z_vcall (pc := 21) (As := [.int x1, .int x2, .int (0 : Int32)]) M K (kX5_determinant l D cy ad n x1 x2 (0 : Int32) S r3 S5 h4) (cwV 3 M.1.2.2.2.2 gX5_why_X5_determinant rfl rfl rfl (by decide +kernel) ⟨Nat.le_of_ble_eq_true rfl, Nat.le_of_ble_eq_true rfl⟩) o_mod rfl rfl rfl (Nat.le_of_ble_eq_true rfl) dX5_why_21 ?_
        refine z_lconst (pc := 24) (v := 0) M dX5_why_24 (by decide) ?_
        refine z_lcmp (pc := 25) M dX5_why_25 ?_
        refine z_if_ge (pc := 26) 31 M dX5_why_26 (by decide) h (fun c_6 h => ?_) (fun c_6 h => ?_)
        · refine z_iinc (pc := 31) M dX5_why_31 (x2 + 1) rfl 2 rfl (by decide) [1, 2, 0] [(0, .ref (ad 12)), (1, .int x1), (2, .int (x2 + 1))] rfl ?_
          refine z_goto (pc := 34) 2 M dX5_why_34 (by decide) ?_
          refine z_locals [0, 1, 2] [(0, .ref (ad 12)), (1, .int x1), (2, .int (x2 + 1))] rfl ?_
          exact ih (x2 + 1) S5 _ h hx hq
        · refine z_iload_n (pc := 29) M dX5_why_29 rfl 2 rfl ?_
          cases h
          rw [hq _ _ rfl]
          exact z_iretW (pc := 30) M rfl rfl dX5_why_30
set_option maxRecDepth 100000 in
set_option maxHeartbeats 4000000 in
theorem kX5_why (l : Launch) (D : va_G) (cy ad : Nat → Nat) (n : Nat) (p0 : Int32) (S : St) (r : Int32) (S' : St) (h : fX5_why n p0 S = some (r, S')) : CW l D cy ad n yX5_why wsX5_why rmX5_why [.ref (ad 12), .int p0] S (some (.int r)) S' := by
  refine CW.of (cc := cX5_why) (nL := 3) (ret := (some .int)) (own := RX5) rfl (by decide +kernel) rfl (Nat.le_of_ble_eq_true rfl) ?_
  intro p e s m args below meth c M K
  unfold fX5_why at h
  refine z_locals [0, 1] [(0, .ref (ad 12)), (1, .int p0)] rfl ?_
  refine z_iconst (pc := 0) (v := 0) M dX5_why_0 (by decide) ?_
  refine z_istore_n (pc := 1) M dX5_why_1 rfl (by decide) [1, 2, 0] [(0, .ref (ad 12)), (1, .int p0), (2, .int (0 : Int32))] rfl ?_
  refine z_locals [0, 1, 2] [(0, .ref (ad 12)), (1, .int p0), (2, .int (0 : Int32))] rfl ?_
  rcases bsw_in h with ⟨q9, S11, h10, h⟩ | ⟨r9, S9, h10, h⟩
  · refine LX5_why_1 M K p0 FU (0 : Int32) S _ h10 (fun a S' hE => ?_) (fun r S' e9 => nomatch e9)
    cases hE
    refine z_iconst (pc := 37) (v := -1) M dX5_why_37 (by decide) ?_
    exact z_iretW (pc := 38) M (congrArg Prod.fst (Option.some.inj h)) (congrArg Prod.snd (Option.some.inj h)) dX5_why_38
  · exact LX5_why_1 M K p0 FU (0 : Int32) S _ h10 (fun a S' e9 => nomatch e9) (fun r S' e9 => by cases e9; cases h; rfl)
def rmX5_whole : Room := { frames := 2, cells := 0, slots := 0, locals := 52 }
theorem flX5_whole_49 : Cond.fieldLink RX5 49 "ShunLotsModel" "sets" "I" ∈ wsX5_whole := by decide +kernel
theorem inX5_whole_X5 : ∀ w ∈ wsX50, w ∈ wsX5_whole := by decide +kernel
set_option maxRecDepth 100000 in
set_option maxHeartbeats 4000000 in
theorem kX5_whole (l : Launch) (D : va_G) (cy ad : Nat → Nat) (n : Nat) (p0 : Int32) (S : St) (r : Int64) (S' : St) (h : fX5_whole n p0 S = some (r, S')) : CW l D cy ad n yX5_whole wsX5_whole rmX5_whole [.ref (ad 12), .int p0] S (some (.long r)) S' := by
  refine CW.of (cc := cX5_whole) (nL := 2) (ret := (some .long)) (own := RX5) rfl (by decide +kernel) rfl (Nat.le_of_ble_eq_true rfl) ?_
  intro p e s m args below meth c M K
  unfold fX5_whole at h
  refine z_locals [0, 1] [(0, .ref (ad 12)), (1, .int p0)] rfl ?_
  refine z_iload_n (pc := 0) M dX5_whole_0 rfl 1 rfl ?_
  obtain ⟨r1, h2, h⟩ := bo_in h
  refine z_scall (pc := 1) (As := [.int p0]) M (kX5_isPlace l p0 r1 h2) (va_cwS 1 M.1.2.2.2.2 gX5_whole_X5_isPlace rfl rfl rfl (by decide +kernel) ⟨Nat.le_of_ble_eq_true rfl, Nat.le_of_ble_eq_true rfl⟩) rfl rfl (Nat.le_of_ble_eq_true rfl) dX5_whole_1 ?_
  refine z_if_eqB (pc := 4) 22 M dX5_whole_4 (by decide) h (fun c_6 h => ?_) (fun c_6 h => ?_)
  · refine z_lconst (pc := 22) (v := 0) M dX5_whole_22 (by decide) ?_
    exact z_lretW (pc := 23) M (congrArg Prod.fst (Option.some.inj h)) (congrArg Prod.snd (Option.some.inj h)) dX5_whole_23
  · refine z_aload_n (pc := 7) M dX5_whole_7 rfl 0 rfl ?_
    refine z_iload_n (pc := 8) M dX5_whole_8 rfl 1 rfl ?_
    refine z_aload_n (pc := 9) M dX5_whole_9 rfl 0 rfl ?_
    refine z_get (pc := 10) (v := .int (nI (2 ^ n))) M K inX5_whole_X5 o_mod rfl 1 (by decide) flX5_whole_49 rfl rfl dX5_whole_10 ?_
    refine z_iconst (pc := 13) (v := 1) M dX5_whole_13 (by decide) ?_
    refine z_isub (pc := 14) M dX5_whole_14 ?_
    refine z_iconst (pc := 15) (v := 1) M dX5_whole_15 (by decide) ?_
    obtain ⟨r3, S5, h4, h⟩ := bw_in h
    refine z_vcall (pc := 16) (As := [.int p0, .int ((nI (2 ^ n)) - (1 : Int32)), .int (1 : Int32)]) M K (kX5_determinant l D cy ad n p0 ((nI (2 ^ n)) - (1 : Int32)) (1 : Int32) S r3 S5 h4) (cwV 3 M.1.2.2.2.2 gX5_whole_X5_determinant rfl rfl rfl (by decide +kernel) ⟨Nat.le_of_ble_eq_true rfl, Nat.le_of_ble_eq_true rfl⟩) o_mod rfl rfl rfl (Nat.le_of_ble_eq_true rfl) dX5_whole_16 ?_
    refine z_goto (pc := 19) 23 M dX5_whole_19 (by decide) ?_
    exact z_lretW (pc := 23) M (congrArg Prod.fst (Option.some.inj h)) (congrArg Prod.snd (Option.some.inj h)) dX5_whole_23
def rmX5_isLaw : Room := { frames := 2, cells := 0, slots := 0, locals := 42 }
theorem flX5_isLaw_29 : Cond.fieldLink RX5 29 "ShunLotsModel" "isMade" "[Z" ∈ wsX5_isLaw := by decide +kernel
theorem inX5_isLaw_X5 : ∀ w ∈ wsX50, w ∈ wsX5_isLaw := by decide +kernel
set_option maxRecDepth 100000 in
set_option maxHeartbeats 4000000 in
theorem kX5_isLaw (l : Launch) (D : va_G) (cy ad : Nat → Nat) (n : Nat) (p0 : Int32) (S : St) (r : Bool) (h : fX5_isLaw n p0 S = some r) : CW l D cy ad n yX5_isLaw wsX5_isLaw rmX5_isLaw [.ref (ad 12), .int p0] S (some (.int (b2i r))) S := by
  refine CW.of (cc := cX5_isLaw) (nL := 2) (ret := (some .boolean)) (own := RX5) rfl (by decide +kernel) rfl (Nat.le_of_ble_eq_true rfl) ?_
  intro p e s m args below meth c M K
  unfold fX5_isLaw at h
  refine z_locals [0, 1] [(0, .ref (ad 12)), (1, .int p0)] rfl ?_
  refine z_iload_n (pc := 0) M dX5_isLaw_0 rfl 1 rfl ?_
  obtain ⟨r1, h2, h⟩ := bo_in h
  refine z_scall (pc := 1) (As := [.int p0]) M (kX5_isPlace l p0 r1 h2) (va_cwS 1 M.1.2.2.2.2 gX5_isLaw_X5_isPlace rfl rfl rfl (by decide +kernel) ⟨Nat.le_of_ble_eq_true rfl, Nat.le_of_ble_eq_true rfl⟩) rfl rfl (Nat.le_of_ble_eq_true rfl) dX5_isLaw_1 ?_
  refine z_if_eqB (pc := 4) 20 M dX5_isLaw_4 (by decide) h (fun c_4 h => ?_) (fun c_4 h => ?_)
  · refine z_iconst (pc := 20) (v := 0) M dX5_isLaw_20 (by decide) ?_
    exact z_zretW (pc := 21) M (Option.some.inj h) rfl rfl dX5_isLaw_21
  · refine z_aload_n (pc := 7) M dX5_isLaw_7 rfl 0 rfl ?_
    refine z_get (pc := 8) (v := .ref (ad 43)) M K inX5_isLaw_X5 o_mod rfl 8 (by decide) flX5_isLaw_29 rfl rfl dX5_isLaw_8 ?_
    refine z_iload_n (pc := 11) M dX5_isLaw_11 rfl 1 rfl ?_
    refine z_zald (pc := 12) M K ⟨by decide, rfl, rfl⟩ h dX5_isLaw_12 (fun _ h => ?_)
    refine z_if_eq (pc := 13) 20 M dX5_isLaw_13 (by decide) h (fun c_3 h => ?_) (fun c_3 h => ?_)
    · refine z_iconst (pc := 20) (v := 0) M dX5_isLaw_20 (by decide) ?_
      exact z_zretW (pc := 21) M (Option.some.inj h) rfl rfl dX5_isLaw_21
    · refine z_iconst (pc := 16) (v := 1) M dX5_isLaw_16 (by decide) ?_
      refine z_goto (pc := 17) 21 M dX5_isLaw_17 (by decide) ?_
      exact z_zretW (pc := 21) M (Option.some.inj h) rfl rfl dX5_isLaw_21
