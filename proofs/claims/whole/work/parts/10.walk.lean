def rmX0_become : Room := { frames := 0, cells := 0, slots := 0, locals := 0 }
theorem flX0_become_13 : Cond.fieldLink RX0 13 "ShunLots$Law" "sum" "J" ∈ wsX0_become := by decide +kernel
theorem flX0_become_17 : Cond.fieldLink RX0 17 "ShunLots$Law" "made" "Z" ∈ wsX0_become := by decide +kernel
theorem flX0_become_7 : Cond.fieldLink RX0 7 "ShunLots$Law" "shares" "[J" ∈ wsX0_become := by decide +kernel
theorem inX0_become_X0 : ∀ w ∈ wsX00, w ∈ wsX0_become := by decide +kernel
set_option maxRecDepth 100000 in
set_option maxHeartbeats 4000000 in
theorem LX0_become_1 {p : Program} {l : Launch} {e : Env} {s : State} {m : MethodId} {args : Array Value} {below : List Frame} {meth : Method} {c : Code} {Q : State → Prop} {D : va_G} {cy ad : Nat → Nat} {n : Nat} (M : MX p m c cX0_become 3 s args wsX0_become RX0 meth none) (K : KK D cy ad s) (t0 : Nat) (h_t0 : t0 < 6)  : ∀ (fuel : Nat) (x2 : Int32) (S : St) (o : (Unit) × St), lX0_become_1 n t0 fuel x2 S = some o → ∀ (hx : ∀ a S', o = (a, S') → Zz p l e rmX0_become s m args below meth c 3 Q (Hw D cy ad n s S') 49 [(0, .ref (ad (25 + t0)))] []) , Zz p l e rmX0_become s m args below meth c 3 Q (Hw D cy ad n s S) 7 [(0, .ref (ad (25 + t0))), (1, .ref (ad 5)), (2, .int x2)] [] := by
  intro fuel
  induction fuel with
  | zero => intro x2 S o h; exact nomatch (show (none : Option _) = some o from h)
  | succ fuel ih =>
    intro x2 S o h hx 
    have h : bX0_become_1 n t0 (lX0_become_1 n t0 fuel) x2 S = some o := h
    unfold bX0_become_1 at h
    refine z_iload_n (pc := 7) M dX0_become_7 rfl 2 rfl ?_
    refine z_aload_n (pc := 8) M dX0_become_8 rfl 0 rfl ?_
    refine z_get (pc := 9) (v := .ref (ad (31 + t0))) M K inX0_become_X0 (o_law h_t0) rfl 0 (by decide) flX0_become_7 rfl rfl dX0_become_9 ?_
    refine z_alenJ (pc := 12) M K (ro_shr h_t0) dX0_become_12 ?_
    refine z_icmp_ge (pc := 13) 49 M dX0_become_13 (by decide) h (fun c_2 h => ?_) (fun c_2 h => ?_)
    · refine z_locals [0] [(0, .ref (ad (25 + t0)))] rfl ?_
      cases h
      exact hx _ _ rfl
    · refine z_iload_n (pc := 16) M dX0_become_16 rfl 2 rfl ?_
      refine z_aload_n (pc := 17) M dX0_become_17 rfl 1 rfl ?_
      refine z_alenJ (pc := 18) M K ⟨by decide, rfl, rfl⟩ dX0_become_18 ?_
      refine z_icmp_ge (pc := 19) 49 M dX0_become_19 (by decide) h (fun c_1 h => ?_) (fun c_1 h => ?_)
      · refine z_locals [0] [(0, .ref (ad (25 + t0)))] rfl ?_
        cases h
        exact hx _ _ rfl
      · refine z_aload_n (pc := 22) M dX0_become_22 rfl 0 rfl ?_
        refine z_get (pc := 23) (v := .ref (ad (31 + t0))) M K inX0_become_X0 (o_law h_t0) rfl 0 (by decide) flX0_become_7 rfl rfl dX0_become_23 ?_
        refine z_iload_n (pc := 26) M dX0_become_26 rfl 2 rfl ?_
        refine z_aload_n (pc := 27) M dX0_become_27 rfl 1 rfl ?_
        refine z_iload_n (pc := 28) M dX0_become_28 rfl 2 rfl ?_
        refine z_lald (pc := 29) M K ⟨by decide, rfl, rfl⟩ h dX0_become_29 (fun _ h => ?_)
        refine z_last (pc := 30) M K (ro_shr h_t0) h dX0_become_30 (fun h => ?_)
        refine z_aload_n (pc := 31) M dX0_become_31 rfl 0 rfl ?_
        refine z_dup (pc := 32) M dX0_become_32 rfl ?_
        refine z_get (pc := 33) (v := .long ((sJ S (31 + t0) (Int32.toNatClampNeg x2) (S.2 5 (Int32.toNatClampNeg x2))).2 (25 + t0) 0)) M K inX0_become_X0 (o_law h_t0) rfl 1 (by decide) flX0_become_13 rfl rfl dX0_become_33 ?_
        refine z_aload_n (pc := 36) M dX0_become_36 rfl 1 rfl ?_
        refine z_iload_n (pc := 37) M dX0_become_37 rfl 2 rfl ?_
        refine z_lald (pc := 38) M K ⟨by decide, rfl, rfl⟩ h dX0_become_38 (fun _ h => ?_)
        refine z_ladd (pc := 39) M dX0_become_39 ?_
        refine z_putW (pc := 40) (v := .long (((sJ S (31 + t0) (Int32.toNatClampNeg x2) (S.2 5 (Int32.toNatClampNeg x2))).2 (25 + t0) 0) + ((sJ S (31 + t0) (Int32.toNatClampNeg x2) (S.2 5 (Int32.toNatClampNeg x2))).2 5 (Int32.toNatClampNeg x2)))) (S := (sJ S (31 + t0) (Int32.toNatClampNeg x2) (S.2 5 (Int32.toNatClampNeg x2)))) (S' := (sJ (sJ S (31 + t0) (Int32.toNatClampNeg x2) (S.2 5 (Int32.toNatClampNeg x2))) (25 + t0) 0 (((sJ S (31 + t0) (Int32.toNatClampNeg x2) (S.2 5 (Int32.toNatClampNeg x2))).2 (25 + t0) 0) + ((sJ S (31 + t0) (Int32.toNatClampNeg x2) (S.2 5 (Int32.toNatClampNeg x2))).2 5 (Int32.toNatClampNeg x2))))) M K inX0_become_X0 tyX0 tyX0_ok nmX0 (o_law h_t0) rfl 1 (by decide) flX0_become_13 rfl rfl .long (by decide +kernel) rfl rfl (Nat.le_of_ble_eq_true rfl) (o_law h_t0) (by simp only [sI, sJ, va_up_self, upd, vp_updL, if_true, List.set]) (fun q hq => by constructor <;> first | rfl | exact va_up_ne _ _ hq) dX0_become_40 ?_
        refine z_iinc (pc := 43) M dX0_become_43 (x2 + 1) rfl 2 rfl (by decide) [1, 2, 0] [(0, .ref (ad (25 + t0))), (1, .ref (ad 5)), (2, .int (x2 + 1))] rfl ?_
        refine z_goto (pc := 46) 7 M dX0_become_46 (by decide) ?_
        refine z_locals [0, 1, 2] [(0, .ref (ad (25 + t0))), (1, .ref (ad 5)), (2, .int (x2 + 1))] rfl ?_
        exact ih (x2 + 1) (sJ (sJ S (31 + t0) (Int32.toNatClampNeg x2) (S.2 5 (Int32.toNatClampNeg x2))) (25 + t0) 0 (((sJ S (31 + t0) (Int32.toNatClampNeg x2) (S.2 5 (Int32.toNatClampNeg x2))).2 (25 + t0) 0) + ((sJ S (31 + t0) (Int32.toNatClampNeg x2) (S.2 5 (Int32.toNatClampNeg x2))).2 5 (Int32.toNatClampNeg x2)))) _ h hx
set_option maxRecDepth 100000 in
set_option maxHeartbeats 4000000 in
theorem kX0_become (l : Launch) (D : va_G) (cy ad : Nat → Nat) (n : Nat) (lw : Nat) (h_lw : lw < 6) (S : St) (r : Unit) (S' : St) (h : fX0_become n lw S = some (r, S')) : CW l D cy ad n yX0_become wsX0_become rmX0_become [.ref (ad (25 + lw)), .ref (ad 5)] S none S' := by
  refine CW.of (cc := cX0_become) (nL := 3) (ret := none) (own := RX0) rfl (by decide +kernel) rfl (Nat.le_of_ble_eq_true rfl) ?_
  intro p e s m args below meth c M K
  unfold fX0_become at h
  refine z_locals [0, 1] [(0, .ref (ad (25 + lw))), (1, .ref (ad 5))] rfl ?_
  refine z_aload_n (pc := 0) M dX0_become_0 rfl 0 rfl ?_
  refine z_lconst (pc := 1) (v := 0) M dX0_become_1 (by decide) ?_
  refine z_putW (pc := 2) (v := .long (0 : Int64)) (S := S) (S' := (sJ S (25 + lw) 0 (0 : Int64))) M K inX0_become_X0 tyX0 tyX0_ok nmX0 (o_law h_lw) rfl 1 (by decide) flX0_become_13 rfl rfl .long (by decide +kernel) rfl rfl (Nat.le_of_ble_eq_true rfl) (o_law h_lw) (by simp only [sI, sJ, va_up_self, upd, vp_updL, if_true, List.set]) (fun q hq => by constructor <;> first | rfl | exact va_up_ne _ _ hq) dX0_become_2 ?_
  refine z_iconst (pc := 5) (v := 0) M dX0_become_5 (by decide) ?_
  refine z_istore_n (pc := 6) M dX0_become_6 rfl (by decide) [1, 2, 0] [(0, .ref (ad (25 + lw))), (1, .ref (ad 5)), (2, .int (0 : Int32))] rfl ?_
  refine z_locals [0, 1, 2] [(0, .ref (ad (25 + lw))), (1, .ref (ad 5)), (2, .int (0 : Int32))] rfl ?_
  obtain ⟨q3, S5, h4, h⟩ := bw_in h
  refine LX0_become_1 M K lw h_lw FU (0 : Int32) (sJ S (25 + lw) 0 (0 : Int64)) _ h4 (fun a S' hE => ?_)
  cases hE
  refine z_aload_n (pc := 49) M dX0_become_49 rfl 0 rfl ?_
  refine z_iconst (pc := 50) (v := 1) M dX0_become_50 (by decide) ?_
  refine z_putW (pc := 51) (v := .int (1 : Int32)) (S := S5) (S' := (sI S5 (25 + lw) 0 (1 : Int32))) M K inX0_become_X0 tyX0 tyX0_ok nmX0 (o_law h_lw) rfl 2 (by decide) flX0_become_17 rfl rfl .boolean (by decide +kernel) rfl rfl (Nat.le_of_ble_eq_true rfl) (o_law h_lw) (by simp only [sI, sJ, va_up_self, upd, vp_updL, if_true, List.set]) (fun q hq => by constructor <;> first | rfl | exact va_up_ne _ _ hq) dX0_become_51 ?_
  exact z_vretW (pc := 54) M (congrArg Prod.snd (Option.some.inj h)) dX0_become_54
def rmX4_fits : Room := { frames := 0, cells := 0, slots := 0, locals := 0 }
set_option maxRecDepth 100000 in
set_option maxHeartbeats 4000000 in
theorem kX4_fits (l : Launch) (p0 : Int32) (p1 : Int32) (p2 : Int32) (r : Bool) (h : fX4_fits p0 p1 p2 = some r) : CP l yX4_fits wsX4_fits rmX4_fits [.int p0, .int p1, .int p2] (some (.int (b2i r))) := by
  refine CP.of (cc := cX4_fits) (nL := 3) (ret := (some .boolean)) (own := RX4) rfl (by decide +kernel) rfl (Nat.le_of_ble_eq_true rfl) ?_
  intro p e s m args below meth c M
  unfold fX4_fits at h
  refine z_locals [0, 1, 2] [(0, .int p0), (1, .int p1), (2, .int p2)] rfl ?_
  refine z_iload_n (pc := 0) M dX4_fits_0 rfl 0 rfl ?_
  refine z_iload_n (pc := 1) M dX4_fits_1 rfl 1 rfl ?_
  refine z_iand (pc := 2) M dX4_fits_2 ?_
  refine z_iload_n (pc := 3) M dX4_fits_3 rfl 1 rfl ?_
  refine z_icmp_ne (pc := 4) 17 M dX4_fits_4 (by decide) h (fun c_2 h => ?_) (fun c_2 h => ?_)
  · refine z_iconst (pc := 17) (v := 0) M dX4_fits_17 (by decide) ?_
    exact z_zretP (pc := 18) M h rfl dX4_fits_18
  · refine z_iload_n (pc := 7) M dX4_fits_7 rfl 0 rfl ?_
    refine z_iload_n (pc := 8) M dX4_fits_8 rfl 2 rfl ?_
    refine z_iand (pc := 9) M dX4_fits_9 ?_
    refine z_if_ne (pc := 10) 17 M dX4_fits_10 (by decide) h (fun c_1 h => ?_) (fun c_1 h => ?_)
    · refine z_iconst (pc := 17) (v := 0) M dX4_fits_17 (by decide) ?_
      exact z_zretP (pc := 18) M h rfl dX4_fits_18
    · refine z_iconst (pc := 13) (v := 1) M dX4_fits_13 (by decide) ?_
      refine z_goto (pc := 14) 18 M dX4_fits_14 (by decide) ?_
      exact z_zretP (pc := 18) M h rfl dX4_fits_18
def rmX0_sumFitting : Room := { frames := 1, cells := 0, slots := 0, locals := 22 }
theorem flX0_sumFitting_7 : Cond.fieldLink RX0 7 "ShunLots$Law" "shares" "[J" ∈ wsX0_sumFitting := by decide +kernel
theorem wdX0_sumFitting_Cond_initialized_RX4 : Cond.initialized RX4 ∈ wsX0_sumFitting := by decide +kernel
theorem wdX0_sumFitting_Cond_static_yX4_fits : Cond.static yX4_fits ∈ wsX0_sumFitting := by decide +kernel
theorem inX0_sumFitting_X0 : ∀ w ∈ wsX00, w ∈ wsX0_sumFitting := by decide +kernel
set_option maxRecDepth 100000 in
set_option maxHeartbeats 4000000 in
theorem LX0_sumFitting_1 {p : Program} {l : Launch} {e : Env} {s : State} {m : MethodId} {args : Array Value} {below : List Frame} {meth : Method} {c : Code} {Q : State → Prop} {D : va_G} {cy ad : Nat → Nat} {n : Nat} (M : MX p m c cX0_sumFitting 6 s args wsX0_sumFitting RX0 meth (some .long)) (K : KK D cy ad s) (t0 : Nat) (x1 : Int32) (x2 : Int32) (h_t0 : t0 < 6) (S : St) : ∀ (fuel : Nat) (x3 : Int64) (x5 : Int32) (o : (Int64)), lX0_sumFitting_1 n t0 x1 x2 S fuel x3 x5 = some o → ∀ (hx : ∀ a, o = a → Zz p l e rmX0_sumFitting s m args below meth c 6 Q (Hw D cy ad n s S) 41 [(3, .long a)] []) , Zz p l e rmX0_sumFitting s m args below meth c 6 Q (Hw D cy ad n s S) 5 [(0, .ref (ad (25 + t0))), (1, .int x1), (2, .int x2), (3, .long x3), (5, .int x5)] [] := by
  intro fuel
  induction fuel with
  | zero => intro x3 x5 o h; exact nomatch (show (none : Option _) = some o from h)
  | succ fuel ih =>
    intro x3 x5 o h hx 
    have h : bX0_sumFitting_1 n t0 x1 x2 S (lX0_sumFitting_1 n t0 x1 x2 S fuel) x3 x5 = some o := h
    unfold bX0_sumFitting_1 at h
    refine z_iload (pc := 5) M dX0_sumFitting_5 4 rfl ?_
    refine z_aload_n (pc := 7) M dX0_sumFitting_7 rfl 0 rfl ?_
    refine z_get (pc := 8) (v := .ref (ad (31 + t0))) M K inX0_sumFitting_X0 (o_law h_t0) rfl 0 (by decide) flX0_sumFitting_7 rfl rfl dX0_sumFitting_8 ?_
    refine z_alenJ (pc := 11) M K (ro_shr h_t0) dX0_sumFitting_11 ?_
    refine z_icmp_ge (pc := 12) 41 M dX0_sumFitting_12 (by decide) h (fun c_4 h => ?_) (fun c_4 h => ?_)
    · refine z_locals [3] [(3, .long x3)] rfl ?_
      cases h
      exact hx _ rfl
    · refine z_iload (pc := 15) M dX0_sumFitting_15 4 rfl ?_
      refine z_iload_n (pc := 17) M dX0_sumFitting_17 rfl 1 rfl ?_
      refine z_iload_n (pc := 18) M dX0_sumFitting_18 rfl 2 rfl ?_
      obtain ⟨r1, h2, h⟩ := bo_in h
      refine z_ncall (pc := 19) (As := [.int x5, .int x1, .int x2]) M (kX4_fits l x5 x1 x2 r1 h2) ⟨va_cnB 3 M.1.2.2.2.2 gX0_sumFitting_X4_fits_n21 rfl rfl rfl K.2.1.2.2.2 (M.1.2.2.2.2 _ wdX0_sumFitting_Cond_initialized_RX4) (by decide +kernel) ⟨Nat.le_of_ble_eq_true rfl, Nat.le_of_ble_eq_true rfl⟩, M.1.2.2.2.2 _ wdX0_sumFitting_Cond_static_yX4_fits, trivial⟩ rfl rfl (Nat.le_of_ble_eq_true rfl) dX0_sumFitting_19 ?_
      refine z_if_eqB (pc := 22) 35 M dX0_sumFitting_22 (by decide) h (fun c_3 h => ?_) (fun c_3 h => ?_)
      · refine z_iinc (pc := 35) M dX0_sumFitting_35 (x5 + 1) rfl 4 rfl (by decide) [1, 2, 3, 4, 0] [(0, .ref (ad (25 + t0))), (1, .int x1), (2, .int x2), (3, .long x3), (5, .int (x5 + 1))] rfl ?_
        refine z_goto (pc := 38) 5 M dX0_sumFitting_38 (by decide) ?_
        refine z_locals [0, 1, 2, 3, 4] [(0, .ref (ad (25 + t0))), (1, .int x1), (2, .int x2), (3, .long x3), (5, .int (x5 + 1))] rfl ?_
        exact ih x3 (x5 + 1) _ h hx
      · refine z_lload_n (pc := 25) M dX0_sumFitting_25 rfl 3 rfl ?_
        refine z_aload_n (pc := 26) M dX0_sumFitting_26 rfl 0 rfl ?_
        refine z_get (pc := 27) (v := .ref (ad (31 + t0))) M K inX0_sumFitting_X0 (o_law h_t0) rfl 0 (by decide) flX0_sumFitting_7 rfl rfl dX0_sumFitting_27 ?_
        refine z_iload (pc := 30) M dX0_sumFitting_30 4 rfl ?_
        refine z_lald (pc := 32) M K (ro_shr h_t0) h dX0_sumFitting_32 (fun _ h => ?_)
        refine z_ladd (pc := 33) M dX0_sumFitting_33 ?_
        refine z_lstore_n (pc := 34) M dX0_sumFitting_34 rfl (by decide) [1, 2, 3, 0, 4] [(0, .ref (ad (25 + t0))), (1, .int x1), (2, .int x2), (3, .long (x3 + (S.2 (31 + t0) (Int32.toNatClampNeg x5)))), (5, .int x5)] rfl ?_
        refine z_iinc (pc := 35) M dX0_sumFitting_35 (x5 + 1) rfl 4 rfl (by decide) [1, 2, 3, 4, 0] [(0, .ref (ad (25 + t0))), (1, .int x1), (2, .int x2), (3, .long (x3 + (S.2 (31 + t0) (Int32.toNatClampNeg x5)))), (5, .int (x5 + 1))] rfl ?_
        refine z_goto (pc := 38) 5 M dX0_sumFitting_38 (by decide) ?_
        refine z_locals [0, 1, 2, 3, 4] [(0, .ref (ad (25 + t0))), (1, .int x1), (2, .int x2), (3, .long (x3 + (S.2 (31 + t0) (Int32.toNatClampNeg x5)))), (5, .int (x5 + 1))] rfl ?_
        exact ih (x3 + (S.2 (31 + t0) (Int32.toNatClampNeg x5))) (x5 + 1) _ h hx
set_option maxRecDepth 100000 in
set_option maxHeartbeats 4000000 in
theorem kX0_sumFitting (l : Launch) (D : va_G) (cy ad : Nat → Nat) (n : Nat) (lw : Nat) (h_lw : lw < 6) (p0 : Int32) (p1 : Int32) (S : St) (r : Int64) (h : fX0_sumFitting n lw p0 p1 S = some r) : CW l D cy ad n yX0_sumFitting wsX0_sumFitting rmX0_sumFitting [.ref (ad (25 + lw)), .int p0, .int p1] S (some (.long r)) S := by
  refine CW.of (cc := cX0_sumFitting) (nL := 6) (ret := (some .long)) (own := RX0) rfl (by decide +kernel) rfl (Nat.le_of_ble_eq_true rfl) ?_
  intro p e s m args below meth c M K
  unfold fX0_sumFitting at h
  refine z_locals [0, 1, 2] [(0, .ref (ad (25 + lw))), (1, .int p0), (2, .int p1)] rfl ?_
  refine z_lconst (pc := 0) (v := 0) M dX0_sumFitting_0 (by decide) ?_
  refine z_lstore_n (pc := 1) M dX0_sumFitting_1 rfl (by decide) [1, 2, 3, 0] [(0, .ref (ad (25 + lw))), (1, .int p0), (2, .int p1), (3, .long (0 : Int64))] rfl ?_
  refine z_iconst (pc := 2) (v := 0) M dX0_sumFitting_2 (by decide) ?_
  refine z_istore (pc := 3) M dX0_sumFitting_3 (by decide) [1, 2, 3, 4, 0] [(0, .ref (ad (25 + lw))), (1, .int p0), (2, .int p1), (3, .long (0 : Int64)), (5, .int (0 : Int32))] rfl ?_
  refine z_locals [0, 1, 2, 3, 4] [(0, .ref (ad (25 + lw))), (1, .int p0), (2, .int p1), (3, .long (0 : Int64)), (5, .int (0 : Int32))] rfl ?_
  obtain ⟨q5, h6, h⟩ := bo_in h
  refine LX0_sumFitting_1 M K lw p0 p1 h_lw S FU (0 : Int64) (0 : Int32) _ h6 (fun a hE => ?_)
  cases hE
  refine z_lload_n (pc := 41) M dX0_sumFitting_41 rfl 0 rfl ?_
  exact z_lretW (pc := 42) M (Option.some.inj h) rfl dX0_sumFitting_42
def rmJ6_bitCount_0f7a4 : Room := { frames := 0, cells := 0, slots := 0, locals := 0 }
theorem wdJ6_bitCount_0f7a4_Cond_constant_RJ6_265_1431655765 : Cond.constant RJ6 265 (1431655765) ∈ wsJ6_bitCount_0f7a4 := by decide +kernel
theorem wdJ6_bitCount_0f7a4_Cond_constant_RJ6_266_858993459 : Cond.constant RJ6 266 (858993459) ∈ wsJ6_bitCount_0f7a4 := by decide +kernel
theorem wdJ6_bitCount_0f7a4_Cond_constant_RJ6_267_252645135 : Cond.constant RJ6 267 (252645135) ∈ wsJ6_bitCount_0f7a4 := by decide +kernel
set_option maxRecDepth 100000 in
set_option maxHeartbeats 4000000 in
theorem kJ6_bitCount_0f7a4 (l : Launch) (p0 : Int32) (r : Int32) (h : fJ6_bitCount_0f7a4 p0 = some r) : CP l yJ6_bitCount_0f7a4 wsJ6_bitCount_0f7a4 rmJ6_bitCount_0f7a4 [.int p0] (some (.int r)) := by
  refine CP.of (cc := cJ6_bitCount_0f7a4) (nL := 1) (ret := (some .int)) (own := RJ6) rfl (by decide +kernel) rfl (Nat.le_of_ble_eq_true rfl) ?_
  intro p e s m args below meth c M
  unfold fJ6_bitCount_0f7a4 at h
  refine z_locals [0] [(0, .int p0)] rfl ?_
  refine z_iload_n (pc := 0) M dJ6_bitCount_0f7a4_0 rfl 0 rfl ?_
  refine z_iload_n (pc := 1) M dJ6_bitCount_0f7a4_1 rfl 0 rfl ?_
  refine z_iconst (pc := 2) (v := 1) M dJ6_bitCount_0f7a4_2 (by decide) ?_
  refine z_iushr (pc := 3) M dJ6_bitCount_0f7a4_3 ?_
  refine z_ldcw (pc := 4) M wdJ6_bitCount_0f7a4_Cond_constant_RJ6_265_1431655765 dJ6_bitCount_0f7a4_4 ?_
  refine z_iand (pc := 7) M dJ6_bitCount_0f7a4_7 ?_
  refine z_isub (pc := 8) M dJ6_bitCount_0f7a4_8 ?_
  refine z_istore_n (pc := 9) M dJ6_bitCount_0f7a4_9 rfl (by decide) [0] [(0, .int (p0 - ((UInt32.toInt32 (Int32.toUInt32 p0 >>> (Int32.toUInt32 (1 : Int32) &&& Int32.toUInt32 31))) &&& (1431655765 : Int32))))] rfl ?_
  refine z_iload_n (pc := 10) M dJ6_bitCount_0f7a4_10 rfl 0 rfl ?_
  refine z_ldcw (pc := 11) M wdJ6_bitCount_0f7a4_Cond_constant_RJ6_266_858993459 dJ6_bitCount_0f7a4_11 ?_
  refine z_iand (pc := 14) M dJ6_bitCount_0f7a4_14 ?_
  refine z_iload_n (pc := 15) M dJ6_bitCount_0f7a4_15 rfl 0 rfl ?_
  refine z_iconst (pc := 16) (v := 2) M dJ6_bitCount_0f7a4_16 (by decide) ?_
  refine z_iushr (pc := 17) M dJ6_bitCount_0f7a4_17 ?_
  refine z_ldcw (pc := 18) M wdJ6_bitCount_0f7a4_Cond_constant_RJ6_266_858993459 dJ6_bitCount_0f7a4_18 ?_
  refine z_iand (pc := 21) M dJ6_bitCount_0f7a4_21 ?_
  refine z_iadd (pc := 22) M dJ6_bitCount_0f7a4_22 ?_
  refine z_istore_n (pc := 23) M dJ6_bitCount_0f7a4_23 rfl (by decide) [0] [(0, .int (((p0 - ((UInt32.toInt32 (Int32.toUInt32 p0 >>> (Int32.toUInt32 (1 : Int32) &&& Int32.toUInt32 31))) &&& (1431655765 : Int32))) &&& (858993459 : Int32)) + ((UInt32.toInt32 (Int32.toUInt32 (p0 - ((UInt32.toInt32 (Int32.toUInt32 p0 >>> (Int32.toUInt32 (1 : Int32) &&& Int32.toUInt32 31))) &&& (1431655765 : Int32))) >>> (Int32.toUInt32 (2 : Int32) &&& Int32.toUInt32 31))) &&& (858993459 : Int32))))] rfl ?_
  refine z_iload_n (pc := 24) M dJ6_bitCount_0f7a4_24 rfl 0 rfl ?_
  refine z_iload_n (pc := 25) M dJ6_bitCount_0f7a4_25 rfl 0 rfl ?_
  refine z_iconst (pc := 26) (v := 4) M dJ6_bitCount_0f7a4_26 (by decide) ?_
  refine z_iushr (pc := 27) M dJ6_bitCount_0f7a4_27 ?_
  refine z_iadd (pc := 28) M dJ6_bitCount_0f7a4_28 ?_
  refine z_ldcw (pc := 29) M wdJ6_bitCount_0f7a4_Cond_constant_RJ6_267_252645135 dJ6_bitCount_0f7a4_29 ?_
  refine z_iand (pc := 32) M dJ6_bitCount_0f7a4_32 ?_
  refine z_istore_n (pc := 33) M dJ6_bitCount_0f7a4_33 rfl (by decide) [0] [(0, .int (((((p0 - ((UInt32.toInt32 (Int32.toUInt32 p0 >>> (Int32.toUInt32 (1 : Int32) &&& Int32.toUInt32 31))) &&& (1431655765 : Int32))) &&& (858993459 : Int32)) + ((UInt32.toInt32 (Int32.toUInt32 (p0 - ((UInt32.toInt32 (Int32.toUInt32 p0 >>> (Int32.toUInt32 (1 : Int32) &&& Int32.toUInt32 31))) &&& (1431655765 : Int32))) >>> (Int32.toUInt32 (2 : Int32) &&& Int32.toUInt32 31))) &&& (858993459 : Int32))) + (UInt32.toInt32 (Int32.toUInt32 (((p0 - ((UInt32.toInt32 (Int32.toUInt32 p0 >>> (Int32.toUInt32 (1 : Int32) &&& Int32.toUInt32 31))) &&& (1431655765 : Int32))) &&& (858993459 : Int32)) + ((UInt32.toInt32 (Int32.toUInt32 (p0 - ((UInt32.toInt32 (Int32.toUInt32 p0 >>> (Int32.toUInt32 (1 : Int32) &&& Int32.toUInt32 31))) &&& (1431655765 : Int32))) >>> (Int32.toUInt32 (2 : Int32) &&& Int32.toUInt32 31))) &&& (858993459 : Int32))) >>> (Int32.toUInt32 (4 : Int32) &&& Int32.toUInt32 31)))) &&& (252645135 : Int32)))] rfl ?_
  refine z_iload_n (pc := 34) M dJ6_bitCount_0f7a4_34 rfl 0 rfl ?_
  refine z_iload_n (pc := 35) M dJ6_bitCount_0f7a4_35 rfl 0 rfl ?_
  refine z_bipush (pc := 36) (v := 8) M dJ6_bitCount_0f7a4_36 (by decide) ?_
  refine z_iushr (pc := 38) M dJ6_bitCount_0f7a4_38 ?_
  refine z_iadd (pc := 39) M dJ6_bitCount_0f7a4_39 ?_
  refine z_istore_n (pc := 40) M dJ6_bitCount_0f7a4_40 rfl (by decide) [0] [(0, .int ((((((p0 - ((UInt32.toInt32 (Int32.toUInt32 p0 >>> (Int32.toUInt32 (1 : Int32) &&& Int32.toUInt32 31))) &&& (1431655765 : Int32))) &&& (858993459 : Int32)) + ((UInt32.toInt32 (Int32.toUInt32 (p0 - ((UInt32.toInt32 (Int32.toUInt32 p0 >>> (Int32.toUInt32 (1 : Int32) &&& Int32.toUInt32 31))) &&& (1431655765 : Int32))) >>> (Int32.toUInt32 (2 : Int32) &&& Int32.toUInt32 31))) &&& (858993459 : Int32))) + (UInt32.toInt32 (Int32.toUInt32 (((p0 - ((UInt32.toInt32 (Int32.toUInt32 p0 >>> (Int32.toUInt32 (1 : Int32) &&& Int32.toUInt32 31))) &&& (1431655765 : Int32))) &&& (858993459 : Int32)) + ((UInt32.toInt32 (Int32.toUInt32 (p0 - ((UInt32.toInt32 (Int32.toUInt32 p0 >>> (Int32.toUInt32 (1 : Int32) &&& Int32.toUInt32 31))) &&& (1431655765 : Int32))) >>> (Int32.toUInt32 (2 : Int32) &&& Int32.toUInt32 31))) &&& (858993459 : Int32))) >>> (Int32.toUInt32 (4 : Int32) &&& Int32.toUInt32 31)))) &&& (252645135 : Int32)) + (UInt32.toInt32 (Int32.toUInt32 (((((p0 - ((UInt32.toInt32 (Int32.toUInt32 p0 >>> (Int32.toUInt32 (1 : Int32) &&& Int32.toUInt32 31))) &&& (1431655765 : Int32))) &&& (858993459 : Int32)) + ((UInt32.toInt32 (Int32.toUInt32 (p0 - ((UInt32.toInt32 (Int32.toUInt32 p0 >>> (Int32.toUInt32 (1 : Int32) &&& Int32.toUInt32 31))) &&& (1431655765 : Int32))) >>> (Int32.toUInt32 (2 : Int32) &&& Int32.toUInt32 31))) &&& (858993459 : Int32))) + (UInt32.toInt32 (Int32.toUInt32 (((p0 - ((UInt32.toInt32 (Int32.toUInt32 p0 >>> (Int32.toUInt32 (1 : Int32) &&& Int32.toUInt32 31))) &&& (1431655765 : Int32))) &&& (858993459 : Int32)) + ((UInt32.toInt32 (Int32.toUInt32 (p0 - ((UInt32.toInt32 (Int32.toUInt32 p0 >>> (Int32.toUInt32 (1 : Int32) &&& Int32.toUInt32 31))) &&& (1431655765 : Int32))) >>> (Int32.toUInt32 (2 : Int32) &&& Int32.toUInt32 31))) &&& (858993459 : Int32))) >>> (Int32.toUInt32 (4 : Int32) &&& Int32.toUInt32 31)))) &&& (252645135 : Int32)) >>> (Int32.toUInt32 (8 : Int32) &&& Int32.toUInt32 31)))))] rfl ?_
  refine z_iload_n (pc := 41) M dJ6_bitCount_0f7a4_41 rfl 0 rfl ?_
  refine z_iload_n (pc := 42) M dJ6_bitCount_0f7a4_42 rfl 0 rfl ?_
  refine z_bipush (pc := 43) (v := 16) M dJ6_bitCount_0f7a4_43 (by decide) ?_
  refine z_iushr (pc := 45) M dJ6_bitCount_0f7a4_45 ?_
  refine z_iadd (pc := 46) M dJ6_bitCount_0f7a4_46 ?_
  refine z_istore_n (pc := 47) M dJ6_bitCount_0f7a4_47 rfl (by decide) [0] [(0, .int (((((((p0 - ((UInt32.toInt32 (Int32.toUInt32 p0 >>> (Int32.toUInt32 (1 : Int32) &&& Int32.toUInt32 31))) &&& (1431655765 : Int32))) &&& (858993459 : Int32)) + ((UInt32.toInt32 (Int32.toUInt32 (p0 - ((UInt32.toInt32 (Int32.toUInt32 p0 >>> (Int32.toUInt32 (1 : Int32) &&& Int32.toUInt32 31))) &&& (1431655765 : Int32))) >>> (Int32.toUInt32 (2 : Int32) &&& Int32.toUInt32 31))) &&& (858993459 : Int32))) + (UInt32.toInt32 (Int32.toUInt32 (((p0 - ((UInt32.toInt32 (Int32.toUInt32 p0 >>> (Int32.toUInt32 (1 : Int32) &&& Int32.toUInt32 31))) &&& (1431655765 : Int32))) &&& (858993459 : Int32)) + ((UInt32.toInt32 (Int32.toUInt32 (p0 - ((UInt32.toInt32 (Int32.toUInt32 p0 >>> (Int32.toUInt32 (1 : Int32) &&& Int32.toUInt32 31))) &&& (1431655765 : Int32))) >>> (Int32.toUInt32 (2 : Int32) &&& Int32.toUInt32 31))) &&& (858993459 : Int32))) >>> (Int32.toUInt32 (4 : Int32) &&& Int32.toUInt32 31)))) &&& (252645135 : Int32)) + (UInt32.toInt32 (Int32.toUInt32 (((((p0 - ((UInt32.toInt32 (Int32.toUInt32 p0 >>> (Int32.toUInt32 (1 : Int32) &&& Int32.toUInt32 31))) &&& (1431655765 : Int32))) &&& (858993459 : Int32)) + ((UInt32.toInt32 (Int32.toUInt32 (p0 - ((UInt32.toInt32 (Int32.toUInt32 p0 >>> (Int32.toUInt32 (1 : Int32) &&& Int32.toUInt32 31))) &&& (1431655765 : Int32))) >>> (Int32.toUInt32 (2 : Int32) &&& Int32.toUInt32 31))) &&& (858993459 : Int32))) + (UInt32.toInt32 (Int32.toUInt32 (((p0 - ((UInt32.toInt32 (Int32.toUInt32 p0 >>> (Int32.toUInt32 (1 : Int32) &&& Int32.toUInt32 31))) &&& (1431655765 : Int32))) &&& (858993459 : Int32)) + ((UInt32.toInt32 (Int32.toUInt32 (p0 - ((UInt32.toInt32 (Int32.toUInt32 p0 >>> (Int32.toUInt32 (1 : Int32) &&& Int32.toUInt32 31))) &&& (1431655765 : Int32))) >>> (Int32.toUInt32 (2 : Int32) &&& Int32.toUInt32 31))) &&& (858993459 : Int32))) >>> (Int32.toUInt32 (4 : Int32) &&& Int32.toUInt32 31)))) &&& (252645135 : Int32)) >>> (Int32.toUInt32 (8 : Int32) &&& Int32.toUInt32 31)))) + (UInt32.toInt32 (Int32.toUInt32 ((((((p0 - ((UInt32.toInt32 (Int32.toUInt32 p0 >>> (Int32.toUInt32 (1 : Int32) &&& Int32.toUInt32 31))) &&& (1431655765 : Int32))) &&& (858993459 : Int32)) + ((UInt32.toInt32 (Int32.toUInt32 (p0 - ((UInt32.toInt32 (Int32.toUInt32 p0 >>> (Int32.toUInt32 (1 : Int32) &&& Int32.toUInt32 31))) &&& (1431655765 : Int32))) >>> (Int32.toUInt32 (2 : Int32) &&& Int32.toUInt32 31))) &&& (858993459 : Int32))) + (UInt32.toInt32 (Int32.toUInt32 (((p0 - ((UInt32.toInt32 (Int32.toUInt32 p0 >>> (Int32.toUInt32 (1 : Int32) &&& Int32.toUInt32 31))) &&& (1431655765 : Int32))) &&& (858993459 : Int32)) + ((UInt32.toInt32 (Int32.toUInt32 (p0 - ((UInt32.toInt32 (Int32.toUInt32 p0 >>> (Int32.toUInt32 (1 : Int32) &&& Int32.toUInt32 31))) &&& (1431655765 : Int32))) >>> (Int32.toUInt32 (2 : Int32) &&& Int32.toUInt32 31))) &&& (858993459 : Int32))) >>> (Int32.toUInt32 (4 : Int32) &&& Int32.toUInt32 31)))) &&& (252645135 : Int32)) + (UInt32.toInt32 (Int32.toUInt32 (((((p0 - ((UInt32.toInt32 (Int32.toUInt32 p0 >>> (Int32.toUInt32 (1 : Int32) &&& Int32.toUInt32 31))) &&& (1431655765 : Int32))) &&& (858993459 : Int32)) + ((UInt32.toInt32 (Int32.toUInt32 (p0 - ((UInt32.toInt32 (Int32.toUInt32 p0 >>> (Int32.toUInt32 (1 : Int32) &&& Int32.toUInt32 31))) &&& (1431655765 : Int32))) >>> (Int32.toUInt32 (2 : Int32) &&& Int32.toUInt32 31))) &&& (858993459 : Int32))) + (UInt32.toInt32 (Int32.toUInt32 (((p0 - ((UInt32.toInt32 (Int32.toUInt32 p0 >>> (Int32.toUInt32 (1 : Int32) &&& Int32.toUInt32 31))) &&& (1431655765 : Int32))) &&& (858993459 : Int32)) + ((UInt32.toInt32 (Int32.toUInt32 (p0 - ((UInt32.toInt32 (Int32.toUInt32 p0 >>> (Int32.toUInt32 (1 : Int32) &&& Int32.toUInt32 31))) &&& (1431655765 : Int32))) >>> (Int32.toUInt32 (2 : Int32) &&& Int32.toUInt32 31))) &&& (858993459 : Int32))) >>> (Int32.toUInt32 (4 : Int32) &&& Int32.toUInt32 31)))) &&& (252645135 : Int32)) >>> (Int32.toUInt32 (8 : Int32) &&& Int32.toUInt32 31)))) >>> (Int32.toUInt32 (16 : Int32) &&& Int32.toUInt32 31)))))] rfl ?_
  refine z_iload_n (pc := 48) M dJ6_bitCount_0f7a4_48 rfl 0 rfl ?_
  refine z_bipush (pc := 49) (v := 63) M dJ6_bitCount_0f7a4_49 (by decide) ?_
  refine z_iand (pc := 51) M dJ6_bitCount_0f7a4_51 ?_
  exact z_iretP (pc := 52) M h dJ6_bitCount_0f7a4_52
def rmX0_sumOfSize : Room := { frames := 1, cells := 0, slots := 0, locals := 20 }
theorem flX0_sumOfSize_7 : Cond.fieldLink RX0 7 "ShunLots$Law" "shares" "[J" ∈ wsX0_sumOfSize := by decide +kernel
theorem inX0_sumOfSize_X0 : ∀ w ∈ wsX00, w ∈ wsX0_sumOfSize := by decide +kernel
set_option maxRecDepth 100000 in
set_option maxHeartbeats 4000000 in
theorem LX0_sumOfSize_1 {p : Program} {l : Launch} {e : Env} {s : State} {m : MethodId} {args : Array Value} {below : List Frame} {meth : Method} {c : Code} {Q : State → Prop} {D : va_G} {cy ad : Nat → Nat} {n : Nat} (M : MX p m c cX0_sumOfSize 5 s args wsX0_sumOfSize RX0 meth (some .long)) (K : KK D cy ad s) (t0 : Nat) (x1 : Int32) (h_t0 : t0 < 6) (S : St) : ∀ (fuel : Nat) (x2 : Int64) (x4 : Int32) (o : (Int64)), lX0_sumOfSize_1 n t0 x1 S fuel x2 x4 = some o → ∀ (hx : ∀ a, o = a → Zz p l e rmX0_sumOfSize s m args below meth c 5 Q (Hw D cy ad n s S) 40 [(2, .long a)] []) , Zz p l e rmX0_sumOfSize s m args below meth c 5 Q (Hw D cy ad n s S) 5 [(0, .ref (ad (25 + t0))), (1, .int x1), (2, .long x2), (4, .int x4)] [] := by
  intro fuel
  induction fuel with
  | zero => intro x2 x4 o h; exact nomatch (show (none : Option _) = some o from h)
  | succ fuel ih =>
    intro x2 x4 o h hx 
    have h : bX0_sumOfSize_1 n t0 x1 S (lX0_sumOfSize_1 n t0 x1 S fuel) x2 x4 = some o := h
    unfold bX0_sumOfSize_1 at h
    refine z_iload (pc := 5) M dX0_sumOfSize_5 3 rfl ?_
    refine z_aload_n (pc := 7) M dX0_sumOfSize_7 rfl 0 rfl ?_
    refine z_get (pc := 8) (v := .ref (ad (31 + t0))) M K inX0_sumOfSize_X0 (o_law h_t0) rfl 0 (by decide) flX0_sumOfSize_7 rfl rfl dX0_sumOfSize_8 ?_
    refine z_alenJ (pc := 11) M K (ro_shr h_t0) dX0_sumOfSize_11 ?_
    refine z_icmp_ge (pc := 12) 40 M dX0_sumOfSize_12 (by decide) h (fun c_4 h => ?_) (fun c_4 h => ?_)
    · refine z_locals [2] [(2, .long x2)] rfl ?_
      cases h
      exact hx _ rfl
    · refine z_iload (pc := 15) M dX0_sumOfSize_15 3 rfl ?_
      obtain ⟨r1, h2, h⟩ := bo_in h
      refine z_scall (pc := 17) (As := [.int x4]) M (kJ6_bitCount_0f7a4 l x4 r1 h2) (va_cwS 1 M.1.2.2.2.2 gX0_sumOfSize_J6_bitCount_0f7a4 rfl rfl rfl (by decide +kernel) ⟨Nat.le_of_ble_eq_true rfl, Nat.le_of_ble_eq_true rfl⟩) rfl rfl (Nat.le_of_ble_eq_true rfl) dX0_sumOfSize_17 ?_
      refine z_iload_n (pc := 20) M dX0_sumOfSize_20 rfl 1 rfl ?_
      refine z_icmp_ne (pc := 21) 34 M dX0_sumOfSize_21 (by decide) h (fun c_3 h => ?_) (fun c_3 h => ?_)
      · refine z_iinc (pc := 34) M dX0_sumOfSize_34 (x4 + 1) rfl 3 rfl (by decide) [1, 2, 3, 0] [(0, .ref (ad (25 + t0))), (1, .int x1), (2, .long x2), (4, .int (x4 + 1))] rfl ?_
        refine z_goto (pc := 37) 5 M dX0_sumOfSize_37 (by decide) ?_
        refine z_locals [0, 1, 2, 3] [(0, .ref (ad (25 + t0))), (1, .int x1), (2, .long x2), (4, .int (x4 + 1))] rfl ?_
        exact ih x2 (x4 + 1) _ h hx
      · refine z_lload_n (pc := 24) M dX0_sumOfSize_24 rfl 2 rfl ?_
        refine z_aload_n (pc := 25) M dX0_sumOfSize_25 rfl 0 rfl ?_
        refine z_get (pc := 26) (v := .ref (ad (31 + t0))) M K inX0_sumOfSize_X0 (o_law h_t0) rfl 0 (by decide) flX0_sumOfSize_7 rfl rfl dX0_sumOfSize_26 ?_
        refine z_iload (pc := 29) M dX0_sumOfSize_29 3 rfl ?_
        refine z_lald (pc := 31) M K (ro_shr h_t0) h dX0_sumOfSize_31 (fun _ h => ?_)
        refine z_ladd (pc := 32) M dX0_sumOfSize_32 ?_
        refine z_lstore_n (pc := 33) M dX0_sumOfSize_33 rfl (by decide) [1, 2, 0, 3] [(0, .ref (ad (25 + t0))), (1, .int x1), (2, .long (x2 + (S.2 (31 + t0) (Int32.toNatClampNeg x4)))), (4, .int x4)] rfl ?_
        refine z_iinc (pc := 34) M dX0_sumOfSize_34 (x4 + 1) rfl 3 rfl (by decide) [1, 2, 3, 0] [(0, .ref (ad (25 + t0))), (1, .int x1), (2, .long (x2 + (S.2 (31 + t0) (Int32.toNatClampNeg x4)))), (4, .int (x4 + 1))] rfl ?_
        refine z_goto (pc := 37) 5 M dX0_sumOfSize_37 (by decide) ?_
        refine z_locals [0, 1, 2, 3] [(0, .ref (ad (25 + t0))), (1, .int x1), (2, .long (x2 + (S.2 (31 + t0) (Int32.toNatClampNeg x4)))), (4, .int (x4 + 1))] rfl ?_
        exact ih (x2 + (S.2 (31 + t0) (Int32.toNatClampNeg x4))) (x4 + 1) _ h hx
set_option maxRecDepth 100000 in
set_option maxHeartbeats 4000000 in
theorem kX0_sumOfSize (l : Launch) (D : va_G) (cy ad : Nat → Nat) (n : Nat) (lw : Nat) (h_lw : lw < 6) (p0 : Int32) (S : St) (r : Int64) (h : fX0_sumOfSize n lw p0 S = some r) : CW l D cy ad n yX0_sumOfSize wsX0_sumOfSize rmX0_sumOfSize [.ref (ad (25 + lw)), .int p0] S (some (.long r)) S := by
  refine CW.of (cc := cX0_sumOfSize) (nL := 5) (ret := (some .long)) (own := RX0) rfl (by decide +kernel) rfl (Nat.le_of_ble_eq_true rfl) ?_
  intro p e s m args below meth c M K
  unfold fX0_sumOfSize at h
  refine z_locals [0, 1] [(0, .ref (ad (25 + lw))), (1, .int p0)] rfl ?_
  refine z_lconst (pc := 0) (v := 0) M dX0_sumOfSize_0 (by decide) ?_
  refine z_lstore_n (pc := 1) M dX0_sumOfSize_1 rfl (by decide) [1, 2, 0] [(0, .ref (ad (25 + lw))), (1, .int p0), (2, .long (0 : Int64))] rfl ?_
  refine z_iconst (pc := 2) (v := 0) M dX0_sumOfSize_2 (by decide) ?_
  refine z_istore (pc := 3) M dX0_sumOfSize_3 (by decide) [1, 2, 3, 0] [(0, .ref (ad (25 + lw))), (1, .int p0), (2, .long (0 : Int64)), (4, .int (0 : Int32))] rfl ?_
  refine z_locals [0, 1, 2, 3] [(0, .ref (ad (25 + lw))), (1, .int p0), (2, .long (0 : Int64)), (4, .int (0 : Int32))] rfl ?_
  obtain ⟨q5, h6, h⟩ := bo_in h
  refine LX0_sumOfSize_1 M K lw p0 h_lw S FU (0 : Int64) (0 : Int32) _ h6 (fun a hE => ?_)
  cases hE
  refine z_lload_n (pc := 40) M dX0_sumOfSize_40 rfl 0 rfl ?_
  exact z_lretW (pc := 41) M (Option.some.inj h) rfl dX0_sumOfSize_41
def rmX0_sumOfCounts : Room := { frames := 1, cells := 0, slots := 0, locals := 20 }
theorem flX0_sumOfCounts_7 : Cond.fieldLink RX0 7 "ShunLots$Law" "shares" "[J" ∈ wsX0_sumOfCounts := by decide +kernel
theorem inX0_sumOfCounts_X0 : ∀ w ∈ wsX00, w ∈ wsX0_sumOfCounts := by decide +kernel
set_option maxRecDepth 100000 in
set_option maxHeartbeats 4000000 in
theorem LX0_sumOfCounts_1 {p : Program} {l : Launch} {e : Env} {s : State} {m : MethodId} {args : Array Value} {below : List Frame} {meth : Method} {c : Code} {Q : State → Prop} {D : va_G} {cy ad : Nat → Nat} {n : Nat} (M : MX p m c cX0_sumOfCounts 4 s args wsX0_sumOfCounts RX0 meth (some .long)) (K : KK D cy ad s) (t0 : Nat) (h_t0 : t0 < 6) (S : St) : ∀ (fuel : Nat) (x1 : Int64) (x3 : Int32) (o : (Int64)), lX0_sumOfCounts_1 n t0 S fuel x1 x3 = some o → ∀ (hx : ∀ a, o = a → Zz p l e rmX0_sumOfCounts s m args below meth c 4 Q (Hw D cy ad n s S) 34 [(1, .long a)] []) , Zz p l e rmX0_sumOfCounts s m args below meth c 4 Q (Hw D cy ad n s S) 4 [(0, .ref (ad (25 + t0))), (1, .long x1), (3, .int x3)] [] := by
  intro fuel
  induction fuel with
  | zero => intro x1 x3 o h; exact nomatch (show (none : Option _) = some o from h)
  | succ fuel ih =>
    intro x1 x3 o h hx 
    have h : bX0_sumOfCounts_1 n t0 S (lX0_sumOfCounts_1 n t0 S fuel) x1 x3 = some o := h
    unfold bX0_sumOfCounts_1 at h
    refine z_iload_n (pc := 4) M dX0_sumOfCounts_4 rfl 2 rfl ?_
    refine z_aload_n (pc := 5) M dX0_sumOfCounts_5 rfl 0 rfl ?_
    refine z_get (pc := 6) (v := .ref (ad (31 + t0))) M K inX0_sumOfCounts_X0 (o_law h_t0) rfl 0 (by decide) flX0_sumOfCounts_7 rfl rfl dX0_sumOfCounts_6 ?_
    refine z_alenJ (pc := 9) M K (ro_shr h_t0) dX0_sumOfCounts_9 ?_
    refine z_icmp_ge (pc := 10) 34 M dX0_sumOfCounts_10 (by decide) h (fun c_3 h => ?_) (fun c_3 h => ?_)
    · refine z_locals [1] [(1, .long x1)] rfl ?_
      cases h
      exact hx _ rfl
    · refine z_lload_n (pc := 13) M dX0_sumOfCounts_13 rfl 1 rfl ?_
      refine z_iload_n (pc := 14) M dX0_sumOfCounts_14 rfl 2 rfl ?_
      obtain ⟨r1, h2, h⟩ := bo_in h
      refine z_scall (pc := 15) (As := [.int x3]) M (kJ6_bitCount_0f7a4 l x3 r1 h2) (va_cwS 1 M.1.2.2.2.2 gX0_sumOfCounts_J6_bitCount_0f7a4 rfl rfl rfl (by decide +kernel) ⟨Nat.le_of_ble_eq_true rfl, Nat.le_of_ble_eq_true rfl⟩) rfl rfl (Nat.le_of_ble_eq_true rfl) dX0_sumOfCounts_15 ?_
      refine z_i2l (pc := 18) M dX0_sumOfCounts_18 ?_
      refine z_aload_n (pc := 19) M dX0_sumOfCounts_19 rfl 0 rfl ?_
      refine z_get (pc := 20) (v := .ref (ad (31 + t0))) M K inX0_sumOfCounts_X0 (o_law h_t0) rfl 0 (by decide) flX0_sumOfCounts_7 rfl rfl dX0_sumOfCounts_20 ?_
      refine z_iload_n (pc := 23) M dX0_sumOfCounts_23 rfl 2 rfl ?_
      refine z_lald (pc := 24) M K (ro_shr h_t0) h dX0_sumOfCounts_24 (fun _ h => ?_)
      refine z_lmul (pc := 25) M dX0_sumOfCounts_25 ?_
      refine z_ladd (pc := 26) M dX0_sumOfCounts_26 ?_
      refine z_lstore_n (pc := 27) M dX0_sumOfCounts_27 rfl (by decide) [1, 0, 2] [(0, .ref (ad (25 + t0))), (1, .long (x1 + ((Int32.toInt64 r1) * (S.2 (31 + t0) (Int32.toNatClampNeg x3))))), (3, .int x3)] rfl ?_
      refine z_iinc (pc := 28) M dX0_sumOfCounts_28 (x3 + 1) rfl 2 rfl (by decide) [1, 2, 0] [(0, .ref (ad (25 + t0))), (1, .long (x1 + ((Int32.toInt64 r1) * (S.2 (31 + t0) (Int32.toNatClampNeg x3))))), (3, .int (x3 + 1))] rfl ?_
      refine z_goto (pc := 31) 4 M dX0_sumOfCounts_31 (by decide) ?_
      refine z_locals [0, 1, 2] [(0, .ref (ad (25 + t0))), (1, .long (x1 + ((Int32.toInt64 r1) * (S.2 (31 + t0) (Int32.toNatClampNeg x3))))), (3, .int (x3 + 1))] rfl ?_
      exact ih (x1 + ((Int32.toInt64 r1) * (S.2 (31 + t0) (Int32.toNatClampNeg x3)))) (x3 + 1) _ h hx
set_option maxRecDepth 100000 in
set_option maxHeartbeats 4000000 in
theorem kX0_sumOfCounts (l : Launch) (D : va_G) (cy ad : Nat → Nat) (n : Nat) (lw : Nat) (h_lw : lw < 6) (S : St) (r : Int64) (h : fX0_sumOfCounts n lw S = some r) : CW l D cy ad n yX0_sumOfCounts wsX0_sumOfCounts rmX0_sumOfCounts [.ref (ad (25 + lw))] S (some (.long r)) S := by
  refine CW.of (cc := cX0_sumOfCounts) (nL := 4) (ret := (some .long)) (own := RX0) rfl (by decide +kernel) rfl (Nat.le_of_ble_eq_true rfl) ?_
  intro p e s m args below meth c M K
  unfold fX0_sumOfCounts at h
  refine z_locals [0] [(0, .ref (ad (25 + lw)))] rfl ?_
  refine z_lconst (pc := 0) (v := 0) M dX0_sumOfCounts_0 (by decide) ?_
  refine z_lstore_n (pc := 1) M dX0_sumOfCounts_1 rfl (by decide) [1, 0] [(0, .ref (ad (25 + lw))), (1, .long (0 : Int64))] rfl ?_
  refine z_iconst (pc := 2) (v := 0) M dX0_sumOfCounts_2 (by decide) ?_
  refine z_istore_n (pc := 3) M dX0_sumOfCounts_3 rfl (by decide) [1, 2, 0] [(0, .ref (ad (25 + lw))), (1, .long (0 : Int64)), (3, .int (0 : Int32))] rfl ?_
  refine z_locals [0, 1, 2] [(0, .ref (ad (25 + lw))), (1, .long (0 : Int64)), (3, .int (0 : Int32))] rfl ?_
  obtain ⟨q4, h5, h⟩ := bo_in h
  refine LX0_sumOfCounts_1 M K lw h_lw S FU (0 : Int64) (0 : Int32) _ h5 (fun a hE => ?_)
  cases hE
  refine z_lload_n (pc := 34) M dX0_sumOfCounts_34 rfl 0 rfl ?_
  exact z_lretW (pc := 35) M (Option.some.inj h) rfl dX0_sumOfCounts_35
def rmX0_sumOfSquares : Room := { frames := 1, cells := 0, slots := 0, locals := 20 }
theorem flX0_sumOfSquares_7 : Cond.fieldLink RX0 7 "ShunLots$Law" "shares" "[J" ∈ wsX0_sumOfSquares := by decide +kernel
theorem inX0_sumOfSquares_X0 : ∀ w ∈ wsX00, w ∈ wsX0_sumOfSquares := by decide +kernel
set_option maxRecDepth 100000 in
set_option maxHeartbeats 4000000 in
theorem LX0_sumOfSquares_1 {p : Program} {l : Launch} {e : Env} {s : State} {m : MethodId} {args : Array Value} {below : List Frame} {meth : Method} {c : Code} {Q : State → Prop} {D : va_G} {cy ad : Nat → Nat} {n : Nat} (M : MX p m c cX0_sumOfSquares 6 s args wsX0_sumOfSquares RX0 meth (some .long)) (K : KK D cy ad s) (t0 : Nat) (h_t0 : t0 < 6) (S : St) : ∀ (fuel : Nat) (x1 : Int64) (x3 : Int32) (o : (Int64)), lX0_sumOfSquares_1 n t0 S fuel x1 x3 = some o → ∀ (hx : ∀ a, o = a → Zz p l e rmX0_sumOfSquares s m args below meth c 6 Q (Hw D cy ad n s S) 41 [(1, .long a)] []) , Zz p l e rmX0_sumOfSquares s m args below meth c 6 Q (Hw D cy ad n s S) 4 [(0, .ref (ad (25 + t0))), (1, .long x1), (3, .int x3)] [] := by
  intro fuel
  induction fuel with
  | zero => intro x1 x3 o h; exact nomatch (show (none : Option _) = some o from h)
  | succ fuel ih =>
    intro x1 x3 o h hx 
    have h : bX0_sumOfSquares_1 n t0 S (lX0_sumOfSquares_1 n t0 S fuel) x1 x3 = some o := h
    unfold bX0_sumOfSquares_1 at h
    refine z_iload_n (pc := 4) M dX0_sumOfSquares_4 rfl 2 rfl ?_
    refine z_aload_n (pc := 5) M dX0_sumOfSquares_5 rfl 0 rfl ?_
    refine z_get (pc := 6) (v := .ref (ad (31 + t0))) M K inX0_sumOfSquares_X0 (o_law h_t0) rfl 0 (by decide) flX0_sumOfSquares_7 rfl rfl dX0_sumOfSquares_6 ?_
    refine z_alenJ (pc := 9) M K (ro_shr h_t0) dX0_sumOfSquares_9 ?_
    refine z_icmp_ge (pc := 10) 41 M dX0_sumOfSquares_10 (by decide) h (fun c_3 h => ?_) (fun c_3 h => ?_)
    · refine z_locals [1] [(1, .long x1)] rfl ?_
      cases h
      exact hx _ rfl
    · refine z_iload_n (pc := 13) M dX0_sumOfSquares_13 rfl 2 rfl ?_
      obtain ⟨r1, h2, h⟩ := bo_in h
      refine z_scall (pc := 14) (As := [.int x3]) M (kJ6_bitCount_0f7a4 l x3 r1 h2) (va_cwS 1 M.1.2.2.2.2 gX0_sumOfSquares_J6_bitCount_0f7a4 rfl rfl rfl (by decide +kernel) ⟨Nat.le_of_ble_eq_true rfl, Nat.le_of_ble_eq_true rfl⟩) rfl rfl (Nat.le_of_ble_eq_true rfl) dX0_sumOfSquares_14 ?_
      refine z_i2l (pc := 17) M dX0_sumOfSquares_17 ?_
      refine z_lstore (pc := 18) M dX0_sumOfSquares_18 (by decide) [1, 2, 3, 0] [(0, .ref (ad (25 + t0))), (1, .long x1), (3, .int x3), (4, .long (Int32.toInt64 r1))] rfl ?_
      refine z_lload_n (pc := 20) M dX0_sumOfSquares_20 rfl 1 rfl ?_
      refine z_lload (pc := 21) M dX0_sumOfSquares_21 3 rfl ?_
      refine z_lload (pc := 23) M dX0_sumOfSquares_23 3 rfl ?_
      refine z_lmul (pc := 25) M dX0_sumOfSquares_25 ?_
      refine z_aload_n (pc := 26) M dX0_sumOfSquares_26 rfl 0 rfl ?_
      refine z_get (pc := 27) (v := .ref (ad (31 + t0))) M K inX0_sumOfSquares_X0 (o_law h_t0) rfl 0 (by decide) flX0_sumOfSquares_7 rfl rfl dX0_sumOfSquares_27 ?_
      refine z_iload_n (pc := 30) M dX0_sumOfSquares_30 rfl 2 rfl ?_
      refine z_lald (pc := 31) M K (ro_shr h_t0) h dX0_sumOfSquares_31 (fun _ h => ?_)
      refine z_lmul (pc := 32) M dX0_sumOfSquares_32 ?_
      refine z_ladd (pc := 33) M dX0_sumOfSquares_33 ?_
      refine z_lstore_n (pc := 34) M dX0_sumOfSquares_34 rfl (by decide) [1, 0, 2] [(0, .ref (ad (25 + t0))), (1, .long (x1 + (((Int32.toInt64 r1) * (Int32.toInt64 r1)) * (S.2 (31 + t0) (Int32.toNatClampNeg x3))))), (3, .int x3)] rfl ?_
      refine z_iinc (pc := 35) M dX0_sumOfSquares_35 (x3 + 1) rfl 2 rfl (by decide) [1, 2, 0] [(0, .ref (ad (25 + t0))), (1, .long (x1 + (((Int32.toInt64 r1) * (Int32.toInt64 r1)) * (S.2 (31 + t0) (Int32.toNatClampNeg x3))))), (3, .int (x3 + 1))] rfl ?_
      refine z_goto (pc := 38) 4 M dX0_sumOfSquares_38 (by decide) ?_
      refine z_locals [0, 1, 2] [(0, .ref (ad (25 + t0))), (1, .long (x1 + (((Int32.toInt64 r1) * (Int32.toInt64 r1)) * (S.2 (31 + t0) (Int32.toNatClampNeg x3))))), (3, .int (x3 + 1))] rfl ?_
      exact ih (x1 + (((Int32.toInt64 r1) * (Int32.toInt64 r1)) * (S.2 (31 + t0) (Int32.toNatClampNeg x3)))) (x3 + 1) _ h hx
set_option maxRecDepth 100000 in
set_option maxHeartbeats 4000000 in
theorem kX0_sumOfSquares (l : Launch) (D : va_G) (cy ad : Nat → Nat) (n : Nat) (lw : Nat) (h_lw : lw < 6) (S : St) (r : Int64) (h : fX0_sumOfSquares n lw S = some r) : CW l D cy ad n yX0_sumOfSquares wsX0_sumOfSquares rmX0_sumOfSquares [.ref (ad (25 + lw))] S (some (.long r)) S := by
  refine CW.of (cc := cX0_sumOfSquares) (nL := 6) (ret := (some .long)) (own := RX0) rfl (by decide +kernel) rfl (Nat.le_of_ble_eq_true rfl) ?_
  intro p e s m args below meth c M K
  unfold fX0_sumOfSquares at h
  refine z_locals [0] [(0, .ref (ad (25 + lw)))] rfl ?_
  refine z_lconst (pc := 0) (v := 0) M dX0_sumOfSquares_0 (by decide) ?_
  refine z_lstore_n (pc := 1) M dX0_sumOfSquares_1 rfl (by decide) [1, 0] [(0, .ref (ad (25 + lw))), (1, .long (0 : Int64))] rfl ?_
  refine z_iconst (pc := 2) (v := 0) M dX0_sumOfSquares_2 (by decide) ?_
  refine z_istore_n (pc := 3) M dX0_sumOfSquares_3 rfl (by decide) [1, 2, 0] [(0, .ref (ad (25 + lw))), (1, .long (0 : Int64)), (3, .int (0 : Int32))] rfl ?_
  refine z_locals [0, 1, 2] [(0, .ref (ad (25 + lw))), (1, .long (0 : Int64)), (3, .int (0 : Int32))] rfl ?_
  obtain ⟨q4, h5, h⟩ := bo_in h
  refine LX0_sumOfSquares_1 M K lw h_lw S FU (0 : Int64) (0 : Int32) _ h5 (fun a hE => ?_)
  cases hE
  refine z_lload_n (pc := 41) M dX0_sumOfSquares_41 rfl 0 rfl ?_
  exact z_lretW (pc := 42) M (Option.some.inj h) rfl dX0_sumOfSquares_42
def rmX0_apartness : Room := { frames := 2, cells := 0, slots := 0, locals := 47 }
theorem flX0_apartness_13 : Cond.fieldLink RX0 13 "ShunLots$Law" "sum" "J" ∈ wsX0_apartness := by decide +kernel
theorem inX0_apartness_X0 : ∀ w ∈ wsX00, w ∈ wsX0_apartness := by decide +kernel
set_option maxRecDepth 100000 in
set_option maxHeartbeats 4000000 in
theorem kX0_apartness (l : Launch) (D : va_G) (cy ad : Nat → Nat) (n : Nat) (lw : Nat) (h_lw : lw < 6) (p0 : Int32) (p1 : Int32) (S : St) (r : Int64) (h : fX0_apartness n lw p0 p1 S = some r) : CW l D cy ad n yX0_apartness wsX0_apartness rmX0_apartness [.ref (ad (25 + lw)), .int p0, .int p1] S (some (.long r)) S := by
  refine CW.of (cc := cX0_apartness) (nL := 3) (ret := (some .long)) (own := RX0) rfl (by decide +kernel) rfl (Nat.le_of_ble_eq_true rfl) ?_
  intro p e s m args below meth c M K
  unfold fX0_apartness at h
  refine z_locals [0, 1, 2] [(0, .ref (ad (25 + lw))), (1, .int p0), (2, .int p1)] rfl ?_
  refine z_aload_n (pc := 0) M dX0_apartness_0 rfl 0 rfl ?_
  refine z_iload_n (pc := 1) M dX0_apartness_1 rfl 1 rfl ?_
  refine z_iconst (pc := 2) (v := 0) M dX0_apartness_2 (by decide) ?_
  obtain ⟨r1, h2, h⟩ := bo_in h
  refine z_vcall (pc := 3) (As := [.int p0, .int (0 : Int32)]) M K (kX0_sumFitting l D cy ad n lw h_lw p0 (0 : Int32) S r1 h2) (cwV 2 M.1.2.2.2.2 gX0_apartness_X0_sumFitting rfl rfl rfl (by decide +kernel) ⟨Nat.le_of_ble_eq_true rfl, Nat.le_of_ble_eq_true rfl⟩) (o_law h_lw) rfl rfl rfl (Nat.le_of_ble_eq_true rfl) dX0_apartness_3 ?_
  refine z_aload_n (pc := 6) M dX0_apartness_6 rfl 0 rfl ?_
  refine z_iload_n (pc := 7) M dX0_apartness_7 rfl 2 rfl ?_
  refine z_iconst (pc := 8) (v := 0) M dX0_apartness_8 (by decide) ?_
  obtain ⟨r3, h4, h⟩ := bo_in h
  refine z_vcall (pc := 9) (As := [.int p1, .int (0 : Int32)]) M K (kX0_sumFitting l D cy ad n lw h_lw p1 (0 : Int32) S r3 h4) (cwV 2 M.1.2.2.2.2 gX0_apartness_X0_sumFitting rfl rfl rfl (by decide +kernel) ⟨Nat.le_of_ble_eq_true rfl, Nat.le_of_ble_eq_true rfl⟩) (o_law h_lw) rfl rfl rfl (Nat.le_of_ble_eq_true rfl) dX0_apartness_9 ?_
  refine z_lmul (pc := 12) M dX0_apartness_12 ?_
  refine z_aload_n (pc := 13) M dX0_apartness_13 rfl 0 rfl ?_
  refine z_iload_n (pc := 14) M dX0_apartness_14 rfl 1 rfl ?_
  refine z_iload_n (pc := 15) M dX0_apartness_15 rfl 2 rfl ?_
  refine z_ior (pc := 16) M dX0_apartness_16 ?_
  refine z_iconst (pc := 17) (v := 0) M dX0_apartness_17 (by decide) ?_
  obtain ⟨r5, h6, h⟩ := bo_in h
  refine z_vcall (pc := 18) (As := [.int (p0 ||| p1), .int (0 : Int32)]) M K (kX0_sumFitting l D cy ad n lw h_lw (p0 ||| p1) (0 : Int32) S r5 h6) (cwV 2 M.1.2.2.2.2 gX0_apartness_X0_sumFitting rfl rfl rfl (by decide +kernel) ⟨Nat.le_of_ble_eq_true rfl, Nat.le_of_ble_eq_true rfl⟩) (o_law h_lw) rfl rfl rfl (Nat.le_of_ble_eq_true rfl) dX0_apartness_18 ?_
  refine z_aload_n (pc := 21) M dX0_apartness_21 rfl 0 rfl ?_
  refine z_get (pc := 22) (v := .long (S.2 (25 + lw) 0)) M K inX0_apartness_X0 (o_law h_lw) rfl 1 (by decide) flX0_apartness_13 rfl rfl dX0_apartness_22 ?_
  refine z_lmul (pc := 25) M dX0_apartness_25 ?_
  refine z_lsub (pc := 26) M dX0_apartness_26 ?_
  exact z_lretW (pc := 27) M (Option.some.inj h) rfl dX0_apartness_27
def rmX1_put : Room := { frames := 0, cells := 0, slots := 0, locals := 0 }
theorem flX1_put_13 : Cond.fieldLink RX1 13 "ShunLots$Net" "starts" "[I" ∈ wsX1_put := by decide +kernel
theorem flX1_put_17 : Cond.fieldLink RX1 17 "ShunLots$Net" "ends" "[I" ∈ wsX1_put := by decide +kernel
theorem flX1_put_20 : Cond.fieldLink RX1 20 "ShunLots$Net" "weights" "[I" ∈ wsX1_put := by decide +kernel
theorem inX1_put_X1 : ∀ w ∈ wsX10, w ∈ wsX1_put := by decide +kernel
set_option maxRecDepth 100000 in
set_option maxHeartbeats 4000000 in
theorem kX1_put (l : Launch) (D : va_G) (cy ad : Nat → Nat) (n : Nat) (p0 : Int32) (p1 : Int32) (p2 : Int32) (p3 : Int32) (S : St) (r : Unit) (S' : St) (h : fX1_put n p0 p1 p2 p3 S = some (r, S')) : CW l D cy ad n yX1_put wsX1_put rmX1_put [.ref (ad 2), .int p0, .int p1, .int p2, .int p3] S none S' := by
  refine CW.of (cc := cX1_put) (nL := 5) (ret := none) (own := RX1) rfl (by decide +kernel) rfl (Nat.le_of_ble_eq_true rfl) ?_
  intro p e s m args below meth c M K
  unfold fX1_put at h
  refine z_locals [0, 1, 2, 3, 4] [(0, .ref (ad 2)), (1, .int p0), (2, .int p1), (3, .int p2), (4, .int p3)] rfl ?_
  refine z_aload_n (pc := 0) M dX1_put_0 rfl 0 rfl ?_
  refine z_get (pc := 1) (v := .ref (ad 7)) M K inX1_put_X1 o_net rfl 1 (by decide) flX1_put_13 rfl rfl dX1_put_1 ?_
  refine z_iload_n (pc := 4) M dX1_put_4 rfl 1 rfl ?_
  refine z_iload_n (pc := 5) M dX1_put_5 rfl 2 rfl ?_
  refine z_iast (pc := 6) M K ⟨by decide, rfl, rfl⟩ h dX1_put_6 (fun h => ?_)
  refine z_aload_n (pc := 7) M dX1_put_7 rfl 0 rfl ?_
  refine z_get (pc := 8) (v := .ref (ad 8)) M K inX1_put_X1 o_net rfl 2 (by decide) flX1_put_17 rfl rfl dX1_put_8 ?_
  refine z_iload_n (pc := 11) M dX1_put_11 rfl 1 rfl ?_
  refine z_iload_n (pc := 12) M dX1_put_12 rfl 3 rfl ?_
  refine z_iast (pc := 13) M K ⟨by decide, rfl, rfl⟩ h dX1_put_13 (fun h => ?_)
  refine z_aload_n (pc := 14) M dX1_put_14 rfl 0 rfl ?_
  refine z_get (pc := 15) (v := .ref (ad 9)) M K inX1_put_X1 o_net rfl 3 (by decide) flX1_put_20 rfl rfl dX1_put_15 ?_
  refine z_iload_n (pc := 18) M dX1_put_18 rfl 1 rfl ?_
  refine z_iload (pc := 19) M dX1_put_19 4 rfl ?_
  refine z_iast (pc := 21) M K ⟨by decide, rfl, rfl⟩ h dX1_put_21 (fun h => ?_)
  exact z_vretW (pc := 22) M (congrArg Prod.snd (Option.some.inj h)) dX1_put_22
def rmX2_begin : Room := { frames := 1, cells := 0, slots := 0, locals := 21 }
theorem flX2_begin_27 : Cond.fieldLink RX2 27 "ShunLots$Square" "side" "I" ∈ wsX2_begin := by decide +kernel
theorem flX2_begin_9 : Cond.fieldLink RX2 9 "ShunLots$Square" "cells" "[J" ∈ wsX2_begin := by decide +kernel
theorem wdX2_begin_Cond_code_Lib_Math_max_name_Lib_Math_max_code_2_some_int : Cond.code Lib.Math.max.name Lib.Math.max.code 2 (some .int) ∈ wsX2_begin := by decide +kernel
theorem wdX2_begin_Cond_code_Lib_Math_min_name_Lib_Math_min_code_2_some_int : Cond.code Lib.Math.min.name Lib.Math.min.code 2 (some .int) ∈ wsX2_begin := by decide +kernel
theorem wdX2_begin_Cond_initialized_java_lang_Math : Cond.initialized "java/lang/Math" ∈ wsX2_begin := by decide +kernel
theorem wdX2_begin_Cond_methodLink_RX2_18_Lib_Math_min_name : Cond.methodLink RX2 18 Lib.Math.min.name ∈ wsX2_begin := by decide +kernel
theorem wdX2_begin_Cond_methodLink_RX2_24_Lib_Math_max_name : Cond.methodLink RX2 24 Lib.Math.max.name ∈ wsX2_begin := by decide +kernel
theorem wdX2_begin_Cond_static_Lib_Math_max_name : Cond.static Lib.Math.max.name ∈ wsX2_begin := by decide +kernel
theorem wdX2_begin_Cond_static_Lib_Math_min_name : Cond.static Lib.Math.min.name ∈ wsX2_begin := by decide +kernel
theorem inX2_begin_X2 : ∀ w ∈ wsX20, w ∈ wsX2_begin := by decide +kernel
set_option maxRecDepth 100000 in
set_option maxHeartbeats 4000000 in
theorem LX2_begin_1 {p : Program} {l : Launch} {e : Env} {s : State} {m : MethodId} {args : Array Value} {below : List Frame} {meth : Method} {c : Code} {Q : State → Prop} {D : va_G} {cy ad : Nat → Nat} {n : Nat} (M : MX p m c cX2_begin 3 s args wsX2_begin RX2 meth none) (K : KK D cy ad s)    : ∀ (fuel : Nat) (x2 : Int32) (S : St) (o : (Unit) × St), lX2_begin_1 n fuel x2 S = some o → ∀ (hx : ∀ a S', o = (a, S') → Zz p l e rmX2_begin s m args below meth c 3 Q (Hw D cy ad n s S') 38 [] []) , Zz p l e rmX2_begin s m args below meth c 3 Q (Hw D cy ad n s S) 16 [(0, .ref (ad 6)), (2, .int x2)] [] := by
  intro fuel
  induction fuel with
  | zero => intro x2 S o h; exact nomatch (show (none : Option _) = some o from h)
  | succ fuel ih =>
    intro x2 S o h hx 
    have h : bX2_begin_1 n (lX2_begin_1 n fuel) x2 S = some o := h
    unfold bX2_begin_1 at h
    refine z_iload_n (pc := 16) M dX2_begin_16 rfl 1 rfl ?_
    refine z_aload_n (pc := 17) M dX2_begin_17 rfl 0 rfl ?_
    refine z_get (pc := 18) (v := .ref (ad 10)) M K inX2_begin_X2 o_squ rfl 0 (by decide) flX2_begin_9 rfl rfl dX2_begin_18 ?_
    refine z_alenJ (pc := 21) M K ⟨by decide, rfl, rfl⟩ dX2_begin_21 ?_
    refine z_icmp_ge (pc := 22) 38 M dX2_begin_22 (by decide) h (fun c_1 h => ?_) (fun c_1 h => ?_)
    · refine z_locals [] [] rfl ?_
      cases h
      exact hx _ _ rfl
    · refine z_aload_n (pc := 25) M dX2_begin_25 rfl 0 rfl ?_
      refine z_get (pc := 26) (v := .ref (ad 10)) M K inX2_begin_X2 o_squ rfl 0 (by decide) flX2_begin_9 rfl rfl dX2_begin_26 ?_
      refine z_iload_n (pc := 29) M dX2_begin_29 rfl 1 rfl ?_
      refine z_lconst (pc := 30) (v := 0) M dX2_begin_30 (by decide) ?_
      refine z_last (pc := 31) M K ⟨by decide, rfl, rfl⟩ h dX2_begin_31 (fun h => ?_)
      refine z_iinc (pc := 32) M dX2_begin_32 (x2 + 1) rfl 1 rfl (by decide) [1, 0] [(0, .ref (ad 6)), (2, .int (x2 + 1))] rfl ?_
      refine z_goto (pc := 35) 16 M dX2_begin_35 (by decide) ?_
      refine z_locals [0, 1] [(0, .ref (ad 6)), (2, .int (x2 + 1))] rfl ?_
      exact ih (x2 + 1) (sJ S 10 (Int32.toNatClampNeg x2) (0 : Int64)) _ h hx
set_option maxRecDepth 100000 in
set_option maxHeartbeats 4000000 in
theorem kX2_begin (l : Launch) (D : va_G) (cy ad : Nat → Nat) (n : Nat) (p0 : Int32) (S : St) (r : Unit) (S' : St) (h : fX2_begin n p0 S = some (r, S')) : CW l D cy ad n yX2_begin wsX2_begin rmX2_begin [.ref (ad 6), .int p0] S none S' := by
  refine CW.of (cc := cX2_begin) (nL := 3) (ret := none) (own := RX2) rfl (by decide +kernel) rfl (Nat.le_of_ble_eq_true rfl) ?_
  intro p e s m args below meth c M K
  unfold fX2_begin at h
  refine z_locals [0, 1] [(0, .ref (ad 6)), (1, .int p0)] rfl ?_
  refine z_aload_n (pc := 0) M dX2_begin_0 rfl 0 rfl ?_
  refine z_iconst (pc := 1) (v := 0) M dX2_begin_1 (by decide) ?_
  refine z_bipush (pc := 2) (v := 6) M dX2_begin_2 (by decide) ?_
  refine z_iload_n (pc := 4) M dX2_begin_4 rfl 1 rfl ?_
  refine z_mmin (pc := 5) M wdX2_begin_Cond_methodLink_RX2_18_Lib_Math_min_name wdX2_begin_Cond_static_Lib_Math_min_name wdX2_begin_Cond_initialized_java_lang_Math wdX2_begin_Cond_code_Lib_Math_min_name_Lib_Math_min_code_2_some_int (Nat.le_of_ble_eq_true rfl) (Nat.le_of_ble_eq_true rfl) dX2_begin_5 ?_
  refine z_mmax (pc := 8) M wdX2_begin_Cond_methodLink_RX2_24_Lib_Math_max_name wdX2_begin_Cond_static_Lib_Math_max_name wdX2_begin_Cond_initialized_java_lang_Math wdX2_begin_Cond_code_Lib_Math_max_name_Lib_Math_max_code_2_some_int (Nat.le_of_ble_eq_true rfl) (Nat.le_of_ble_eq_true rfl) dX2_begin_8 ?_
  refine z_putW (pc := 11) (v := .int (if (0 : Int32) < (if p0 < (6 : Int32) then p0 else (6 : Int32)) then (if p0 < (6 : Int32) then p0 else (6 : Int32)) else (0 : Int32))) (S := S) (S' := (sI S 6 0 (if (0 : Int32) < (if p0 < (6 : Int32) then p0 else (6 : Int32)) then (if p0 < (6 : Int32) then p0 else (6 : Int32)) else (0 : Int32)))) M K inX2_begin_X2 tyX2 tyX2_ok nmX2 o_squ rfl 2 (by decide) flX2_begin_27 rfl rfl .int (by decide +kernel) rfl rfl (Nat.le_of_ble_eq_true rfl) o_squ (by simp only [sI, sJ, va_up_self, upd, vp_updL, if_true, List.set]) (fun q hq => by constructor <;> first | rfl | exact va_up_ne _ _ hq) dX2_begin_11 ?_
  refine z_iconst (pc := 14) (v := 0) M dX2_begin_14 (by decide) ?_
  refine z_istore_n (pc := 15) M dX2_begin_15 rfl (by decide) [1, 0] [(0, .ref (ad 6)), (2, .int (0 : Int32))] rfl ?_
  refine z_locals [0, 1] [(0, .ref (ad 6)), (2, .int (0 : Int32))] rfl ?_
  obtain ⟨q2, S4, h3, h⟩ := bw_in h
  refine LX2_begin_1 M K FU (0 : Int32) (sI S 6 0 (if (0 : Int32) < (if p0 < (6 : Int32) then p0 else (6 : Int32)) then (if p0 < (6 : Int32) then p0 else (6 : Int32)) else (0 : Int32))) _ h3 (fun a S' hE => ?_)
  cases hE
  exact z_vretW (pc := 38) M (congrArg Prod.snd (Option.some.inj h)) dX2_begin_38
def rmX4_isAmong : Room := { frames := 0, cells := 0, slots := 0, locals := 0 }
set_option maxRecDepth 100000 in
set_option maxHeartbeats 4000000 in
theorem kX4_isAmong (l : Launch) (p0 : Int32) (p1 : Int32) (p2 : Int32) (r : Bool) (h : fX4_isAmong p0 p1 p2 = some r) : CP l yX4_isAmong wsX4_isAmong rmX4_isAmong [.int p0, .int p1, .int p2] (some (.int (b2i r))) := by
  refine CP.of (cc := cX4_isAmong) (nL := 3) (ret := (some .boolean)) (own := RX4) rfl (by decide +kernel) rfl (Nat.le_of_ble_eq_true rfl) ?_
  intro p e s m args below meth c M
  unfold fX4_isAmong at h
  refine z_locals [0, 1, 2] [(0, .int p0), (1, .int p1), (2, .int p2)] rfl ?_
  refine z_iload_n (pc := 0) M dX4_isAmong_0 rfl 0 rfl ?_
  refine z_iload_n (pc := 1) M dX4_isAmong_1 rfl 1 rfl ?_
  refine z_icmp_lt (pc := 2) 14 M dX4_isAmong_2 (by decide) h (fun c_2 h => ?_) (fun c_2 h => ?_)
  · refine z_iconst (pc := 14) (v := 0) M dX4_isAmong_14 (by decide) ?_
    exact z_zretP (pc := 15) M h rfl dX4_isAmong_15
  · refine z_iload_n (pc := 5) M dX4_isAmong_5 rfl 0 rfl ?_
    refine z_iload_n (pc := 6) M dX4_isAmong_6 rfl 2 rfl ?_
    refine z_icmp_gt (pc := 7) 14 M dX4_isAmong_7 (by decide) h (fun c_1 h => ?_) (fun c_1 h => ?_)
    · refine z_iconst (pc := 14) (v := 0) M dX4_isAmong_14 (by decide) ?_
      exact z_zretP (pc := 15) M h rfl dX4_isAmong_15
    · refine z_iconst (pc := 10) (v := 1) M dX4_isAmong_10 (by decide) ?_
      refine z_goto (pc := 11) 15 M dX4_isAmong_11 (by decide) ?_
      exact z_zretP (pc := 15) M h rfl dX4_isAmong_15
def rmX2_add : Room := { frames := 1, cells := 0, slots := 0, locals := 22 }
theorem flX2_add_27 : Cond.fieldLink RX2 27 "ShunLots$Square" "side" "I" ∈ wsX2_add := by decide +kernel
theorem flX2_add_9 : Cond.fieldLink RX2 9 "ShunLots$Square" "cells" "[J" ∈ wsX2_add := by decide +kernel
theorem wdX2_add_Cond_initialized_RX4 : Cond.initialized RX4 ∈ wsX2_add := by decide +kernel
theorem wdX2_add_Cond_static_yX4_isAmong : Cond.static yX4_isAmong ∈ wsX2_add := by decide +kernel
theorem inX2_add_X2 : ∀ w ∈ wsX20, w ∈ wsX2_add := by decide +kernel
set_option maxRecDepth 100000 in
set_option maxHeartbeats 4000000 in
theorem kX2_add (l : Launch) (D : va_G) (cy ad : Nat → Nat) (n : Nat) (p0 : Int32) (p1 : Int32) (p2 : Int64) (S : St) (r : Unit) (S' : St) (h : fX2_add n p0 p1 p2 S = some (r, S')) : CW l D cy ad n yX2_add wsX2_add rmX2_add [.ref (ad 6), .int p0, .int p1, .long p2] S none S' := by
  refine CW.of (cc := cX2_add) (nL := 5) (ret := none) (own := RX2) rfl (by decide +kernel) rfl (Nat.le_of_ble_eq_true rfl) ?_
  intro p e s m args below meth c M K
  unfold fX2_add at h
  refine z_locals [0, 1, 2, 3] [(0, .ref (ad 6)), (1, .int p0), (2, .int p1), (3, .long p2)] rfl ?_
  refine z_iload_n (pc := 0) M dX2_add_0 rfl 1 rfl ?_
  refine z_iconst (pc := 1) (v := 0) M dX2_add_1 (by decide) ?_
  refine z_aload_n (pc := 2) M dX2_add_2 rfl 0 rfl ?_
  refine z_get (pc := 3) (v := .int (S.1 6 0)) M K inX2_add_X2 o_squ rfl 2 (by decide) flX2_add_27 rfl rfl dX2_add_3 ?_
  refine z_iconst (pc := 6) (v := 1) M dX2_add_6 (by decide) ?_
  refine z_isub (pc := 7) M dX2_add_7 ?_
  obtain ⟨r1, h2, h⟩ := bo_in h
  refine z_ncall (pc := 8) (As := [.int p0, .int (0 : Int32), .int ((S.1 6 0) - (1 : Int32))]) M (kX4_isAmong l p0 (0 : Int32) ((S.1 6 0) - (1 : Int32)) r1 h2) ⟨va_cnB 3 M.1.2.2.2.2 gX2_add_X4_isAmong_n31 rfl rfl rfl K.2.1.2.1 (M.1.2.2.2.2 _ wdX2_add_Cond_initialized_RX4) (by decide +kernel) ⟨Nat.le_of_ble_eq_true rfl, Nat.le_of_ble_eq_true rfl⟩, M.1.2.2.2.2 _ wdX2_add_Cond_static_yX4_isAmong, trivial⟩ rfl rfl (Nat.le_of_ble_eq_true rfl) dX2_add_8 ?_
  refine z_if_eqB (pc := 11) 43 M dX2_add_11 (by decide) h (fun c_6 h => ?_) (fun c_6 h => ?_)
  · exact z_vretW (pc := 43) M (congrArg Prod.snd (Option.some.inj h)) dX2_add_43
  · refine z_iload_n (pc := 14) M dX2_add_14 rfl 2 rfl ?_
    refine z_iconst (pc := 15) (v := 0) M dX2_add_15 (by decide) ?_
    refine z_aload_n (pc := 16) M dX2_add_16 rfl 0 rfl ?_
    refine z_get (pc := 17) (v := .int (S.1 6 0)) M K inX2_add_X2 o_squ rfl 2 (by decide) flX2_add_27 rfl rfl dX2_add_17 ?_
    refine z_iconst (pc := 20) (v := 1) M dX2_add_20 (by decide) ?_
    refine z_isub (pc := 21) M dX2_add_21 ?_
    obtain ⟨r3, h4, h⟩ := bo_in h
    refine z_ncall (pc := 22) (As := [.int p1, .int (0 : Int32), .int ((S.1 6 0) - (1 : Int32))]) M (kX4_isAmong l p1 (0 : Int32) ((S.1 6 0) - (1 : Int32)) r3 h4) ⟨va_cnB 3 M.1.2.2.2.2 gX2_add_X4_isAmong_n31 rfl rfl rfl K.2.1.2.1 (M.1.2.2.2.2 _ wdX2_add_Cond_initialized_RX4) (by decide +kernel) ⟨Nat.le_of_ble_eq_true rfl, Nat.le_of_ble_eq_true rfl⟩, M.1.2.2.2.2 _ wdX2_add_Cond_static_yX4_isAmong, trivial⟩ rfl rfl (Nat.le_of_ble_eq_true rfl) dX2_add_22 ?_
    refine z_if_eqB (pc := 25) 43 M dX2_add_25 (by decide) h (fun c_5 h => ?_) (fun c_5 h => ?_)
    · exact z_vretW (pc := 43) M (congrArg Prod.snd (Option.some.inj h)) dX2_add_43
    · refine z_aload_n (pc := 28) M dX2_add_28 rfl 0 rfl ?_
      refine z_get (pc := 29) (v := .ref (ad 10)) M K inX2_add_X2 o_squ rfl 0 (by decide) flX2_add_9 rfl rfl dX2_add_29 ?_
      refine z_iload_n (pc := 32) M dX2_add_32 rfl 1 rfl ?_
      refine z_bipush (pc := 33) (v := 6) M dX2_add_33 (by decide) ?_
      refine z_imul (pc := 35) M dX2_add_35 ?_
      refine z_iload_n (pc := 36) M dX2_add_36 rfl 2 rfl ?_
      refine z_iadd (pc := 37) M dX2_add_37 ?_
      refine z_dup2_11 (pc := 38) M dX2_add_38 rfl rfl ?_
      refine z_lald (pc := 39) M K ⟨by decide, rfl, rfl⟩ h dX2_add_39 (fun _ h => ?_)
      refine z_lload_n (pc := 40) M dX2_add_40 rfl 3 rfl ?_
      refine z_ladd (pc := 41) M dX2_add_41 ?_
      refine z_last (pc := 42) M K ⟨by decide, rfl, rfl⟩ h dX2_add_42 (fun h => ?_)
      exact z_vretW (pc := 43) M (congrArg Prod.snd (Option.some.inj h)) dX2_add_43
def rmX2_alongLastRow : Room := { frames := 1, cells := 0, slots := 0, locals := 20 }
theorem flX2_alongLastRow_15 : Cond.fieldLink RX2 15 "ShunLots$Square" "minors" "[J" ∈ wsX2_alongLastRow := by decide +kernel
theorem flX2_alongLastRow_27 : Cond.fieldLink RX2 27 "ShunLots$Square" "side" "I" ∈ wsX2_alongLastRow := by decide +kernel
theorem flX2_alongLastRow_9 : Cond.fieldLink RX2 9 "ShunLots$Square" "cells" "[J" ∈ wsX2_alongLastRow := by decide +kernel
theorem inX2_alongLastRow_X2 : ∀ w ∈ wsX20, w ∈ wsX2_alongLastRow := by decide +kernel
set_option maxRecDepth 100000 in
set_option maxHeartbeats 4000000 in
theorem LX2_alongLastRow_1 {p : Program} {l : Launch} {e : Env} {s : State} {m : MethodId} {args : Array Value} {below : List Frame} {meth : Method} {c : Code} {Q : State → Prop} {D : va_G} {cy ad : Nat → Nat} {n : Nat} (M : MX p m c cX2_alongLastRow 9 s args wsX2_alongLastRow RX2 meth (some .long)) (K : KK D cy ad s) (x1 : Int32) (x2 : Int32)  (S : St) : ∀ (fuel : Nat) (x3 : Int64) (x5 : Int64) (x7 : Int32) (o : (Int64)), lX2_alongLastRow_1 n x1 x2 S fuel x3 x5 x7 = some o → ∀ (hx : ∀ a, o = a → Zz p l e rmX2_alongLastRow s m args below meth c 9 Q (Hw D cy ad n s S) 76 [(5, .long a)] []) , Zz p l e rmX2_alongLastRow s m args below meth c 9 Q (Hw D cy ad n s S) 23 [(0, .ref (ad 6)), (1, .int x1), (2, .int x2), (3, .long x3), (5, .long x5), (7, .int x7)] [] := by
  intro fuel
  induction fuel with
  | zero => intro x3 x5 x7 o h; exact nomatch (show (none : Option _) = some o from h)
  | succ fuel ih =>
    intro x3 x5 x7 o h hx 
    have h : bX2_alongLastRow_1 n x1 x2 S (lX2_alongLastRow_1 n x1 x2 S fuel) x3 x5 x7 = some o := h
    unfold bX2_alongLastRow_1 at h
    refine z_iload (pc := 23) M dX2_alongLastRow_23 5 rfl ?_
    refine z_if_lt (pc := 25) 76 M dX2_alongLastRow_25 (by decide) h (fun c_4 h => ?_) (fun c_4 h => ?_)
    · refine z_locals [4] [(5, .long x5)] rfl ?_
      cases h
      exact hx _ rfl
    · refine z_iconst (pc := 28) (v := 1) M dX2_alongLastRow_28 (by decide) ?_
      refine z_iload (pc := 29) M dX2_alongLastRow_29 5 rfl ?_
      refine z_ishl (pc := 31) M dX2_alongLastRow_31 ?_
      refine z_istore (pc := 32) M dX2_alongLastRow_32 (by decide) [1, 2, 3, 4, 5, 6, 0] [(0, .ref (ad 6)), (1, .int x1), (2, .int x2), (3, .long x3), (5, .long x5), (7, .int x7), (8, .int ((1 : Int32) <<< (x7 &&& 31)))] rfl ?_
      refine z_iload_n (pc := 34) M dX2_alongLastRow_34 rfl 1 rfl ?_
      refine z_iload (pc := 35) M dX2_alongLastRow_35 6 rfl ?_
      refine z_iand (pc := 37) M dX2_alongLastRow_37 ?_
      refine z_if_eq (pc := 38) 70 M dX2_alongLastRow_38 (by decide) h (fun c_3 h => ?_) (fun c_3 h => ?_)
      · refine z_iinc (pc := 70) M dX2_alongLastRow_70 (x7 + (-1)) rfl 5 rfl (by decide) [1, 2, 3, 4, 5, 0, 6] [(0, .ref (ad 6)), (1, .int x1), (2, .int x2), (3, .long x3), (5, .long x5), (7, .int (x7 + (-1))), (8, .int ((1 : Int32) <<< (x7 &&& 31)))] rfl ?_
        refine z_goto (pc := 73) 23 M dX2_alongLastRow_73 (by decide) ?_
        refine z_locals [0, 1, 2, 3, 4, 5] [(0, .ref (ad 6)), (1, .int x1), (2, .int x2), (3, .long x3), (5, .long x5), (7, .int (x7 + (-1)))] rfl ?_
        exact ih x3 x5 (x7 + (-1)) _ h hx
      · refine z_lload (pc := 41) M dX2_alongLastRow_41 4 rfl ?_
        refine z_lload_n (pc := 43) M dX2_alongLastRow_43 rfl 3 rfl ?_
        refine z_aload_n (pc := 44) M dX2_alongLastRow_44 rfl 0 rfl ?_
        refine z_get (pc := 45) (v := .ref (ad 10)) M K inX2_alongLastRow_X2 o_squ rfl 0 (by decide) flX2_alongLastRow_9 rfl rfl dX2_alongLastRow_45 ?_
        refine z_iload_n (pc := 48) M dX2_alongLastRow_48 rfl 2 rfl ?_
        refine z_iload (pc := 49) M dX2_alongLastRow_49 5 rfl ?_
        refine z_iadd (pc := 51) M dX2_alongLastRow_51 ?_
        refine z_lald (pc := 52) M K ⟨by decide, rfl, rfl⟩ h dX2_alongLastRow_52 (fun _ h => ?_)
        refine z_lmul (pc := 53) M dX2_alongLastRow_53 ?_
        refine z_aload_n (pc := 54) M dX2_alongLastRow_54 rfl 0 rfl ?_
        refine z_get (pc := 55) (v := .ref (ad 11)) M K inX2_alongLastRow_X2 o_squ rfl 1 (by decide) flX2_alongLastRow_15 rfl rfl dX2_alongLastRow_55 ?_
        refine z_iload_n (pc := 58) M dX2_alongLastRow_58 rfl 1 rfl ?_
        refine z_iload (pc := 59) M dX2_alongLastRow_59 6 rfl ?_
        refine z_isub (pc := 61) M dX2_alongLastRow_61 ?_
        refine z_lald (pc := 62) M K ⟨by decide, rfl, rfl⟩ h dX2_alongLastRow_62 (fun _ h => ?_)
        refine z_lmul (pc := 63) M dX2_alongLastRow_63 ?_
        refine z_ladd (pc := 64) M dX2_alongLastRow_64 ?_
        refine z_lstore (pc := 65) M dX2_alongLastRow_65 (by decide) [1, 2, 3, 4, 0, 5] [(0, .ref (ad 6)), (1, .int x1), (2, .int x2), (3, .long x3), (5, .long (x5 + ((x3 * (S.2 10 (Int32.toNatClampNeg (x2 + x7)))) * (S.2 11 (Int32.toNatClampNeg (x1 - ((1 : Int32) <<< (x7 &&& 31)))))))), (7, .int x7)] rfl ?_
        refine z_lload_n (pc := 67) M dX2_alongLastRow_67 rfl 3 rfl ?_
        refine z_lneg (pc := 68) M dX2_alongLastRow_68 ?_
        refine z_lstore_n (pc := 69) M dX2_alongLastRow_69 rfl (by decide) [1, 2, 3, 0, 4, 5] [(0, .ref (ad 6)), (1, .int x1), (2, .int x2), (3, .long (-x3)), (5, .long (x5 + ((x3 * (S.2 10 (Int32.toNatClampNeg (x2 + x7)))) * (S.2 11 (Int32.toNatClampNeg (x1 - ((1 : Int32) <<< (x7 &&& 31)))))))), (7, .int x7)] rfl ?_
        refine z_iinc (pc := 70) M dX2_alongLastRow_70 (x7 + (-1)) rfl 5 rfl (by decide) [1, 2, 3, 4, 5, 0] [(0, .ref (ad 6)), (1, .int x1), (2, .int x2), (3, .long (-x3)), (5, .long (x5 + ((x3 * (S.2 10 (Int32.toNatClampNeg (x2 + x7)))) * (S.2 11 (Int32.toNatClampNeg (x1 - ((1 : Int32) <<< (x7 &&& 31)))))))), (7, .int (x7 + (-1)))] rfl ?_
        refine z_goto (pc := 73) 23 M dX2_alongLastRow_73 (by decide) ?_
        refine z_locals [0, 1, 2, 3, 4, 5] [(0, .ref (ad 6)), (1, .int x1), (2, .int x2), (3, .long (-x3)), (5, .long (x5 + ((x3 * (S.2 10 (Int32.toNatClampNeg (x2 + x7)))) * (S.2 11 (Int32.toNatClampNeg (x1 - ((1 : Int32) <<< (x7 &&& 31)))))))), (7, .int (x7 + (-1)))] rfl ?_
        exact ih (-x3) (x5 + ((x3 * (S.2 10 (Int32.toNatClampNeg (x2 + x7)))) * (S.2 11 (Int32.toNatClampNeg (x1 - ((1 : Int32) <<< (x7 &&& 31))))))) (x7 + (-1)) _ h hx
set_option maxRecDepth 100000 in
set_option maxHeartbeats 4000000 in
theorem kX2_alongLastRow (l : Launch) (D : va_G) (cy ad : Nat → Nat) (n : Nat) (p0 : Int32) (S : St) (r : Int64) (h : fX2_alongLastRow n p0 S = some r) : CW l D cy ad n yX2_alongLastRow wsX2_alongLastRow rmX2_alongLastRow [.ref (ad 6), .int p0] S (some (.long r)) S := by
  refine CW.of (cc := cX2_alongLastRow) (nL := 9) (ret := (some .long)) (own := RX2) rfl (by decide +kernel) rfl (Nat.le_of_ble_eq_true rfl) ?_
  intro p e s m args below meth c M K
  unfold fX2_alongLastRow at h
  refine z_locals [0, 1] [(0, .ref (ad 6)), (1, .int p0)] rfl ?_
  refine z_iload_n (pc := 0) M dX2_alongLastRow_0 rfl 1 rfl ?_
  obtain ⟨r1, h2, h⟩ := bo_in h
  refine z_scall (pc := 1) (As := [.int p0]) M (kJ6_bitCount_0f7a4 l p0 r1 h2) (va_cwS 1 M.1.2.2.2.2 gX2_alongLastRow_J6_bitCount_0f7a4 rfl rfl rfl (by decide +kernel) ⟨Nat.le_of_ble_eq_true rfl, Nat.le_of_ble_eq_true rfl⟩) rfl rfl (Nat.le_of_ble_eq_true rfl) dX2_alongLastRow_1 ?_
  refine z_iconst (pc := 4) (v := 1) M dX2_alongLastRow_4 (by decide) ?_
  refine z_isub (pc := 5) M dX2_alongLastRow_5 ?_
  refine z_bipush (pc := 6) (v := 6) M dX2_alongLastRow_6 (by decide) ?_
  refine z_imul (pc := 8) M dX2_alongLastRow_8 ?_
  refine z_istore_n (pc := 9) M dX2_alongLastRow_9 rfl (by decide) [1, 2, 0] [(0, .ref (ad 6)), (1, .int p0), (2, .int ((r1 - (1 : Int32)) * (6 : Int32)))] rfl ?_
  refine z_lconst (pc := 10) (v := 1) M dX2_alongLastRow_10 (by decide) ?_
  refine z_lstore_n (pc := 11) M dX2_alongLastRow_11 rfl (by decide) [1, 2, 3, 0] [(0, .ref (ad 6)), (1, .int p0), (2, .int ((r1 - (1 : Int32)) * (6 : Int32))), (3, .long (1 : Int64))] rfl ?_
  refine z_lconst (pc := 12) (v := 0) M dX2_alongLastRow_12 (by decide) ?_
  refine z_lstore (pc := 13) M dX2_alongLastRow_13 (by decide) [1, 2, 3, 4, 0] [(0, .ref (ad 6)), (1, .int p0), (2, .int ((r1 - (1 : Int32)) * (6 : Int32))), (3, .long (1 : Int64)), (5, .long (0 : Int64))] rfl ?_
  refine z_aload_n (pc := 15) M dX2_alongLastRow_15 rfl 0 rfl ?_
  refine z_get (pc := 16) (v := .int (S.1 6 0)) M K inX2_alongLastRow_X2 o_squ rfl 2 (by decide) flX2_alongLastRow_27 rfl rfl dX2_alongLastRow_16 ?_
  refine z_iconst (pc := 19) (v := 1) M dX2_alongLastRow_19 (by decide) ?_
  refine z_isub (pc := 20) M dX2_alongLastRow_20 ?_
  refine z_istore (pc := 21) M dX2_alongLastRow_21 (by decide) [1, 2, 3, 4, 5, 0] [(0, .ref (ad 6)), (1, .int p0), (2, .int ((r1 - (1 : Int32)) * (6 : Int32))), (3, .long (1 : Int64)), (5, .long (0 : Int64)), (7, .int ((S.1 6 0) - (1 : Int32)))] rfl ?_
  refine z_locals [0, 1, 2, 3, 4, 5] [(0, .ref (ad 6)), (1, .int p0), (2, .int ((r1 - (1 : Int32)) * (6 : Int32))), (3, .long (1 : Int64)), (5, .long (0 : Int64)), (7, .int ((S.1 6 0) - (1 : Int32)))] rfl ?_
  obtain ⟨q5, h6, h⟩ := bo_in h
  refine LX2_alongLastRow_1 M K p0 ((r1 - (1 : Int32)) * (6 : Int32)) S FU (1 : Int64) (0 : Int64) ((S.1 6 0) - (1 : Int32)) _ h6 (fun a hE => ?_)
  cases hE
  refine z_lload (pc := 76) M dX2_alongLastRow_76 0 rfl ?_
  exact z_lretW (pc := 78) M (Option.some.inj h) rfl dX2_alongLastRow_78
def rmX2_determinant : Room := { frames := 2, cells := 0, slots := 0, locals := 48 }
theorem flX2_determinant_15 : Cond.fieldLink RX2 15 "ShunLots$Square" "minors" "[J" ∈ wsX2_determinant := by decide +kernel
theorem flX2_determinant_27 : Cond.fieldLink RX2 27 "ShunLots$Square" "side" "I" ∈ wsX2_determinant := by decide +kernel
theorem inX2_determinant_X2 : ∀ w ∈ wsX20, w ∈ wsX2_determinant := by decide +kernel
set_option maxRecDepth 100000 in
set_option maxHeartbeats 4000000 in
theorem LX2_determinant_1 {p : Program} {l : Launch} {e : Env} {s : State} {m : MethodId} {args : Array Value} {below : List Frame} {meth : Method} {c : Code} {Q : State → Prop} {D : va_G} {cy ad : Nat → Nat} {n : Nat} (M : MX p m c cX2_determinant 3 s args wsX2_determinant RX2 meth (some .long)) (K : KK D cy ad s) (x1 : Int32)   : ∀ (fuel : Nat) (x2 : Int32) (S : St) (o : (Unit) × St), lX2_determinant_1 n x1 fuel x2 S = some o → ∀ (hx : ∀ a S', o = (a, S') → Zz p l e rmX2_determinant s m args below meth c 3 Q (Hw D cy ad n s S') 40 [(0, .ref (ad 6)), (1, .int x1)] []) , Zz p l e rmX2_determinant s m args below meth c 3 Q (Hw D cy ad n s S) 18 [(0, .ref (ad 6)), (1, .int x1), (2, .int x2)] [] := by
  intro fuel
  induction fuel with
  | zero => intro x2 S o h; exact nomatch (show (none : Option _) = some o from h)
  | succ fuel ih =>
    intro x2 S o h hx 
    have h : bX2_determinant_1 n x1 (lX2_determinant_1 n x1 fuel) x2 S = some o := h
    unfold bX2_determinant_1 at h
    refine z_iload_n (pc := 18) M dX2_determinant_18 rfl 2 rfl ?_
    refine z_iload_n (pc := 19) M dX2_determinant_19 rfl 1 rfl ?_
    refine z_icmp_gt (pc := 20) 40 M dX2_determinant_20 (by decide) h (fun c_3 h => ?_) (fun c_3 h => ?_)
    · refine z_locals [0, 1] [(0, .ref (ad 6)), (1, .int x1)] rfl ?_
      cases h
      exact hx _ _ rfl
    · refine z_aload_n (pc := 23) M dX2_determinant_23 rfl 0 rfl ?_
      refine z_get (pc := 24) (v := .ref (ad 11)) M K inX2_determinant_X2 o_squ rfl 1 (by decide) flX2_determinant_15 rfl rfl dX2_determinant_24 ?_
      refine z_iload_n (pc := 27) M dX2_determinant_27 rfl 2 rfl ?_
      refine z_aload_n (pc := 28) M dX2_determinant_28 rfl 0 rfl ?_
      refine z_iload_n (pc := 29) M dX2_determinant_29 rfl 2 rfl ?_
      obtain ⟨r1, h2, h⟩ := bo_in h
      refine z_vcall (pc := 30) (As := [.int x2]) M K (kX2_alongLastRow l D cy ad n x2 S r1 h2) (cwV 1 M.1.2.2.2.2 gX2_determinant_X2_alongLastRow rfl rfl rfl (by decide +kernel) ⟨Nat.le_of_ble_eq_true rfl, Nat.le_of_ble_eq_true rfl⟩) o_squ rfl rfl rfl (Nat.le_of_ble_eq_true rfl) dX2_determinant_30 ?_
      refine z_last (pc := 33) M K ⟨by decide, rfl, rfl⟩ h dX2_determinant_33 (fun h => ?_)
      refine z_iinc (pc := 34) M dX2_determinant_34 (x2 + 1) rfl 2 rfl (by decide) [1, 2, 0] [(0, .ref (ad 6)), (1, .int x1), (2, .int (x2 + 1))] rfl ?_
      refine z_goto (pc := 37) 18 M dX2_determinant_37 (by decide) ?_
      refine z_locals [0, 1, 2] [(0, .ref (ad 6)), (1, .int x1), (2, .int (x2 + 1))] rfl ?_
      exact ih (x2 + 1) (sJ S 11 (Int32.toNatClampNeg x2) r1) _ h hx
set_option maxRecDepth 100000 in
set_option maxHeartbeats 4000000 in
theorem kX2_determinant (l : Launch) (D : va_G) (cy ad : Nat → Nat) (n : Nat)  (S : St) (r : Int64) (S' : St) (h : fX2_determinant n S = some (r, S')) : CW l D cy ad n yX2_determinant wsX2_determinant rmX2_determinant [.ref (ad 6)] S (some (.long r)) S' := by
  refine CW.of (cc := cX2_determinant) (nL := 3) (ret := (some .long)) (own := RX2) rfl (by decide +kernel) rfl (Nat.le_of_ble_eq_true rfl) ?_
  intro p e s m args below meth c M K
  unfold fX2_determinant at h
  refine z_locals [0] [(0, .ref (ad 6))] rfl ?_
  refine z_aload_n (pc := 0) M dX2_determinant_0 rfl 0 rfl ?_
  refine z_get (pc := 1) (v := .ref (ad 11)) M K inX2_determinant_X2 o_squ rfl 1 (by decide) flX2_determinant_15 rfl rfl dX2_determinant_1 ?_
  refine z_iconst (pc := 4) (v := 0) M dX2_determinant_4 (by decide) ?_
  refine z_lconst (pc := 5) (v := 1) M dX2_determinant_5 (by decide) ?_
  refine z_last (pc := 6) M K ⟨by decide, rfl, rfl⟩ h dX2_determinant_6 (fun h => ?_)
  refine z_iconst (pc := 7) (v := 1) M dX2_determinant_7 (by decide) ?_
  refine z_aload_n (pc := 8) M dX2_determinant_8 rfl 0 rfl ?_
  refine z_get (pc := 9) (v := .int ((sJ S 11 (Int32.toNatClampNeg (0 : Int32)) (1 : Int64)).1 6 0)) M K inX2_determinant_X2 o_squ rfl 2 (by decide) flX2_determinant_27 rfl rfl dX2_determinant_9 ?_
  refine z_ishl (pc := 12) M dX2_determinant_12 ?_
  refine z_iconst (pc := 13) (v := 1) M dX2_determinant_13 (by decide) ?_
  refine z_isub (pc := 14) M dX2_determinant_14 ?_
  refine z_istore_n (pc := 15) M dX2_determinant_15 rfl (by decide) [1, 0] [(0, .ref (ad 6)), (1, .int (((1 : Int32) <<< (((sJ S 11 (Int32.toNatClampNeg (0 : Int32)) (1 : Int64)).1 6 0) &&& 31)) - (1 : Int32)))] rfl ?_
  refine z_iconst (pc := 16) (v := 1) M dX2_determinant_16 (by decide) ?_
  refine z_istore_n (pc := 17) M dX2_determinant_17 rfl (by decide) [1, 2, 0] [(0, .ref (ad 6)), (1, .int (((1 : Int32) <<< (((sJ S 11 (Int32.toNatClampNeg (0 : Int32)) (1 : Int64)).1 6 0) &&& 31)) - (1 : Int32))), (2, .int (1 : Int32))] rfl ?_
  refine z_locals [0, 1, 2] [(0, .ref (ad 6)), (1, .int (((1 : Int32) <<< (((sJ S 11 (Int32.toNatClampNeg (0 : Int32)) (1 : Int64)).1 6 0) &&& 31)) - (1 : Int32))), (2, .int (1 : Int32))] rfl ?_
  obtain ⟨q4, S6, h5, h⟩ := bw_in h
  refine LX2_determinant_1 M K (((1 : Int32) <<< (((sJ S 11 (Int32.toNatClampNeg (0 : Int32)) (1 : Int64)).1 6 0) &&& 31)) - (1 : Int32)) FU (1 : Int32) (sJ S 11 (Int32.toNatClampNeg (0 : Int32)) (1 : Int64)) _ h5 (fun a S' hE => ?_)
  cases hE
  refine z_aload_n (pc := 40) M dX2_determinant_40 rfl 0 rfl ?_
  refine z_get (pc := 41) (v := .ref (ad 11)) M K inX2_determinant_X2 o_squ rfl 1 (by decide) flX2_determinant_15 rfl rfl dX2_determinant_41 ?_
  refine z_iload_n (pc := 44) M dX2_determinant_44 rfl 1 rfl ?_
  refine z_lald (pc := 45) M K ⟨by decide, rfl, rfl⟩ h dX2_determinant_45 (fun _ h => ?_)
  exact z_lretW (pc := 46) M (congrArg Prod.fst (Option.some.inj h)) (congrArg Prod.snd (Option.some.inj h)) dX2_determinant_46
def rmX1_sumOfTrees : Room := { frames := 3, cells := 0, slots := 0, locals := 70 }
theorem flX1_sumOfTrees_13 : Cond.fieldLink RX1 13 "ShunLots$Net" "starts" "[I" ∈ wsX1_sumOfTrees := by decide +kernel
theorem flX1_sumOfTrees_17 : Cond.fieldLink RX1 17 "ShunLots$Net" "ends" "[I" ∈ wsX1_sumOfTrees := by decide +kernel
theorem flX1_sumOfTrees_20 : Cond.fieldLink RX1 20 "ShunLots$Net" "weights" "[I" ∈ wsX1_sumOfTrees := by decide +kernel
theorem flX1_sumOfTrees_7 : Cond.fieldLink RX1 7 "ShunLots$Net" "edges" "I" ∈ wsX1_sumOfTrees := by decide +kernel
theorem inX1_sumOfTrees_X1 : ∀ w ∈ wsX10, w ∈ wsX1_sumOfTrees := by decide +kernel
set_option maxRecDepth 100000 in
set_option maxHeartbeats 4000000 in
theorem LX1_sumOfTrees_1 {p : Program} {l : Launch} {e : Env} {s : State} {m : MethodId} {args : Array Value} {below : List Frame} {meth : Method} {c : Code} {Q : State → Prop} {D : va_G} {cy ad : Nat → Nat} {n : Nat} (M : MX p m c cX1_sumOfTrees 4 s args wsX1_sumOfTrees RX1 meth (some .long)) (K : KK D cy ad s) (x1 : Int32)   : ∀ (fuel : Nat) (x3 : Int32) (S : St) (o : (Unit) × St), lX1_sumOfTrees_1 n x1 fuel x3 S = some o → ∀ (hx : ∀ a S', o = (a, S') → Zz p l e rmX1_sumOfTrees s m args below meth c 4 Q (Hw D cy ad n s S') 137 [(2, .ref (ad 6))] []) , Zz p l e rmX1_sumOfTrees s m args below meth c 4 Q (Hw D cy ad n s S) 9 [(0, .ref (ad 2)), (1, .int x1), (2, .ref (ad 6)), (3, .int x3)] [] := by
  intro fuel
  induction fuel with
  | zero => intro x3 S o h; exact nomatch (show (none : Option _) = some o from h)
  | succ fuel ih =>
    intro x3 S o h hx 
    have h : bX1_sumOfTrees_1 n x1 (lX1_sumOfTrees_1 n x1 fuel) x3 S = some o := h
    unfold bX1_sumOfTrees_1 at h
    refine z_iload_n (pc := 9) M dX1_sumOfTrees_9 rfl 3 rfl ?_
    refine z_aload_n (pc := 10) M dX1_sumOfTrees_10 rfl 0 rfl ?_
    refine z_get (pc := 11) (v := .int (nI n)) M K inX1_sumOfTrees_X1 o_net rfl 0 (by decide) flX1_sumOfTrees_7 rfl rfl dX1_sumOfTrees_11 ?_
    refine z_icmp_ge (pc := 14) 137 M dX1_sumOfTrees_14 (by decide) h (fun c_18 h => ?_) (fun c_18 h => ?_)
    · refine z_locals [2] [(2, .ref (ad 6))] rfl ?_
      cases h
      exact hx _ _ rfl
    · refine z_aload_n (pc := 17) M dX1_sumOfTrees_17 rfl 0 rfl ?_
      refine z_get (pc := 18) (v := .ref (ad 7)) M K inX1_sumOfTrees_X1 o_net rfl 1 (by decide) flX1_sumOfTrees_13 rfl rfl dX1_sumOfTrees_18 ?_
      refine z_iload_n (pc := 21) M dX1_sumOfTrees_21 rfl 3 rfl ?_
      refine z_iald (pc := 22) M K ⟨by decide, rfl, rfl⟩ h dX1_sumOfTrees_22 (fun _ h => ?_)
      refine z_iload_n (pc := 23) M dX1_sumOfTrees_23 rfl 1 rfl ?_
      refine z_icmp_ge (pc := 24) 131 M dX1_sumOfTrees_24 (by decide) h (fun c_17 h => ?_) (fun c_17 h => ?_)
      · refine z_iinc (pc := 131) M dX1_sumOfTrees_131 (x3 + 1) rfl 3 rfl (by decide) [1, 2, 3, 0] [(0, .ref (ad 2)), (1, .int x1), (2, .ref (ad 6)), (3, .int (x3 + 1))] rfl ?_
        refine z_goto (pc := 134) 9 M dX1_sumOfTrees_134 (by decide) ?_
        refine z_locals [0, 1, 2, 3] [(0, .ref (ad 2)), (1, .int x1), (2, .ref (ad 6)), (3, .int (x3 + 1))] rfl ?_
        exact ih (x3 + 1) S _ h hx
      · refine z_aload_n (pc := 27) M dX1_sumOfTrees_27 rfl 0 rfl ?_
        refine z_get (pc := 28) (v := .ref (ad 8)) M K inX1_sumOfTrees_X1 o_net rfl 2 (by decide) flX1_sumOfTrees_17 rfl rfl dX1_sumOfTrees_28 ?_
        refine z_iload_n (pc := 31) M dX1_sumOfTrees_31 rfl 3 rfl ?_
        refine z_iald (pc := 32) M K ⟨by decide, rfl, rfl⟩ h dX1_sumOfTrees_32 (fun _ h => ?_)
        refine z_iload_n (pc := 33) M dX1_sumOfTrees_33 rfl 1 rfl ?_
        refine z_icmp_ge (pc := 34) 131 M dX1_sumOfTrees_34 (by decide) h (fun c_16 h => ?_) (fun c_16 h => ?_)
        · refine z_iinc (pc := 131) M dX1_sumOfTrees_131 (x3 + 1) rfl 3 rfl (by decide) [1, 2, 3, 0] [(0, .ref (ad 2)), (1, .int x1), (2, .ref (ad 6)), (3, .int (x3 + 1))] rfl ?_
          refine z_goto (pc := 134) 9 M dX1_sumOfTrees_134 (by decide) ?_
          refine z_locals [0, 1, 2, 3] [(0, .ref (ad 2)), (1, .int x1), (2, .ref (ad 6)), (3, .int (x3 + 1))] rfl ?_
          exact ih (x3 + 1) S _ h hx
        · refine z_aload_n (pc := 37) M dX1_sumOfTrees_37 rfl 2 rfl ?_
          refine z_aload_n (pc := 38) M dX1_sumOfTrees_38 rfl 0 rfl ?_
          refine z_get (pc := 39) (v := .ref (ad 7)) M K inX1_sumOfTrees_X1 o_net rfl 1 (by decide) flX1_sumOfTrees_13 rfl rfl dX1_sumOfTrees_39 ?_
          refine z_iload_n (pc := 42) M dX1_sumOfTrees_42 rfl 3 rfl ?_
          refine z_iald (pc := 43) M K ⟨by decide, rfl, rfl⟩ h dX1_sumOfTrees_43 (fun _ h => ?_)
          refine z_aload_n (pc := 44) M dX1_sumOfTrees_44 rfl 0 rfl ?_
          refine z_get (pc := 45) (v := .ref (ad 7)) M K inX1_sumOfTrees_X1 o_net rfl 1 (by decide) flX1_sumOfTrees_13 rfl rfl dX1_sumOfTrees_45 ?_
          refine z_iload_n (pc := 48) M dX1_sumOfTrees_48 rfl 3 rfl ?_
          refine z_iald (pc := 49) M K ⟨by decide, rfl, rfl⟩ h dX1_sumOfTrees_49 (fun _ h => ?_)
          refine z_aload_n (pc := 50) M dX1_sumOfTrees_50 rfl 0 rfl ?_
          refine z_get (pc := 51) (v := .ref (ad 9)) M K inX1_sumOfTrees_X1 o_net rfl 3 (by decide) flX1_sumOfTrees_20 rfl rfl dX1_sumOfTrees_51 ?_
          refine z_iload_n (pc := 54) M dX1_sumOfTrees_54 rfl 3 rfl ?_
          refine z_iald (pc := 55) M K ⟨by decide, rfl, rfl⟩ h dX1_sumOfTrees_55 (fun _ h => ?_)
          refine z_i2l (pc := 56) M dX1_sumOfTrees_56 ?_
          obtain ⟨r4, S6, h5, h⟩ := bw_in h
          refine z_vcallV (pc := 57) (As := [.int (S.1 7 (Int32.toNatClampNeg x3)), .int (S.1 7 (Int32.toNatClampNeg x3)), .long (Int32.toInt64 (S.1 9 (Int32.toNatClampNeg x3)))]) M K (kX2_add l D cy ad n (S.1 7 (Int32.toNatClampNeg x3)) (S.1 7 (Int32.toNatClampNeg x3)) (Int32.toInt64 (S.1 9 (Int32.toNatClampNeg x3))) S r4 S6 h5) (cwV 3 M.1.2.2.2.2 gX1_sumOfTrees_X2_add rfl rfl rfl (by decide +kernel) ⟨Nat.le_of_ble_eq_true rfl, Nat.le_of_ble_eq_true rfl⟩) o_squ rfl rfl rfl (Nat.le_of_ble_eq_true rfl) dX1_sumOfTrees_57 ?_
          refine z_aload_n (pc := 60) M dX1_sumOfTrees_60 rfl 2 rfl ?_
          refine z_aload_n (pc := 61) M dX1_sumOfTrees_61 rfl 0 rfl ?_
          refine z_get (pc := 62) (v := .ref (ad 8)) M K inX1_sumOfTrees_X1 o_net rfl 2 (by decide) flX1_sumOfTrees_17 rfl rfl dX1_sumOfTrees_62 ?_
          refine z_iload_n (pc := 65) M dX1_sumOfTrees_65 rfl 3 rfl ?_
          refine z_iald (pc := 66) M K ⟨by decide, rfl, rfl⟩ h dX1_sumOfTrees_66 (fun _ h => ?_)
          refine z_aload_n (pc := 67) M dX1_sumOfTrees_67 rfl 0 rfl ?_
          refine z_get (pc := 68) (v := .ref (ad 8)) M K inX1_sumOfTrees_X1 o_net rfl 2 (by decide) flX1_sumOfTrees_17 rfl rfl dX1_sumOfTrees_68 ?_
          refine z_iload_n (pc := 71) M dX1_sumOfTrees_71 rfl 3 rfl ?_
          refine z_iald (pc := 72) M K ⟨by decide, rfl, rfl⟩ h dX1_sumOfTrees_72 (fun _ h => ?_)
          refine z_aload_n (pc := 73) M dX1_sumOfTrees_73 rfl 0 rfl ?_
          refine z_get (pc := 74) (v := .ref (ad 9)) M K inX1_sumOfTrees_X1 o_net rfl 3 (by decide) flX1_sumOfTrees_20 rfl rfl dX1_sumOfTrees_74 ?_
          refine z_iload_n (pc := 77) M dX1_sumOfTrees_77 rfl 3 rfl ?_
          refine z_iald (pc := 78) M K ⟨by decide, rfl, rfl⟩ h dX1_sumOfTrees_78 (fun _ h => ?_)
          refine z_i2l (pc := 79) M dX1_sumOfTrees_79 ?_
          obtain ⟨r7, S9, h8, h⟩ := bw_in h
          refine z_vcallV (pc := 80) (As := [.int (S6.1 8 (Int32.toNatClampNeg x3)), .int (S6.1 8 (Int32.toNatClampNeg x3)), .long (Int32.toInt64 (S6.1 9 (Int32.toNatClampNeg x3)))]) M K (kX2_add l D cy ad n (S6.1 8 (Int32.toNatClampNeg x3)) (S6.1 8 (Int32.toNatClampNeg x3)) (Int32.toInt64 (S6.1 9 (Int32.toNatClampNeg x3))) S6 r7 S9 h8) (cwV 3 M.1.2.2.2.2 gX1_sumOfTrees_X2_add rfl rfl rfl (by decide +kernel) ⟨Nat.le_of_ble_eq_true rfl, Nat.le_of_ble_eq_true rfl⟩) o_squ rfl rfl rfl (Nat.le_of_ble_eq_true rfl) dX1_sumOfTrees_80 ?_
          refine z_aload_n (pc := 83) M dX1_sumOfTrees_83 rfl 2 rfl ?_
          refine z_aload_n (pc := 84) M dX1_sumOfTrees_84 rfl 0 rfl ?_
          refine z_get (pc := 85) (v := .ref (ad 7)) M K inX1_sumOfTrees_X1 o_net rfl 1 (by decide) flX1_sumOfTrees_13 rfl rfl dX1_sumOfTrees_85 ?_
          refine z_iload_n (pc := 88) M dX1_sumOfTrees_88 rfl 3 rfl ?_
          refine z_iald (pc := 89) M K ⟨by decide, rfl, rfl⟩ h dX1_sumOfTrees_89 (fun _ h => ?_)
          refine z_aload_n (pc := 90) M dX1_sumOfTrees_90 rfl 0 rfl ?_
          refine z_get (pc := 91) (v := .ref (ad 8)) M K inX1_sumOfTrees_X1 o_net rfl 2 (by decide) flX1_sumOfTrees_17 rfl rfl dX1_sumOfTrees_91 ?_
          refine z_iload_n (pc := 94) M dX1_sumOfTrees_94 rfl 3 rfl ?_
          refine z_iald (pc := 95) M K ⟨by decide, rfl, rfl⟩ h dX1_sumOfTrees_95 (fun _ h => ?_)
          refine z_aload_n (pc := 96) M dX1_sumOfTrees_96 rfl 0 rfl ?_
          refine z_get (pc := 97) (v := .ref (ad 9)) M K inX1_sumOfTrees_X1 o_net rfl 3 (by decide) flX1_sumOfTrees_20 rfl rfl dX1_sumOfTrees_97 ?_
          refine z_iload_n (pc := 100) M dX1_sumOfTrees_100 rfl 3 rfl ?_
          refine z_iald (pc := 101) M K ⟨by decide, rfl, rfl⟩ h dX1_sumOfTrees_101 (fun _ h => ?_)
          refine z_ineg (pc := 102) M dX1_sumOfTrees_102 ?_
          refine z_i2l (pc := 103) M dX1_sumOfTrees_103 ?_
          obtain ⟨r10, S12, h11, h⟩ := bw_in h
          refine z_vcallV (pc := 104) (As := [.int (S9.1 7 (Int32.toNatClampNeg x3)), .int (S9.1 8 (Int32.toNatClampNeg x3)), .long (Int32.toInt64 (-(S9.1 9 (Int32.toNatClampNeg x3))))]) M K (kX2_add l D cy ad n (S9.1 7 (Int32.toNatClampNeg x3)) (S9.1 8 (Int32.toNatClampNeg x3)) (Int32.toInt64 (-(S9.1 9 (Int32.toNatClampNeg x3)))) S9 r10 S12 h11) (cwV 3 M.1.2.2.2.2 gX1_sumOfTrees_X2_add rfl rfl rfl (by decide +kernel) ⟨Nat.le_of_ble_eq_true rfl, Nat.le_of_ble_eq_true rfl⟩) o_squ rfl rfl rfl (Nat.le_of_ble_eq_true rfl) dX1_sumOfTrees_104 ?_
          refine z_aload_n (pc := 107) M dX1_sumOfTrees_107 rfl 2 rfl ?_
          refine z_aload_n (pc := 108) M dX1_sumOfTrees_108 rfl 0 rfl ?_
          refine z_get (pc := 109) (v := .ref (ad 8)) M K inX1_sumOfTrees_X1 o_net rfl 2 (by decide) flX1_sumOfTrees_17 rfl rfl dX1_sumOfTrees_109 ?_
          refine z_iload_n (pc := 112) M dX1_sumOfTrees_112 rfl 3 rfl ?_
          refine z_iald (pc := 113) M K ⟨by decide, rfl, rfl⟩ h dX1_sumOfTrees_113 (fun _ h => ?_)
          refine z_aload_n (pc := 114) M dX1_sumOfTrees_114 rfl 0 rfl ?_
          refine z_get (pc := 115) (v := .ref (ad 7)) M K inX1_sumOfTrees_X1 o_net rfl 1 (by decide) flX1_sumOfTrees_13 rfl rfl dX1_sumOfTrees_115 ?_
          refine z_iload_n (pc := 118) M dX1_sumOfTrees_118 rfl 3 rfl ?_
          refine z_iald (pc := 119) M K ⟨by decide, rfl, rfl⟩ h dX1_sumOfTrees_119 (fun _ h => ?_)
          refine z_aload_n (pc := 120) M dX1_sumOfTrees_120 rfl 0 rfl ?_
          refine z_get (pc := 121) (v := .ref (ad 9)) M K inX1_sumOfTrees_X1 o_net rfl 3 (by decide) flX1_sumOfTrees_20 rfl rfl dX1_sumOfTrees_121 ?_
          refine z_iload_n (pc := 124) M dX1_sumOfTrees_124 rfl 3 rfl ?_
          refine z_iald (pc := 125) M K ⟨by decide, rfl, rfl⟩ h dX1_sumOfTrees_125 (fun _ h => ?_)
          refine z_ineg (pc := 126) M dX1_sumOfTrees_126 ?_
          refine z_i2l (pc := 127) M dX1_sumOfTrees_127 ?_
          obtain ⟨r13, S15, h14, h⟩ := bw_in h
          refine z_vcallV (pc := 128) (As := [.int (S12.1 8 (Int32.toNatClampNeg x3)), .int (S12.1 7 (Int32.toNatClampNeg x3)), .long (Int32.toInt64 (-(S12.1 9 (Int32.toNatClampNeg x3))))]) M K (kX2_add l D cy ad n (S12.1 8 (Int32.toNatClampNeg x3)) (S12.1 7 (Int32.toNatClampNeg x3)) (Int32.toInt64 (-(S12.1 9 (Int32.toNatClampNeg x3)))) S12 r13 S15 h14) (cwV 3 M.1.2.2.2.2 gX1_sumOfTrees_X2_add rfl rfl rfl (by decide +kernel) ⟨Nat.le_of_ble_eq_true rfl, Nat.le_of_ble_eq_true rfl⟩) o_squ rfl rfl rfl (Nat.le_of_ble_eq_true rfl) dX1_sumOfTrees_128 ?_
          refine z_iinc (pc := 131) M dX1_sumOfTrees_131 (x3 + 1) rfl 3 rfl (by decide) [1, 2, 3, 0] [(0, .ref (ad 2)), (1, .int x1), (2, .ref (ad 6)), (3, .int (x3 + 1))] rfl ?_
          refine z_goto (pc := 134) 9 M dX1_sumOfTrees_134 (by decide) ?_
          refine z_locals [0, 1, 2, 3] [(0, .ref (ad 2)), (1, .int x1), (2, .ref (ad 6)), (3, .int (x3 + 1))] rfl ?_
          exact ih (x3 + 1) S15 _ h hx
set_option maxRecDepth 100000 in
set_option maxHeartbeats 4000000 in
theorem kX1_sumOfTrees (l : Launch) (D : va_G) (cy ad : Nat → Nat) (n : Nat) (p0 : Int32) (S : St) (r : Int64) (S' : St) (h : fX1_sumOfTrees n p0 S = some (r, S')) : CW l D cy ad n yX1_sumOfTrees wsX1_sumOfTrees rmX1_sumOfTrees [.ref (ad 2), .int p0, .ref (ad 6)] S (some (.long r)) S' := by
  refine CW.of (cc := cX1_sumOfTrees) (nL := 4) (ret := (some .long)) (own := RX1) rfl (by decide +kernel) rfl (Nat.le_of_ble_eq_true rfl) ?_
  intro p e s m args below meth c M K
  unfold fX1_sumOfTrees at h
  refine z_locals [0, 1, 2] [(0, .ref (ad 2)), (1, .int p0), (2, .ref (ad 6))] rfl ?_
  refine z_aload_n (pc := 0) M dX1_sumOfTrees_0 rfl 2 rfl ?_
  refine z_iload_n (pc := 1) M dX1_sumOfTrees_1 rfl 1 rfl ?_
  refine z_iconst (pc := 2) (v := 1) M dX1_sumOfTrees_2 (by decide) ?_
  refine z_isub (pc := 3) M dX1_sumOfTrees_3 ?_
  obtain ⟨r1, S3, h2, h⟩ := bw_in h
  refine z_vcallV (pc := 4) (As := [.int (p0 - (1 : Int32))]) M K (kX2_begin l D cy ad n (p0 - (1 : Int32)) S r1 S3 h2) (cwV 1 M.1.2.2.2.2 gX1_sumOfTrees_X2_begin rfl rfl rfl (by decide +kernel) ⟨Nat.le_of_ble_eq_true rfl, Nat.le_of_ble_eq_true rfl⟩) o_squ rfl rfl rfl (Nat.le_of_ble_eq_true rfl) dX1_sumOfTrees_4 ?_
  refine z_iconst (pc := 7) (v := 0) M dX1_sumOfTrees_7 (by decide) ?_
  refine z_istore_n (pc := 8) M dX1_sumOfTrees_8 rfl (by decide) [1, 2, 3, 0] [(0, .ref (ad 2)), (1, .int p0), (2, .ref (ad 6)), (3, .int (0 : Int32))] rfl ?_
  refine z_locals [0, 1, 2, 3] [(0, .ref (ad 2)), (1, .int p0), (2, .ref (ad 6)), (3, .int (0 : Int32))] rfl ?_
  obtain ⟨q19, S21, h20, h⟩ := bw_in h
  refine LX1_sumOfTrees_1 M K p0 FU (0 : Int32) S3 _ h20 (fun a S' hE => ?_)
  cases hE
  refine z_aload_n (pc := 137) M dX1_sumOfTrees_137 rfl 0 rfl ?_
  obtain ⟨r22, S24, h23, h⟩ := bw_in h
  refine z_vcall (pc := 138) (As := []) M K (kX2_determinant l D cy ad n  S21 r22 S24 h23) (cwV 0 M.1.2.2.2.2 gX1_sumOfTrees_X2_determinant rfl rfl rfl (by decide +kernel) ⟨Nat.le_of_ble_eq_true rfl, Nat.le_of_ble_eq_true rfl⟩) o_squ rfl rfl rfl (Nat.le_of_ble_eq_true rfl) dX1_sumOfTrees_138 ?_
  exact z_lretW (pc := 141) M (congrArg Prod.fst (Option.some.inj h)) (congrArg Prod.snd (Option.some.inj h)) dX1_sumOfTrees_141
def rmX4_has : Room := { frames := 0, cells := 0, slots := 0, locals := 0 }
set_option maxRecDepth 100000 in
set_option maxHeartbeats 4000000 in
theorem kX4_has (l : Launch) (p0 : Int32) (p1 : Int32) (r : Bool) (h : fX4_has p0 p1 = some r) : CP l yX4_has wsX4_has rmX4_has [.int p0, .int p1] (some (.int (b2i r))) := by
  refine CP.of (cc := cX4_has) (nL := 2) (ret := (some .boolean)) (own := RX4) rfl (by decide +kernel) rfl (Nat.le_of_ble_eq_true rfl) ?_
  intro p e s m args below meth c M
  unfold fX4_has at h
  refine z_locals [0, 1] [(0, .int p0), (1, .int p1)] rfl ?_
  refine z_iload_n (pc := 0) M dX4_has_0 rfl 0 rfl ?_
  refine z_iload_n (pc := 1) M dX4_has_1 rfl 1 rfl ?_
  refine z_ishr (pc := 2) M dX4_has_2 ?_
  refine z_iconst (pc := 3) (v := 1) M dX4_has_3 (by decide) ?_
  refine z_iand (pc := 4) M dX4_has_4 ?_
  refine z_if_eq (pc := 5) 12 M dX4_has_5 (by decide) h (fun c_1 h => ?_) (fun c_1 h => ?_)
  · refine z_iconst (pc := 12) (v := 0) M dX4_has_12 (by decide) ?_
    exact z_zretP (pc := 13) M h rfl dX4_has_13
  · refine z_iconst (pc := 8) (v := 1) M dX4_has_8 (by decide) ?_
    refine z_goto (pc := 9) 13 M dX4_has_9 (by decide) ?_
    exact z_zretP (pc := 13) M h rfl dX4_has_13
def rmX1_joinedOnce : Room := { frames := 1, cells := 0, slots := 0, locals := 21 }
theorem flX1_joinedOnce_13 : Cond.fieldLink RX1 13 "ShunLots$Net" "starts" "[I" ∈ wsX1_joinedOnce := by decide +kernel
theorem flX1_joinedOnce_17 : Cond.fieldLink RX1 17 "ShunLots$Net" "ends" "[I" ∈ wsX1_joinedOnce := by decide +kernel
theorem flX1_joinedOnce_7 : Cond.fieldLink RX1 7 "ShunLots$Net" "edges" "I" ∈ wsX1_joinedOnce := by decide +kernel
theorem wdX1_joinedOnce_Cond_initialized_RX4 : Cond.initialized RX4 ∈ wsX1_joinedOnce := by decide +kernel
theorem wdX1_joinedOnce_Cond_static_yX4_has : Cond.static yX4_has ∈ wsX1_joinedOnce := by decide +kernel
theorem inX1_joinedOnce_X1 : ∀ w ∈ wsX10, w ∈ wsX1_joinedOnce := by decide +kernel
set_option maxRecDepth 100000 in
set_option maxHeartbeats 4000000 in
theorem LX1_joinedOnce_1 {p : Program} {l : Launch} {e : Env} {s : State} {m : MethodId} {args : Array Value} {below : List Frame} {meth : Method} {c : Code} {Q : State → Prop} {D : va_G} {cy ad : Nat → Nat} {n : Nat} (M : MX p m c cX1_joinedOnce 6 s args wsX1_joinedOnce RX1 meth (some .int)) (K : KK D cy ad s) (x2 : Int32)  (S : St) : ∀ (fuel : Nat) (x3 : Int32) (x4 : Int32) (o : (Int32)), lX1_joinedOnce_1 n x2 S fuel x3 x4 = some o → ∀ (hx : ∀ a, o = a → Zz p l e rmX1_joinedOnce s m args below meth c 6 Q (Hw D cy ad n s S) 62 [(3, .int a)] []) , Zz p l e rmX1_joinedOnce s m args below meth c 6 Q (Hw D cy ad n s S) 5 [(0, .ref (ad 2)), (2, .int x2), (3, .int x3), (4, .int x4)] [] := by
  intro fuel
  induction fuel with
  | zero => intro x3 x4 o h; exact nomatch (show (none : Option _) = some o from h)
  | succ fuel ih =>
    intro x3 x4 o h hx 
    have h : bX1_joinedOnce_1 n x2 S (lX1_joinedOnce_1 n x2 S fuel) x3 x4 = some o := h
    unfold bX1_joinedOnce_1 at h
    refine z_iload (pc := 5) M dX1_joinedOnce_5 3 rfl ?_
    refine z_aload_n (pc := 7) M dX1_joinedOnce_7 rfl 0 rfl ?_
    refine z_get (pc := 8) (v := .int (nI n)) M K inX1_joinedOnce_X1 o_net rfl 0 (by decide) flX1_joinedOnce_7 rfl rfl dX1_joinedOnce_8 ?_
    refine z_icmp_ge (pc := 11) 62 M dX1_joinedOnce_11 (by decide) h (fun c_5 h => ?_) (fun c_5 h => ?_)
    · refine z_locals [2] [(3, .int x3)] rfl ?_
      cases h
      exact hx _ rfl
    · refine z_iconst (pc := 14) (v := 1) M dX1_joinedOnce_14 (by decide) ?_
      refine z_aload_n (pc := 15) M dX1_joinedOnce_15 rfl 0 rfl ?_
      refine z_get (pc := 16) (v := .ref (ad 7)) M K inX1_joinedOnce_X1 o_net rfl 1 (by decide) flX1_joinedOnce_13 rfl rfl dX1_joinedOnce_16 ?_
      refine z_iload (pc := 19) M dX1_joinedOnce_19 3 rfl ?_
      refine z_iald (pc := 21) M K ⟨by decide, rfl, rfl⟩ h dX1_joinedOnce_21 (fun _ h => ?_)
      refine z_ishl (pc := 22) M dX1_joinedOnce_22 ?_
      refine z_iconst (pc := 23) (v := 1) M dX1_joinedOnce_23 (by decide) ?_
      refine z_aload_n (pc := 24) M dX1_joinedOnce_24 rfl 0 rfl ?_
      refine z_get (pc := 25) (v := .ref (ad 8)) M K inX1_joinedOnce_X1 o_net rfl 2 (by decide) flX1_joinedOnce_17 rfl rfl dX1_joinedOnce_25 ?_
      refine z_iload (pc := 28) M dX1_joinedOnce_28 3 rfl ?_
      refine z_iald (pc := 30) M K ⟨by decide, rfl, rfl⟩ h dX1_joinedOnce_30 (fun _ h => ?_)
      refine z_ishl (pc := 31) M dX1_joinedOnce_31 ?_
      refine z_ior (pc := 32) M dX1_joinedOnce_32 ?_
      refine z_istore (pc := 33) M dX1_joinedOnce_33 (by decide) [1, 2, 3, 4, 0] [(0, .ref (ad 2)), (2, .int x2), (3, .int x3), (4, .int x4), (5, .int (((1 : Int32) <<< ((S.1 7 (Int32.toNatClampNeg x4)) &&& 31)) ||| ((1 : Int32) <<< ((S.1 8 (Int32.toNatClampNeg x4)) &&& 31))))] rfl ?_
      refine z_iload_n (pc := 35) M dX1_joinedOnce_35 rfl 1 rfl ?_
      refine z_iload (pc := 36) M dX1_joinedOnce_36 3 rfl ?_
      obtain ⟨r1, h2, h⟩ := bo_in h
      refine z_ncall (pc := 38) (As := [.int x2, .int x4]) M (kX4_has l x2 x4 r1 h2) ⟨va_cnB 2 M.1.2.2.2.2 gX1_joinedOnce_X4_has_n47 rfl rfl rfl K.2.1.2.2.1 (M.1.2.2.2.2 _ wdX1_joinedOnce_Cond_initialized_RX4) (by decide +kernel) ⟨Nat.le_of_ble_eq_true rfl, Nat.le_of_ble_eq_true rfl⟩, M.1.2.2.2.2 _ wdX1_joinedOnce_Cond_static_yX4_has, trivial⟩ rfl rfl (Nat.le_of_ble_eq_true rfl) dX1_joinedOnce_38 ?_
      refine z_if_eqB (pc := 41) 56 M dX1_joinedOnce_41 (by decide) h (fun c_4 h => ?_) (fun c_4 h => ?_)
      · refine z_iinc (pc := 56) M dX1_joinedOnce_56 (x4 + 1) rfl 3 rfl (by decide) [1, 2, 3, 0, 4] [(0, .ref (ad 2)), (2, .int x2), (3, .int x3), (4, .int (x4 + 1)), (5, .int (((1 : Int32) <<< ((S.1 7 (Int32.toNatClampNeg x4)) &&& 31)) ||| ((1 : Int32) <<< ((S.1 8 (Int32.toNatClampNeg x4)) &&& 31))))] rfl ?_
        refine z_goto (pc := 59) 5 M dX1_joinedOnce_59 (by decide) ?_
        refine z_locals [0, 1, 2, 3] [(0, .ref (ad 2)), (2, .int x2), (3, .int x3), (4, .int (x4 + 1))] rfl ?_
        exact ih x3 (x4 + 1) _ h hx
      · refine z_iload_n (pc := 44) M dX1_joinedOnce_44 rfl 2 rfl ?_
        refine z_iload (pc := 45) M dX1_joinedOnce_45 4 rfl ?_
        refine z_iand (pc := 47) M dX1_joinedOnce_47 ?_
        refine z_if_eq (pc := 48) 56 M dX1_joinedOnce_48 (by decide) h (fun c_3 h => ?_) (fun c_3 h => ?_)
        · refine z_iinc (pc := 56) M dX1_joinedOnce_56 (x4 + 1) rfl 3 rfl (by decide) [1, 2, 3, 0, 4] [(0, .ref (ad 2)), (2, .int x2), (3, .int x3), (4, .int (x4 + 1)), (5, .int (((1 : Int32) <<< ((S.1 7 (Int32.toNatClampNeg x4)) &&& 31)) ||| ((1 : Int32) <<< ((S.1 8 (Int32.toNatClampNeg x4)) &&& 31))))] rfl ?_
          refine z_goto (pc := 59) 5 M dX1_joinedOnce_59 (by decide) ?_
          refine z_locals [0, 1, 2, 3] [(0, .ref (ad 2)), (2, .int x2), (3, .int x3), (4, .int (x4 + 1))] rfl ?_
          exact ih x3 (x4 + 1) _ h hx
        · refine z_iload_n (pc := 51) M dX1_joinedOnce_51 rfl 2 rfl ?_
          refine z_iload (pc := 52) M dX1_joinedOnce_52 4 rfl ?_
          refine z_ior (pc := 54) M dX1_joinedOnce_54 ?_
          refine z_istore_n (pc := 55) M dX1_joinedOnce_55 rfl (by decide) [1, 2, 0, 3] [(0, .ref (ad 2)), (2, .int x2), (3, .int (x3 ||| (((1 : Int32) <<< ((S.1 7 (Int32.toNatClampNeg x4)) &&& 31)) ||| ((1 : Int32) <<< ((S.1 8 (Int32.toNatClampNeg x4)) &&& 31))))), (4, .int x4)] rfl ?_
          refine z_iinc (pc := 56) M dX1_joinedOnce_56 (x4 + 1) rfl 3 rfl (by decide) [1, 2, 3, 0] [(0, .ref (ad 2)), (2, .int x2), (3, .int (x3 ||| (((1 : Int32) <<< ((S.1 7 (Int32.toNatClampNeg x4)) &&& 31)) ||| ((1 : Int32) <<< ((S.1 8 (Int32.toNatClampNeg x4)) &&& 31))))), (4, .int (x4 + 1))] rfl ?_
          refine z_goto (pc := 59) 5 M dX1_joinedOnce_59 (by decide) ?_
          refine z_locals [0, 1, 2, 3] [(0, .ref (ad 2)), (2, .int x2), (3, .int (x3 ||| (((1 : Int32) <<< ((S.1 7 (Int32.toNatClampNeg x4)) &&& 31)) ||| ((1 : Int32) <<< ((S.1 8 (Int32.toNatClampNeg x4)) &&& 31))))), (4, .int (x4 + 1))] rfl ?_
          exact ih (x3 ||| (((1 : Int32) <<< ((S.1 7 (Int32.toNatClampNeg x4)) &&& 31)) ||| ((1 : Int32) <<< ((S.1 8 (Int32.toNatClampNeg x4)) &&& 31)))) (x4 + 1) _ h hx
set_option maxRecDepth 100000 in
set_option maxHeartbeats 4000000 in
theorem kX1_joinedOnce (l : Launch) (D : va_G) (cy ad : Nat → Nat) (n : Nat) (p0 : Int32) (p1 : Int32) (S : St) (r : Int32) (h : fX1_joinedOnce n p0 p1 S = some r) : CW l D cy ad n yX1_joinedOnce wsX1_joinedOnce rmX1_joinedOnce [.ref (ad 2), .int p0, .int p1] S (some (.int r)) S := by
  refine CW.of (cc := cX1_joinedOnce) (nL := 6) (ret := (some .int)) (own := RX1) rfl (by decide +kernel) rfl (Nat.le_of_ble_eq_true rfl) ?_
  intro p e s m args below meth c M K
  unfold fX1_joinedOnce at h
  refine z_locals [0, 1, 2] [(0, .ref (ad 2)), (1, .int p0), (2, .int p1)] rfl ?_
  refine z_iload_n (pc := 0) M dX1_joinedOnce_0 rfl 1 rfl ?_
  refine z_istore_n (pc := 1) M dX1_joinedOnce_1 rfl (by decide) [1, 3, 0] [(0, .ref (ad 2)), (2, .int p1), (3, .int p0)] rfl ?_
  refine z_iconst (pc := 2) (v := 0) M dX1_joinedOnce_2 (by decide) ?_
  refine z_istore (pc := 3) M dX1_joinedOnce_3 (by decide) [1, 2, 3, 0] [(0, .ref (ad 2)), (2, .int p1), (3, .int p0), (4, .int (0 : Int32))] rfl ?_
  refine z_locals [0, 1, 2, 3] [(0, .ref (ad 2)), (2, .int p1), (3, .int p0), (4, .int (0 : Int32))] rfl ?_
  obtain ⟨q6, h7, h⟩ := bo_in h
  refine LX1_joinedOnce_1 M K p1 S FU p0 (0 : Int32) _ h7 (fun a hE => ?_)
  cases hE
  refine z_iload_n (pc := 62) M dX1_joinedOnce_62 rfl 0 rfl ?_
  exact z_iretW (pc := 63) M (Option.some.inj h) rfl dX1_joinedOnce_63
def rmX1_isTree : Room := { frames := 2, cells := 0, slots := 0, locals := 46 }
set_option maxRecDepth 100000 in
set_option maxHeartbeats 4000000 in
theorem LX1_isTree_1 {p : Program} {l : Launch} {e : Env} {s : State} {m : MethodId} {args : Array Value} {below : List Frame} {meth : Method} {c : Code} {Q : State → Prop} {D : va_G} {cy ad : Nat → Nat} {n : Nat} (M : MX p m c cX1_isTree 5 s args wsX1_isTree RX1 meth (some .boolean)) (K : KK D cy ad s) (x1 : Int32) (x2 : Int32)  (S : St) : ∀ (fuel : Nat) (x3 : Int32) (x4 : Int32) (o : (Int32)), lX1_isTree_1 n x1 x2 S fuel x3 x4 = some o → ∀ (hx : ∀ a, o = a → Zz p l e rmX1_isTree s m args below meth c 5 Q (Hw D cy ad n s S) 36 [(2, .int x2), (3, .int a)] []) , Zz p l e rmX1_isTree s m args below meth c 5 Q (Hw D cy ad n s S) 17 [(0, .ref (ad 2)), (1, .int x1), (2, .int x2), (3, .int x3), (4, .int x4)] [] := by
  intro fuel
  induction fuel with
  | zero => intro x3 x4 o h; exact nomatch (show (none : Option _) = some o from h)
  | succ fuel ih =>
    intro x3 x4 o h hx 
    have h : bX1_isTree_1 n x1 x2 S (lX1_isTree_1 n x1 x2 S fuel) x3 x4 = some o := h
    unfold bX1_isTree_1 at h
    refine z_iload (pc := 17) M dX1_isTree_17 4 rfl ?_
    refine z_iload_n (pc := 19) M dX1_isTree_19 rfl 2 rfl ?_
    refine z_icmp_ge (pc := 20) 36 M dX1_isTree_20 (by decide) h (fun c_5 h => ?_) (fun c_5 h => ?_)
    · refine z_locals [2, 3] [(2, .int x2), (3, .int x3)] rfl ?_
      cases h
      exact hx _ rfl
    · refine z_aload_n (pc := 23) M dX1_isTree_23 rfl 0 rfl ?_
      refine z_iload_n (pc := 24) M dX1_isTree_24 rfl 3 rfl ?_
      refine z_iload_n (pc := 25) M dX1_isTree_25 rfl 1 rfl ?_
      obtain ⟨r3, h4, h⟩ := bo_in h
      refine z_vcall (pc := 26) (As := [.int x3, .int x1]) M K (kX1_joinedOnce l D cy ad n x3 x1 S r3 h4) (cwV 2 M.1.2.2.2.2 gX1_isTree_X1_joinedOnce rfl rfl rfl (by decide +kernel) ⟨Nat.le_of_ble_eq_true rfl, Nat.le_of_ble_eq_true rfl⟩) o_net rfl rfl rfl (Nat.le_of_ble_eq_true rfl) dX1_isTree_26 ?_
      refine z_istore_n (pc := 29) M dX1_isTree_29 rfl (by decide) [1, 2, 3, 0, 4] [(0, .ref (ad 2)), (1, .int x1), (2, .int x2), (3, .int r3), (4, .int x4)] rfl ?_
      refine z_iinc (pc := 30) M dX1_isTree_30 (x4 + 1) rfl 4 rfl (by decide) [1, 2, 3, 4, 0] [(0, .ref (ad 2)), (1, .int x1), (2, .int x2), (3, .int r3), (4, .int (x4 + 1))] rfl ?_
      refine z_goto (pc := 33) 17 M dX1_isTree_33 (by decide) ?_
      refine z_locals [0, 1, 2, 3, 4] [(0, .ref (ad 2)), (1, .int x1), (2, .int x2), (3, .int r3), (4, .int (x4 + 1))] rfl ?_
      exact ih r3 (x4 + 1) _ h hx
set_option maxRecDepth 100000 in
set_option maxHeartbeats 4000000 in
theorem kX1_isTree (l : Launch) (D : va_G) (cy ad : Nat → Nat) (n : Nat) (p0 : Int32) (p1 : Int32) (S : St) (r : Bool) (h : fX1_isTree n p0 p1 S = some r) : CW l D cy ad n yX1_isTree wsX1_isTree rmX1_isTree [.ref (ad 2), .int p0, .int p1] S (some (.int (b2i r))) S := by
  refine CW.of (cc := cX1_isTree) (nL := 5) (ret := (some .boolean)) (own := RX1) rfl (by decide +kernel) rfl (Nat.le_of_ble_eq_true rfl) ?_
  intro p e s m args below meth c M K
  unfold fX1_isTree at h
  refine z_locals [0, 1, 2] [(0, .ref (ad 2)), (1, .int p0), (2, .int p1)] rfl ?_
  refine z_iload_n (pc := 0) M dX1_isTree_0 rfl 1 rfl ?_
  obtain ⟨r1, h2, h⟩ := bo_in h
  refine z_scall (pc := 1) (As := [.int p0]) M (kJ6_bitCount_0f7a4 l p0 r1 h2) (va_cwS 1 M.1.2.2.2.2 gX1_isTree_J6_bitCount_0f7a4 rfl rfl rfl (by decide +kernel) ⟨Nat.le_of_ble_eq_true rfl, Nat.le_of_ble_eq_true rfl⟩) rfl rfl (Nat.le_of_ble_eq_true rfl) dX1_isTree_1 ?_
  refine z_iload_n (pc := 4) M dX1_isTree_4 rfl 2 rfl ?_
  refine z_iconst (pc := 5) (v := 1) M dX1_isTree_5 (by decide) ?_
  refine z_isub (pc := 6) M dX1_isTree_6 ?_
  refine z_icmp_eq (pc := 7) 12 M dX1_isTree_7 (by decide) h (fun c_9 h => ?_) (fun c_9 h => ?_)
  · refine z_iconst (pc := 12) (v := 1) M dX1_isTree_12 (by decide) ?_
    refine z_istore_n (pc := 13) M dX1_isTree_13 rfl (by decide) [1, 2, 3, 0] [(0, .ref (ad 2)), (1, .int p0), (2, .int p1), (3, .int (1 : Int32))] rfl ?_
    refine z_iconst (pc := 14) (v := 1) M dX1_isTree_14 (by decide) ?_
    refine z_istore (pc := 15) M dX1_isTree_15 (by decide) [1, 2, 3, 4, 0] [(0, .ref (ad 2)), (1, .int p0), (2, .int p1), (3, .int (1 : Int32)), (4, .int (1 : Int32))] rfl ?_
    refine z_locals [0, 1, 2, 3, 4] [(0, .ref (ad 2)), (1, .int p0), (2, .int p1), (3, .int (1 : Int32)), (4, .int (1 : Int32))] rfl ?_
    obtain ⟨q6, h7, h⟩ := bo_in h
    refine LX1_isTree_1 M K p0 p1 S FU (1 : Int32) (1 : Int32) _ h7 (fun a hE => ?_)
    cases hE
    refine z_iload_n (pc := 36) M dX1_isTree_36 rfl 1 rfl ?_
    refine z_iconst (pc := 37) (v := 1) M dX1_isTree_37 (by decide) ?_
    refine z_iload_n (pc := 38) M dX1_isTree_38 rfl 0 rfl ?_
    refine z_ishl (pc := 39) M dX1_isTree_39 ?_
    refine z_iconst (pc := 40) (v := 1) M dX1_isTree_40 (by decide) ?_
    refine z_isub (pc := 41) M dX1_isTree_41 ?_
    refine z_icmp_ne (pc := 42) 49 M dX1_isTree_42 (by decide) h (fun c_8 h => ?_) (fun c_8 h => ?_)
    · refine z_iconst (pc := 49) (v := 0) M dX1_isTree_49 (by decide) ?_
      exact z_zretW (pc := 50) M (Option.some.inj h) rfl rfl dX1_isTree_50
    · refine z_iconst (pc := 45) (v := 1) M dX1_isTree_45 (by decide) ?_
      refine z_goto (pc := 46) 50 M dX1_isTree_46 (by decide) ?_
      exact z_zretW (pc := 50) M (Option.some.inj h) rfl rfl dX1_isTree_50
  · refine z_iconst (pc := 10) (v := 0) M dX1_isTree_10 (by decide) ?_
    exact z_zretW (pc := 11) M (Option.some.inj h) rfl rfl dX1_isTree_11
def rmX1_productOf : Room := { frames := 1, cells := 0, slots := 0, locals := 21 }
theorem flX1_productOf_20 : Cond.fieldLink RX1 20 "ShunLots$Net" "weights" "[I" ∈ wsX1_productOf := by decide +kernel
theorem flX1_productOf_7 : Cond.fieldLink RX1 7 "ShunLots$Net" "edges" "I" ∈ wsX1_productOf := by decide +kernel
theorem wdX1_productOf_Cond_initialized_RX4 : Cond.initialized RX4 ∈ wsX1_productOf := by decide +kernel
theorem wdX1_productOf_Cond_static_yX4_has : Cond.static yX4_has ∈ wsX1_productOf := by decide +kernel
theorem inX1_productOf_X1 : ∀ w ∈ wsX10, w ∈ wsX1_productOf := by decide +kernel
set_option maxRecDepth 100000 in
set_option maxHeartbeats 4000000 in
theorem LX1_productOf_1 {p : Program} {l : Launch} {e : Env} {s : State} {m : MethodId} {args : Array Value} {below : List Frame} {meth : Method} {c : Code} {Q : State → Prop} {D : va_G} {cy ad : Nat → Nat} {n : Nat} (M : MX p m c cX1_productOf 5 s args wsX1_productOf RX1 meth (some .long)) (K : KK D cy ad s) (x1 : Int32)  (S : St) : ∀ (fuel : Nat) (x2 : Int64) (x4 : Int32) (o : (Int64)), lX1_productOf_1 n x1 S fuel x2 x4 = some o → ∀ (hx : ∀ a, o = a → Zz p l e rmX1_productOf s m args below meth c 5 Q (Hw D cy ad n s S) 40 [(2, .long a)] []) , Zz p l e rmX1_productOf s m args below meth c 5 Q (Hw D cy ad n s S) 5 [(0, .ref (ad 2)), (1, .int x1), (2, .long x2), (4, .int x4)] [] := by
  intro fuel
  induction fuel with
  | zero => intro x2 x4 o h; exact nomatch (show (none : Option _) = some o from h)
  | succ fuel ih =>
    intro x2 x4 o h hx 
    have h : bX1_productOf_1 n x1 S (lX1_productOf_1 n x1 S fuel) x2 x4 = some o := h
    unfold bX1_productOf_1 at h
    refine z_iload (pc := 5) M dX1_productOf_5 3 rfl ?_
    refine z_aload_n (pc := 7) M dX1_productOf_7 rfl 0 rfl ?_
    refine z_get (pc := 8) (v := .int (nI n)) M K inX1_productOf_X1 o_net rfl 0 (by decide) flX1_productOf_7 rfl rfl dX1_productOf_8 ?_
    refine z_icmp_ge (pc := 11) 40 M dX1_productOf_11 (by decide) h (fun c_4 h => ?_) (fun c_4 h => ?_)
    · refine z_locals [2] [(2, .long x2)] rfl ?_
      cases h
      exact hx _ rfl
    · refine z_iload_n (pc := 14) M dX1_productOf_14 rfl 1 rfl ?_
      refine z_iload (pc := 15) M dX1_productOf_15 3 rfl ?_
      obtain ⟨r1, h2, h⟩ := bo_in h
      refine z_ncall (pc := 17) (As := [.int x1, .int x4]) M (kX4_has l x1 x4 r1 h2) ⟨va_cnB 2 M.1.2.2.2.2 gX1_productOf_X4_has_n47 rfl rfl rfl K.2.1.2.2.1 (M.1.2.2.2.2 _ wdX1_productOf_Cond_initialized_RX4) (by decide +kernel) ⟨Nat.le_of_ble_eq_true rfl, Nat.le_of_ble_eq_true rfl⟩, M.1.2.2.2.2 _ wdX1_productOf_Cond_static_yX4_has, trivial⟩ rfl rfl (Nat.le_of_ble_eq_true rfl) dX1_productOf_17 ?_
      refine z_if_eqB (pc := 20) 34 M dX1_productOf_20 (by decide) h (fun c_3 h => ?_) (fun c_3 h => ?_)
      · refine z_iinc (pc := 34) M dX1_productOf_34 (x4 + 1) rfl 3 rfl (by decide) [1, 2, 3, 0] [(0, .ref (ad 2)), (1, .int x1), (2, .long x2), (4, .int (x4 + 1))] rfl ?_
        refine z_goto (pc := 37) 5 M dX1_productOf_37 (by decide) ?_
        refine z_locals [0, 1, 2, 3] [(0, .ref (ad 2)), (1, .int x1), (2, .long x2), (4, .int (x4 + 1))] rfl ?_
        exact ih x2 (x4 + 1) _ h hx
      · refine z_lload_n (pc := 23) M dX1_productOf_23 rfl 2 rfl ?_
        refine z_aload_n (pc := 24) M dX1_productOf_24 rfl 0 rfl ?_
        refine z_get (pc := 25) (v := .ref (ad 9)) M K inX1_productOf_X1 o_net rfl 3 (by decide) flX1_productOf_20 rfl rfl dX1_productOf_25 ?_
        refine z_iload (pc := 28) M dX1_productOf_28 3 rfl ?_
        refine z_iald (pc := 30) M K ⟨by decide, rfl, rfl⟩ h dX1_productOf_30 (fun _ h => ?_)
        refine z_i2l (pc := 31) M dX1_productOf_31 ?_
        refine z_lmul (pc := 32) M dX1_productOf_32 ?_
        refine z_lstore_n (pc := 33) M dX1_productOf_33 rfl (by decide) [1, 2, 0, 3] [(0, .ref (ad 2)), (1, .int x1), (2, .long (x2 * (Int32.toInt64 (S.1 9 (Int32.toNatClampNeg x4))))), (4, .int x4)] rfl ?_
        refine z_iinc (pc := 34) M dX1_productOf_34 (x4 + 1) rfl 3 rfl (by decide) [1, 2, 3, 0] [(0, .ref (ad 2)), (1, .int x1), (2, .long (x2 * (Int32.toInt64 (S.1 9 (Int32.toNatClampNeg x4))))), (4, .int (x4 + 1))] rfl ?_
        refine z_goto (pc := 37) 5 M dX1_productOf_37 (by decide) ?_
        refine z_locals [0, 1, 2, 3] [(0, .ref (ad 2)), (1, .int x1), (2, .long (x2 * (Int32.toInt64 (S.1 9 (Int32.toNatClampNeg x4))))), (4, .int (x4 + 1))] rfl ?_
        exact ih (x2 * (Int32.toInt64 (S.1 9 (Int32.toNatClampNeg x4)))) (x4 + 1) _ h hx
set_option maxRecDepth 100000 in
set_option maxHeartbeats 4000000 in
theorem kX1_productOf (l : Launch) (D : va_G) (cy ad : Nat → Nat) (n : Nat) (p0 : Int32) (S : St) (r : Int64) (h : fX1_productOf n p0 S = some r) : CW l D cy ad n yX1_productOf wsX1_productOf rmX1_productOf [.ref (ad 2), .int p0] S (some (.long r)) S := by
  refine CW.of (cc := cX1_productOf) (nL := 5) (ret := (some .long)) (own := RX1) rfl (by decide +kernel) rfl (Nat.le_of_ble_eq_true rfl) ?_
  intro p e s m args below meth c M K
  unfold fX1_productOf at h
  refine z_locals [0, 1] [(0, .ref (ad 2)), (1, .int p0)] rfl ?_
  refine z_lconst (pc := 0) (v := 1) M dX1_productOf_0 (by decide) ?_
  refine z_lstore_n (pc := 1) M dX1_productOf_1 rfl (by decide) [1, 2, 0] [(0, .ref (ad 2)), (1, .int p0), (2, .long (1 : Int64))] rfl ?_
  refine z_iconst (pc := 2) (v := 0) M dX1_productOf_2 (by decide) ?_
  refine z_istore (pc := 3) M dX1_productOf_3 (by decide) [1, 2, 3, 0] [(0, .ref (ad 2)), (1, .int p0), (2, .long (1 : Int64)), (4, .int (0 : Int32))] rfl ?_
  refine z_locals [0, 1, 2, 3] [(0, .ref (ad 2)), (1, .int p0), (2, .long (1 : Int64)), (4, .int (0 : Int32))] rfl ?_
  obtain ⟨q5, h6, h⟩ := bo_in h
  refine LX1_productOf_1 M K p0 S FU (1 : Int64) (0 : Int32) _ h6 (fun a hE => ?_)
  cases hE
  refine z_lload_n (pc := 40) M dX1_productOf_40 rfl 0 rfl ?_
  exact z_lretW (pc := 41) M (Option.some.inj h) rfl dX1_productOf_41
def rmX3_put : Room := { frames := 0, cells := 0, slots := 0, locals := 0 }
theorem flX3_put_13 : Cond.fieldLink RX3 13 "ShunLots$Table" "numbers" "[I" ∈ wsX3_put := by decide +kernel
theorem flX3_put_7 : Cond.fieldLink RX3 7 "ShunLots$Table" "width" "I" ∈ wsX3_put := by decide +kernel
theorem inX3_put_X3 : ∀ w ∈ wsX30, w ∈ wsX3_put := by decide +kernel
set_option maxRecDepth 100000 in
set_option maxHeartbeats 4000000 in
theorem kX3_put (l : Launch) (D : va_G) (cy ad : Nat → Nat) (n : Nat) (tb : Nat) (h_tb : tb < 6) (p0 : Int32) (p1 : Int32) (p2 : Int32) (S : St) (r : Unit) (S' : St) (h : fX3_put n tb p0 p1 p2 S = some (r, S')) : CW l D cy ad n yX3_put wsX3_put rmX3_put [.ref (ad (13 + tb)), .int p0, .int p1, .int p2] S none S' := by
  refine CW.of (cc := cX3_put) (nL := 4) (ret := none) (own := RX3) rfl (by decide +kernel) rfl (Nat.le_of_ble_eq_true rfl) ?_
  intro p e s m args below meth c M K
  unfold fX3_put at h
  refine z_locals [0, 1, 2, 3] [(0, .ref (ad (13 + tb))), (1, .int p0), (2, .int p1), (3, .int p2)] rfl ?_
  refine z_aload_n (pc := 0) M dX3_put_0 rfl 0 rfl ?_
  refine z_get (pc := 1) (v := .ref (ad (19 + tb))) M K inX3_put_X3 (o_tab h_tb) rfl 1 (by decide) flX3_put_13 rfl rfl dX3_put_1 ?_
  refine z_iload_n (pc := 4) M dX3_put_4 rfl 1 rfl ?_
  refine z_aload_n (pc := 5) M dX3_put_5 rfl 0 rfl ?_
  refine z_get (pc := 6) (v := .int (nI n)) M K inX3_put_X3 (o_tab h_tb) rfl 0 (by decide) flX3_put_7 rfl rfl dX3_put_6 ?_
  refine z_imul (pc := 9) M dX3_put_9 ?_
  refine z_iload_n (pc := 10) M dX3_put_10 rfl 2 rfl ?_
  refine z_iadd (pc := 11) M dX3_put_11 ?_
  refine z_iload_n (pc := 12) M dX3_put_12 rfl 3 rfl ?_
  refine z_iast (pc := 13) M K (ro_num h_tb) h dX3_put_13 (fun h => ?_)
  refine z_aload_n (pc := 14) M dX3_put_14 rfl 0 rfl ?_
  refine z_get (pc := 15) (v := .ref (ad (19 + tb))) M K inX3_put_X3 (o_tab h_tb) rfl 1 (by decide) flX3_put_13 rfl rfl dX3_put_15 ?_
  refine z_iload_n (pc := 18) M dX3_put_18 rfl 2 rfl ?_
  refine z_aload_n (pc := 19) M dX3_put_19 rfl 0 rfl ?_
  refine z_get (pc := 20) (v := .int (nI n)) M K inX3_put_X3 (o_tab h_tb) rfl 0 (by decide) flX3_put_7 rfl rfl dX3_put_20 ?_
  refine z_imul (pc := 23) M dX3_put_23 ?_
  refine z_iload_n (pc := 24) M dX3_put_24 rfl 1 rfl ?_
  refine z_iadd (pc := 25) M dX3_put_25 ?_
  refine z_iload_n (pc := 26) M dX3_put_26 rfl 3 rfl ?_
  refine z_iast (pc := 27) M K (ro_num h_tb) h dX3_put_27 (fun h => ?_)
  exact z_vretW (pc := 28) M (congrArg Prod.snd (Option.some.inj h)) dX3_put_28
def rmX3_at : Room := { frames := 0, cells := 0, slots := 0, locals := 0 }
theorem flX3_at_13 : Cond.fieldLink RX3 13 "ShunLots$Table" "numbers" "[I" ∈ wsX3_at := by decide +kernel
theorem flX3_at_7 : Cond.fieldLink RX3 7 "ShunLots$Table" "width" "I" ∈ wsX3_at := by decide +kernel
theorem inX3_at_X3 : ∀ w ∈ wsX30, w ∈ wsX3_at := by decide +kernel
set_option maxRecDepth 100000 in
set_option maxHeartbeats 4000000 in
theorem kX3_at (l : Launch) (D : va_G) (cy ad : Nat → Nat) (n : Nat) (tb : Nat) (h_tb : tb < 6) (p0 : Int32) (p1 : Int32) (S : St) (r : Int32) (h : fX3_at n tb p0 p1 S = some r) : CW l D cy ad n yX3_at wsX3_at rmX3_at [.ref (ad (13 + tb)), .int p0, .int p1] S (some (.int r)) S := by
  refine CW.of (cc := cX3_at) (nL := 3) (ret := (some .int)) (own := RX3) rfl (by decide +kernel) rfl (Nat.le_of_ble_eq_true rfl) ?_
  intro p e s m args below meth c M K
  unfold fX3_at at h
  refine z_locals [0, 1, 2] [(0, .ref (ad (13 + tb))), (1, .int p0), (2, .int p1)] rfl ?_
  refine z_aload_n (pc := 0) M dX3_at_0 rfl 0 rfl ?_
  refine z_get (pc := 1) (v := .ref (ad (19 + tb))) M K inX3_at_X3 (o_tab h_tb) rfl 1 (by decide) flX3_at_13 rfl rfl dX3_at_1 ?_
  refine z_iload_n (pc := 4) M dX3_at_4 rfl 1 rfl ?_
  refine z_aload_n (pc := 5) M dX3_at_5 rfl 0 rfl ?_
  refine z_get (pc := 6) (v := .int (nI n)) M K inX3_at_X3 (o_tab h_tb) rfl 0 (by decide) flX3_at_7 rfl rfl dX3_at_6 ?_
  refine z_imul (pc := 9) M dX3_at_9 ?_
  refine z_iload_n (pc := 10) M dX3_at_10 rfl 2 rfl ?_
  refine z_iadd (pc := 11) M dX3_at_11 ?_
  refine z_iald (pc := 12) M K (ro_num h_tb) h dX3_at_12 (fun _ h => ?_)
  exact z_iretW (pc := 13) M (Option.some.inj h) rfl dX3_at_13
def rmX3_layRow : Room := { frames := 2, cells := 0, slots := 0, locals := 46 }
theorem flX3_layRow_7 : Cond.fieldLink RX3 7 "ShunLots$Table" "width" "I" ∈ wsX3_layRow := by decide +kernel
theorem wdX3_layRow_Cond_initialized_RX4 : Cond.initialized RX4 ∈ wsX3_layRow := by decide +kernel
theorem wdX3_layRow_Cond_static_yX4_has : Cond.static yX4_has ∈ wsX3_layRow := by decide +kernel
theorem inX3_layRow_X3 : ∀ w ∈ wsX30, w ∈ wsX3_layRow := by decide +kernel
set_option maxRecDepth 100000 in
set_option maxHeartbeats 4000000 in
theorem LX3_layRow_1 {p : Program} {l : Launch} {e : Env} {s : State} {m : MethodId} {args : Array Value} {below : List Frame} {meth : Method} {c : Code} {Q : State → Prop} {D : va_G} {cy ad : Nat → Nat} {n : Nat} (M : MX p m c cX3_layRow 7 s args wsX3_layRow RX3 meth none) (K : KK D cy ad s) (t0 : Nat) (x1 : Int32) (x2 : Int32) (x3 : Int32) (h_t0 : t0 < 6)  : ∀ (fuel : Nat) (x5 : Int32) (x6 : Int32) (S : St) (o : (Unit) × St), lX3_layRow_1 n t0 x1 x2 x3 fuel x5 x6 S = some o → ∀ (hx : ∀ a S', o = (a, S') → Zz p l e rmX3_layRow s m args below meth c 7 Q (Hw D cy ad n s S') 49 [] []) , Zz p l e rmX3_layRow s m args below meth c 7 Q (Hw D cy ad n s S) 6 [(0, .ref (ad (13 + t0))), (1, .int x1), (2, .int x2), (3, .int x3), (4, .ref (ad 6)), (5, .int x5), (6, .int x6)] [] := by
  intro fuel
  induction fuel with
  | zero => intro x5 x6 S o h; exact nomatch (show (none : Option _) = some o from h)
  | succ fuel ih =>
    intro x5 x6 S o h hx 
    have h : bX3_layRow_1 n t0 x1 x2 x3 (lX3_layRow_1 n t0 x1 x2 x3 fuel) x5 x6 S = some o := h
    unfold bX3_layRow_1 at h
    refine z_iload (pc := 6) M dX3_layRow_6 6 rfl ?_
    refine z_aload_n (pc := 8) M dX3_layRow_8 rfl 0 rfl ?_
    refine z_get (pc := 9) (v := .int (nI n)) M K inX3_layRow_X3 (o_tab h_t0) rfl 0 (by decide) flX3_layRow_7 rfl rfl dX3_layRow_9 ?_
    refine z_icmp_ge (pc := 12) 49 M dX3_layRow_12 (by decide) h (fun c_9 h => ?_) (fun c_9 h => ?_)
    · refine z_locals [] [] rfl ?_
      cases h
      exact hx _ _ rfl
    · refine z_iload_n (pc := 15) M dX3_layRow_15 rfl 3 rfl ?_
      refine z_iload (pc := 16) M dX3_layRow_16 6 rfl ?_
      obtain ⟨r1, h2, h⟩ := bo_in h
      refine z_ncall (pc := 18) (As := [.int x3, .int x6]) M (kX4_has l x3 x6 r1 h2) ⟨va_cnB 2 M.1.2.2.2.2 gX3_layRow_X4_has_n29 rfl rfl rfl K.2.1.1 (M.1.2.2.2.2 _ wdX3_layRow_Cond_initialized_RX4) (by decide +kernel) ⟨Nat.le_of_ble_eq_true rfl, Nat.le_of_ble_eq_true rfl⟩, M.1.2.2.2.2 _ wdX3_layRow_Cond_static_yX4_has, trivial⟩ rfl rfl (Nat.le_of_ble_eq_true rfl) dX3_layRow_18 ?_
      refine z_if_eqB (pc := 21) 43 M dX3_layRow_21 (by decide) h (fun c_8 h => ?_) (fun c_8 h => ?_)
      · refine z_iinc (pc := 43) M dX3_layRow_43 (x6 + 1) rfl 6 rfl (by decide) [1, 2, 3, 4, 5, 6, 0] [(0, .ref (ad (13 + t0))), (1, .int x1), (2, .int x2), (3, .int x3), (4, .ref (ad 6)), (5, .int x5), (6, .int (x6 + 1))] rfl ?_
        refine z_goto (pc := 46) 6 M dX3_layRow_46 (by decide) ?_
        refine z_locals [0, 1, 2, 3, 4, 5, 6] [(0, .ref (ad (13 + t0))), (1, .int x1), (2, .int x2), (3, .int x3), (4, .ref (ad 6)), (5, .int x5), (6, .int (x6 + 1))] rfl ?_
        exact ih x5 (x6 + 1) S _ h hx
      · refine z_aload (pc := 24) M dX3_layRow_24 4 rfl ?_
        refine z_iload_n (pc := 26) M dX3_layRow_26 rfl 2 rfl ?_
        refine z_iload (pc := 27) M dX3_layRow_27 5 rfl ?_
        refine z_aload_n (pc := 29) M dX3_layRow_29 rfl 0 rfl ?_
        refine z_iload_n (pc := 30) M dX3_layRow_30 rfl 1 rfl ?_
        refine z_iload (pc := 31) M dX3_layRow_31 6 rfl ?_
        obtain ⟨r3, h4, h⟩ := bo_in h
        refine z_vcall (pc := 33) (As := [.int x1, .int x6]) M K (kX3_at l D cy ad n t0 h_t0 x1 x6 S r3 h4) (cwV 2 M.1.2.2.2.2 gX3_layRow_X3_at rfl rfl rfl (by decide +kernel) ⟨Nat.le_of_ble_eq_true rfl, Nat.le_of_ble_eq_true rfl⟩) (o_tab h_t0) rfl rfl rfl (Nat.le_of_ble_eq_true rfl) dX3_layRow_33 ?_
        refine z_i2l (pc := 36) M dX3_layRow_36 ?_
        obtain ⟨r5, S7, h6, h⟩ := bw_in h
        refine z_vcallV (pc := 37) (As := [.int x2, .int x5, .long (Int32.toInt64 r3)]) M K (kX2_add l D cy ad n x2 x5 (Int32.toInt64 r3) S r5 S7 h6) (cwV 3 M.1.2.2.2.2 gX3_layRow_X2_add rfl rfl rfl (by decide +kernel) ⟨Nat.le_of_ble_eq_true rfl, Nat.le_of_ble_eq_true rfl⟩) o_squ rfl rfl rfl (Nat.le_of_ble_eq_true rfl) dX3_layRow_37 ?_
        refine z_iinc (pc := 40) M dX3_layRow_40 (x5 + 1) rfl 5 rfl (by decide) [1, 2, 3, 4, 5, 0, 6] [(0, .ref (ad (13 + t0))), (1, .int x1), (2, .int x2), (3, .int x3), (4, .ref (ad 6)), (5, .int (x5 + 1)), (6, .int x6)] rfl ?_
        refine z_iinc (pc := 43) M dX3_layRow_43 (x6 + 1) rfl 6 rfl (by decide) [1, 2, 3, 4, 5, 6, 0] [(0, .ref (ad (13 + t0))), (1, .int x1), (2, .int x2), (3, .int x3), (4, .ref (ad 6)), (5, .int (x5 + 1)), (6, .int (x6 + 1))] rfl ?_
        refine z_goto (pc := 46) 6 M dX3_layRow_46 (by decide) ?_
        refine z_locals [0, 1, 2, 3, 4, 5, 6] [(0, .ref (ad (13 + t0))), (1, .int x1), (2, .int x2), (3, .int x3), (4, .ref (ad 6)), (5, .int (x5 + 1)), (6, .int (x6 + 1))] rfl ?_
        exact ih (x5 + 1) (x6 + 1) S7 _ h hx
set_option maxRecDepth 100000 in
set_option maxHeartbeats 4000000 in
theorem kX3_layRow (l : Launch) (D : va_G) (cy ad : Nat → Nat) (n : Nat) (tb : Nat) (h_tb : tb < 6) (p0 : Int32) (p1 : Int32) (p2 : Int32) (S : St) (r : Unit) (S' : St) (h : fX3_layRow n tb p0 p1 p2 S = some (r, S')) : CW l D cy ad n yX3_layRow wsX3_layRow rmX3_layRow [.ref (ad (13 + tb)), .int p0, .int p1, .int p2, .ref (ad 6)] S none S' := by
  refine CW.of (cc := cX3_layRow) (nL := 7) (ret := none) (own := RX3) rfl (by decide +kernel) rfl (Nat.le_of_ble_eq_true rfl) ?_
  intro p e s m args below meth c M K
  unfold fX3_layRow at h
  refine z_locals [0, 1, 2, 3, 4] [(0, .ref (ad (13 + tb))), (1, .int p0), (2, .int p1), (3, .int p2), (4, .ref (ad 6))] rfl ?_
  refine z_iconst (pc := 0) (v := 0) M dX3_layRow_0 (by decide) ?_
  refine z_istore (pc := 1) M dX3_layRow_1 (by decide) [1, 2, 3, 4, 5, 0] [(0, .ref (ad (13 + tb))), (1, .int p0), (2, .int p1), (3, .int p2), (4, .ref (ad 6)), (5, .int (0 : Int32))] rfl ?_
  refine z_iconst (pc := 3) (v := 0) M dX3_layRow_3 (by decide) ?_
  refine z_istore (pc := 4) M dX3_layRow_4 (by decide) [1, 2, 3, 4, 5, 6, 0] [(0, .ref (ad (13 + tb))), (1, .int p0), (2, .int p1), (3, .int p2), (4, .ref (ad 6)), (5, .int (0 : Int32)), (6, .int (0 : Int32))] rfl ?_
  refine z_locals [0, 1, 2, 3, 4, 5, 6] [(0, .ref (ad (13 + tb))), (1, .int p0), (2, .int p1), (3, .int p2), (4, .ref (ad 6)), (5, .int (0 : Int32)), (6, .int (0 : Int32))] rfl ?_
  obtain ⟨q10, S12, h11, h⟩ := bw_in h
  refine LX3_layRow_1 M K tb p0 p1 p2 h_tb FU (0 : Int32) (0 : Int32) S _ h11 (fun a S' hE => ?_)
  cases hE
  exact z_vretW (pc := 49) M (congrArg Prod.snd (Option.some.inj h)) dX3_layRow_49
def rmX3_worthOf : Room := { frames := 3, cells := 0, slots := 0, locals := 72 }
theorem flX3_worthOf_7 : Cond.fieldLink RX3 7 "ShunLots$Table" "width" "I" ∈ wsX3_worthOf := by decide +kernel
theorem wdX3_worthOf_Cond_initialized_RX4 : Cond.initialized RX4 ∈ wsX3_worthOf := by decide +kernel
theorem wdX3_worthOf_Cond_static_yX4_has : Cond.static yX4_has ∈ wsX3_worthOf := by decide +kernel
theorem inX3_worthOf_X3 : ∀ w ∈ wsX30, w ∈ wsX3_worthOf := by decide +kernel
set_option maxRecDepth 100000 in
set_option maxHeartbeats 4000000 in
theorem LX3_worthOf_1 {p : Program} {l : Launch} {e : Env} {s : State} {m : MethodId} {args : Array Value} {below : List Frame} {meth : Method} {c : Code} {Q : State → Prop} {D : va_G} {cy ad : Nat → Nat} {n : Nat} (M : MX p m c cX3_worthOf 6 s args wsX3_worthOf RX3 meth (some .long)) (K : KK D cy ad s) (t0 : Nat) (x1 : Int32) (x2 : Int32) (h_t0 : t0 < 6)  : ∀ (fuel : Nat) (x4 : Int32) (x5 : Int32) (S : St) (o : (Unit) × St), lX3_worthOf_1 n t0 x1 x2 fuel x4 x5 S = some o → ∀ (hx : ∀ a S', o = (a, S') → Zz p l e rmX3_worthOf s m args below meth c 6 Q (Hw D cy ad n s S') 61 [(3, .ref (ad 6))] []) , Zz p l e rmX3_worthOf s m args below meth c 6 Q (Hw D cy ad n s S) 14 [(0, .ref (ad (13 + t0))), (1, .int x1), (2, .int x2), (3, .ref (ad 6)), (4, .int x4), (5, .int x5)] [] := by
  intro fuel
  induction fuel with
  | zero => intro x4 x5 S o h; exact nomatch (show (none : Option _) = some o from h)
  | succ fuel ih =>
    intro x4 x5 S o h hx 
    have h : bX3_worthOf_1 n t0 x1 x2 (lX3_worthOf_1 n t0 x1 x2 fuel) x4 x5 S = some o := h
    unfold bX3_worthOf_1 at h
    refine z_iload (pc := 14) M dX3_worthOf_14 5 rfl ?_
    refine z_aload_n (pc := 16) M dX3_worthOf_16 rfl 0 rfl ?_
    refine z_get (pc := 17) (v := .int (nI n)) M K inX3_worthOf_X3 (o_tab h_t0) rfl 0 (by decide) flX3_worthOf_7 rfl rfl dX3_worthOf_17 ?_
    refine z_icmp_ge (pc := 20) 61 M dX3_worthOf_20 (by decide) h (fun c_15 h => ?_) (fun c_15 h => ?_)
    · refine z_locals [3] [(3, .ref (ad 6))] rfl ?_
      cases h
      exact hx _ _ rfl
    · refine z_iload_n (pc := 23) M dX3_worthOf_23 rfl 1 rfl ?_
      refine z_iload (pc := 24) M dX3_worthOf_24 5 rfl ?_
      obtain ⟨r6, h7, h⟩ := bo_in h
      refine z_ncall (pc := 26) (As := [.int x1, .int x5]) M (kX4_has l x1 x5 r6 h7) ⟨va_cnB 2 M.1.2.2.2.2 gX3_worthOf_X4_has_n29 rfl rfl rfl K.2.1.1 (M.1.2.2.2.2 _ wdX3_worthOf_Cond_initialized_RX4) (by decide +kernel) ⟨Nat.le_of_ble_eq_true rfl, Nat.le_of_ble_eq_true rfl⟩, M.1.2.2.2.2 _ wdX3_worthOf_Cond_static_yX4_has, trivial⟩ rfl rfl (Nat.le_of_ble_eq_true rfl) dX3_worthOf_26 ?_
      refine z_if_eqB (pc := 29) 55 M dX3_worthOf_29 (by decide) h (fun c_14 h => ?_) (fun c_14 h => ?_)
      · refine z_iinc (pc := 55) M dX3_worthOf_55 (x5 + 1) rfl 5 rfl (by decide) [1, 2, 3, 4, 5, 0] [(0, .ref (ad (13 + t0))), (1, .int x1), (2, .int x2), (3, .ref (ad 6)), (4, .int x4), (5, .int (x5 + 1))] rfl ?_
        refine z_goto (pc := 58) 14 M dX3_worthOf_58 (by decide) ?_
        refine z_locals [0, 1, 2, 3, 4, 5] [(0, .ref (ad (13 + t0))), (1, .int x1), (2, .int x2), (3, .ref (ad 6)), (4, .int x4), (5, .int (x5 + 1))] rfl ?_
        exact ih x4 (x5 + 1) S _ h hx
      · refine z_aload_n (pc := 32) M dX3_worthOf_32 rfl 0 rfl ?_
        refine z_iload (pc := 33) M dX3_worthOf_33 5 rfl ?_
        refine z_iload (pc := 35) M dX3_worthOf_35 4 rfl ?_
        refine z_iload_n (pc := 37) M dX3_worthOf_37 rfl 1 rfl ?_
        refine z_aload_n (pc := 38) M dX3_worthOf_38 rfl 3 rfl ?_
        obtain ⟨r8, S10, h9, h⟩ := bw_in h
        refine z_vcallV (pc := 39) (As := [.int x5, .int x4, .int x1, .ref (ad 6)]) M K (kX3_layRow l D cy ad n t0 h_t0 x5 x4 x1 S r8 S10 h9) (cwV 4 M.1.2.2.2.2 gX3_worthOf_X3_layRow rfl rfl rfl (by decide +kernel) ⟨Nat.le_of_ble_eq_true rfl, Nat.le_of_ble_eq_true rfl⟩) (o_tab h_t0) rfl rfl rfl (Nat.le_of_ble_eq_true rfl) dX3_worthOf_39 ?_
        refine z_aload_n (pc := 42) M dX3_worthOf_42 rfl 3 rfl ?_
        refine z_iload (pc := 43) M dX3_worthOf_43 4 rfl ?_
        refine z_iload (pc := 45) M dX3_worthOf_45 4 rfl ?_
        refine z_iload_n (pc := 47) M dX3_worthOf_47 rfl 2 rfl ?_
        refine z_i2l (pc := 48) M dX3_worthOf_48 ?_
        obtain ⟨r11, S13, h12, h⟩ := bw_in h
        refine z_vcallV (pc := 49) (As := [.int x4, .int x4, .long (Int32.toInt64 x2)]) M K (kX2_add l D cy ad n x4 x4 (Int32.toInt64 x2) S10 r11 S13 h12) (cwV 3 M.1.2.2.2.2 gX3_worthOf_X2_add rfl rfl rfl (by decide +kernel) ⟨Nat.le_of_ble_eq_true rfl, Nat.le_of_ble_eq_true rfl⟩) o_squ rfl rfl rfl (Nat.le_of_ble_eq_true rfl) dX3_worthOf_49 ?_
        refine z_iinc (pc := 52) M dX3_worthOf_52 (x4 + 1) rfl 4 rfl (by decide) [1, 2, 3, 4, 0, 5] [(0, .ref (ad (13 + t0))), (1, .int x1), (2, .int x2), (3, .ref (ad 6)), (4, .int (x4 + 1)), (5, .int x5)] rfl ?_
        refine z_iinc (pc := 55) M dX3_worthOf_55 (x5 + 1) rfl 5 rfl (by decide) [1, 2, 3, 4, 5, 0] [(0, .ref (ad (13 + t0))), (1, .int x1), (2, .int x2), (3, .ref (ad 6)), (4, .int (x4 + 1)), (5, .int (x5 + 1))] rfl ?_
        refine z_goto (pc := 58) 14 M dX3_worthOf_58 (by decide) ?_
        refine z_locals [0, 1, 2, 3, 4, 5] [(0, .ref (ad (13 + t0))), (1, .int x1), (2, .int x2), (3, .ref (ad 6)), (4, .int (x4 + 1)), (5, .int (x5 + 1))] rfl ?_
        exact ih (x4 + 1) (x5 + 1) S13 _ h hx
set_option maxRecDepth 100000 in
set_option maxHeartbeats 4000000 in
theorem kX3_worthOf (l : Launch) (D : va_G) (cy ad : Nat → Nat) (n : Nat) (tb : Nat) (h_tb : tb < 6) (p0 : Int32) (p1 : Int32) (S : St) (r : Int64) (S' : St) (h : fX3_worthOf n tb p0 p1 S = some (r, S')) : CW l D cy ad n yX3_worthOf wsX3_worthOf rmX3_worthOf [.ref (ad (13 + tb)), .int p0, .int p1, .ref (ad 6)] S (some (.long r)) S' := by
  refine CW.of (cc := cX3_worthOf) (nL := 6) (ret := (some .long)) (own := RX3) rfl (by decide +kernel) rfl (Nat.le_of_ble_eq_true rfl) ?_
  intro p e s m args below meth c M K
  unfold fX3_worthOf at h
  refine z_locals [0, 1, 2, 3] [(0, .ref (ad (13 + tb))), (1, .int p0), (2, .int p1), (3, .ref (ad 6))] rfl ?_
  refine z_aload_n (pc := 0) M dX3_worthOf_0 rfl 3 rfl ?_
  refine z_iload_n (pc := 1) M dX3_worthOf_1 rfl 1 rfl ?_
  obtain ⟨r1, h2, h⟩ := bo_in h
  refine z_scall (pc := 2) (As := [.int p0]) M (kJ6_bitCount_0f7a4 l p0 r1 h2) (va_cwS 1 M.1.2.2.2.2 gX3_worthOf_J6_bitCount_0f7a4 rfl rfl rfl (by decide +kernel) ⟨Nat.le_of_ble_eq_true rfl, Nat.le_of_ble_eq_true rfl⟩) rfl rfl (Nat.le_of_ble_eq_true rfl) dX3_worthOf_2 ?_
  obtain ⟨r3, S5, h4, h⟩ := bw_in h
  refine z_vcallV (pc := 5) (As := [.int r1]) M K (kX2_begin l D cy ad n r1 S r3 S5 h4) (cwV 1 M.1.2.2.2.2 gX3_worthOf_X2_begin rfl rfl rfl (by decide +kernel) ⟨Nat.le_of_ble_eq_true rfl, Nat.le_of_ble_eq_true rfl⟩) o_squ rfl rfl rfl (Nat.le_of_ble_eq_true rfl) dX3_worthOf_5 ?_
  refine z_iconst (pc := 8) (v := 0) M dX3_worthOf_8 (by decide) ?_
  refine z_istore (pc := 9) M dX3_worthOf_9 (by decide) [1, 2, 3, 4, 0] [(0, .ref (ad (13 + tb))), (1, .int p0), (2, .int p1), (3, .ref (ad 6)), (4, .int (0 : Int32))] rfl ?_
  refine z_iconst (pc := 11) (v := 0) M dX3_worthOf_11 (by decide) ?_
  refine z_istore (pc := 12) M dX3_worthOf_12 (by decide) [1, 2, 3, 4, 5, 0] [(0, .ref (ad (13 + tb))), (1, .int p0), (2, .int p1), (3, .ref (ad 6)), (4, .int (0 : Int32)), (5, .int (0 : Int32))] rfl ?_
  refine z_locals [0, 1, 2, 3, 4, 5] [(0, .ref (ad (13 + tb))), (1, .int p0), (2, .int p1), (3, .ref (ad 6)), (4, .int (0 : Int32)), (5, .int (0 : Int32))] rfl ?_
  obtain ⟨q16, S18, h17, h⟩ := bw_in h
  refine LX3_worthOf_1 M K tb p0 p1 h_tb FU (0 : Int32) (0 : Int32) S5 _ h17 (fun a S' hE => ?_)
  cases hE
  refine z_aload_n (pc := 61) M dX3_worthOf_61 rfl 0 rfl ?_
  obtain ⟨r19, S21, h20, h⟩ := bw_in h
  refine z_vcall (pc := 62) (As := []) M K (kX2_determinant l D cy ad n  S18 r19 S21 h20) (cwV 0 M.1.2.2.2.2 gX3_worthOf_X2_determinant rfl rfl rfl (by decide +kernel) ⟨Nat.le_of_ble_eq_true rfl, Nat.le_of_ble_eq_true rfl⟩) o_squ rfl rfl rfl (Nat.le_of_ble_eq_true rfl) dX3_worthOf_62 ?_
  exact z_lretW (pc := 65) M (congrArg Prod.fst (Option.some.inj h)) (congrArg Prod.snd (Option.some.inj h)) dX3_worthOf_65
def rmX4_isPlace : Room := { frames := 1, cells := 0, slots := 0, locals := 22 }
set_option maxRecDepth 100000 in
set_option maxHeartbeats 4000000 in
theorem kX4_isPlace (l : Launch) (p0 : Int32) (r : Bool) (h : fX4_isPlace p0 = some r) : CP l yX4_isPlace wsX4_isPlace rmX4_isPlace [.int p0] (some (.int (b2i r))) := by
  refine CP.of (cc := cX4_isPlace) (nL := 1) (ret := (some .boolean)) (own := RX4) rfl (by decide +kernel) rfl (Nat.le_of_ble_eq_true rfl) ?_
  intro p e s m args below meth c M
  unfold fX4_isPlace at h
  refine z_locals [0] [(0, .int p0)] rfl ?_
  refine z_iload_n (pc := 0) M dX4_isPlace_0 rfl 0 rfl ?_
  refine z_iconst (pc := 1) (v := 0) M dX4_isPlace_1 (by decide) ?_
  refine z_iconst (pc := 2) (v := 5) M dX4_isPlace_2 (by decide) ?_
  obtain ⟨r1, h2, h⟩ := bo_in h
  refine z_scall (pc := 3) (As := [.int p0, .int (0 : Int32), .int (5 : Int32)]) M (kX4_isAmong l p0 (0 : Int32) (5 : Int32) r1 h2) (va_cwS 3 M.1.2.2.2.2 gX4_isPlace_X4_isAmong rfl rfl rfl (by decide +kernel) ⟨Nat.le_of_ble_eq_true rfl, Nat.le_of_ble_eq_true rfl⟩) rfl rfl (Nat.le_of_ble_eq_true rfl) dX4_isPlace_3 ?_
  exact z_zretP (pc := 6) M h rfl dX4_isPlace_6
def rmX4_isThing : Room := { frames := 1, cells := 0, slots := 0, locals := 22 }
theorem flX4_isThing_18 : Cond.fieldLink RX4 18 "ShunLots" "things" "I" ∈ wsX4_isThing := by decide +kernel
theorem inX4_isThing_X4 : ∀ w ∈ wsX40, w ∈ wsX4_isThing := by decide +kernel
set_option maxRecDepth 100000 in
set_option maxHeartbeats 4000000 in
theorem kX4_isThing (l : Launch) (D : va_G) (cy ad : Nat → Nat) (n : Nat) (p0 : Int32) (S : St) (r : Bool) (h : fX4_isThing n p0 S = some r) : CW l D cy ad n yX4_isThing wsX4_isThing rmX4_isThing [.ref (ad 0), .int p0] S (some (.int (b2i r))) S := by
  refine CW.of (cc := cX4_isThing) (nL := 2) (ret := (some .boolean)) (own := RX4) rfl (by decide +kernel) rfl (Nat.le_of_ble_eq_true rfl) ?_
  intro p e s m args below meth c M K
  unfold fX4_isThing at h
  refine z_locals [0, 1] [(0, .ref (ad 0)), (1, .int p0)] rfl ?_
  refine z_iload_n (pc := 0) M dX4_isThing_0 rfl 1 rfl ?_
  refine z_iconst (pc := 1) (v := 0) M dX4_isThing_1 (by decide) ?_
  refine z_aload_n (pc := 2) M dX4_isThing_2 rfl 0 rfl ?_
  refine z_get (pc := 3) (v := .int (nI n)) M K inX4_isThing_X4 o_obj rfl 0 (by decide) flX4_isThing_18 rfl rfl dX4_isThing_3 ?_
  refine z_iconst (pc := 6) (v := 1) M dX4_isThing_6 (by decide) ?_
  refine z_isub (pc := 7) M dX4_isThing_7 ?_
  obtain ⟨r1, h2, h⟩ := bo_in h
  refine z_scall (pc := 8) (As := [.int p0, .int (0 : Int32), .int ((nI n) - (1 : Int32))]) M (kX4_isAmong l p0 (0 : Int32) ((nI n) - (1 : Int32)) r1 h2) (va_cwS 3 M.1.2.2.2.2 gX4_isThing_X4_isAmong rfl rfl rfl (by decide +kernel) ⟨Nat.le_of_ble_eq_true rfl, Nat.le_of_ble_eq_true rfl⟩) rfl rfl (Nat.le_of_ble_eq_true rfl) dX4_isThing_8 ?_
  exact z_zretW (pc := 11) M (Option.some.inj h) rfl rfl dX4_isThing_11
def rmX4_entry : Room := { frames := 2, cells := 0, slots := 0, locals := 43 }
theorem flX4_entry_27 : Cond.fieldLink RX4 27 "ShunLots" "tables" "[LShunLots$Table;" ∈ wsX4_entry := by decide +kernel
theorem inX4_entry_X4 : ∀ w ∈ wsX40, w ∈ wsX4_entry := by decide +kernel
set_option maxRecDepth 100000 in
set_option maxHeartbeats 4000000 in
theorem kX4_entry (l : Launch) (D : va_G) (cy ad : Nat → Nat) (n : Nat) (p0 : Int32) (p1 : Int32) (p2 : Int32) (p3 : Int32) (S : St) (r : Bool) (S' : St) (h : fX4_entry n p0 p1 p2 p3 S = some (r, S')) : CW l D cy ad n yX4_entry wsX4_entry rmX4_entry [.ref (ad 0), .int p0, .int p1, .int p2, .int p3] S (some (.int (b2i r))) S' := by
  refine CW.of (cc := cX4_entry) (nL := 5) (ret := (some .boolean)) (own := RX4) rfl (by decide +kernel) rfl (Nat.le_of_ble_eq_true rfl) ?_
  intro p e s m args below meth c M K
  unfold fX4_entry at h
  refine z_locals [0, 1, 2, 3, 4] [(0, .ref (ad 0)), (1, .int p0), (2, .int p1), (3, .int p2), (4, .int p3)] rfl ?_
  refine z_iload_n (pc := 0) M dX4_entry_0 rfl 1 rfl ?_
  obtain ⟨r1, h2, h⟩ := bo_in h
  refine z_scall (pc := 1) (As := [.int p0]) M (kX4_isPlace l p0 r1 h2) (va_cwS 1 M.1.2.2.2.2 gX4_entry_X4_isPlace rfl rfl rfl (by decide +kernel) ⟨Nat.le_of_ble_eq_true rfl, Nat.le_of_ble_eq_true rfl⟩) rfl rfl (Nat.le_of_ble_eq_true rfl) dX4_entry_1 ?_
  refine z_if_eqB (pc := 4) 34 M dX4_entry_4 (by decide) h (fun c_15 h => ?_) (fun c_15 h => ?_)
  · refine z_iconst (pc := 34) (v := 0) M dX4_entry_34 (by decide) ?_
    exact z_zretW (pc := 35) M (congrArg Prod.fst (Option.some.inj h)) (congrArg Prod.snd (Option.some.inj h)) rfl dX4_entry_35
  · refine z_aload_n (pc := 7) M dX4_entry_7 rfl 0 rfl ?_
    refine z_iload_n (pc := 8) M dX4_entry_8 rfl 2 rfl ?_
    obtain ⟨r3, h4, h⟩ := bo_in h
    refine z_vcall (pc := 9) (As := [.int p1]) M K (kX4_isThing l D cy ad n p1 S r3 h4) (cwV 1 M.1.2.2.2.2 gX4_entry_X4_isThing rfl rfl rfl (by decide +kernel) ⟨Nat.le_of_ble_eq_true rfl, Nat.le_of_ble_eq_true rfl⟩) o_obj rfl rfl rfl (Nat.le_of_ble_eq_true rfl) dX4_entry_9 ?_
    refine z_if_eqB (pc := 12) 34 M dX4_entry_12 (by decide) h (fun c_14 h => ?_) (fun c_14 h => ?_)
    · refine z_iconst (pc := 34) (v := 0) M dX4_entry_34 (by decide) ?_
      exact z_zretW (pc := 35) M (congrArg Prod.fst (Option.some.inj h)) (congrArg Prod.snd (Option.some.inj h)) rfl dX4_entry_35
    · refine z_aload_n (pc := 15) M dX4_entry_15 rfl 0 rfl ?_
      refine z_iload_n (pc := 16) M dX4_entry_16 rfl 3 rfl ?_
      obtain ⟨r5, h6, h⟩ := bo_in h
      refine z_vcall (pc := 17) (As := [.int p2]) M K (kX4_isThing l D cy ad n p2 S r5 h6) (cwV 1 M.1.2.2.2.2 gX4_entry_X4_isThing rfl rfl rfl (by decide +kernel) ⟨Nat.le_of_ble_eq_true rfl, Nat.le_of_ble_eq_true rfl⟩) o_obj rfl rfl rfl (Nat.le_of_ble_eq_true rfl) dX4_entry_17 ?_
      refine z_if_eqB (pc := 20) 34 M dX4_entry_20 (by decide) h (fun c_13 h => ?_) (fun c_13 h => ?_)
      · refine z_iconst (pc := 34) (v := 0) M dX4_entry_34 (by decide) ?_
        exact z_zretW (pc := 35) M (congrArg Prod.fst (Option.some.inj h)) (congrArg Prod.snd (Option.some.inj h)) rfl dX4_entry_35
      · refine z_iload (pc := 23) M dX4_entry_23 4 rfl ?_
        refine z_bipush (pc := 25) (v := -5) M dX4_entry_25 (by decide) ?_
        refine z_iconst (pc := 27) (v := 5) M dX4_entry_27 (by decide) ?_
        obtain ⟨r7, h8, h⟩ := bo_in h
        refine z_scall (pc := 28) (As := [.int p3, .int (-5 : Int32), .int (5 : Int32)]) M (kX4_isAmong l p3 (-5 : Int32) (5 : Int32) r7 h8) (va_cwS 3 M.1.2.2.2.2 gX4_entry_X4_isAmong rfl rfl rfl (by decide +kernel) ⟨Nat.le_of_ble_eq_true rfl, Nat.le_of_ble_eq_true rfl⟩) rfl rfl (Nat.le_of_ble_eq_true rfl) dX4_entry_28 ?_
        refine z_if_neB (pc := 31) 36 M dX4_entry_31 (by decide) h (fun c_12 h => ?_) (fun c_12 h => ?_)
        · refine z_aload_n (pc := 36) M dX4_entry_36 rfl 0 rfl ?_
          refine z_get (pc := 37) (v := .ref (ad 1)) M K inX4_entry_X4 o_obj rfl 2 (by decide) flX4_entry_27 rfl rfl dX4_entry_37 ?_
          refine z_iload_n (pc := 40) M dX4_entry_40 rfl 1 rfl ?_
          refine z_aaldT (pc := 41) M K h dX4_entry_41 (fun h_Int32_toNatClampNeg_p0 h => ?_)
          refine z_iload_n (pc := 42) M dX4_entry_42 rfl 2 rfl ?_
          refine z_iload_n (pc := 43) M dX4_entry_43 rfl 3 rfl ?_
          refine z_iload (pc := 44) M dX4_entry_44 4 rfl ?_
          obtain ⟨r9, S11, h10, h⟩ := bw_in h
          refine z_vcallV (pc := 46) (As := [.int p1, .int p2, .int p3]) M K (kX3_put l D cy ad n (Int32.toNatClampNeg p0) h_Int32_toNatClampNeg_p0 p1 p2 p3 S r9 S11 h10) (cwV 3 M.1.2.2.2.2 gX4_entry_X3_put rfl rfl rfl (by decide +kernel) ⟨Nat.le_of_ble_eq_true rfl, Nat.le_of_ble_eq_true rfl⟩) (o_tab h_Int32_toNatClampNeg_p0) rfl rfl rfl (Nat.le_of_ble_eq_true rfl) dX4_entry_46 ?_
          refine z_iconst (pc := 49) (v := 1) M dX4_entry_49 (by decide) ?_
          exact z_zretW (pc := 50) M (congrArg Prod.fst (Option.some.inj h)) (congrArg Prod.snd (Option.some.inj h)) rfl dX4_entry_50
        · refine z_iconst (pc := 34) (v := 0) M dX4_entry_34 (by decide) ?_
          exact z_zretW (pc := 35) M (congrArg Prod.fst (Option.some.inj h)) (congrArg Prod.snd (Option.some.inj h)) rfl dX4_entry_35
def rmX4_told : Room := { frames := 2, cells := 0, slots := 0, locals := 43 }
theorem flX4_told_27 : Cond.fieldLink RX4 27 "ShunLots" "tables" "[LShunLots$Table;" ∈ wsX4_told := by decide +kernel
theorem inX4_told_X4 : ∀ w ∈ wsX40, w ∈ wsX4_told := by decide +kernel
set_option maxRecDepth 100000 in
set_option maxHeartbeats 4000000 in
theorem kX4_told (l : Launch) (D : va_G) (cy ad : Nat → Nat) (n : Nat) (p0 : Int32) (p1 : Int32) (p2 : Int32) (S : St) (r : Int32) (h : fX4_told n p0 p1 p2 S = some r) : CW l D cy ad n yX4_told wsX4_told rmX4_told [.ref (ad 0), .int p0, .int p1, .int p2] S (some (.int r)) S := by
  refine CW.of (cc := cX4_told) (nL := 4) (ret := (some .int)) (own := RX4) rfl (by decide +kernel) rfl (Nat.le_of_ble_eq_true rfl) ?_
  intro p e s m args below meth c M K
  unfold fX4_told at h
  refine z_locals [0, 1, 2, 3] [(0, .ref (ad 0)), (1, .int p0), (2, .int p1), (3, .int p2)] rfl ?_
  refine z_iload_n (pc := 0) M dX4_told_0 rfl 1 rfl ?_
  obtain ⟨r1, h2, h⟩ := bo_in h
  refine z_scall (pc := 1) (As := [.int p0]) M (kX4_isPlace l p0 r1 h2) (va_cwS 1 M.1.2.2.2.2 gX4_told_X4_isPlace rfl rfl rfl (by decide +kernel) ⟨Nat.le_of_ble_eq_true rfl, Nat.le_of_ble_eq_true rfl⟩) rfl rfl (Nat.le_of_ble_eq_true rfl) dX4_told_1 ?_
  refine z_if_eqB (pc := 4) 23 M dX4_told_4 (by decide) h (fun c_11 h => ?_) (fun c_11 h => ?_)
  · refine z_bipush (pc := 23) (v := -10) M dX4_told_23 (by decide) ?_
    exact z_iretW (pc := 25) M (Option.some.inj h) rfl dX4_told_25
  · refine z_aload_n (pc := 7) M dX4_told_7 rfl 0 rfl ?_
    refine z_iload_n (pc := 8) M dX4_told_8 rfl 2 rfl ?_
    obtain ⟨r3, h4, h⟩ := bo_in h
    refine z_vcall (pc := 9) (As := [.int p1]) M K (kX4_isThing l D cy ad n p1 S r3 h4) (cwV 1 M.1.2.2.2.2 gX4_told_X4_isThing rfl rfl rfl (by decide +kernel) ⟨Nat.le_of_ble_eq_true rfl, Nat.le_of_ble_eq_true rfl⟩) o_obj rfl rfl rfl (Nat.le_of_ble_eq_true rfl) dX4_told_9 ?_
    refine z_if_eqB (pc := 12) 23 M dX4_told_12 (by decide) h (fun c_10 h => ?_) (fun c_10 h => ?_)
    · refine z_bipush (pc := 23) (v := -10) M dX4_told_23 (by decide) ?_
      exact z_iretW (pc := 25) M (Option.some.inj h) rfl dX4_told_25
    · refine z_aload_n (pc := 15) M dX4_told_15 rfl 0 rfl ?_
      refine z_iload_n (pc := 16) M dX4_told_16 rfl 3 rfl ?_
      obtain ⟨r5, h6, h⟩ := bo_in h
      refine z_vcall (pc := 17) (As := [.int p2]) M K (kX4_isThing l D cy ad n p2 S r5 h6) (cwV 1 M.1.2.2.2.2 gX4_told_X4_isThing rfl rfl rfl (by decide +kernel) ⟨Nat.le_of_ble_eq_true rfl, Nat.le_of_ble_eq_true rfl⟩) o_obj rfl rfl rfl (Nat.le_of_ble_eq_true rfl) dX4_told_17 ?_
      refine z_if_neB (pc := 20) 26 M dX4_told_20 (by decide) h (fun c_9 h => ?_) (fun c_9 h => ?_)
      · refine z_aload_n (pc := 26) M dX4_told_26 rfl 0 rfl ?_
        refine z_get (pc := 27) (v := .ref (ad 1)) M K inX4_told_X4 o_obj rfl 2 (by decide) flX4_told_27 rfl rfl dX4_told_27 ?_
        refine z_iload_n (pc := 30) M dX4_told_30 rfl 1 rfl ?_
        refine z_aaldT (pc := 31) M K h dX4_told_31 (fun h_Int32_toNatClampNeg_p0 h => ?_)
        refine z_iload_n (pc := 32) M dX4_told_32 rfl 2 rfl ?_
        refine z_iload_n (pc := 33) M dX4_told_33 rfl 3 rfl ?_
        obtain ⟨r7, h8, h⟩ := bo_in h
        refine z_vcall (pc := 34) (As := [.int p1, .int p2]) M K (kX3_at l D cy ad n (Int32.toNatClampNeg p0) h_Int32_toNatClampNeg_p0 p1 p2 S r7 h8) (cwV 2 M.1.2.2.2.2 gX4_told_X3_at rfl rfl rfl (by decide +kernel) ⟨Nat.le_of_ble_eq_true rfl, Nat.le_of_ble_eq_true rfl⟩) (o_tab h_Int32_toNatClampNeg_p0) rfl rfl rfl (Nat.le_of_ble_eq_true rfl) dX4_told_34 ?_
        exact z_iretW (pc := 37) M (Option.some.inj h) rfl dX4_told_37
      · refine z_bipush (pc := 23) (v := -10) M dX4_told_23 (by decide) ?_
        exact z_iretW (pc := 25) M (Option.some.inj h) rfl dX4_told_25
def rmX4_isSet : Room := { frames := 1, cells := 0, slots := 0, locals := 22 }
theorem flX4_isSet_22 : Cond.fieldLink RX4 22 "ShunLots" "sets" "I" ∈ wsX4_isSet := by decide +kernel
theorem inX4_isSet_X4 : ∀ w ∈ wsX40, w ∈ wsX4_isSet := by decide +kernel
set_option maxRecDepth 100000 in
set_option maxHeartbeats 4000000 in
theorem kX4_isSet (l : Launch) (D : va_G) (cy ad : Nat → Nat) (n : Nat) (p0 : Int32) (S : St) (r : Bool) (h : fX4_isSet n p0 S = some r) : CW l D cy ad n yX4_isSet wsX4_isSet rmX4_isSet [.ref (ad 0), .int p0] S (some (.int (b2i r))) S := by
  refine CW.of (cc := cX4_isSet) (nL := 2) (ret := (some .boolean)) (own := RX4) rfl (by decide +kernel) rfl (Nat.le_of_ble_eq_true rfl) ?_
  intro p e s m args below meth c M K
  unfold fX4_isSet at h
  refine z_locals [0, 1] [(0, .ref (ad 0)), (1, .int p0)] rfl ?_
  refine z_iload_n (pc := 0) M dX4_isSet_0 rfl 1 rfl ?_
  refine z_iconst (pc := 1) (v := 0) M dX4_isSet_1 (by decide) ?_
  refine z_aload_n (pc := 2) M dX4_isSet_2 rfl 0 rfl ?_
  refine z_get (pc := 3) (v := .int (nI (2 ^ n))) M K inX4_isSet_X4 o_obj rfl 1 (by decide) flX4_isSet_22 rfl rfl dX4_isSet_3 ?_
  refine z_iconst (pc := 6) (v := 1) M dX4_isSet_6 (by decide) ?_
  refine z_isub (pc := 7) M dX4_isSet_7 ?_
  obtain ⟨r1, h2, h⟩ := bo_in h
  refine z_scall (pc := 8) (As := [.int p0, .int (0 : Int32), .int ((nI (2 ^ n)) - (1 : Int32))]) M (kX4_isAmong l p0 (0 : Int32) ((nI (2 ^ n)) - (1 : Int32)) r1 h2) (va_cwS 3 M.1.2.2.2.2 gX4_isSet_X4_isAmong rfl rfl rfl (by decide +kernel) ⟨Nat.le_of_ble_eq_true rfl, Nat.le_of_ble_eq_true rfl⟩) rfl rfl (Nat.le_of_ble_eq_true rfl) dX4_isSet_8 ?_
  exact z_zretW (pc := 11) M (Option.some.inj h) rfl rfl dX4_isSet_11
def rmX4_worth : Room := { frames := 4, cells := 0, slots := 0, locals := 97 }
theorem flX4_worth_27 : Cond.fieldLink RX4 27 "ShunLots" "tables" "[LShunLots$Table;" ∈ wsX4_worth := by decide +kernel
theorem flX4_worth_58 : Cond.fieldLink RX4 58 "ShunLots" "square" "LShunLots$Square;" ∈ wsX4_worth := by decide +kernel
theorem inX4_worth_X4 : ∀ w ∈ wsX40, w ∈ wsX4_worth := by decide +kernel
set_option maxRecDepth 100000 in
set_option maxHeartbeats 4000000 in
theorem kX4_worth (l : Launch) (D : va_G) (cy ad : Nat → Nat) (n : Nat) (p0 : Int32) (p1 : Int32) (S : St) (r : Int64) (S' : St) (h : fX4_worth n p0 p1 S = some (r, S')) : CW l D cy ad n yX4_worth wsX4_worth rmX4_worth [.ref (ad 0), .int p0, .int p1] S (some (.long r)) S' := by
  refine CW.of (cc := cX4_worth) (nL := 3) (ret := (some .long)) (own := RX4) rfl (by decide +kernel) rfl (Nat.le_of_ble_eq_true rfl) ?_
  intro p e s m args below meth c M K
  unfold fX4_worth at h
  refine z_locals [0, 1, 2] [(0, .ref (ad 0)), (1, .int p0), (2, .int p1)] rfl ?_
  refine z_iload_n (pc := 0) M dX4_worth_0 rfl 1 rfl ?_
  obtain ⟨r1, h2, h⟩ := bo_in h
  refine z_scall (pc := 1) (As := [.int p0]) M (kX4_isPlace l p0 r1 h2) (va_cwS 1 M.1.2.2.2.2 gX4_worth_X4_isPlace rfl rfl rfl (by decide +kernel) ⟨Nat.le_of_ble_eq_true rfl, Nat.le_of_ble_eq_true rfl⟩) rfl rfl (Nat.le_of_ble_eq_true rfl) dX4_worth_1 ?_
  refine z_if_eqB (pc := 4) 15 M dX4_worth_4 (by decide) h (fun c_9 h => ?_) (fun c_9 h => ?_)
  · refine z_lconst (pc := 15) (v := 0) M dX4_worth_15 (by decide) ?_
    exact z_lretW (pc := 16) M (congrArg Prod.fst (Option.some.inj h)) (congrArg Prod.snd (Option.some.inj h)) dX4_worth_16
  · refine z_aload_n (pc := 7) M dX4_worth_7 rfl 0 rfl ?_
    refine z_iload_n (pc := 8) M dX4_worth_8 rfl 2 rfl ?_
    obtain ⟨r3, h4, h⟩ := bo_in h
    refine z_vcall (pc := 9) (As := [.int p1]) M K (kX4_isSet l D cy ad n p1 S r3 h4) (cwV 1 M.1.2.2.2.2 gX4_worth_X4_isSet rfl rfl rfl (by decide +kernel) ⟨Nat.le_of_ble_eq_true rfl, Nat.le_of_ble_eq_true rfl⟩) o_obj rfl rfl rfl (Nat.le_of_ble_eq_true rfl) dX4_worth_9 ?_
    refine z_if_neB (pc := 12) 17 M dX4_worth_12 (by decide) h (fun c_8 h => ?_) (fun c_8 h => ?_)
    · refine z_aload_n (pc := 17) M dX4_worth_17 rfl 0 rfl ?_
      refine z_get (pc := 18) (v := .ref (ad 1)) M K inX4_worth_X4 o_obj rfl 2 (by decide) flX4_worth_27 rfl rfl dX4_worth_18 ?_
      refine z_iload_n (pc := 21) M dX4_worth_21 rfl 1 rfl ?_
      refine z_aaldT (pc := 22) M K h dX4_worth_22 (fun h_Int32_toNatClampNeg_p0 h => ?_)
      refine z_iload_n (pc := 23) M dX4_worth_23 rfl 2 rfl ?_
      refine z_iconst (pc := 24) (v := 0) M dX4_worth_24 (by decide) ?_
      refine z_aload_n (pc := 25) M dX4_worth_25 rfl 0 rfl ?_
      refine z_get (pc := 26) (v := .ref (ad 6)) M K inX4_worth_X4 o_obj rfl 7 (by decide) flX4_worth_58 rfl rfl dX4_worth_26 ?_
      obtain ⟨r5, S7, h6, h⟩ := bw_in h
      refine z_vcall (pc := 29) (As := [.int p1, .int (0 : Int32), .ref (ad 6)]) M K (kX3_worthOf l D cy ad n (Int32.toNatClampNeg p0) h_Int32_toNatClampNeg_p0 p1 (0 : Int32) S r5 S7 h6) (cwV 3 M.1.2.2.2.2 gX4_worth_X3_worthOf rfl rfl rfl (by decide +kernel) ⟨Nat.le_of_ble_eq_true rfl, Nat.le_of_ble_eq_true rfl⟩) (o_tab h_Int32_toNatClampNeg_p0) rfl rfl rfl (Nat.le_of_ble_eq_true rfl) dX4_worth_29 ?_
      exact z_lretW (pc := 32) M (congrArg Prod.fst (Option.some.inj h)) (congrArg Prod.snd (Option.some.inj h)) dX4_worth_32
    · refine z_lconst (pc := 15) (v := 0) M dX4_worth_15 (by decide) ?_
      exact z_lretW (pc := 16) M (congrArg Prod.fst (Option.some.inj h)) (congrArg Prod.snd (Option.some.inj h)) dX4_worth_16
