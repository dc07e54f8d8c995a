def rmX5_common : Room := { frames := 0, cells := 0, slots := 0, locals := 0 }
set_option maxRecDepth 100000 in
set_option maxHeartbeats 4000000 in
theorem LX5_common_1 {p : Program} {l : Launch} {e : Env} {s : State} {m : MethodId} {args : Array Value} {below : List Frame} {meth : Method} {c : Code} {Q : State → Prop} (M : MX p m c cX5_common 10 s args wsX5_common RX5 meth (some .long))    : ∀ (fuel : Nat) (x4 : Int64) (x6 : Int64) (o : (Int64)), lX5_common_1  fuel x4 x6 = some o → ∀ (hx : ∀ a, o = a → Zz p l e rmX5_common s m args below meth c 10 Q (Hp s) 31 [(4, .long a)] []) , Zz p l e rmX5_common s m args below meth c 10 Q (Hp s) 6 [(4, .long x4), (6, .long x6)] [] := by
  intro fuel
  induction fuel with
  | zero => intro x4 x6 o h; exact nomatch (show (none : Option _) = some o from h)
  | succ fuel ih =>
    intro x4 x6 o h hx 
    have h : bX5_common_1  (lX5_common_1  fuel) x4 x6 = some o := h
    unfold bX5_common_1 at h
    refine z_lload (pc := 6) M dX5_common_6 1 rfl ?_
    refine z_lconst (pc := 8) (v := 0) M dX5_common_8 (by decide) ?_
    refine z_lcmp (pc := 9) M dX5_common_9 ?_
    refine z_if_eq (pc := 10) 31 M dX5_common_10 (by decide) h (fun c_1 h => ?_) (fun c_1 h => ?_)
    · refine z_locals [0] [(4, .long x4)] rfl ?_
      cases h
      exact hx _ rfl
    · refine z_lload (pc := 13) M dX5_common_13 0 rfl ?_
      refine z_lload (pc := 15) M dX5_common_15 1 rfl ?_
      refine z_lrem (pc := 17) M dX5_common_17 h (fun h => ?_)
      refine z_lstore (pc := 18) M dX5_common_18 (by decide) [2, 0] [(6, .long x6), (8, .long (x4 - x4 / x6 * x6))] rfl ?_
      refine z_lload (pc := 20) M dX5_common_20 0 rfl ?_
      refine z_lstore (pc := 22) M dX5_common_22 (by decide) [0, 2] [(4, .long x6), (8, .long (x4 - x4 / x6 * x6))] rfl ?_
      refine z_lload (pc := 24) M dX5_common_24 1 rfl ?_
      refine z_lstore (pc := 26) M dX5_common_26 (by decide) [1, 0] [(4, .long x6), (6, .long (x4 - x4 / x6 * x6))] rfl ?_
      refine z_goto (pc := 28) 6 M dX5_common_28 (by decide) ?_
      refine z_locals [0, 1] [(4, .long x6), (6, .long (x4 - x4 / x6 * x6))] rfl ?_
      exact ih x6 (x4 - x4 / x6 * x6) _ h hx
set_option maxRecDepth 100000 in
set_option maxHeartbeats 4000000 in
theorem kX5_common (l : Launch) (p0 : Int64) (p1 : Int64) (r : Int64) (h : fX5_common p0 p1 = some r) : CP l yX5_common wsX5_common rmX5_common [.long p0, .long p1] (some (.long r)) := by
  refine CP.of (cc := cX5_common) (nL := 10) (ret := (some .long)) (own := RX5) rfl (by decide +kernel) rfl (Nat.le_of_ble_eq_true rfl) ?_
  intro p e s m args below meth c M
  unfold fX5_common at h
  refine z_locals [0, 1] [(0, .long p0), (2, .long p1)] rfl ?_
  refine z_lload_n (pc := 0) M dX5_common_0 rfl 0 rfl ?_
  refine z_lstore (pc := 1) M dX5_common_1 (by decide) [2, 0] [(2, .long p1), (4, .long p0)] rfl ?_
  refine z_lload_n (pc := 3) M dX5_common_3 rfl 0 rfl ?_
  refine z_lstore (pc := 4) M dX5_common_4 (by decide) [2, 0] [(4, .long p0), (6, .long p1)] rfl ?_
  refine z_locals [0, 1] [(4, .long p0), (6, .long p1)] rfl ?_
  obtain ⟨q2, h3, h⟩ := bo_in h
  refine LX5_common_1 M FU p0 p1 _ h3 (fun a hE => ?_)
  cases hE
  refine z_lload (pc := 31) M dX5_common_31 0 rfl ?_
  exact z_lretP (pc := 33) M h dX5_common_33
def rmX5_clear : Room := { frames := 0, cells := 0, slots := 0, locals := 0 }
theorem flX5_clear_23 : Cond.fieldLink RX5 23 "ShunLotsModel" "fresh" "[J" ∈ wsX5_clear := by decide +kernel
theorem inX5_clear_X5 : ∀ w ∈ wsX50, w ∈ wsX5_clear := by decide +kernel
set_option maxRecDepth 100000 in
set_option maxHeartbeats 4000000 in
theorem LX5_clear_1 {p : Program} {l : Launch} {e : Env} {s : State} {m : MethodId} {args : Array Value} {below : List Frame} {meth : Method} {c : Code} {Q : State → Prop} {D : va_G} {cy ad : Nat → Nat} {n : Nat} (M : MX p m c cX5_clear 2 s args wsX5_clear RX5 meth none) (K : KK D cy ad s)    : ∀ (fuel : Nat) (x1 : Int32) (S : St) (o : (Unit) × St), lX5_clear_1 n fuel x1 S = some o → ∀ (hx : ∀ a S', o = (a, S') → Zz p l e rmX5_clear s m args below meth c 2 Q (Hw D cy ad n s S') 21 [] []) , Zz p l e rmX5_clear s m args below meth c 2 Q (Hw D cy ad n s S) 2 [(0, .ref (ad 12)), (1, .int x1)] [] := by
  intro fuel
  induction fuel with
  | zero => intro x1 S o h; exact nomatch (show (none : Option _) = some o from h)
  | succ fuel ih =>
    intro x1 S o h hx 
    have h : bX5_clear_1 n (lX5_clear_1 n fuel) x1 S = some o := h
    unfold bX5_clear_1 at h
    refine z_iload_n (pc := 2) M dX5_clear_2 rfl 1 rfl ?_
    refine z_bipush (pc := 3) (v := 64) M dX5_clear_3 (by decide) ?_
    refine z_icmp_ge (pc := 5) 21 M dX5_clear_5 (by decide) h (fun c_1 h => ?_) (fun c_1 h => ?_)
    · refine z_locals [] [] rfl ?_
      cases h
      exact hx _ _ rfl
    · refine z_aload_n (pc := 8) M dX5_clear_8 rfl 0 rfl ?_
      refine z_get (pc := 9) (v := .ref (ad 41)) M K inX5_clear_X5 o_mod rfl 6 (by decide) flX5_clear_23 rfl rfl dX5_clear_9 ?_
      refine z_iload_n (pc := 12) M dX5_clear_12 rfl 1 rfl ?_
      refine z_lconst (pc := 13) (v := 0) M dX5_clear_13 (by decide) ?_
      refine z_last (pc := 14) M K ⟨by decide, rfl, rfl⟩ h dX5_clear_14 (fun h => ?_)
      refine z_iinc (pc := 15) M dX5_clear_15 (x1 + 1) rfl 1 rfl (by decide) [1, 0] [(0, .ref (ad 12)), (1, .int (x1 + 1))] rfl ?_
      refine z_goto (pc := 18) 2 M dX5_clear_18 (by decide) ?_
      refine z_locals [0, 1] [(0, .ref (ad 12)), (1, .int (x1 + 1))] rfl ?_
      exact ih (x1 + 1) (sJ S 41 (Int32.toNatClampNeg x1) (0 : Int64)) _ h hx
set_option maxRecDepth 100000 in
set_option maxHeartbeats 4000000 in
theorem kX5_clear (l : Launch) (D : va_G) (cy ad : Nat → Nat) (n : Nat)  (S : St) (r : Unit) (S' : St) (h : fX5_clear n S = some (r, S')) : CW l D cy ad n yX5_clear wsX5_clear rmX5_clear [.ref (ad 12)] S none S' := by
  refine CW.of (cc := cX5_clear) (nL := 2) (ret := none) (own := RX5) rfl (by decide +kernel) rfl (Nat.le_of_ble_eq_true rfl) ?_
  intro p e s m args below meth c M K
  unfold fX5_clear at h
  refine z_locals [0] [(0, .ref (ad 12))] rfl ?_
  refine z_iconst (pc := 0) (v := 0) M dX5_clear_0 (by decide) ?_
  refine z_istore_n (pc := 1) M dX5_clear_1 rfl (by decide) [1, 0] [(0, .ref (ad 12)), (1, .int (0 : Int32))] rfl ?_
  refine z_locals [0, 1] [(0, .ref (ad 12)), (1, .int (0 : Int32))] rfl ?_
  obtain ⟨q2, S4, h3, h⟩ := bw_in h
  refine LX5_clear_1 M K FU (0 : Int32) S _ h3 (fun a S' hE => ?_)
  cases hE
  exact z_vretW (pc := 21) M (congrArg Prod.snd (Option.some.inj h)) dX5_clear_21
def rmX5_makes : Room := { frames := 1, cells := 0, slots := 0, locals := 29 }
theorem flX5_makes_20 : Cond.fieldLink RX5 20 "ShunLotsModel" "law" "[J" ∈ wsX5_makes := by decide +kernel
theorem flX5_makes_23 : Cond.fieldLink RX5 23 "ShunLotsModel" "fresh" "[J" ∈ wsX5_makes := by decide +kernel
theorem flX5_makes_29 : Cond.fieldLink RX5 29 "ShunLotsModel" "isMade" "[Z" ∈ wsX5_makes := by decide +kernel
theorem flX5_makes_49 : Cond.fieldLink RX5 49 "ShunLotsModel" "sets" "I" ∈ wsX5_makes := by decide +kernel
theorem wdX5_makes_Cond_constantLong_RX5_78_4000000 : Cond.constantLong RX5 78 (4000000) ∈ wsX5_makes := by decide +kernel
theorem inX5_makes_X5 : ∀ w ∈ wsX50, w ∈ wsX5_makes := by decide +kernel
set_option maxRecDepth 100000 in
set_option maxHeartbeats 4000000 in
theorem LX5_makes_1 {p : Program} {l : Launch} {e : Env} {s : State} {m : MethodId} {args : Array Value} {below : List Frame} {meth : Method} {c : Code} {Q : State → Prop} {D : va_G} {cy ad : Nat → Nat} {n : Nat} (M : MX p m c cX5_makes 5 s args wsX5_makes RX5 meth (some .boolean)) (K : KK D cy ad s) (x1 : Int32)  (S : St) : ∀ (fuel : Nat) (x2 : Int64) (x4 : Int32) (o : (Int64)), lX5_makes_1 n x1 S fuel x2 x4 = some o → ∀ (hx : ∀ a, o = a → Zz p l e rmX5_makes s m args below meth c 5 Q (Hw D cy ad n s S) 32 [(0, .ref (ad 12)), (1, .int x1), (2, .long a)] []) , Zz p l e rmX5_makes s m args below meth c 5 Q (Hw D cy ad n s S) 5 [(0, .ref (ad 12)), (1, .int x1), (2, .long x2), (4, .int x4)] [] := by
  intro fuel
  induction fuel with
  | zero => intro x2 x4 o h; exact nomatch (show (none : Option _) = some o from h)
  | succ fuel ih =>
    intro x2 x4 o h hx 
    have h : bX5_makes_1 n x1 S (lX5_makes_1 n x1 S fuel) x2 x4 = some o := h
    unfold bX5_makes_1 at h
    refine z_iload (pc := 5) M dX5_makes_5 3 rfl ?_
    refine z_aload_n (pc := 7) M dX5_makes_7 rfl 0 rfl ?_
    refine z_get (pc := 8) (v := .int (nI (2 ^ n))) M K inX5_makes_X5 o_mod rfl 1 (by decide) flX5_makes_49 rfl rfl dX5_makes_8 ?_
    refine z_icmp_ge (pc := 11) 32 M dX5_makes_11 (by decide) h (fun c_3 h => ?_) (fun c_3 h => ?_)
    · refine z_locals [0, 1, 2] [(0, .ref (ad 12)), (1, .int x1), (2, .long x2)] rfl ?_
      cases h
      exact hx _ rfl
    · refine z_aload_n (pc := 14) M dX5_makes_14 rfl 0 rfl ?_
      refine z_get (pc := 15) (v := .ref (ad 41)) M K inX5_makes_X5 o_mod rfl 6 (by decide) flX5_makes_23 rfl rfl dX5_makes_15 ?_
      refine z_iload (pc := 18) M dX5_makes_18 3 rfl ?_
      refine z_lald (pc := 20) M K ⟨by decide, rfl, rfl⟩ h dX5_makes_20 (fun _ h => ?_)
      refine z_lload_n (pc := 21) M dX5_makes_21 rfl 2 rfl ?_
      obtain ⟨r1, h2, h⟩ := bo_in h
      refine z_scall (pc := 22) (As := [.long (S.2 41 (Int32.toNatClampNeg x4)), .long x2]) M (kX5_common l (S.2 41 (Int32.toNatClampNeg x4)) x2 r1 h2) (va_cwS 2 M.1.2.2.2.2 gX5_makes_X5_common rfl rfl rfl (by decide +kernel) ⟨Nat.le_of_ble_eq_true rfl, Nat.le_of_ble_eq_true rfl⟩) rfl rfl (Nat.le_of_ble_eq_true rfl) dX5_makes_22 ?_
      refine z_lstore_n (pc := 25) M dX5_makes_25 rfl (by decide) [1, 2, 0, 3] [(0, .ref (ad 12)), (1, .int x1), (2, .long r1), (4, .int x4)] rfl ?_
      refine z_iinc (pc := 26) M dX5_makes_26 (x4 + 1) rfl 3 rfl (by decide) [1, 2, 3, 0] [(0, .ref (ad 12)), (1, .int x1), (2, .long r1), (4, .int (x4 + 1))] rfl ?_
      refine z_goto (pc := 29) 5 M dX5_makes_29 (by decide) ?_
      refine z_locals [0, 1, 2, 3] [(0, .ref (ad 12)), (1, .int x1), (2, .long r1), (4, .int (x4 + 1))] rfl ?_
      exact ih r1 (x4 + 1) _ h hx
set_option maxRecDepth 100000 in
set_option maxHeartbeats 4000000 in
theorem LX5_makes_2 {p : Program} {l : Launch} {e : Env} {s : State} {m : MethodId} {args : Array Value} {below : List Frame} {meth : Method} {c : Code} {Q : State → Prop} {D : va_G} {cy ad : Nat → Nat} {n : Nat} (M : MX p m c cX5_makes 5 s args wsX5_makes RX5 meth (some .boolean)) (K : KK D cy ad s) (x1 : Int32) (x2 : Int64)  (S : St) : ∀ (fuel : Nat) (x4 : Int32) (o : ((Unit) ⊕ Bool)), lX5_makes_2 n x1 x2 S fuel x4 = some o → ∀ (hx : ∀ a, o = .inl a → Zz p l e rmX5_makes s m args below meth c 5 Q (Hw D cy ad n s S) 76 [(0, .ref (ad 12)), (1, .int x1), (2, .long x2)] []) (hq : ∀ r, o = .inr r → Q = Qw D cy ad n below args s (some (.int (b2i r))) S), Zz p l e rmX5_makes s m args below meth c 5 Q (Hw D cy ad n s S) 43 [(0, .ref (ad 12)), (1, .int x1), (2, .long x2), (4, .int x4)] [] := by
  intro fuel
  induction fuel with
  | zero => intro x4 o h; exact nomatch (show (none : Option _) = some o from h)
  | succ fuel ih =>
    intro x4 o h hx hq
    have h : bX5_makes_2 n x1 x2 S (lX5_makes_2 n x1 x2 S fuel) x4 = some o := h
    unfold bX5_makes_2 at h
    refine z_iload (pc := 43) M dX5_makes_43 3 rfl ?_
    refine z_aload_n (pc := 45) M dX5_makes_45 rfl 0 rfl ?_
    refine z_get (pc := 46) (v := .int (nI (2 ^ n))) M K inX5_makes_X5 o_mod rfl 1 (by decide) flX5_makes_49 rfl rfl dX5_makes_46 ?_
    refine z_icmp_ge (pc := 49) 76 M dX5_makes_49 (by decide) h (fun c_7 h => ?_) (fun c_7 h => ?_)
    · refine z_locals [0, 1, 2] [(0, .ref (ad 12)), (1, .int x1), (2, .long x2)] rfl ?_
      cases h
      exact hx _ rfl
    · refine z_aload_n (pc := 52) M dX5_makes_52 rfl 0 rfl ?_
      refine z_get (pc := 53) (v := .ref (ad 41)) M K inX5_makes_X5 o_mod rfl 6 (by decide) flX5_makes_23 rfl rfl dX5_makes_53 ?_
      refine z_iload (pc := 56) M dX5_makes_56 3 rfl ?_
      refine z_lald (pc := 58) M K ⟨by decide, rfl, rfl⟩ h dX5_makes_58 (fun _ h => ?_)
      refine z_lload_n (pc := 59) M dX5_makes_59 rfl 2 rfl ?_
      refine z_ldiv (pc := 60) M dX5_makes_60 h (fun h => ?_)
      refine z_ldc2 (pc := 61) M wdX5_makes_Cond_constantLong_RX5_78_4000000 dX5_makes_61 ?_
      refine z_lcmp (pc := 64) M dX5_makes_64 ?_
      refine z_if_le (pc := 65) 70 M dX5_makes_65 (by decide) h (fun c_6 h => ?_) (fun c_6 h => ?_)
      · refine z_iinc (pc := 70) M dX5_makes_70 (x4 + 1) rfl 3 rfl (by decide) [1, 2, 3, 0] [(0, .ref (ad 12)), (1, .int x1), (2, .long x2), (4, .int (x4 + 1))] rfl ?_
        refine z_goto (pc := 73) 43 M dX5_makes_73 (by decide) ?_
        refine z_locals [0, 1, 2, 3] [(0, .ref (ad 12)), (1, .int x1), (2, .long x2), (4, .int (x4 + 1))] rfl ?_
        exact ih (x4 + 1) _ h hx hq
      · refine z_iconst (pc := 68) (v := 0) M dX5_makes_68 (by decide) ?_
        cases h
        rw [hq _ rfl]
        exact z_zretW (pc := 69) M rfl rfl rfl dX5_makes_69
set_option maxRecDepth 100000 in
set_option maxHeartbeats 4000000 in
theorem LX5_makes_3 {p : Program} {l : Launch} {e : Env} {s : State} {m : MethodId} {args : Array Value} {below : List Frame} {meth : Method} {c : Code} {Q : State → Prop} {D : va_G} {cy ad : Nat → Nat} {n : Nat} (M : MX p m c cX5_makes 5 s args wsX5_makes RX5 meth (some .boolean)) (K : KK D cy ad s) (x1 : Int32) (x2 : Int64)   : ∀ (fuel : Nat) (x4 : Int32) (S : St) (o : (Unit) × St), lX5_makes_3 n x1 x2 fuel x4 S = some o → ∀ (hx : ∀ a S', o = (a, S') → Zz p l e rmX5_makes s m args below meth c 5 Q (Hw D cy ad n s S') 115 [(0, .ref (ad 12)), (1, .int x1)] []) , Zz p l e rmX5_makes s m args below meth c 5 Q (Hw D cy ad n s S) 79 [(0, .ref (ad 12)), (1, .int x1), (2, .long x2), (4, .int x4)] [] := by
  intro fuel
  induction fuel with
  | zero => intro x4 S o h; exact nomatch (show (none : Option _) = some o from h)
  | succ fuel ih =>
    intro x4 S o h hx 
    have h : bX5_makes_3 n x1 x2 (lX5_makes_3 n x1 x2 fuel) x4 S = some o := h
    unfold bX5_makes_3 at h
    refine z_iload (pc := 79) M dX5_makes_79 3 rfl ?_
    refine z_aload_n (pc := 81) M dX5_makes_81 rfl 0 rfl ?_
    refine z_get (pc := 82) (v := .int (nI (2 ^ n))) M K inX5_makes_X5 o_mod rfl 1 (by decide) flX5_makes_49 rfl rfl dX5_makes_82 ?_
    refine z_icmp_ge (pc := 85) 115 M dX5_makes_85 (by decide) h (fun c_10 h => ?_) (fun c_10 h => ?_)
    · refine z_locals [0, 1] [(0, .ref (ad 12)), (1, .int x1)] rfl ?_
      cases h
      exact hx _ _ rfl
    · refine z_aload_n (pc := 88) M dX5_makes_88 rfl 0 rfl ?_
      refine z_get (pc := 89) (v := .ref (ad 40)) M K inX5_makes_X5 o_mod rfl 5 (by decide) flX5_makes_20 rfl rfl dX5_makes_89 ?_
      refine z_bipush (pc := 92) (v := 64) M dX5_makes_92 (by decide) ?_
      refine z_iload_n (pc := 94) M dX5_makes_94 rfl 1 rfl ?_
      refine z_imul (pc := 95) M dX5_makes_95 ?_
      refine z_iload (pc := 96) M dX5_makes_96 3 rfl ?_
      refine z_iadd (pc := 98) M dX5_makes_98 ?_
      refine z_aload_n (pc := 99) M dX5_makes_99 rfl 0 rfl ?_
      refine z_get (pc := 100) (v := .ref (ad 41)) M K inX5_makes_X5 o_mod rfl 6 (by decide) flX5_makes_23 rfl rfl dX5_makes_100 ?_
      refine z_iload (pc := 103) M dX5_makes_103 3 rfl ?_
      refine z_lald (pc := 105) M K ⟨by decide, rfl, rfl⟩ h dX5_makes_105 (fun _ h => ?_)
      refine z_lload_n (pc := 106) M dX5_makes_106 rfl 2 rfl ?_
      refine z_ldiv (pc := 107) M dX5_makes_107 h (fun h => ?_)
      refine z_last (pc := 108) M K ⟨by decide, rfl, rfl⟩ h dX5_makes_108 (fun h => ?_)
      refine z_iinc (pc := 109) M dX5_makes_109 (x4 + 1) rfl 3 rfl (by decide) [1, 2, 3, 0] [(0, .ref (ad 12)), (1, .int x1), (2, .long x2), (4, .int (x4 + 1))] rfl ?_
      refine z_goto (pc := 112) 79 M dX5_makes_112 (by decide) ?_
      refine z_locals [0, 1, 2, 3] [(0, .ref (ad 12)), (1, .int x1), (2, .long x2), (4, .int (x4 + 1))] rfl ?_
      exact ih (x4 + 1) (sJ S 40 (Int32.toNatClampNeg (((64 : Int32) * x1) + x4)) ((S.2 41 (Int32.toNatClampNeg x4)) / x2)) _ h hx
set_option maxRecDepth 100000 in
set_option maxHeartbeats 4000000 in
theorem kX5_makes (l : Launch) (D : va_G) (cy ad : Nat → Nat) (n : Nat) (p0 : Int32) (S : St) (r : Bool) (S' : St) (h : fX5_makes n p0 S = some (r, S')) : CW l D cy ad n yX5_makes wsX5_makes rmX5_makes [.ref (ad 12), .int p0] S (some (.int (b2i r))) S' := by
  refine CW.of (cc := cX5_makes) (nL := 5) (ret := (some .boolean)) (own := RX5) rfl (by decide +kernel) rfl (Nat.le_of_ble_eq_true rfl) ?_
  intro p e s m args below meth c M K
  unfold fX5_makes at h
  refine z_locals [0, 1] [(0, .ref (ad 12)), (1, .int p0)] rfl ?_
  refine z_lconst (pc := 0) (v := 0) M dX5_makes_0 (by decide) ?_
  refine z_lstore_n (pc := 1) M dX5_makes_1 rfl (by decide) [1, 2, 0] [(0, .ref (ad 12)), (1, .int p0), (2, .long (0 : Int64))] rfl ?_
  refine z_iconst (pc := 2) (v := 0) M dX5_makes_2 (by decide) ?_
  refine z_istore (pc := 3) M dX5_makes_3 (by decide) [1, 2, 3, 0] [(0, .ref (ad 12)), (1, .int p0), (2, .long (0 : Int64)), (4, .int (0 : Int32))] rfl ?_
  refine z_locals [0, 1, 2, 3] [(0, .ref (ad 12)), (1, .int p0), (2, .long (0 : Int64)), (4, .int (0 : Int32))] rfl ?_
  obtain ⟨q4, h5, h⟩ := bo_in h
  refine LX5_makes_1 M K p0 S FU (0 : Int64) (0 : Int32) _ h5 (fun a hE => ?_)
  cases hE
  refine z_lload_n (pc := 32) M dX5_makes_32 rfl 2 rfl ?_
  refine z_lconst (pc := 33) (v := 0) M dX5_makes_33 (by decide) ?_
  refine z_lcmp (pc := 34) M dX5_makes_34 ?_
  refine z_if_ne (pc := 35) 40 M dX5_makes_35 (by decide) h (fun c_14 h => ?_) (fun c_14 h => ?_)
  · refine z_iconst (pc := 40) (v := 0) M dX5_makes_40 (by decide) ?_
    refine z_istore (pc := 41) M dX5_makes_41 (by decide) [1, 2, 3, 0] [(0, .ref (ad 12)), (1, .int p0), (2, .long q4), (4, .int (0 : Int32))] rfl ?_
    refine z_locals [0, 1, 2, 3] [(0, .ref (ad 12)), (1, .int p0), (2, .long q4), (4, .int (0 : Int32))] rfl ?_
    rcases bs_in h with ⟨q8, h9, h⟩ | ⟨r9, h9, h⟩
    · refine LX5_makes_2 M K p0 q4 S FU (0 : Int32) _ h9 (fun a hE => ?_) (fun r e9 => nomatch e9)
      cases hE
      refine z_iconst (pc := 76) (v := 0) M dX5_makes_76 (by decide) ?_
      refine z_istore (pc := 77) M dX5_makes_77 (by decide) [1, 2, 3, 0] [(0, .ref (ad 12)), (1, .int p0), (2, .long q4), (4, .int (0 : Int32))] rfl ?_
      refine z_locals [0, 1, 2, 3] [(0, .ref (ad 12)), (1, .int p0), (2, .long q4), (4, .int (0 : Int32))] rfl ?_
      obtain ⟨q11, S13, h12, h⟩ := bw_in h
      refine LX5_makes_3 M K p0 q4 FU (0 : Int32) S _ h12 (fun a S' hE => ?_)
      cases hE
      refine z_aload_n (pc := 115) M dX5_makes_115 rfl 0 rfl ?_
      refine z_get (pc := 116) (v := .ref (ad 43)) M K inX5_makes_X5 o_mod rfl 8 (by decide) flX5_makes_29 rfl rfl dX5_makes_116 ?_
      refine z_iload_n (pc := 119) M dX5_makes_119 rfl 1 rfl ?_
      refine z_iconst (pc := 120) (v := 1) M dX5_makes_120 (by decide) ?_
      refine z_zast1 (pc := 121) M K ⟨by decide, rfl, rfl⟩ h dX5_makes_121 (fun h => ?_)
      refine z_iconst (pc := 122) (v := 1) M dX5_makes_122 (by decide) ?_
      exact z_zretW (pc := 123) M (congrArg Prod.fst (Option.some.inj h)) (congrArg Prod.snd (Option.some.inj h)) rfl dX5_makes_123
    · exact LX5_makes_2 M K p0 q4 S FU (0 : Int32) _ h9 (fun a e9 => nomatch e9) (fun r e9 => by cases e9; cases h; rfl)
  · refine z_iconst (pc := 38) (v := 0) M dX5_makes_38 (by decide) ?_
    exact z_zretW (pc := 39) M (congrArg Prod.fst (Option.some.inj h)) (congrArg Prod.snd (Option.some.inj h)) rfl dX5_makes_39
def rmX5_shun : Room := { frames := 3, cells := 0, slots := 0, locals := 74 }
theorem flX5_shun_23 : Cond.fieldLink RX5 23 "ShunLotsModel" "fresh" "[J" ∈ wsX5_shun := by decide +kernel
theorem flX5_shun_49 : Cond.fieldLink RX5 49 "ShunLotsModel" "sets" "I" ∈ wsX5_shun := by decide +kernel
theorem inX5_shun_X5 : ∀ w ∈ wsX50, w ∈ wsX5_shun := by decide +kernel
set_option maxRecDepth 100000 in
set_option maxHeartbeats 4000000 in
theorem LX5_shun_1 {p : Program} {l : Launch} {e : Env} {s : State} {m : MethodId} {args : Array Value} {below : List Frame} {meth : Method} {c : Code} {Q : State → Prop} {D : va_G} {cy ad : Nat → Nat} {n : Nat} (M : MX p m c cX5_shun 4 s args wsX5_shun RX5 meth (some .boolean)) (K : KK D cy ad s) (x1 : Int32) (x2 : Int32)   : ∀ (fuel : Nat) (x3 : Int32) (S : St) (o : (Unit) × St), lX5_shun_1 n x1 x2 fuel x3 S = some o → ∀ (hx : ∀ a S', o = (a, S') → Zz p l e rmX5_shun s m args below meth c 4 Q (Hw D cy ad n s S') 57 [(0, .ref (ad 12)), (2, .int x2)] []) , Zz p l e rmX5_shun s m args below meth c 4 Q (Hw D cy ad n s S) 30 [(0, .ref (ad 12)), (1, .int x1), (2, .int x2), (3, .int x3)] [] := by
  intro fuel
  induction fuel with
  | zero => intro x3 S o h; exact nomatch (show (none : Option _) = some o from h)
  | succ fuel ih =>
    intro x3 S o h hx 
    have h : bX5_shun_1 n x1 x2 (lX5_shun_1 n x1 x2 fuel) x3 S = some o := h
    unfold bX5_shun_1 at h
    refine z_iload_n (pc := 30) M dX5_shun_30 rfl 3 rfl ?_
    refine z_aload_n (pc := 31) M dX5_shun_31 rfl 0 rfl ?_
    refine z_get (pc := 32) (v := .int (nI (2 ^ n))) M K inX5_shun_X5 o_mod rfl 1 (by decide) flX5_shun_49 rfl rfl dX5_shun_32 ?_
    refine z_icmp_ge (pc := 35) 57 M dX5_shun_35 (by decide) h (fun c_14 h => ?_) (fun c_14 h => ?_)
    · refine z_locals [0, 2] [(0, .ref (ad 12)), (2, .int x2)] rfl ?_
      cases h
      exact hx _ _ rfl
    · refine z_aload_n (pc := 38) M dX5_shun_38 rfl 0 rfl ?_
      refine z_get (pc := 39) (v := .ref (ad 41)) M K inX5_shun_X5 o_mod rfl 6 (by decide) flX5_shun_23 rfl rfl dX5_shun_39 ?_
      refine z_iload_n (pc := 42) M dX5_shun_42 rfl 3 rfl ?_
      refine z_aload_n (pc := 43) M dX5_shun_43 rfl 0 rfl ?_
      refine z_iload_n (pc := 44) M dX5_shun_44 rfl 1 rfl ?_
      refine z_iload_n (pc := 45) M dX5_shun_45 rfl 3 rfl ?_
      refine z_iconst (pc := 46) (v := 0) M dX5_shun_46 (by decide) ?_
      obtain ⟨r11, S13, h12, h⟩ := bw_in h
      refine z_vcall (pc := 47) (As := [.int x1, .int x3, .int (0 : Int32)]) M K (kX5_determinant l D cy ad n x1 x3 (0 : Int32) S r11 S13 h12) (cwV 3 M.1.2.2.2.2 gX5_shun_X5_determinant rfl rfl rfl (by decide +kernel) ⟨Nat.le_of_ble_eq_true rfl, Nat.le_of_ble_eq_true rfl⟩) o_mod rfl rfl rfl (Nat.le_of_ble_eq_true rfl) dX5_shun_47 ?_
      refine z_last (pc := 50) M K ⟨by decide, rfl, rfl⟩ h dX5_shun_50 (fun h => ?_)
      refine z_iinc (pc := 51) M dX5_shun_51 (x3 + 1) rfl 3 rfl (by decide) [1, 2, 3, 0] [(0, .ref (ad 12)), (1, .int x1), (2, .int x2), (3, .int (x3 + 1))] rfl ?_
      refine z_goto (pc := 54) 30 M dX5_shun_54 (by decide) ?_
      refine z_locals [0, 1, 2, 3] [(0, .ref (ad 12)), (1, .int x1), (2, .int x2), (3, .int (x3 + 1))] rfl ?_
      exact ih (x3 + 1) (sJ S13 41 (Int32.toNatClampNeg x3) r11) _ h hx
set_option maxRecDepth 100000 in
set_option maxHeartbeats 4000000 in
theorem kX5_shun (l : Launch) (D : va_G) (cy ad : Nat → Nat) (n : Nat) (p0 : Int32) (p1 : Int32) (S : St) (r : Bool) (S' : St) (h : fX5_shun n p0 p1 S = some (r, S')) : CW l D cy ad n yX5_shun wsX5_shun rmX5_shun [.ref (ad 12), .int p0, .int p1] S (some (.int (b2i r))) S' := by
  refine CW.of (cc := cX5_shun) (nL := 4) (ret := (some .boolean)) (own := RX5) rfl (by decide +kernel) rfl (Nat.le_of_ble_eq_true rfl) ?_
  intro p e s m args below meth c M K
  unfold fX5_shun at h
  refine z_locals [0, 1, 2] [(0, .ref (ad 12)), (1, .int p0), (2, .int p1)] rfl ?_
  refine z_iload_n (pc := 0) M dX5_shun_0 rfl 1 rfl ?_
  obtain ⟨r1, h2, h⟩ := bo_in h
  refine z_scall (pc := 1) (As := [.int p0]) M (kX5_isPlace l p0 r1 h2) (va_cwS 1 M.1.2.2.2.2 gX5_shun_X5_isPlace rfl rfl rfl (by decide +kernel) ⟨Nat.le_of_ble_eq_true rfl, Nat.le_of_ble_eq_true rfl⟩) rfl rfl (Nat.le_of_ble_eq_true rfl) dX5_shun_1 ?_
  refine z_if_eqB (pc := 4) 22 M dX5_shun_4 (by decide) h (fun c_23 h => ?_) (fun c_23 h => ?_)
  · refine z_iconst (pc := 22) (v := 0) M dX5_shun_22 (by decide) ?_
    exact z_zretW (pc := 23) M (congrArg Prod.fst (Option.some.inj h)) (congrArg Prod.snd (Option.some.inj h)) rfl dX5_shun_23
  · refine z_iload_n (pc := 7) M dX5_shun_7 rfl 2 rfl ?_
    obtain ⟨r3, h4, h⟩ := bo_in h
    refine z_scall (pc := 8) (As := [.int p1]) M (kX5_isPlace l p1 r3 h4) (va_cwS 1 M.1.2.2.2.2 gX5_shun_X5_isPlace rfl rfl rfl (by decide +kernel) ⟨Nat.le_of_ble_eq_true rfl, Nat.le_of_ble_eq_true rfl⟩) rfl rfl (Nat.le_of_ble_eq_true rfl) dX5_shun_8 ?_
    refine z_if_eqB (pc := 11) 22 M dX5_shun_11 (by decide) h (fun c_22 h => ?_) (fun c_22 h => ?_)
    · refine z_iconst (pc := 22) (v := 0) M dX5_shun_22 (by decide) ?_
      exact z_zretW (pc := 23) M (congrArg Prod.fst (Option.some.inj h)) (congrArg Prod.snd (Option.some.inj h)) rfl dX5_shun_23
    · refine z_aload_n (pc := 14) M dX5_shun_14 rfl 0 rfl ?_
      refine z_iload_n (pc := 15) M dX5_shun_15 rfl 1 rfl ?_
      obtain ⟨r5, S7, h6, h⟩ := bw_in h
      refine z_vcall (pc := 16) (As := [.int p0]) M K (kX5_why l D cy ad n p0 S r5 S7 h6) (cwV 1 M.1.2.2.2.2 gX5_shun_X5_why rfl rfl rfl (by decide +kernel) ⟨Nat.le_of_ble_eq_true rfl, Nat.le_of_ble_eq_true rfl⟩) o_mod rfl rfl rfl (Nat.le_of_ble_eq_true rfl) dX5_shun_16 ?_
      refine z_if_lt (pc := 19) 24 M dX5_shun_19 (by decide) h (fun c_21 h => ?_) (fun c_21 h => ?_)
      · refine z_aload_n (pc := 24) M dX5_shun_24 rfl 0 rfl ?_
        obtain ⟨r8, S10, h9, h⟩ := bw_in h
        refine z_vcallV (pc := 25) (As := []) M K (kX5_clear l D cy ad n  S7 r8 S10 h9) (cwV 0 M.1.2.2.2.2 gX5_shun_X5_clear rfl rfl rfl (by decide +kernel) ⟨Nat.le_of_ble_eq_true rfl, Nat.le_of_ble_eq_true rfl⟩) o_mod rfl rfl rfl (Nat.le_of_ble_eq_true rfl) dX5_shun_25 ?_
        refine z_iconst (pc := 28) (v := 0) M dX5_shun_28 (by decide) ?_
        refine z_istore_n (pc := 29) M dX5_shun_29 rfl (by decide) [1, 2, 3, 0] [(0, .ref (ad 12)), (1, .int p0), (2, .int p1), (3, .int (0 : Int32))] rfl ?_
        refine z_locals [0, 1, 2, 3] [(0, .ref (ad 12)), (1, .int p0), (2, .int p1), (3, .int (0 : Int32))] rfl ?_
        obtain ⟨q15, S17, h16, h⟩ := bw_in h
        refine LX5_shun_1 M K p0 p1 FU (0 : Int32) S10 _ h16 (fun a S' hE => ?_)
        cases hE
        refine z_aload_n (pc := 57) M dX5_shun_57 rfl 0 rfl ?_
        refine z_iload_n (pc := 58) M dX5_shun_58 rfl 1 rfl ?_
        obtain ⟨r18, S20, h19, h⟩ := bw_in h
        refine z_vcall (pc := 59) (As := [.int p1]) M K (kX5_makes l D cy ad n p1 S17 r18 S20 h19) (cwV 1 M.1.2.2.2.2 gX5_shun_X5_makes rfl rfl rfl (by decide +kernel) ⟨Nat.le_of_ble_eq_true rfl, Nat.le_of_ble_eq_true rfl⟩) o_mod rfl rfl rfl (Nat.le_of_ble_eq_true rfl) dX5_shun_59 ?_
        exact z_zretW (pc := 62) M (congrArg Prod.fst (Option.some.inj h)) (congrArg Prod.snd (Option.some.inj h)) rfl dX5_shun_62
      · refine z_iconst (pc := 22) (v := 0) M dX5_shun_22 (by decide) ?_
        exact z_zretW (pc := 23) M (congrArg Prod.fst (Option.some.inj h)) (congrArg Prod.snd (Option.some.inj h)) rfl dX5_shun_23
def rmX5_edge : Room := { frames := 2, cells := 0, slots := 0, locals := 43 }
theorem flX5_edge_33 : Cond.fieldLink RX5 33 "ShunLotsModel" "edgeA" "[I" ∈ wsX5_edge := by decide +kernel
theorem flX5_edge_36 : Cond.fieldLink RX5 36 "ShunLotsModel" "edgeB" "[I" ∈ wsX5_edge := by decide +kernel
theorem flX5_edge_39 : Cond.fieldLink RX5 39 "ShunLotsModel" "weight" "[I" ∈ wsX5_edge := by decide +kernel
theorem inX5_edge_X5 : ∀ w ∈ wsX50, w ∈ wsX5_edge := by decide +kernel
set_option maxRecDepth 100000 in
set_option maxHeartbeats 4000000 in
theorem kX5_edge (l : Launch) (D : va_G) (cy ad : Nat → Nat) (n : Nat) (p0 : Int32) (p1 : Int32) (p2 : Int32) (p3 : Int32) (S : St) (r : Bool) (S' : St) (h : fX5_edge n p0 p1 p2 p3 S = some (r, S')) : CW l D cy ad n yX5_edge wsX5_edge rmX5_edge [.ref (ad 12), .int p0, .int p1, .int p2, .int p3] S (some (.int (b2i r))) S' := by
  refine CW.of (cc := cX5_edge) (nL := 5) (ret := (some .boolean)) (own := RX5) rfl (by decide +kernel) rfl (Nat.le_of_ble_eq_true rfl) ?_
  intro p e s m args below meth c M K
  unfold fX5_edge at h
  refine z_locals [0, 1, 2, 3, 4] [(0, .ref (ad 12)), (1, .int p0), (2, .int p1), (3, .int p2), (4, .int p3)] rfl ?_
  refine z_aload_n (pc := 0) M dX5_edge_0 rfl 0 rfl ?_
  refine z_iload_n (pc := 1) M dX5_edge_1 rfl 1 rfl ?_
  obtain ⟨r1, h2, h⟩ := bo_in h
  refine z_vcall (pc := 2) (As := [.int p0]) M K (kX5_isThing l D cy ad n p0 S r1 h2) (cwV 1 M.1.2.2.2.2 gX5_edge_X5_isThing rfl rfl rfl (by decide +kernel) ⟨Nat.le_of_ble_eq_true rfl, Nat.le_of_ble_eq_true rfl⟩) o_mod rfl rfl rfl (Nat.le_of_ble_eq_true rfl) dX5_edge_2 ?_
  refine z_if_eqB (pc := 5) 37 M dX5_edge_5 (by decide) h (fun c_12 h => ?_) (fun c_12 h => ?_)
  · refine z_iconst (pc := 37) (v := 0) M dX5_edge_37 (by decide) ?_
    exact z_zretW (pc := 38) M (congrArg Prod.fst (Option.some.inj h)) (congrArg Prod.snd (Option.some.inj h)) rfl dX5_edge_38
  · refine z_iload_n (pc := 8) M dX5_edge_8 rfl 2 rfl ?_
    refine z_iconst (pc := 9) (v := 0) M dX5_edge_9 (by decide) ?_
    refine z_iconst (pc := 10) (v := 4) M dX5_edge_10 (by decide) ?_
    obtain ⟨r3, h4, h⟩ := bo_in h
    refine z_scall (pc := 11) (As := [.int p1, .int (0 : Int32), .int (4 : Int32)]) M (kX5_in l p1 (0 : Int32) (4 : Int32) r3 h4) (va_cwS 3 M.1.2.2.2.2 gX5_edge_X5_in rfl rfl rfl (by decide +kernel) ⟨Nat.le_of_ble_eq_true rfl, Nat.le_of_ble_eq_true rfl⟩) rfl rfl (Nat.le_of_ble_eq_true rfl) dX5_edge_11 ?_
    refine z_if_eqB (pc := 14) 37 M dX5_edge_14 (by decide) h (fun c_11 h => ?_) (fun c_11 h => ?_)
    · refine z_iconst (pc := 37) (v := 0) M dX5_edge_37 (by decide) ?_
      exact z_zretW (pc := 38) M (congrArg Prod.fst (Option.some.inj h)) (congrArg Prod.snd (Option.some.inj h)) rfl dX5_edge_38
    · refine z_iload_n (pc := 17) M dX5_edge_17 rfl 3 rfl ?_
      refine z_iconst (pc := 18) (v := 0) M dX5_edge_18 (by decide) ?_
      refine z_iconst (pc := 19) (v := 4) M dX5_edge_19 (by decide) ?_
      obtain ⟨r5, h6, h⟩ := bo_in h
      refine z_scall (pc := 20) (As := [.int p2, .int (0 : Int32), .int (4 : Int32)]) M (kX5_in l p2 (0 : Int32) (4 : Int32) r5 h6) (va_cwS 3 M.1.2.2.2.2 gX5_edge_X5_in rfl rfl rfl (by decide +kernel) ⟨Nat.le_of_ble_eq_true rfl, Nat.le_of_ble_eq_true rfl⟩) rfl rfl (Nat.le_of_ble_eq_true rfl) dX5_edge_20 ?_
      refine z_if_eqB (pc := 23) 37 M dX5_edge_23 (by decide) h (fun c_10 h => ?_) (fun c_10 h => ?_)
      · refine z_iconst (pc := 37) (v := 0) M dX5_edge_37 (by decide) ?_
        exact z_zretW (pc := 38) M (congrArg Prod.fst (Option.some.inj h)) (congrArg Prod.snd (Option.some.inj h)) rfl dX5_edge_38
      · refine z_iload (pc := 26) M dX5_edge_26 4 rfl ?_
        refine z_iconst (pc := 28) (v := 0) M dX5_edge_28 (by decide) ?_
        refine z_bipush (pc := 29) (v := 9) M dX5_edge_29 (by decide) ?_
        obtain ⟨r7, h8, h⟩ := bo_in h
        refine z_scall (pc := 31) (As := [.int p3, .int (0 : Int32), .int (9 : Int32)]) M (kX5_in l p3 (0 : Int32) (9 : Int32) r7 h8) (va_cwS 3 M.1.2.2.2.2 gX5_edge_X5_in rfl rfl rfl (by decide +kernel) ⟨Nat.le_of_ble_eq_true rfl, Nat.le_of_ble_eq_true rfl⟩) rfl rfl (Nat.le_of_ble_eq_true rfl) dX5_edge_31 ?_
        refine z_if_neB (pc := 34) 39 M dX5_edge_34 (by decide) h (fun c_9 h => ?_) (fun c_9 h => ?_)
        · refine z_aload_n (pc := 39) M dX5_edge_39 rfl 0 rfl ?_
          refine z_get (pc := 40) (v := .ref (ad 44)) M K inX5_edge_X5 o_mod rfl 9 (by decide) flX5_edge_33 rfl rfl dX5_edge_40 ?_
          refine z_iload_n (pc := 43) M dX5_edge_43 rfl 1 rfl ?_
          refine z_iload_n (pc := 44) M dX5_edge_44 rfl 2 rfl ?_
          refine z_iast (pc := 45) M K ⟨by decide, rfl, rfl⟩ h dX5_edge_45 (fun h => ?_)
          refine z_aload_n (pc := 46) M dX5_edge_46 rfl 0 rfl ?_
          refine z_get (pc := 47) (v := .ref (ad 45)) M K inX5_edge_X5 o_mod rfl 10 (by decide) flX5_edge_36 rfl rfl dX5_edge_47 ?_
          refine z_iload_n (pc := 50) M dX5_edge_50 rfl 1 rfl ?_
          refine z_iload_n (pc := 51) M dX5_edge_51 rfl 3 rfl ?_
          refine z_iast (pc := 52) M K ⟨by decide, rfl, rfl⟩ h dX5_edge_52 (fun h => ?_)
          refine z_aload_n (pc := 53) M dX5_edge_53 rfl 0 rfl ?_
          refine z_get (pc := 54) (v := .ref (ad 46)) M K inX5_edge_X5 o_mod rfl 11 (by decide) flX5_edge_39 rfl rfl dX5_edge_54 ?_
          refine z_iload_n (pc := 57) M dX5_edge_57 rfl 1 rfl ?_
          refine z_iload (pc := 58) M dX5_edge_58 4 rfl ?_
          refine z_iast (pc := 60) M K ⟨by decide, rfl, rfl⟩ h dX5_edge_60 (fun h => ?_)
          refine z_iconst (pc := 61) (v := 1) M dX5_edge_61 (by decide) ?_
          exact z_zretW (pc := 62) M (congrArg Prod.fst (Option.some.inj h)) (congrArg Prod.snd (Option.some.inj h)) rfl dX5_edge_62
        · refine z_iconst (pc := 37) (v := 0) M dX5_edge_37 (by decide) ?_
          exact z_zretW (pc := 38) M (congrArg Prod.fst (Option.some.inj h)) (congrArg Prod.snd (Option.some.inj h)) rfl dX5_edge_38
def rmX5_treeOf : Room := { frames := 1, cells := 0, slots := 0, locals := 22 }
theorem flX5_treeOf_33 : Cond.fieldLink RX5 33 "ShunLotsModel" "edgeA" "[I" ∈ wsX5_treeOf := by decide +kernel
theorem flX5_treeOf_36 : Cond.fieldLink RX5 36 "ShunLotsModel" "edgeB" "[I" ∈ wsX5_treeOf := by decide +kernel
theorem flX5_treeOf_39 : Cond.fieldLink RX5 39 "ShunLotsModel" "weight" "[I" ∈ wsX5_treeOf := by decide +kernel
theorem flX5_treeOf_42 : Cond.fieldLink RX5 42 "ShunLotsModel" "group" "[I" ∈ wsX5_treeOf := by decide +kernel
theorem flX5_treeOf_45 : Cond.fieldLink RX5 45 "ShunLotsModel" "n" "I" ∈ wsX5_treeOf := by decide +kernel
theorem inX5_treeOf_X5 : ∀ w ∈ wsX50, w ∈ wsX5_treeOf := by decide +kernel
set_option maxRecDepth 100000 in
set_option maxHeartbeats 4000000 in
theorem LX5_treeOf_1 {p : Program} {l : Launch} {e : Env} {s : State} {m : MethodId} {args : Array Value} {below : List Frame} {meth : Method} {c : Code} {Q : State → Prop} {D : va_G} {cy ad : Nat → Nat} {n : Nat} (M : MX p m c cX5_treeOf 11 s args wsX5_treeOf RX5 meth (some .long)) (K : KK D cy ad s) (x1 : Int32) (x2 : Int32)   : ∀ (fuel : Nat) (x3 : Int32) (S : St) (o : (Unit) × St), lX5_treeOf_1 n x1 x2 fuel x3 S = some o → ∀ (hx : ∀ a S', o = (a, S') → Zz p l e rmX5_treeOf s m args below meth c 11 Q (Hw D cy ad n s S') 32 [(0, .ref (ad 12)), (1, .int x1), (2, .int x2)] []) , Zz p l e rmX5_treeOf s m args below meth c 11 Q (Hw D cy ad n s S) 14 [(0, .ref (ad 12)), (1, .int x1), (2, .int x2), (3, .int x3)] [] := by
  intro fuel
  induction fuel with
  | zero => intro x3 S o h; exact nomatch (show (none : Option _) = some o from h)
  | succ fuel ih =>
    intro x3 S o h hx 
    have h : bX5_treeOf_1 n x1 x2 (lX5_treeOf_1 n x1 x2 fuel) x3 S = some o := h
    unfold bX5_treeOf_1 at h
    refine z_iload_n (pc := 14) M dX5_treeOf_14 rfl 3 rfl ?_
    refine z_iconst (pc := 15) (v := 5) M dX5_treeOf_15 (by decide) ?_
    refine z_icmp_ge (pc := 16) 32 M dX5_treeOf_16 (by decide) h (fun c_3 h => ?_) (fun c_3 h => ?_)
    · refine z_locals [0, 1, 2] [(0, .ref (ad 12)), (1, .int x1), (2, .int x2)] rfl ?_
      cases h
      exact hx _ _ rfl
    · refine z_aload_n (pc := 19) M dX5_treeOf_19 rfl 0 rfl ?_
      refine z_get (pc := 20) (v := .ref (ad 47)) M K inX5_treeOf_X5 o_mod rfl 12 (by decide) flX5_treeOf_42 rfl rfl dX5_treeOf_20 ?_
      refine z_iload_n (pc := 23) M dX5_treeOf_23 rfl 3 rfl ?_
      refine z_iload_n (pc := 24) M dX5_treeOf_24 rfl 3 rfl ?_
      refine z_iast (pc := 25) M K ⟨by decide, rfl, rfl⟩ h dX5_treeOf_25 (fun h => ?_)
      refine z_iinc (pc := 26) M dX5_treeOf_26 (x3 + 1) rfl 3 rfl (by decide) [1, 2, 3, 0] [(0, .ref (ad 12)), (1, .int x1), (2, .int x2), (3, .int (x3 + 1))] rfl ?_
      refine z_goto (pc := 29) 14 M dX5_treeOf_29 (by decide) ?_
      refine z_locals [0, 1, 2, 3] [(0, .ref (ad 12)), (1, .int x1), (2, .int x2), (3, .int (x3 + 1))] rfl ?_
      exact ih (x3 + 1) (sI S 47 (Int32.toNatClampNeg x3) x3) _ h hx
set_option maxRecDepth 100000 in
set_option maxHeartbeats 4000000 in
theorem LX5_treeOf_3 {p : Program} {l : Launch} {e : Env} {s : State} {m : MethodId} {args : Array Value} {below : List Frame} {meth : Method} {c : Code} {Q : State → Prop} {D : va_G} {cy ad : Nat → Nat} {n : Nat} (M : MX p m c cX5_treeOf 11 s args wsX5_treeOf RX5 meth (some .long)) (K : KK D cy ad s) (x1 : Int32) (x2 : Int32) (x3 : Int64) (x5 : Int32) (x8 : Int32) (x9 : Int32)   : ∀ (fuel : Nat) (x10 : Int32) (S : St) (o : (Unit) × St), lX5_treeOf_3 n x1 x2 x3 x5 x8 x9 fuel x10 S = some o → ∀ (hx : ∀ a S', o = (a, S') → Zz p l e rmX5_treeOf s m args below meth c 11 Q (Hw D cy ad n s S') 161 [(0, .ref (ad 12)), (1, .int x1), (2, .int x2), (3, .long x3), (5, .int x5)] []) , Zz p l e rmX5_treeOf s m args below meth c 11 Q (Hw D cy ad n s S) 128 [(0, .ref (ad 12)), (1, .int x1), (2, .int x2), (3, .long x3), (5, .int x5), (8, .int x8), (9, .int x9), (10, .int x10)] [] := by
  intro fuel
  induction fuel with
  | zero => intro x10 S o h; exact nomatch (show (none : Option _) = some o from h)
  | succ fuel ih =>
    intro x10 S o h hx 
    have h : bX5_treeOf_3 n x1 x2 x3 x5 x8 x9 (lX5_treeOf_3 n x1 x2 x3 x5 x8 x9 fuel) x10 S = some o := h
    unfold bX5_treeOf_3 at h
    refine z_iload (pc := 128) M dX5_treeOf_128 7 rfl ?_
    refine z_iconst (pc := 130) (v := 5) M dX5_treeOf_130 (by decide) ?_
    refine z_icmp_ge (pc := 131) 161 M dX5_treeOf_131 (by decide) h (fun c_8 h => ?_) (fun c_8 h => ?_)
    · refine z_locals [0, 1, 2, 3, 4] [(0, .ref (ad 12)), (1, .int x1), (2, .int x2), (3, .long x3), (5, .int x5)] rfl ?_
      cases h
      exact hx _ _ rfl
    · refine z_aload_n (pc := 134) M dX5_treeOf_134 rfl 0 rfl ?_
      refine z_get (pc := 135) (v := .ref (ad 47)) M K inX5_treeOf_X5 o_mod rfl 12 (by decide) flX5_treeOf_42 rfl rfl dX5_treeOf_135 ?_
      refine z_iload (pc := 138) M dX5_treeOf_138 7 rfl ?_
      refine z_iald (pc := 140) M K ⟨by decide, rfl, rfl⟩ h dX5_treeOf_140 (fun _ h => ?_)
      refine z_iload (pc := 141) M dX5_treeOf_141 5 rfl ?_
      refine z_icmp_ne (pc := 143) 155 M dX5_treeOf_143 (by decide) h (fun c_7 h => ?_) (fun c_7 h => ?_)
      · refine z_iinc (pc := 155) M dX5_treeOf_155 (x10 + 1) rfl 7 rfl (by decide) [1, 2, 3, 4, 5, 6, 7, 0] [(0, .ref (ad 12)), (1, .int x1), (2, .int x2), (3, .long x3), (5, .int x5), (8, .int x8), (9, .int x9), (10, .int (x10 + 1))] rfl ?_
        refine z_goto (pc := 158) 128 M dX5_treeOf_158 (by decide) ?_
        refine z_locals [0, 1, 2, 3, 4, 5, 6, 7] [(0, .ref (ad 12)), (1, .int x1), (2, .int x2), (3, .long x3), (5, .int x5), (8, .int x8), (9, .int x9), (10, .int (x10 + 1))] rfl ?_
        exact ih (x10 + 1) S _ h hx
      · refine z_aload_n (pc := 146) M dX5_treeOf_146 rfl 0 rfl ?_
        refine z_get (pc := 147) (v := .ref (ad 47)) M K inX5_treeOf_X5 o_mod rfl 12 (by decide) flX5_treeOf_42 rfl rfl dX5_treeOf_147 ?_
        refine z_iload (pc := 150) M dX5_treeOf_150 7 rfl ?_
        refine z_iload (pc := 152) M dX5_treeOf_152 6 rfl ?_
        refine z_iast (pc := 154) M K ⟨by decide, rfl, rfl⟩ h dX5_treeOf_154 (fun h => ?_)
        refine z_iinc (pc := 155) M dX5_treeOf_155 (x10 + 1) rfl 7 rfl (by decide) [1, 2, 3, 4, 5, 6, 7, 0] [(0, .ref (ad 12)), (1, .int x1), (2, .int x2), (3, .long x3), (5, .int x5), (8, .int x8), (9, .int x9), (10, .int (x10 + 1))] rfl ?_
        refine z_goto (pc := 158) 128 M dX5_treeOf_158 (by decide) ?_
        refine z_locals [0, 1, 2, 3, 4, 5, 6, 7] [(0, .ref (ad 12)), (1, .int x1), (2, .int x2), (3, .long x3), (5, .int x5), (8, .int x8), (9, .int x9), (10, .int (x10 + 1))] rfl ?_
        exact ih (x10 + 1) (sI S 47 (Int32.toNatClampNeg x10) x9) _ h hx
set_option maxRecDepth 100000 in
set_option maxHeartbeats 4000000 in
theorem LX5_treeOf_2 {p : Program} {l : Launch} {e : Env} {s : State} {m : MethodId} {args : Array Value} {below : List Frame} {meth : Method} {c : Code} {Q : State → Prop} {D : va_G} {cy ad : Nat → Nat} {n : Nat} (M : MX p m c cX5_treeOf 11 s args wsX5_treeOf RX5 meth (some .long)) (K : KK D cy ad s) (x1 : Int32) (x2 : Int32)   : ∀ (fuel : Nat) (x3 : Int64) (x5 : Int32) (S : St) (o : ((Int64) ⊕ Int64) × St), lX5_treeOf_2 n x1 x2 fuel x3 x5 S = some o → ∀ (hx : ∀ a S', o = (.inl a, S') → Zz p l e rmX5_treeOf s m args below meth c 11 Q (Hw D cy ad n s S') 178 [(3, .long a)] []) (hq : ∀ r S', o = (.inr r, S') → Q = Qw D cy ad n below args s (some (.long r)) S'), Zz p l e rmX5_treeOf s m args below meth c 11 Q (Hw D cy ad n s S) 37 [(0, .ref (ad 12)), (1, .int x1), (2, .int x2), (3, .long x3), (5, .int x5)] [] := by
  intro fuel
  induction fuel with
  | zero => intro x3 x5 S o h; exact nomatch (show (none : Option _) = some o from h)
  | succ fuel ih =>
    intro x3 x5 S o h hx hq
    have h : bX5_treeOf_2 n x1 x2 (lX5_treeOf_2 n x1 x2 fuel) x3 x5 S = some o := h
    unfold bX5_treeOf_2 at h
    refine z_iload (pc := 37) M dX5_treeOf_37 4 rfl ?_
    refine z_aload_n (pc := 39) M dX5_treeOf_39 rfl 0 rfl ?_
    refine z_get (pc := 40) (v := .int (nI n)) M K inX5_treeOf_X5 o_mod rfl 0 (by decide) flX5_treeOf_45 rfl rfl dX5_treeOf_40 ?_
    refine z_icmp_ge (pc := 43) 178 M dX5_treeOf_43 (by decide) h (fun c_16 h => ?_) (fun c_16 h => ?_)
    · refine z_locals [3] [(3, .long x3)] rfl ?_
      cases h
      exact hx _ _ rfl
    · refine z_iload_n (pc := 46) M dX5_treeOf_46 rfl 1 rfl ?_
      refine z_iload (pc := 47) M dX5_treeOf_47 4 rfl ?_
      refine z_ishr (pc := 49) M dX5_treeOf_49 ?_
      refine z_iconst (pc := 50) (v := 1) M dX5_treeOf_50 (by decide) ?_
      refine z_iand (pc := 51) M dX5_treeOf_51 ?_
      refine z_if_ne (pc := 52) 58 M dX5_treeOf_52 (by decide) h (fun c_15 h => ?_) (fun c_15 h => ?_)
      · refine z_aload_n (pc := 58) M dX5_treeOf_58 rfl 0 rfl ?_
        refine z_get (pc := 59) (v := .ref (ad 44)) M K inX5_treeOf_X5 o_mod rfl 9 (by decide) flX5_treeOf_33 rfl rfl dX5_treeOf_59 ?_
        refine z_iload (pc := 62) M dX5_treeOf_62 4 rfl ?_
        refine z_iald (pc := 64) M K ⟨by decide, rfl, rfl⟩ h dX5_treeOf_64 (fun _ h => ?_)
        refine z_istore (pc := 65) M dX5_treeOf_65 (by decide) [1, 2, 3, 4, 5, 0] [(0, .ref (ad 12)), (1, .int x1), (2, .int x2), (3, .long x3), (5, .int x5), (6, .int (S.1 44 (Int32.toNatClampNeg x5)))] rfl ?_
        refine z_aload_n (pc := 67) M dX5_treeOf_67 rfl 0 rfl ?_
        refine z_get (pc := 68) (v := .ref (ad 45)) M K inX5_treeOf_X5 o_mod rfl 10 (by decide) flX5_treeOf_36 rfl rfl dX5_treeOf_68 ?_
        refine z_iload (pc := 71) M dX5_treeOf_71 4 rfl ?_
        refine z_iald (pc := 73) M K ⟨by decide, rfl, rfl⟩ h dX5_treeOf_73 (fun _ h => ?_)
        refine z_istore (pc := 74) M dX5_treeOf_74 (by decide) [1, 2, 3, 4, 5, 6, 0] [(0, .ref (ad 12)), (1, .int x1), (2, .int x2), (3, .long x3), (5, .int x5), (6, .int (S.1 44 (Int32.toNatClampNeg x5))), (7, .int (S.1 45 (Int32.toNatClampNeg x5)))] rfl ?_
        refine z_iload (pc := 76) M dX5_treeOf_76 5 rfl ?_
        refine z_iload_n (pc := 78) M dX5_treeOf_78 rfl 2 rfl ?_
        refine z_icmp_ge (pc := 79) 105 M dX5_treeOf_79 (by decide) h (fun c_14 h => ?_) (fun c_14 h => ?_)
        · refine z_lconst (pc := 105) (v := 0) M dX5_treeOf_105 (by decide) ?_
          cases h
          rw [hq _ _ rfl]
          exact z_lretW (pc := 106) M rfl rfl dX5_treeOf_106
        · refine z_iload (pc := 82) M dX5_treeOf_82 6 rfl ?_
          refine z_iload_n (pc := 84) M dX5_treeOf_84 rfl 2 rfl ?_
          refine z_icmp_ge (pc := 85) 105 M dX5_treeOf_85 (by decide) h (fun c_13 h => ?_) (fun c_13 h => ?_)
          · refine z_lconst (pc := 105) (v := 0) M dX5_treeOf_105 (by decide) ?_
            cases h
            rw [hq _ _ rfl]
            exact z_lretW (pc := 106) M rfl rfl dX5_treeOf_106
          · refine z_aload_n (pc := 88) M dX5_treeOf_88 rfl 0 rfl ?_
            refine z_get (pc := 89) (v := .ref (ad 47)) M K inX5_treeOf_X5 o_mod rfl 12 (by decide) flX5_treeOf_42 rfl rfl dX5_treeOf_89 ?_
            refine z_iload (pc := 92) M dX5_treeOf_92 5 rfl ?_
            refine z_iald (pc := 94) M K ⟨by decide, rfl, rfl⟩ h dX5_treeOf_94 (fun _ h => ?_)
            refine z_aload_n (pc := 95) M dX5_treeOf_95 rfl 0 rfl ?_
            refine z_get (pc := 96) (v := .ref (ad 47)) M K inX5_treeOf_X5 o_mod rfl 12 (by decide) flX5_treeOf_42 rfl rfl dX5_treeOf_96 ?_
            refine z_iload (pc := 99) M dX5_treeOf_99 6 rfl ?_
            refine z_iald (pc := 101) M K ⟨by decide, rfl, rfl⟩ h dX5_treeOf_101 (fun _ h => ?_)
            refine z_icmp_ne (pc := 102) 107 M dX5_treeOf_102 (by decide) h (fun c_12 h => ?_) (fun c_12 h => ?_)
            · refine z_aload_n (pc := 107) M dX5_treeOf_107 rfl 0 rfl ?_
              refine z_get (pc := 108) (v := .ref (ad 47)) M K inX5_treeOf_X5 o_mod rfl 12 (by decide) flX5_treeOf_42 rfl rfl dX5_treeOf_108 ?_
              refine z_iload (pc := 111) M dX5_treeOf_111 6 rfl ?_
              refine z_iald (pc := 113) M K ⟨by decide, rfl, rfl⟩ h dX5_treeOf_113 (fun _ h => ?_)
              refine z_istore (pc := 114) M dX5_treeOf_114 (by decide) [1, 2, 3, 4, 5, 6, 0] [(0, .ref (ad 12)), (1, .int x1), (2, .int x2), (3, .long x3), (5, .int x5), (6, .int (S.1 44 (Int32.toNatClampNeg x5))), (8, .int (S.1 47 (Int32.toNatClampNeg (S.1 45 (Int32.toNatClampNeg x5)))))] rfl ?_
              refine z_aload_n (pc := 116) M dX5_treeOf_116 rfl 0 rfl ?_
              refine z_get (pc := 117) (v := .ref (ad 47)) M K inX5_treeOf_X5 o_mod rfl 12 (by decide) flX5_treeOf_42 rfl rfl dX5_treeOf_117 ?_
              refine z_iload (pc := 120) M dX5_treeOf_120 5 rfl ?_
              refine z_iald (pc := 122) M K ⟨by decide, rfl, rfl⟩ h dX5_treeOf_122 (fun _ h => ?_)
              refine z_istore (pc := 123) M dX5_treeOf_123 (by decide) [1, 2, 3, 4, 5, 7, 0] [(0, .ref (ad 12)), (1, .int x1), (2, .int x2), (3, .long x3), (5, .int x5), (8, .int (S.1 47 (Int32.toNatClampNeg (S.1 45 (Int32.toNatClampNeg x5))))), (9, .int (S.1 47 (Int32.toNatClampNeg (S.1 44 (Int32.toNatClampNeg x5)))))] rfl ?_
              refine z_iconst (pc := 125) (v := 0) M dX5_treeOf_125 (by decide) ?_
              refine z_istore (pc := 126) M dX5_treeOf_126 (by decide) [1, 2, 3, 4, 5, 6, 7, 0] [(0, .ref (ad 12)), (1, .int x1), (2, .int x2), (3, .long x3), (5, .int x5), (8, .int (S.1 47 (Int32.toNatClampNeg (S.1 45 (Int32.toNatClampNeg x5))))), (9, .int (S.1 47 (Int32.toNatClampNeg (S.1 44 (Int32.toNatClampNeg x5))))), (10, .int (0 : Int32))] rfl ?_
              refine z_locals [0, 1, 2, 3, 4, 5, 6, 7] [(0, .ref (ad 12)), (1, .int x1), (2, .int x2), (3, .long x3), (5, .int x5), (8, .int (S.1 47 (Int32.toNatClampNeg (S.1 45 (Int32.toNatClampNeg x5))))), (9, .int (S.1 47 (Int32.toNatClampNeg (S.1 44 (Int32.toNatClampNeg x5))))), (10, .int (0 : Int32))] rfl ?_
              obtain ⟨q9, S11, h10, h⟩ := bw_in h
              refine LX5_treeOf_3 M K x1 x2 x3 x5 (S.1 47 (Int32.toNatClampNeg (S.1 45 (Int32.toNatClampNeg x5)))) (S.1 47 (Int32.toNatClampNeg (S.1 44 (Int32.toNatClampNeg x5)))) FU (0 : Int32) S _ h10 (fun a S' hE => ?_)
              cases hE
              refine z_lload_n (pc := 161) M dX5_treeOf_161 rfl 3 rfl ?_
              refine z_aload_n (pc := 162) M dX5_treeOf_162 rfl 0 rfl ?_
              refine z_get (pc := 163) (v := .ref (ad 46)) M K inX5_treeOf_X5 o_mod rfl 11 (by decide) flX5_treeOf_39 rfl rfl dX5_treeOf_163 ?_
              refine z_iload (pc := 166) M dX5_treeOf_166 4 rfl ?_
              refine z_iald (pc := 168) M K ⟨by decide, rfl, rfl⟩ h dX5_treeOf_168 (fun _ h => ?_)
              refine z_i2l (pc := 169) M dX5_treeOf_169 ?_
              refine z_lmul (pc := 170) M dX5_treeOf_170 ?_
              refine z_lstore_n (pc := 171) M dX5_treeOf_171 rfl (by decide) [1, 2, 3, 0, 4] [(0, .ref (ad 12)), (1, .int x1), (2, .int x2), (3, .long (x3 * (Int32.toInt64 (S11.1 46 (Int32.toNatClampNeg x5))))), (5, .int x5)] rfl ?_
              refine z_iinc (pc := 172) M dX5_treeOf_172 (x5 + 1) rfl 4 rfl (by decide) [1, 2, 3, 4, 0] [(0, .ref (ad 12)), (1, .int x1), (2, .int x2), (3, .long (x3 * (Int32.toInt64 (S11.1 46 (Int32.toNatClampNeg x5))))), (5, .int (x5 + 1))] rfl ?_
              refine z_goto (pc := 175) 37 M dX5_treeOf_175 (by decide) ?_
              refine z_locals [0, 1, 2, 3, 4] [(0, .ref (ad 12)), (1, .int x1), (2, .int x2), (3, .long (x3 * (Int32.toInt64 (S11.1 46 (Int32.toNatClampNeg x5))))), (5, .int (x5 + 1))] rfl ?_
              exact ih (x3 * (Int32.toInt64 (S11.1 46 (Int32.toNatClampNeg x5)))) (x5 + 1) S11 _ h hx hq
            · refine z_lconst (pc := 105) (v := 0) M dX5_treeOf_105 (by decide) ?_
              cases h
              rw [hq _ _ rfl]
              exact z_lretW (pc := 106) M rfl rfl dX5_treeOf_106
      · refine z_goto (pc := 55) 172 M dX5_treeOf_55 (by decide) ?_
        refine z_iinc (pc := 172) M dX5_treeOf_172 (x5 + 1) rfl 4 rfl (by decide) [1, 2, 3, 4, 0] [(0, .ref (ad 12)), (1, .int x1), (2, .int x2), (3, .long x3), (5, .int (x5 + 1))] rfl ?_
        refine z_goto (pc := 175) 37 M dX5_treeOf_175 (by decide) ?_
        refine z_locals [0, 1, 2, 3, 4] [(0, .ref (ad 12)), (1, .int x1), (2, .int x2), (3, .long x3), (5, .int (x5 + 1))] rfl ?_
        exact ih x3 (x5 + 1) S _ h hx hq
set_option maxRecDepth 100000 in
set_option maxHeartbeats 4000000 in
theorem kX5_treeOf (l : Launch) (D : va_G) (cy ad : Nat → Nat) (n : Nat) (p0 : Int32) (p1 : Int32) (S : St) (r : Int64) (S' : St) (h : fX5_treeOf n p0 p1 S = some (r, S')) : CW l D cy ad n yX5_treeOf wsX5_treeOf rmX5_treeOf [.ref (ad 12), .int p0, .int p1] S (some (.long r)) S' := by
  refine CW.of (cc := cX5_treeOf) (nL := 11) (ret := (some .long)) (own := RX5) rfl (by decide +kernel) rfl (Nat.le_of_ble_eq_true rfl) ?_
  intro p e s m args below meth c M K
  unfold fX5_treeOf at h
  refine z_locals [0, 1, 2] [(0, .ref (ad 12)), (1, .int p0), (2, .int p1)] rfl ?_
  refine z_iload_n (pc := 0) M dX5_treeOf_0 rfl 1 rfl ?_
  obtain ⟨r1, h2, h⟩ := bo_in h
  refine z_scall (pc := 1) (As := [.int p0]) M (kX5_sizeOf l p0 r1 h2) (va_cwS 1 M.1.2.2.2.2 gX5_treeOf_X5_sizeOf rfl rfl rfl (by decide +kernel) ⟨Nat.le_of_ble_eq_true rfl, Nat.le_of_ble_eq_true rfl⟩) rfl rfl (Nat.le_of_ble_eq_true rfl) dX5_treeOf_1 ?_
  refine z_iload_n (pc := 4) M dX5_treeOf_4 rfl 2 rfl ?_
  refine z_iconst (pc := 5) (v := 1) M dX5_treeOf_5 (by decide) ?_
  refine z_isub (pc := 6) M dX5_treeOf_6 ?_
  refine z_icmp_eq (pc := 7) 12 M dX5_treeOf_7 (by decide) h (fun c_20 h => ?_) (fun c_20 h => ?_)
  · refine z_iconst (pc := 12) (v := 0) M dX5_treeOf_12 (by decide) ?_
    refine z_istore_n (pc := 13) M dX5_treeOf_13 rfl (by decide) [1, 2, 3, 0] [(0, .ref (ad 12)), (1, .int p0), (2, .int p1), (3, .int (0 : Int32))] rfl ?_
    refine z_locals [0, 1, 2, 3] [(0, .ref (ad 12)), (1, .int p0), (2, .int p1), (3, .int (0 : Int32))] rfl ?_
    obtain ⟨q4, S6, h5, h⟩ := bw_in h
    refine LX5_treeOf_1 M K p0 p1 FU (0 : Int32) S _ h5 (fun a S' hE => ?_)
    cases hE
    refine z_lconst (pc := 32) (v := 1) M dX5_treeOf_32 (by decide) ?_
    refine z_lstore_n (pc := 33) M dX5_treeOf_33 rfl (by decide) [1, 2, 3, 0] [(0, .ref (ad 12)), (1, .int p0), (2, .int p1), (3, .long (1 : Int64))] rfl ?_
    refine z_iconst (pc := 34) (v := 0) M dX5_treeOf_34 (by decide) ?_
    refine z_istore (pc := 35) M dX5_treeOf_35 (by decide) [1, 2, 3, 4, 0] [(0, .ref (ad 12)), (1, .int p0), (2, .int p1), (3, .long (1 : Int64)), (5, .int (0 : Int32))] rfl ?_
    refine z_locals [0, 1, 2, 3, 4] [(0, .ref (ad 12)), (1, .int p0), (2, .int p1), (3, .long (1 : Int64)), (5, .int (0 : Int32))] rfl ?_
    rcases bsw_in h with ⟨q17, S19, h18, h⟩ | ⟨r9, S9, h18, h⟩
    · refine LX5_treeOf_2 M K p0 p1 FU (1 : Int64) (0 : Int32) S6 _ h18 (fun a S' hE => ?_) (fun r S' e9 => nomatch e9)
      cases hE
      refine z_lload_n (pc := 178) M dX5_treeOf_178 rfl 0 rfl ?_
      exact z_lretW (pc := 179) M (congrArg Prod.fst (Option.some.inj h)) (congrArg Prod.snd (Option.some.inj h)) dX5_treeOf_179
    · exact LX5_treeOf_2 M K p0 p1 FU (1 : Int64) (0 : Int32) S6 _ h18 (fun a S' e9 => nomatch e9) (fun r S' e9 => by cases e9; cases h; rfl)
  · refine z_lconst (pc := 10) (v := 0) M dX5_treeOf_10 (by decide) ?_
    exact z_lretW (pc := 11) M (congrArg Prod.fst (Option.some.inj h)) (congrArg Prod.snd (Option.some.inj h)) dX5_treeOf_11
def rmX5_all : Room := { frames := 2, cells := 0, slots := 0, locals := 52 }
theorem flX5_all_49 : Cond.fieldLink RX5 49 "ShunLotsModel" "sets" "I" ∈ wsX5_all := by decide +kernel
theorem inX5_all_X5 : ∀ w ∈ wsX50, w ∈ wsX5_all := by decide +kernel
set_option maxRecDepth 100000 in
set_option maxHeartbeats 4000000 in
theorem LX5_all_1 {p : Program} {l : Launch} {e : Env} {s : State} {m : MethodId} {args : Array Value} {below : List Frame} {meth : Method} {c : Code} {Q : State → Prop} {D : va_G} {cy ad : Nat → Nat} {n : Nat} (M : MX p m c cX5_all 5 s args wsX5_all RX5 meth (some .long)) (K : KK D cy ad s) (x1 : Int32)   : ∀ (fuel : Nat) (x2 : Int64) (x4 : Int32) (S : St) (o : (Int64) × St), lX5_all_1 n x1 fuel x2 x4 S = some o → ∀ (hx : ∀ a S', o = (a, S') → Zz p l e rmX5_all s m args below meth c 5 Q (Hw D cy ad n s S') 39 [(2, .long a)] []) , Zz p l e rmX5_all s m args below meth c 5 Q (Hw D cy ad n s S) 5 [(0, .ref (ad 12)), (1, .int x1), (2, .long x2), (4, .int x4)] [] := by
  intro fuel
  induction fuel with
  | zero => intro x2 x4 S o h; exact nomatch (show (none : Option _) = some o from h)
  | succ fuel ih =>
    intro x2 x4 S o h hx 
    have h : bX5_all_1 n x1 (lX5_all_1 n x1 fuel) x2 x4 S = some o := h
    unfold bX5_all_1 at h
    refine z_iload (pc := 5) M dX5_all_5 3 rfl ?_
    refine z_aload_n (pc := 7) M dX5_all_7 rfl 0 rfl ?_
    refine z_get (pc := 8) (v := .int (nI (2 ^ n))) M K inX5_all_X5 o_mod rfl 1 (by decide) flX5_all_49 rfl rfl dX5_all_8 ?_
    refine z_icmp_ge (pc := 11) 39 M dX5_all_11 (by decide) h (fun c_7 h => ?_) (fun c_7 h => ?_)
    · refine z_locals [2] [(2, .long x2)] rfl ?_
      cases h
      exact hx _ _ rfl
    · refine z_iload_n (pc := 14) M dX5_all_14 rfl 1 rfl ?_
      refine z_iconst (pc := 15) (v := 2) M dX5_all_15 (by decide) ?_
      refine z_iconst (pc := 16) (v := 5) M dX5_all_16 (by decide) ?_
      obtain ⟨r1, h2, h⟩ := bo_in h
      refine z_scall (pc := 17) (As := [.int x1, .int (2 : Int32), .int (5 : Int32)]) M (kX5_in l x1 (2 : Int32) (5 : Int32) r1 h2) (va_cwS 3 M.1.2.2.2.2 gX5_all_X5_in rfl rfl rfl (by decide +kernel) ⟨Nat.le_of_ble_eq_true rfl, Nat.le_of_ble_eq_true rfl⟩) rfl rfl (Nat.le_of_ble_eq_true rfl) dX5_all_17 ?_
      refine z_if_eqB (pc := 20) 39 M dX5_all_20 (by decide) h (fun c_6 h => ?_) (fun c_6 h => ?_)
      · refine z_locals [2] [(2, .long x2)] rfl ?_
        cases h
        exact hx _ _ rfl
      · refine z_lload_n (pc := 23) M dX5_all_23 rfl 2 rfl ?_
        refine z_aload_n (pc := 24) M dX5_all_24 rfl 0 rfl ?_
        refine z_iload (pc := 25) M dX5_all_25 3 rfl ?_
        refine z_iload_n (pc := 27) M dX5_all_27 rfl 1 rfl ?_
        obtain ⟨r3, S5, h4, h⟩ := bw_in h
        refine z_vcall (pc := 28) (As := [.int x4, .int x1]) M K (kX5_treeOf l D cy ad n x4 x1 S r3 S5 h4) (cwV 2 M.1.2.2.2.2 gX5_all_X5_treeOf rfl rfl rfl (by decide +kernel) ⟨Nat.le_of_ble_eq_true rfl, Nat.le_of_ble_eq_true rfl⟩) o_mod rfl rfl rfl (Nat.le_of_ble_eq_true rfl) dX5_all_28 ?_
        refine z_ladd (pc := 31) M dX5_all_31 ?_
        refine z_lstore_n (pc := 32) M dX5_all_32 rfl (by decide) [1, 2, 0, 3] [(0, .ref (ad 12)), (1, .int x1), (2, .long (x2 + r3)), (4, .int x4)] rfl ?_
        refine z_iinc (pc := 33) M dX5_all_33 (x4 + 1) rfl 3 rfl (by decide) [1, 2, 3, 0] [(0, .ref (ad 12)), (1, .int x1), (2, .long (x2 + r3)), (4, .int (x4 + 1))] rfl ?_
        refine z_goto (pc := 36) 5 M dX5_all_36 (by decide) ?_
        refine z_locals [0, 1, 2, 3] [(0, .ref (ad 12)), (1, .int x1), (2, .long (x2 + r3)), (4, .int (x4 + 1))] rfl ?_
        exact ih (x2 + r3) (x4 + 1) S5 _ h hx
set_option maxRecDepth 100000 in
set_option maxHeartbeats 4000000 in
theorem kX5_all (l : Launch) (D : va_G) (cy ad : Nat → Nat) (n : Nat) (p0 : Int32) (S : St) (r : Int64) (S' : St) (h : fX5_all n p0 S = some (r, S')) : CW l D cy ad n yX5_all wsX5_all rmX5_all [.ref (ad 12), .int p0] S (some (.long r)) S' := by
  refine CW.of (cc := cX5_all) (nL := 5) (ret := (some .long)) (own := RX5) rfl (by decide +kernel) rfl (Nat.le_of_ble_eq_true rfl) ?_
  intro p e s m args below meth c M K
  unfold fX5_all at h
  refine z_locals [0, 1] [(0, .ref (ad 12)), (1, .int p0)] rfl ?_
  refine z_lconst (pc := 0) (v := 0) M dX5_all_0 (by decide) ?_
  refine z_lstore_n (pc := 1) M dX5_all_1 rfl (by decide) [1, 2, 0] [(0, .ref (ad 12)), (1, .int p0), (2, .long (0 : Int64))] rfl ?_
  refine z_iconst (pc := 2) (v := 0) M dX5_all_2 (by decide) ?_
  refine z_istore (pc := 3) M dX5_all_3 (by decide) [1, 2, 3, 0] [(0, .ref (ad 12)), (1, .int p0), (2, .long (0 : Int64)), (4, .int (0 : Int32))] rfl ?_
  refine z_locals [0, 1, 2, 3] [(0, .ref (ad 12)), (1, .int p0), (2, .long (0 : Int64)), (4, .int (0 : Int32))] rfl ?_
  obtain ⟨q8, S10, h9, h⟩ := bw_in h
  refine LX5_all_1 M K p0 FU (0 : Int64) (0 : Int32) S _ h9 (fun a S' hE => ?_)
  cases hE
  refine z_lload_n (pc := 39) M dX5_all_39 rfl 0 rfl ?_
  exact z_lretW (pc := 40) M (congrArg Prod.fst (Option.some.inj h)) (congrArg Prod.snd (Option.some.inj h)) dX5_all_40
def rmX5_trees : Room := { frames := 2, cells := 0, slots := 0, locals := 53 }
theorem flX5_trees_23 : Cond.fieldLink RX5 23 "ShunLotsModel" "fresh" "[J" ∈ wsX5_trees := by decide +kernel
theorem flX5_trees_49 : Cond.fieldLink RX5 49 "ShunLotsModel" "sets" "I" ∈ wsX5_trees := by decide +kernel
theorem inX5_trees_X5 : ∀ w ∈ wsX50, w ∈ wsX5_trees := by decide +kernel
set_option maxRecDepth 100000 in
set_option maxHeartbeats 4000000 in
theorem LX5_trees_1 {p : Program} {l : Launch} {e : Env} {s : State} {m : MethodId} {args : Array Value} {below : List Frame} {meth : Method} {c : Code} {Q : State → Prop} {D : va_G} {cy ad : Nat → Nat} {n : Nat} (M : MX p m c cX5_trees 4 s args wsX5_trees RX5 meth (some .boolean)) (K : KK D cy ad s) (x1 : Int32) (x2 : Int32)   : ∀ (fuel : Nat) (x3 : Int32) (S : St) (o : (Unit) × St), lX5_trees_1 n x1 x2 fuel x3 S = some o → ∀ (hx : ∀ a S', o = (a, S') → Zz p l e rmX5_trees s m args below meth c 4 Q (Hw D cy ad n s S') 50 [(0, .ref (ad 12)), (2, .int x2)] []) , Zz p l e rmX5_trees s m args below meth c 4 Q (Hw D cy ad n s S) 24 [(0, .ref (ad 12)), (1, .int x1), (2, .int x2), (3, .int x3)] [] := by
  intro fuel
  induction fuel with
  | zero => intro x3 S o h; exact nomatch (show (none : Option _) = some o from h)
  | succ fuel ih =>
    intro x3 S o h hx 
    have h : bX5_trees_1 n x1 x2 (lX5_trees_1 n x1 x2 fuel) x3 S = some o := h
    unfold bX5_trees_1 at h
    refine z_iload_n (pc := 24) M dX5_trees_24 rfl 3 rfl ?_
    refine z_aload_n (pc := 25) M dX5_trees_25 rfl 0 rfl ?_
    refine z_get (pc := 26) (v := .int (nI (2 ^ n))) M K inX5_trees_X5 o_mod rfl 1 (by decide) flX5_trees_49 rfl rfl dX5_trees_26 ?_
    refine z_icmp_ge (pc := 29) 50 M dX5_trees_29 (by decide) h (fun c_11 h => ?_) (fun c_11 h => ?_)
    · refine z_locals [0, 2] [(0, .ref (ad 12)), (2, .int x2)] rfl ?_
      cases h
      exact hx _ _ rfl
    · refine z_aload_n (pc := 32) M dX5_trees_32 rfl 0 rfl ?_
      refine z_get (pc := 33) (v := .ref (ad 41)) M K inX5_trees_X5 o_mod rfl 6 (by decide) flX5_trees_23 rfl rfl dX5_trees_33 ?_
      refine z_iload_n (pc := 36) M dX5_trees_36 rfl 3 rfl ?_
      refine z_aload_n (pc := 37) M dX5_trees_37 rfl 0 rfl ?_
      refine z_iload_n (pc := 38) M dX5_trees_38 rfl 3 rfl ?_
      refine z_iload_n (pc := 39) M dX5_trees_39 rfl 1 rfl ?_
      obtain ⟨r8, S10, h9, h⟩ := bw_in h
      refine z_vcall (pc := 40) (As := [.int x3, .int x1]) M K (kX5_treeOf l D cy ad n x3 x1 S r8 S10 h9) (cwV 2 M.1.2.2.2.2 gX5_trees_X5_treeOf rfl rfl rfl (by decide +kernel) ⟨Nat.le_of_ble_eq_true rfl, Nat.le_of_ble_eq_true rfl⟩) o_mod rfl rfl rfl (Nat.le_of_ble_eq_true rfl) dX5_trees_40 ?_
      refine z_last (pc := 43) M K ⟨by decide, rfl, rfl⟩ h dX5_trees_43 (fun h => ?_)
      refine z_iinc (pc := 44) M dX5_trees_44 (x3 + 1) rfl 3 rfl (by decide) [1, 2, 3, 0] [(0, .ref (ad 12)), (1, .int x1), (2, .int x2), (3, .int (x3 + 1))] rfl ?_
      refine z_goto (pc := 47) 24 M dX5_trees_47 (by decide) ?_
      refine z_locals [0, 1, 2, 3] [(0, .ref (ad 12)), (1, .int x1), (2, .int x2), (3, .int (x3 + 1))] rfl ?_
      exact ih (x3 + 1) (sJ S10 41 (Int32.toNatClampNeg x3) r8) _ h hx
set_option maxRecDepth 100000 in
set_option maxHeartbeats 4000000 in
theorem kX5_trees (l : Launch) (D : va_G) (cy ad : Nat → Nat) (n : Nat) (p0 : Int32) (p1 : Int32) (S : St) (r : Bool) (S' : St) (h : fX5_trees n p0 p1 S = some (r, S')) : CW l D cy ad n yX5_trees wsX5_trees rmX5_trees [.ref (ad 12), .int p0, .int p1] S (some (.int (b2i r))) S' := by
  refine CW.of (cc := cX5_trees) (nL := 4) (ret := (some .boolean)) (own := RX5) rfl (by decide +kernel) rfl (Nat.le_of_ble_eq_true rfl) ?_
  intro p e s m args below meth c M K
  unfold fX5_trees at h
  refine z_locals [0, 1, 2] [(0, .ref (ad 12)), (1, .int p0), (2, .int p1)] rfl ?_
  refine z_iload_n (pc := 0) M dX5_trees_0 rfl 1 rfl ?_
  refine z_iconst (pc := 1) (v := 2) M dX5_trees_1 (by decide) ?_
  refine z_iconst (pc := 2) (v := 5) M dX5_trees_2 (by decide) ?_
  obtain ⟨r1, h2, h⟩ := bo_in h
  refine z_scall (pc := 3) (As := [.int p0, .int (2 : Int32), .int (5 : Int32)]) M (kX5_in l p0 (2 : Int32) (5 : Int32) r1 h2) (va_cwS 3 M.1.2.2.2.2 gX5_trees_X5_in rfl rfl rfl (by decide +kernel) ⟨Nat.le_of_ble_eq_true rfl, Nat.le_of_ble_eq_true rfl⟩) rfl rfl (Nat.le_of_ble_eq_true rfl) dX5_trees_3 ?_
  refine z_if_eqB (pc := 6) 16 M dX5_trees_6 (by decide) h (fun c_19 h => ?_) (fun c_19 h => ?_)
  · refine z_iconst (pc := 16) (v := 0) M dX5_trees_16 (by decide) ?_
    exact z_zretW (pc := 17) M (congrArg Prod.fst (Option.some.inj h)) (congrArg Prod.snd (Option.some.inj h)) rfl dX5_trees_17
  · refine z_iload_n (pc := 9) M dX5_trees_9 rfl 2 rfl ?_
    obtain ⟨r3, h4, h⟩ := bo_in h
    refine z_scall (pc := 10) (As := [.int p1]) M (kX5_isPlace l p1 r3 h4) (va_cwS 1 M.1.2.2.2.2 gX5_trees_X5_isPlace rfl rfl rfl (by decide +kernel) ⟨Nat.le_of_ble_eq_true rfl, Nat.le_of_ble_eq_true rfl⟩) rfl rfl (Nat.le_of_ble_eq_true rfl) dX5_trees_10 ?_
    refine z_if_neB (pc := 13) 18 M dX5_trees_13 (by decide) h (fun c_18 h => ?_) (fun c_18 h => ?_)
    · refine z_aload_n (pc := 18) M dX5_trees_18 rfl 0 rfl ?_
      obtain ⟨r5, S7, h6, h⟩ := bw_in h
      refine z_vcallV (pc := 19) (As := []) M K (kX5_clear l D cy ad n  S r5 S7 h6) (cwV 0 M.1.2.2.2.2 gX5_trees_X5_clear rfl rfl rfl (by decide +kernel) ⟨Nat.le_of_ble_eq_true rfl, Nat.le_of_ble_eq_true rfl⟩) o_mod rfl rfl rfl (Nat.le_of_ble_eq_true rfl) dX5_trees_19 ?_
      refine z_iconst (pc := 22) (v := 0) M dX5_trees_22 (by decide) ?_
      refine z_istore_n (pc := 23) M dX5_trees_23 rfl (by decide) [1, 2, 3, 0] [(0, .ref (ad 12)), (1, .int p0), (2, .int p1), (3, .int (0 : Int32))] rfl ?_
      refine z_locals [0, 1, 2, 3] [(0, .ref (ad 12)), (1, .int p0), (2, .int p1), (3, .int (0 : Int32))] rfl ?_
      obtain ⟨q12, S14, h13, h⟩ := bw_in h
      refine LX5_trees_1 M K p0 p1 FU (0 : Int32) S7 _ h13 (fun a S' hE => ?_)
      cases hE
      refine z_aload_n (pc := 50) M dX5_trees_50 rfl 0 rfl ?_
      refine z_iload_n (pc := 51) M dX5_trees_51 rfl 1 rfl ?_
      obtain ⟨r15, S17, h16, h⟩ := bw_in h
      refine z_vcall (pc := 52) (As := [.int p1]) M K (kX5_makes l D cy ad n p1 S14 r15 S17 h16) (cwV 1 M.1.2.2.2.2 gX5_trees_X5_makes rfl rfl rfl (by decide +kernel) ⟨Nat.le_of_ble_eq_true rfl, Nat.le_of_ble_eq_true rfl⟩) o_mod rfl rfl rfl (Nat.le_of_ble_eq_true rfl) dX5_trees_52 ?_
      exact z_zretW (pc := 55) M (congrArg Prod.fst (Option.some.inj h)) (congrArg Prod.snd (Option.some.inj h)) rfl dX5_trees_55
    · refine z_iconst (pc := 16) (v := 0) M dX5_trees_16 (by decide) ?_
      exact z_zretW (pc := 17) M (congrArg Prod.fst (Option.some.inj h)) (congrArg Prod.snd (Option.some.inj h)) rfl dX5_trees_17
def rmX5_tell : Room := { frames := 2, cells := 0, slots := 0, locals := 43 }
theorem flX5_tell_26 : Cond.fieldLink RX5 26 "ShunLotsModel" "hand" "[J" ∈ wsX5_tell := by decide +kernel
theorem wdX5_tell_Cond_constant_RX5_93_4000000 : Cond.constant RX5 93 (4000000) ∈ wsX5_tell := by decide +kernel
theorem inX5_tell_X5 : ∀ w ∈ wsX50, w ∈ wsX5_tell := by decide +kernel
set_option maxRecDepth 100000 in
set_option maxHeartbeats 4000000 in
theorem kX5_tell (l : Launch) (D : va_G) (cy ad : Nat → Nat) (n : Nat) (p0 : Int32) (p1 : Int32) (S : St) (r : Bool) (S' : St) (h : fX5_tell n p0 p1 S = some (r, S')) : CW l D cy ad n yX5_tell wsX5_tell rmX5_tell [.ref (ad 12), .int p0, .int p1] S (some (.int (b2i r))) S' := by
  refine CW.of (cc := cX5_tell) (nL := 3) (ret := (some .boolean)) (own := RX5) rfl (by decide +kernel) rfl (Nat.le_of_ble_eq_true rfl) ?_
  intro p e s m args below meth c M K
  unfold fX5_tell at h
  refine z_locals [0, 1, 2] [(0, .ref (ad 12)), (1, .int p0), (2, .int p1)] rfl ?_
  refine z_aload_n (pc := 0) M dX5_tell_0 rfl 0 rfl ?_
  refine z_iload_n (pc := 1) M dX5_tell_1 rfl 1 rfl ?_
  obtain ⟨r1, h2, h⟩ := bo_in h
  refine z_vcall (pc := 2) (As := [.int p0]) M K (kX5_isSet l D cy ad n p0 S r1 h2) (cwV 1 M.1.2.2.2.2 gX5_tell_X5_isSet rfl rfl rfl (by decide +kernel) ⟨Nat.le_of_ble_eq_true rfl, Nat.le_of_ble_eq_true rfl⟩) o_mod rfl rfl rfl (Nat.le_of_ble_eq_true rfl) dX5_tell_2 ?_
  refine z_if_eqB (pc := 5) 18 M dX5_tell_5 (by decide) h (fun c_6 h => ?_) (fun c_6 h => ?_)
  · refine z_iconst (pc := 18) (v := 0) M dX5_tell_18 (by decide) ?_
    exact z_zretW (pc := 19) M (congrArg Prod.fst (Option.some.inj h)) (congrArg Prod.snd (Option.some.inj h)) rfl dX5_tell_19
  · refine z_iload_n (pc := 8) M dX5_tell_8 rfl 2 rfl ?_
    refine z_iconst (pc := 9) (v := 0) M dX5_tell_9 (by decide) ?_
    refine z_ldc (pc := 10) M wdX5_tell_Cond_constant_RX5_93_4000000 dX5_tell_10 ?_
    obtain ⟨r3, h4, h⟩ := bo_in h
    refine z_scall (pc := 12) (As := [.int p1, .int (0 : Int32), .int (4000000 : Int32)]) M (kX5_in l p1 (0 : Int32) (4000000 : Int32) r3 h4) (va_cwS 3 M.1.2.2.2.2 gX5_tell_X5_in rfl rfl rfl (by decide +kernel) ⟨Nat.le_of_ble_eq_true rfl, Nat.le_of_ble_eq_true rfl⟩) rfl rfl (Nat.le_of_ble_eq_true rfl) dX5_tell_12 ?_
    refine z_if_neB (pc := 15) 20 M dX5_tell_15 (by decide) h (fun c_5 h => ?_) (fun c_5 h => ?_)
    · refine z_aload_n (pc := 20) M dX5_tell_20 rfl 0 rfl ?_
      refine z_get (pc := 21) (v := .ref (ad 42)) M K inX5_tell_X5 o_mod rfl 7 (by decide) flX5_tell_26 rfl rfl dX5_tell_21 ?_
      refine z_iload_n (pc := 24) M dX5_tell_24 rfl 1 rfl ?_
      refine z_iload_n (pc := 25) M dX5_tell_25 rfl 2 rfl ?_
      refine z_i2l (pc := 26) M dX5_tell_26 ?_
      refine z_last (pc := 27) M K ⟨by decide, rfl, rfl⟩ h dX5_tell_27 (fun h => ?_)
      refine z_iconst (pc := 28) (v := 1) M dX5_tell_28 (by decide) ?_
      exact z_zretW (pc := 29) M (congrArg Prod.fst (Option.some.inj h)) (congrArg Prod.snd (Option.some.inj h)) rfl dX5_tell_29
    · refine z_iconst (pc := 18) (v := 0) M dX5_tell_18 (by decide) ?_
      exact z_zretW (pc := 19) M (congrArg Prod.fst (Option.some.inj h)) (congrArg Prod.snd (Option.some.inj h)) rfl dX5_tell_19
def rmX5_hand : Room := { frames := 2, cells := 0, slots := 0, locals := 53 }
theorem flX5_hand_23 : Cond.fieldLink RX5 23 "ShunLotsModel" "fresh" "[J" ∈ wsX5_hand := by decide +kernel
theorem flX5_hand_26 : Cond.fieldLink RX5 26 "ShunLotsModel" "hand" "[J" ∈ wsX5_hand := by decide +kernel
theorem flX5_hand_49 : Cond.fieldLink RX5 49 "ShunLotsModel" "sets" "I" ∈ wsX5_hand := by decide +kernel
theorem inX5_hand_X5 : ∀ w ∈ wsX50, w ∈ wsX5_hand := by decide +kernel
set_option maxRecDepth 100000 in
set_option maxHeartbeats 4000000 in
theorem LX5_hand_1 {p : Program} {l : Launch} {e : Env} {s : State} {m : MethodId} {args : Array Value} {below : List Frame} {meth : Method} {c : Code} {Q : State → Prop} {D : va_G} {cy ad : Nat → Nat} {n : Nat} (M : MX p m c cX5_hand 3 s args wsX5_hand RX5 meth (some .boolean)) (K : KK D cy ad s) (x1 : Int32)   : ∀ (fuel : Nat) (x2 : Int32) (S : St) (o : (Unit) × St), lX5_hand_1 n x1 fuel x2 S = some o → ∀ (hx : ∀ a S', o = (a, S') → Zz p l e rmX5_hand s m args below meth c 3 Q (Hw D cy ad n s S') 41 [(0, .ref (ad 12)), (1, .int x1)] []) , Zz p l e rmX5_hand s m args below meth c 3 Q (Hw D cy ad n s S) 15 [(0, .ref (ad 12)), (1, .int x1), (2, .int x2)] [] := by
  intro fuel
  induction fuel with
  | zero => intro x2 S o h; exact nomatch (show (none : Option _) = some o from h)
  | succ fuel ih =>
    intro x2 S o h hx 
    have h : bX5_hand_1 n x1 (lX5_hand_1 n x1 fuel) x2 S = some o := h
    unfold bX5_hand_1 at h
    refine z_iload_n (pc := 15) M dX5_hand_15 rfl 2 rfl ?_
    refine z_aload_n (pc := 16) M dX5_hand_16 rfl 0 rfl ?_
    refine z_get (pc := 17) (v := .int (nI (2 ^ n))) M K inX5_hand_X5 o_mod rfl 1 (by decide) flX5_hand_49 rfl rfl dX5_hand_17 ?_
    refine z_icmp_ge (pc := 20) 41 M dX5_hand_20 (by decide) h (fun c_6 h => ?_) (fun c_6 h => ?_)
    · refine z_locals [0, 1] [(0, .ref (ad 12)), (1, .int x1)] rfl ?_
      cases h
      exact hx _ _ rfl
    · refine z_aload_n (pc := 23) M dX5_hand_23 rfl 0 rfl ?_
      refine z_get (pc := 24) (v := .ref (ad 41)) M K inX5_hand_X5 o_mod rfl 6 (by decide) flX5_hand_23 rfl rfl dX5_hand_24 ?_
      refine z_iload_n (pc := 27) M dX5_hand_27 rfl 2 rfl ?_
      refine z_aload_n (pc := 28) M dX5_hand_28 rfl 0 rfl ?_
      refine z_get (pc := 29) (v := .ref (ad 42)) M K inX5_hand_X5 o_mod rfl 7 (by decide) flX5_hand_26 rfl rfl dX5_hand_29 ?_
      refine z_iload_n (pc := 32) M dX5_hand_32 rfl 2 rfl ?_
      refine z_lald (pc := 33) M K ⟨by decide, rfl, rfl⟩ h dX5_hand_33 (fun _ h => ?_)
      refine z_last (pc := 34) M K ⟨by decide, rfl, rfl⟩ h dX5_hand_34 (fun h => ?_)
      refine z_iinc (pc := 35) M dX5_hand_35 (x2 + 1) rfl 2 rfl (by decide) [1, 2, 0] [(0, .ref (ad 12)), (1, .int x1), (2, .int (x2 + 1))] rfl ?_
      refine z_goto (pc := 38) 15 M dX5_hand_38 (by decide) ?_
      refine z_locals [0, 1, 2] [(0, .ref (ad 12)), (1, .int x1), (2, .int (x2 + 1))] rfl ?_
      exact ih (x2 + 1) (sJ S 41 (Int32.toNatClampNeg x2) (S.2 42 (Int32.toNatClampNeg x2))) _ h hx
set_option maxRecDepth 100000 in
set_option maxHeartbeats 4000000 in
theorem kX5_hand (l : Launch) (D : va_G) (cy ad : Nat → Nat) (n : Nat) (p0 : Int32) (S : St) (r : Bool) (S' : St) (h : fX5_hand n p0 S = some (r, S')) : CW l D cy ad n yX5_hand wsX5_hand rmX5_hand [.ref (ad 12), .int p0] S (some (.int (b2i r))) S' := by
  refine CW.of (cc := cX5_hand) (nL := 3) (ret := (some .boolean)) (own := RX5) rfl (by decide +kernel) rfl (Nat.le_of_ble_eq_true rfl) ?_
  intro p e s m args below meth c M K
  unfold fX5_hand at h
  refine z_locals [0, 1] [(0, .ref (ad 12)), (1, .int p0)] rfl ?_
  refine z_iload_n (pc := 0) M dX5_hand_0 rfl 1 rfl ?_
  obtain ⟨r1, h2, h⟩ := bo_in h
  refine z_scall (pc := 1) (As := [.int p0]) M (kX5_isPlace l p0 r1 h2) (va_cwS 1 M.1.2.2.2.2 gX5_hand_X5_isPlace rfl rfl rfl (by decide +kernel) ⟨Nat.le_of_ble_eq_true rfl, Nat.le_of_ble_eq_true rfl⟩) rfl rfl (Nat.le_of_ble_eq_true rfl) dX5_hand_1 ?_
  refine z_if_neB (pc := 4) 9 M dX5_hand_4 (by decide) h (fun c_13 h => ?_) (fun c_13 h => ?_)
  · refine z_aload_n (pc := 9) M dX5_hand_9 rfl 0 rfl ?_
    obtain ⟨r3, S5, h4, h⟩ := bw_in h
    refine z_vcallV (pc := 10) (As := []) M K (kX5_clear l D cy ad n  S r3 S5 h4) (cwV 0 M.1.2.2.2.2 gX5_hand_X5_clear rfl rfl rfl (by decide +kernel) ⟨Nat.le_of_ble_eq_true rfl, Nat.le_of_ble_eq_true rfl⟩) o_mod rfl rfl rfl (Nat.le_of_ble_eq_true rfl) dX5_hand_10 ?_
    refine z_iconst (pc := 13) (v := 0) M dX5_hand_13 (by decide) ?_
    refine z_istore_n (pc := 14) M dX5_hand_14 rfl (by decide) [1, 2, 0] [(0, .ref (ad 12)), (1, .int p0), (2, .int (0 : Int32))] rfl ?_
    refine z_locals [0, 1, 2] [(0, .ref (ad 12)), (1, .int p0), (2, .int (0 : Int32))] rfl ?_
    obtain ⟨q7, S9, h8, h⟩ := bw_in h
    refine LX5_hand_1 M K p0 FU (0 : Int32) S5 _ h8 (fun a S' hE => ?_)
    cases hE
    refine z_aload_n (pc := 41) M dX5_hand_41 rfl 0 rfl ?_
    refine z_iload_n (pc := 42) M dX5_hand_42 rfl 1 rfl ?_
    obtain ⟨r10, S12, h11, h⟩ := bw_in h
    refine z_vcall (pc := 43) (As := [.int p0]) M K (kX5_makes l D cy ad n p0 S9 r10 S12 h11) (cwV 1 M.1.2.2.2.2 gX5_hand_X5_makes rfl rfl rfl (by decide +kernel) ⟨Nat.le_of_ble_eq_true rfl, Nat.le_of_ble_eq_true rfl⟩) o_mod rfl rfl rfl (Nat.le_of_ble_eq_true rfl) dX5_hand_43 ?_
    exact z_zretW (pc := 46) M (congrArg Prod.fst (Option.some.inj h)) (congrArg Prod.snd (Option.some.inj h)) rfl dX5_hand_46
  · refine z_iconst (pc := 7) (v := 0) M dX5_hand_7 (by decide) ?_
    exact z_zretW (pc := 8) M (congrArg Prod.fst (Option.some.inj h)) (congrArg Prod.snd (Option.some.inj h)) rfl dX5_hand_8
def rmX5_given : Room := { frames := 3, cells := 0, slots := 0, locals := 63 }
theorem flX5_given_20 : Cond.fieldLink RX5 20 "ShunLotsModel" "law" "[J" ∈ wsX5_given := by decide +kernel
theorem flX5_given_23 : Cond.fieldLink RX5 23 "ShunLotsModel" "fresh" "[J" ∈ wsX5_given := by decide +kernel
theorem flX5_given_49 : Cond.fieldLink RX5 49 "ShunLotsModel" "sets" "I" ∈ wsX5_given := by decide +kernel
theorem inX5_given_X5 : ∀ w ∈ wsX50, w ∈ wsX5_given := by decide +kernel
set_option maxRecDepth 100000 in
set_option maxHeartbeats 4000000 in
theorem LX5_given_1 {p : Program} {l : Launch} {e : Env} {s : State} {m : MethodId} {args : Array Value} {below : List Frame} {meth : Method} {c : Code} {Q : State → Prop} {D : va_G} {cy ad : Nat → Nat} {n : Nat} (M : MX p m c cX5_given 6 s args wsX5_given RX5 meth (some .boolean)) (K : KK D cy ad s) (x1 : Int32) (x2 : Int32) (x3 : Int32) (x4 : Int32)   : ∀ (fuel : Nat) (x5 : Int32) (S : St) (o : (Unit) × St), lX5_given_1 n x1 x2 x3 x4 fuel x5 S = some o → ∀ (hx : ∀ a S', o = (a, S') → Zz p l e rmX5_given s m args below meth c 6 Q (Hw D cy ad n s S') 90 [(0, .ref (ad 12)), (4, .int x4)] []) , Zz p l e rmX5_given s m args below meth c 6 Q (Hw D cy ad n s S) 41 [(0, .ref (ad 12)), (1, .int x1), (2, .int x2), (3, .int x3), (4, .int x4), (5, .int x5)] [] := by
  intro fuel
  induction fuel with
  | zero => intro x5 S o h; exact nomatch (show (none : Option _) = some o from h)
  | succ fuel ih =>
    intro x5 S o h hx 
    have h : bX5_given_1 n x1 x2 x3 x4 (lX5_given_1 n x1 x2 x3 x4 fuel) x5 S = some o := h
    unfold bX5_given_1 at h
    refine z_iload (pc := 41) M dX5_given_41 5 rfl ?_
    refine z_aload_n (pc := 43) M dX5_given_43 rfl 0 rfl ?_
    refine z_get (pc := 44) (v := .int (nI (2 ^ n))) M K inX5_given_X5 o_mod rfl 1 (by decide) flX5_given_49 rfl rfl dX5_given_44 ?_
    refine z_icmp_ge (pc := 47) 90 M dX5_given_47 (by decide) h (fun c_14 h => ?_) (fun c_14 h => ?_)
    · refine z_locals [0, 4] [(0, .ref (ad 12)), (4, .int x4)] rfl ?_
      cases h
      exact hx _ _ rfl
    · refine z_iload (pc := 50) M dX5_given_50 5 rfl ?_
      refine z_iload_n (pc := 52) M dX5_given_52 rfl 2 rfl ?_
      refine z_iand (pc := 53) M dX5_given_53 ?_
      refine z_iload_n (pc := 54) M dX5_given_54 rfl 2 rfl ?_
      refine z_icmp_ne (pc := 55) 84 M dX5_given_55 (by decide) h (fun c_13 h => ?_) (fun c_13 h => ?_)
      · refine z_iinc (pc := 84) M dX5_given_84 (x5 + 1) rfl 5 rfl (by decide) [1, 2, 3, 4, 5, 0] [(0, .ref (ad 12)), (1, .int x1), (2, .int x2), (3, .int x3), (4, .int x4), (5, .int (x5 + 1))] rfl ?_
        refine z_goto (pc := 87) 41 M dX5_given_87 (by decide) ?_
        refine z_locals [0, 1, 2, 3, 4, 5] [(0, .ref (ad 12)), (1, .int x1), (2, .int x2), (3, .int x3), (4, .int x4), (5, .int (x5 + 1))] rfl ?_
        exact ih (x5 + 1) S _ h hx
      · refine z_iload (pc := 58) M dX5_given_58 5 rfl ?_
        refine z_iload_n (pc := 60) M dX5_given_60 rfl 3 rfl ?_
        refine z_iand (pc := 61) M dX5_given_61 ?_
        refine z_if_ne (pc := 62) 84 M dX5_given_62 (by decide) h (fun c_12 h => ?_) (fun c_12 h => ?_)
        · refine z_iinc (pc := 84) M dX5_given_84 (x5 + 1) rfl 5 rfl (by decide) [1, 2, 3, 4, 5, 0] [(0, .ref (ad 12)), (1, .int x1), (2, .int x2), (3, .int x3), (4, .int x4), (5, .int (x5 + 1))] rfl ?_
          refine z_goto (pc := 87) 41 M dX5_given_87 (by decide) ?_
          refine z_locals [0, 1, 2, 3, 4, 5] [(0, .ref (ad 12)), (1, .int x1), (2, .int x2), (3, .int x3), (4, .int x4), (5, .int (x5 + 1))] rfl ?_
          exact ih (x5 + 1) S _ h hx
        · refine z_aload_n (pc := 65) M dX5_given_65 rfl 0 rfl ?_
          refine z_get (pc := 66) (v := .ref (ad 41)) M K inX5_given_X5 o_mod rfl 6 (by decide) flX5_given_23 rfl rfl dX5_given_66 ?_
          refine z_iload (pc := 69) M dX5_given_69 5 rfl ?_
          refine z_aload_n (pc := 71) M dX5_given_71 rfl 0 rfl ?_
          refine z_get (pc := 72) (v := .ref (ad 40)) M K inX5_given_X5 o_mod rfl 5 (by decide) flX5_given_20 rfl rfl dX5_given_72 ?_
          refine z_bipush (pc := 75) (v := 64) M dX5_given_75 (by decide) ?_
          refine z_iload_n (pc := 77) M dX5_given_77 rfl 1 rfl ?_
          refine z_imul (pc := 78) M dX5_given_78 ?_
          refine z_iload (pc := 79) M dX5_given_79 5 rfl ?_
          refine z_iadd (pc := 81) M dX5_given_81 ?_
          refine z_lald (pc := 82) M K ⟨by decide, rfl, rfl⟩ h dX5_given_82 (fun _ h => ?_)
          refine z_last (pc := 83) M K ⟨by decide, rfl, rfl⟩ h dX5_given_83 (fun h => ?_)
          refine z_iinc (pc := 84) M dX5_given_84 (x5 + 1) rfl 5 rfl (by decide) [1, 2, 3, 4, 5, 0] [(0, .ref (ad 12)), (1, .int x1), (2, .int x2), (3, .int x3), (4, .int x4), (5, .int (x5 + 1))] rfl ?_
          refine z_goto (pc := 87) 41 M dX5_given_87 (by decide) ?_
          refine z_locals [0, 1, 2, 3, 4, 5] [(0, .ref (ad 12)), (1, .int x1), (2, .int x2), (3, .int x3), (4, .int x4), (5, .int (x5 + 1))] rfl ?_
          exact ih (x5 + 1) (sJ S 41 (Int32.toNatClampNeg x5) (S.2 40 (Int32.toNatClampNeg (((64 : Int32) * x1) + x5)))) _ h hx
set_option maxRecDepth 100000 in
set_option maxHeartbeats 4000000 in
theorem kX5_given (l : Launch) (D : va_G) (cy ad : Nat → Nat) (n : Nat) (p0 : Int32) (p1 : Int32) (p2 : Int32) (p3 : Int32) (S : St) (r : Bool) (S' : St) (h : fX5_given n p0 p1 p2 p3 S = some (r, S')) : CW l D cy ad n yX5_given wsX5_given rmX5_given [.ref (ad 12), .int p0, .int p1, .int p2, .int p3] S (some (.int (b2i r))) S' := by
  refine CW.of (cc := cX5_given) (nL := 6) (ret := (some .boolean)) (own := RX5) rfl (by decide +kernel) rfl (Nat.le_of_ble_eq_true rfl) ?_
  intro p e s m args below meth c M K
  unfold fX5_given at h
  refine z_locals [0, 1, 2, 3, 4] [(0, .ref (ad 12)), (1, .int p0), (2, .int p1), (3, .int p2), (4, .int p3)] rfl ?_
  refine z_aload_n (pc := 0) M dX5_given_0 rfl 0 rfl ?_
  refine z_iload_n (pc := 1) M dX5_given_1 rfl 1 rfl ?_
  obtain ⟨r1, h2, h⟩ := bo_in h
  refine z_vcall (pc := 2) (As := [.int p0]) M K (kX5_isLaw l D cy ad n p0 S r1 h2) (cwV 1 M.1.2.2.2.2 gX5_given_X5_isLaw rfl rfl rfl (by decide +kernel) ⟨Nat.le_of_ble_eq_true rfl, Nat.le_of_ble_eq_true rfl⟩) o_mod rfl rfl rfl (Nat.le_of_ble_eq_true rfl) dX5_given_2 ?_
  refine z_if_eqB (pc := 5) 32 M dX5_given_5 (by decide) h (fun c_24 h => ?_) (fun c_24 h => ?_)
  · refine z_iconst (pc := 32) (v := 0) M dX5_given_32 (by decide) ?_
    exact z_zretW (pc := 33) M (congrArg Prod.fst (Option.some.inj h)) (congrArg Prod.snd (Option.some.inj h)) rfl dX5_given_33
  · refine z_aload_n (pc := 8) M dX5_given_8 rfl 0 rfl ?_
    refine z_iload_n (pc := 9) M dX5_given_9 rfl 2 rfl ?_
    obtain ⟨r3, h4, h⟩ := bo_in h
    refine z_vcall (pc := 10) (As := [.int p1]) M K (kX5_isSet l D cy ad n p1 S r3 h4) (cwV 1 M.1.2.2.2.2 gX5_given_X5_isSet rfl rfl rfl (by decide +kernel) ⟨Nat.le_of_ble_eq_true rfl, Nat.le_of_ble_eq_true rfl⟩) o_mod rfl rfl rfl (Nat.le_of_ble_eq_true rfl) dX5_given_10 ?_
    refine z_if_eqB (pc := 13) 32 M dX5_given_13 (by decide) h (fun c_23 h => ?_) (fun c_23 h => ?_)
    · refine z_iconst (pc := 32) (v := 0) M dX5_given_32 (by decide) ?_
      exact z_zretW (pc := 33) M (congrArg Prod.fst (Option.some.inj h)) (congrArg Prod.snd (Option.some.inj h)) rfl dX5_given_33
    · refine z_aload_n (pc := 16) M dX5_given_16 rfl 0 rfl ?_
      refine z_iload_n (pc := 17) M dX5_given_17 rfl 3 rfl ?_
      obtain ⟨r5, h6, h⟩ := bo_in h
      refine z_vcall (pc := 18) (As := [.int p2]) M K (kX5_isSet l D cy ad n p2 S r5 h6) (cwV 1 M.1.2.2.2.2 gX5_given_X5_isSet rfl rfl rfl (by decide +kernel) ⟨Nat.le_of_ble_eq_true rfl, Nat.le_of_ble_eq_true rfl⟩) o_mod rfl rfl rfl (Nat.le_of_ble_eq_true rfl) dX5_given_18 ?_
      refine z_if_eqB (pc := 21) 32 M dX5_given_21 (by decide) h (fun c_22 h => ?_) (fun c_22 h => ?_)
      · refine z_iconst (pc := 32) (v := 0) M dX5_given_32 (by decide) ?_
        exact z_zretW (pc := 33) M (congrArg Prod.fst (Option.some.inj h)) (congrArg Prod.snd (Option.some.inj h)) rfl dX5_given_33
      · refine z_iload (pc := 24) M dX5_given_24 4 rfl ?_
        obtain ⟨r7, h8, h⟩ := bo_in h
        refine z_scall (pc := 26) (As := [.int p3]) M (kX5_isPlace l p3 r7 h8) (va_cwS 1 M.1.2.2.2.2 gX5_given_X5_isPlace rfl rfl rfl (by decide +kernel) ⟨Nat.le_of_ble_eq_true rfl, Nat.le_of_ble_eq_true rfl⟩) rfl rfl (Nat.le_of_ble_eq_true rfl) dX5_given_26 ?_
        refine z_if_neB (pc := 29) 34 M dX5_given_29 (by decide) h (fun c_21 h => ?_) (fun c_21 h => ?_)
        · refine z_aload_n (pc := 34) M dX5_given_34 rfl 0 rfl ?_
          obtain ⟨r9, S11, h10, h⟩ := bw_in h
          refine z_vcallV (pc := 35) (As := []) M K (kX5_clear l D cy ad n  S r9 S11 h10) (cwV 0 M.1.2.2.2.2 gX5_given_X5_clear rfl rfl rfl (by decide +kernel) ⟨Nat.le_of_ble_eq_true rfl, Nat.le_of_ble_eq_true rfl⟩) o_mod rfl rfl rfl (Nat.le_of_ble_eq_true rfl) dX5_given_35 ?_
          refine z_iconst (pc := 38) (v := 0) M dX5_given_38 (by decide) ?_
          refine z_istore (pc := 39) M dX5_given_39 (by decide) [1, 2, 3, 4, 5, 0] [(0, .ref (ad 12)), (1, .int p0), (2, .int p1), (3, .int p2), (4, .int p3), (5, .int (0 : Int32))] rfl ?_
          refine z_locals [0, 1, 2, 3, 4, 5] [(0, .ref (ad 12)), (1, .int p0), (2, .int p1), (3, .int p2), (4, .int p3), (5, .int (0 : Int32))] rfl ?_
          obtain ⟨q15, S17, h16, h⟩ := bw_in h
          refine LX5_given_1 M K p0 p1 p2 p3 FU (0 : Int32) S11 _ h16 (fun a S' hE => ?_)
          cases hE
          refine z_aload_n (pc := 90) M dX5_given_90 rfl 0 rfl ?_
          refine z_iload (pc := 91) M dX5_given_91 1 rfl ?_
          obtain ⟨r18, S20, h19, h⟩ := bw_in h
          refine z_vcall (pc := 93) (As := [.int p3]) M K (kX5_makes l D cy ad n p3 S17 r18 S20 h19) (cwV 1 M.1.2.2.2.2 gX5_given_X5_makes rfl rfl rfl (by decide +kernel) ⟨Nat.le_of_ble_eq_true rfl, Nat.le_of_ble_eq_true rfl⟩) o_mod rfl rfl rfl (Nat.le_of_ble_eq_true rfl) dX5_given_93 ?_
          exact z_zretW (pc := 96) M (congrArg Prod.fst (Option.some.inj h)) (congrArg Prod.snd (Option.some.inj h)) rfl dX5_given_96
        · refine z_iconst (pc := 32) (v := 0) M dX5_given_32 (by decide) ?_
          exact z_zretW (pc := 33) M (congrArg Prod.fst (Option.some.inj h)) (congrArg Prod.snd (Option.some.inj h)) rfl dX5_given_33
def rmX5_canBe : Room := { frames := 3, cells := 0, slots := 0, locals := 63 }
set_option maxRecDepth 100000 in
set_option maxHeartbeats 4000000 in
theorem kX5_canBe (l : Launch) (D : va_G) (cy ad : Nat → Nat) (n : Nat) (p0 : Int32) (p1 : Int32) (p2 : Int32) (S : St) (r : Bool) (h : fX5_canBe n p0 p1 p2 S = some r) : CW l D cy ad n yX5_canBe wsX5_canBe rmX5_canBe [.ref (ad 12), .int p0, .int p1, .int p2] S (some (.int (b2i r))) S := by
  refine CW.of (cc := cX5_canBe) (nL := 4) (ret := (some .boolean)) (own := RX5) rfl (by decide +kernel) rfl (Nat.le_of_ble_eq_true rfl) ?_
  intro p e s m args below meth c M K
  unfold fX5_canBe at h
  refine z_locals [0, 1, 2, 3] [(0, .ref (ad 12)), (1, .int p0), (2, .int p1), (3, .int p2)] rfl ?_
  refine z_aload_n (pc := 0) M dX5_canBe_0 rfl 0 rfl ?_
  refine z_iload_n (pc := 1) M dX5_canBe_1 rfl 1 rfl ?_
  obtain ⟨r1, h2, h⟩ := bo_in h
  refine z_vcall (pc := 2) (As := [.int p0]) M K (kX5_isLaw l D cy ad n p0 S r1 h2) (cwV 1 M.1.2.2.2.2 gX5_canBe_X5_isLaw rfl rfl rfl (by decide +kernel) ⟨Nat.le_of_ble_eq_true rfl, Nat.le_of_ble_eq_true rfl⟩) o_mod rfl rfl rfl (Nat.le_of_ble_eq_true rfl) dX5_canBe_2 ?_
  refine z_if_eqB (pc := 5) 27 M dX5_canBe_5 (by decide) h (fun c_9 h => ?_) (fun c_9 h => ?_)
  · refine z_iconst (pc := 27) (v := 0) M dX5_canBe_27 (by decide) ?_
    exact z_zretW (pc := 28) M (Option.some.inj h) rfl rfl dX5_canBe_28
  · refine z_aload_n (pc := 8) M dX5_canBe_8 rfl 0 rfl ?_
    refine z_iload_n (pc := 9) M dX5_canBe_9 rfl 2 rfl ?_
    obtain ⟨r3, h4, h⟩ := bo_in h
    refine z_vcall (pc := 10) (As := [.int p1]) M K (kX5_isSet l D cy ad n p1 S r3 h4) (cwV 1 M.1.2.2.2.2 gX5_canBe_X5_isSet rfl rfl rfl (by decide +kernel) ⟨Nat.le_of_ble_eq_true rfl, Nat.le_of_ble_eq_true rfl⟩) o_mod rfl rfl rfl (Nat.le_of_ble_eq_true rfl) dX5_canBe_10 ?_
    refine z_if_eqB (pc := 13) 27 M dX5_canBe_13 (by decide) h (fun c_8 h => ?_) (fun c_8 h => ?_)
    · refine z_iconst (pc := 27) (v := 0) M dX5_canBe_27 (by decide) ?_
      exact z_zretW (pc := 28) M (Option.some.inj h) rfl rfl dX5_canBe_28
    · refine z_iload_n (pc := 16) M dX5_canBe_16 rfl 3 rfl ?_
      obtain ⟨r5, h6, h⟩ := bo_in h
      refine z_scall (pc := 17) (As := [.int p2]) M (kX5_isPlace l p2 r5 h6) (va_cwS 1 M.1.2.2.2.2 gX5_canBe_X5_isPlace rfl rfl rfl (by decide +kernel) ⟨Nat.le_of_ble_eq_true rfl, Nat.le_of_ble_eq_true rfl⟩) rfl rfl (Nat.le_of_ble_eq_true rfl) dX5_canBe_17 ?_
      refine z_if_eqB (pc := 20) 27 M dX5_canBe_20 (by decide) h (fun c_7 h => ?_) (fun c_7 h => ?_)
      · refine z_iconst (pc := 27) (v := 0) M dX5_canBe_27 (by decide) ?_
        exact z_zretW (pc := 28) M (Option.some.inj h) rfl rfl dX5_canBe_28
      · refine z_iconst (pc := 23) (v := 1) M dX5_canBe_23 (by decide) ?_
        refine z_goto (pc := 24) 28 M dX5_canBe_24 (by decide) ?_
        exact z_zretW (pc := 28) M (Option.some.inj h) rfl rfl dX5_canBe_28
def rmX5_thin : Room := { frames := 4, cells := 0, slots := 0, locals := 86 }
theorem flX5_thin_20 : Cond.fieldLink RX5 20 "ShunLotsModel" "law" "[J" ∈ wsX5_thin := by decide +kernel
theorem flX5_thin_23 : Cond.fieldLink RX5 23 "ShunLotsModel" "fresh" "[J" ∈ wsX5_thin := by decide +kernel
theorem flX5_thin_49 : Cond.fieldLink RX5 49 "ShunLotsModel" "sets" "I" ∈ wsX5_thin := by decide +kernel
theorem inX5_thin_X5 : ∀ w ∈ wsX50, w ∈ wsX5_thin := by decide +kernel
set_option maxRecDepth 100000 in
set_option maxHeartbeats 4000000 in
theorem LX5_thin_2 {p : Program} {l : Launch} {e : Env} {s : State} {m : MethodId} {args : Array Value} {below : List Frame} {meth : Method} {c : Code} {Q : State → Prop} {D : va_G} {cy ad : Nat → Nat} {n : Nat} (M : MX p m c cX5_thin 6 s args wsX5_thin RX5 meth (some .boolean)) (K : KK D cy ad s) (x1 : Int32) (x2 : Int32) (x3 : Int32) (x4 : Int32)   : ∀ (fuel : Nat) (x5 : Int32) (S : St) (o : (Unit) × St), lX5_thin_2 n x1 x2 x3 x4 fuel x5 S = some o → ∀ (hx : ∀ a S', o = (a, S') → Zz p l e rmX5_thin s m args below meth c 6 Q (Hw D cy ad n s S') 108 [(0, .ref (ad 12)), (1, .int x1), (2, .int x2), (3, .int x3), (4, .int x4)] []) , Zz p l e rmX5_thin s m args below meth c 6 Q (Hw D cy ad n s S) 31 [(0, .ref (ad 12)), (1, .int x1), (2, .int x2), (3, .int x3), (4, .int x4), (5, .int x5)] [] := by
  intro fuel
  induction fuel with
  | zero => intro x5 S o h; exact nomatch (show (none : Option _) = some o from h)
  | succ fuel ih =>
    intro x5 S o h hx 
    have h : bX5_thin_2 n x1 x2 x3 x4 (lX5_thin_2 n x1 x2 x3 x4 fuel) x5 S = some o := h
    unfold bX5_thin_2 at h
    refine z_iload (pc := 31) M dX5_thin_31 5 rfl ?_
    refine z_aload_n (pc := 33) M dX5_thin_33 rfl 0 rfl ?_
    refine z_get (pc := 34) (v := .int (nI (2 ^ n))) M K inX5_thin_X5 o_mod rfl 1 (by decide) flX5_thin_49 rfl rfl dX5_thin_34 ?_
    refine z_icmp_ge (pc := 37) 108 M dX5_thin_37 (by decide) h (fun c_12 h => ?_) (fun c_12 h => ?_)
    · refine z_locals [0, 1, 2, 3, 4] [(0, .ref (ad 12)), (1, .int x1), (2, .int x2), (3, .int x3), (4, .int x4)] rfl ?_
      cases h
      exact hx _ _ rfl
    · refine z_iload (pc := 40) M dX5_thin_40 5 rfl ?_
      refine z_iload (pc := 42) M dX5_thin_42 4 rfl ?_
      refine z_iconst (pc := 44) (v := -1) M dX5_thin_44 (by decide) ?_
      refine z_ixor (pc := 45) M dX5_thin_45 ?_
      refine z_iand (pc := 46) M dX5_thin_46 ?_
      refine z_if_ne (pc := 47) 102 M dX5_thin_47 (by decide) h (fun c_11 h => ?_) (fun c_11 h => ?_)
      · refine z_iinc (pc := 102) M dX5_thin_102 (x5 + 1) rfl 5 rfl (by decide) [1, 2, 3, 4, 5, 0] [(0, .ref (ad 12)), (1, .int x1), (2, .int x2), (3, .int x3), (4, .int x4), (5, .int (x5 + 1))] rfl ?_
        refine z_goto (pc := 105) 31 M dX5_thin_105 (by decide) ?_
        refine z_locals [0, 1, 2, 3, 4, 5] [(0, .ref (ad 12)), (1, .int x1), (2, .int x2), (3, .int x3), (4, .int x4), (5, .int (x5 + 1))] rfl ?_
        exact ih (x5 + 1) S _ h hx
      · refine z_iload (pc := 50) M dX5_thin_50 4 rfl ?_
        refine z_iload_n (pc := 52) M dX5_thin_52 rfl 2 rfl ?_
        refine z_iconst (pc := 53) (v := -1) M dX5_thin_53 (by decide) ?_
        refine z_ixor (pc := 54) M dX5_thin_54 ?_
        refine z_iand (pc := 55) M dX5_thin_55 ?_
        refine z_iload (pc := 56) M dX5_thin_56 5 rfl ?_
        refine z_iconst (pc := 58) (v := -1) M dX5_thin_58 (by decide) ?_
        refine z_ixor (pc := 59) M dX5_thin_59 ?_
        refine z_iand (pc := 60) M dX5_thin_60 ?_
        refine z_if_eq (pc := 61) 67 M dX5_thin_61 (by decide) h (fun c_10 h => ?_) (fun c_10 h => ?_)
        · refine z_aload_n (pc := 67) M dX5_thin_67 rfl 0 rfl ?_
          refine z_get (pc := 68) (v := .ref (ad 41)) M K inX5_thin_X5 o_mod rfl 6 (by decide) flX5_thin_23 rfl rfl dX5_thin_68 ?_
          refine z_iload (pc := 71) M dX5_thin_71 5 rfl ?_
          refine z_dup2_11 (pc := 73) M dX5_thin_73 rfl rfl ?_
          refine z_lald (pc := 74) M K ⟨by decide, rfl, rfl⟩ h dX5_thin_74 (fun _ h => ?_)
          refine z_aload_n (pc := 75) M dX5_thin_75 rfl 0 rfl ?_
          refine z_get (pc := 76) (v := .ref (ad 40)) M K inX5_thin_X5 o_mod rfl 5 (by decide) flX5_thin_20 rfl rfl dX5_thin_76 ?_
          refine z_bipush (pc := 79) (v := 64) M dX5_thin_79 (by decide) ?_
          refine z_iload_n (pc := 81) M dX5_thin_81 rfl 1 rfl ?_
          refine z_imul (pc := 82) M dX5_thin_82 ?_
          refine z_iload (pc := 83) M dX5_thin_83 4 rfl ?_
          refine z_iadd (pc := 85) M dX5_thin_85 ?_
          refine z_lald (pc := 86) M K ⟨by decide, rfl, rfl⟩ h dX5_thin_86 (fun _ h => ?_)
          refine z_iload_n (pc := 87) M dX5_thin_87 rfl 2 rfl ?_
          obtain ⟨r6, h7, h⟩ := bo_in h
          refine z_scall (pc := 88) (As := [.int x2]) M (kX5_sizeOf l x2 r6 h7) (va_cwS 1 M.1.2.2.2.2 gX5_thin_X5_sizeOf rfl rfl rfl (by decide +kernel) ⟨Nat.le_of_ble_eq_true rfl, Nat.le_of_ble_eq_true rfl⟩) rfl rfl (Nat.le_of_ble_eq_true rfl) dX5_thin_88 ?_
          refine z_iload (pc := 91) M dX5_thin_91 4 rfl ?_
          refine z_iload_n (pc := 93) M dX5_thin_93 rfl 2 rfl ?_
          refine z_iand (pc := 94) M dX5_thin_94 ?_
          obtain ⟨r8, h9, h⟩ := bo_in h
          refine z_scall (pc := 95) (As := [.int (x4 &&& x2)]) M (kX5_sizeOf l (x4 &&& x2) r8 h9) (va_cwS 1 M.1.2.2.2.2 gX5_thin_X5_sizeOf rfl rfl rfl (by decide +kernel) ⟨Nat.le_of_ble_eq_true rfl, Nat.le_of_ble_eq_true rfl⟩) rfl rfl (Nat.le_of_ble_eq_true rfl) dX5_thin_95 ?_
          refine z_isub (pc := 98) M dX5_thin_98 ?_
          refine z_lshl (pc := 99) M dX5_thin_99 ?_
          refine z_ladd (pc := 100) M dX5_thin_100 ?_
          refine z_last (pc := 101) M K ⟨by decide, rfl, rfl⟩ h dX5_thin_101 (fun h => ?_)
          refine z_iinc (pc := 102) M dX5_thin_102 (x5 + 1) rfl 5 rfl (by decide) [1, 2, 3, 4, 5, 0] [(0, .ref (ad 12)), (1, .int x1), (2, .int x2), (3, .int x3), (4, .int x4), (5, .int (x5 + 1))] rfl ?_
          refine z_goto (pc := 105) 31 M dX5_thin_105 (by decide) ?_
          refine z_locals [0, 1, 2, 3, 4, 5] [(0, .ref (ad 12)), (1, .int x1), (2, .int x2), (3, .int x3), (4, .int x4), (5, .int (x5 + 1))] rfl ?_
          exact ih (x5 + 1) (sJ S 41 (Int32.toNatClampNeg x5) ((S.2 41 (Int32.toNatClampNeg x5)) + ((S.2 40 (Int32.toNatClampNeg (((64 : Int32) * x1) + x4))) <<< (Int32.toInt64 (r6 - r8) &&& 63)))) _ h hx
        · refine z_goto (pc := 64) 102 M dX5_thin_64 (by decide) ?_
          refine z_iinc (pc := 102) M dX5_thin_102 (x5 + 1) rfl 5 rfl (by decide) [1, 2, 3, 4, 5, 0] [(0, .ref (ad 12)), (1, .int x1), (2, .int x2), (3, .int x3), (4, .int x4), (5, .int (x5 + 1))] rfl ?_
          refine z_goto (pc := 105) 31 M dX5_thin_105 (by decide) ?_
          refine z_locals [0, 1, 2, 3, 4, 5] [(0, .ref (ad 12)), (1, .int x1), (2, .int x2), (3, .int x3), (4, .int x4), (5, .int (x5 + 1))] rfl ?_
          exact ih (x5 + 1) S _ h hx
set_option maxRecDepth 100000 in
set_option maxHeartbeats 4000000 in
theorem LX5_thin_1 {p : Program} {l : Launch} {e : Env} {s : State} {m : MethodId} {args : Array Value} {below : List Frame} {meth : Method} {c : Code} {Q : State → Prop} {D : va_G} {cy ad : Nat → Nat} {n : Nat} (M : MX p m c cX5_thin 6 s args wsX5_thin RX5 meth (some .boolean)) (K : KK D cy ad s) (x1 : Int32) (x2 : Int32) (x3 : Int32)   : ∀ (fuel : Nat) (x4 : Int32) (S : St) (o : (Unit) × St), lX5_thin_1 n x1 x2 x3 fuel x4 S = some o → ∀ (hx : ∀ a S', o = (a, S') → Zz p l e rmX5_thin s m args below meth c 6 Q (Hw D cy ad n s S') 114 [(0, .ref (ad 12)), (3, .int x3)] []) , Zz p l e rmX5_thin s m args below meth c 6 Q (Hw D cy ad n s S) 19 [(0, .ref (ad 12)), (1, .int x1), (2, .int x2), (3, .int x3), (4, .int x4)] [] := by
  intro fuel
  induction fuel with
  | zero => intro x4 S o h; exact nomatch (show (none : Option _) = some o from h)
  | succ fuel ih =>
    intro x4 S o h hx 
    have h : bX5_thin_1 n x1 x2 x3 (lX5_thin_1 n x1 x2 x3 fuel) x4 S = some o := h
    unfold bX5_thin_1 at h
    refine z_iload (pc := 19) M dX5_thin_19 4 rfl ?_
    refine z_aload_n (pc := 21) M dX5_thin_21 rfl 0 rfl ?_
    refine z_get (pc := 22) (v := .int (nI (2 ^ n))) M K inX5_thin_X5 o_mod rfl 1 (by decide) flX5_thin_49 rfl rfl dX5_thin_22 ?_
    refine z_icmp_ge (pc := 25) 114 M dX5_thin_25 (by decide) h (fun c_16 h => ?_) (fun c_16 h => ?_)
    · refine z_locals [0, 3] [(0, .ref (ad 12)), (3, .int x3)] rfl ?_
      cases h
      exact hx _ _ rfl
    · refine z_iconst (pc := 28) (v := 0) M dX5_thin_28 (by decide) ?_
      refine z_istore (pc := 29) M dX5_thin_29 (by decide) [1, 2, 3, 4, 5, 0] [(0, .ref (ad 12)), (1, .int x1), (2, .int x2), (3, .int x3), (4, .int x4), (5, .int (0 : Int32))] rfl ?_
      refine z_locals [0, 1, 2, 3, 4, 5] [(0, .ref (ad 12)), (1, .int x1), (2, .int x2), (3, .int x3), (4, .int x4), (5, .int (0 : Int32))] rfl ?_
      obtain ⟨q13, S15, h14, h⟩ := bw_in h
      refine LX5_thin_2 M K x1 x2 x3 x4 FU (0 : Int32) S _ h14 (fun a S' hE => ?_)
      cases hE
      refine z_iinc (pc := 108) M dX5_thin_108 (x4 + 1) rfl 4 rfl (by decide) [1, 2, 3, 4, 0] [(0, .ref (ad 12)), (1, .int x1), (2, .int x2), (3, .int x3), (4, .int (x4 + 1))] rfl ?_
      refine z_goto (pc := 111) 19 M dX5_thin_111 (by decide) ?_
      refine z_locals [0, 1, 2, 3, 4] [(0, .ref (ad 12)), (1, .int x1), (2, .int x2), (3, .int x3), (4, .int (x4 + 1))] rfl ?_
      exact ih (x4 + 1) S15 _ h hx
set_option maxRecDepth 100000 in
set_option maxHeartbeats 4000000 in
theorem kX5_thin (l : Launch) (D : va_G) (cy ad : Nat → Nat) (n : Nat) (p0 : Int32) (p1 : Int32) (p2 : Int32) (S : St) (r : Bool) (S' : St) (h : fX5_thin n p0 p1 p2 S = some (r, S')) : CW l D cy ad n yX5_thin wsX5_thin rmX5_thin [.ref (ad 12), .int p0, .int p1, .int p2] S (some (.int (b2i r))) S' := by
  refine CW.of (cc := cX5_thin) (nL := 6) (ret := (some .boolean)) (own := RX5) rfl (by decide +kernel) rfl (Nat.le_of_ble_eq_true rfl) ?_
  intro p e s m args below meth c M K
  unfold fX5_thin at h
  refine z_locals [0, 1, 2, 3] [(0, .ref (ad 12)), (1, .int p0), (2, .int p1), (3, .int p2)] rfl ?_
  refine z_aload_n (pc := 0) M dX5_thin_0 rfl 0 rfl ?_
  refine z_iload_n (pc := 1) M dX5_thin_1 rfl 1 rfl ?_
  refine z_iload_n (pc := 2) M dX5_thin_2 rfl 2 rfl ?_
  refine z_iload_n (pc := 3) M dX5_thin_3 rfl 3 rfl ?_
  obtain ⟨r1, h2, h⟩ := bo_in h
  refine z_vcall (pc := 4) (As := [.int p0, .int p1, .int p2]) M K (kX5_canBe l D cy ad n p0 p1 p2 S r1 h2) (cwV 3 M.1.2.2.2.2 gX5_thin_X5_canBe rfl rfl rfl (by decide +kernel) ⟨Nat.le_of_ble_eq_true rfl, Nat.le_of_ble_eq_true rfl⟩) o_mod rfl rfl rfl (Nat.le_of_ble_eq_true rfl) dX5_thin_4 ?_
  refine z_if_neB (pc := 7) 12 M dX5_thin_7 (by decide) h (fun c_23 h => ?_) (fun c_23 h => ?_)
  · refine z_aload_n (pc := 12) M dX5_thin_12 rfl 0 rfl ?_
    obtain ⟨r3, S5, h4, h⟩ := bw_in h
    refine z_vcallV (pc := 13) (As := []) M K (kX5_clear l D cy ad n  S r3 S5 h4) (cwV 0 M.1.2.2.2.2 gX5_thin_X5_clear rfl rfl rfl (by decide +kernel) ⟨Nat.le_of_ble_eq_true rfl, Nat.le_of_ble_eq_true rfl⟩) o_mod rfl rfl rfl (Nat.le_of_ble_eq_true rfl) dX5_thin_13 ?_
    refine z_iconst (pc := 16) (v := 0) M dX5_thin_16 (by decide) ?_
    refine z_istore (pc := 17) M dX5_thin_17 (by decide) [1, 2, 3, 4, 0] [(0, .ref (ad 12)), (1, .int p0), (2, .int p1), (3, .int p2), (4, .int (0 : Int32))] rfl ?_
    refine z_locals [0, 1, 2, 3, 4] [(0, .ref (ad 12)), (1, .int p0), (2, .int p1), (3, .int p2), (4, .int (0 : Int32))] rfl ?_
    obtain ⟨q17, S19, h18, h⟩ := bw_in h
    refine LX5_thin_1 M K p0 p1 p2 FU (0 : Int32) S5 _ h18 (fun a S' hE => ?_)
    cases hE
    refine z_aload_n (pc := 114) M dX5_thin_114 rfl 0 rfl ?_
    refine z_iload_n (pc := 115) M dX5_thin_115 rfl 1 rfl ?_
    obtain ⟨r20, S22, h21, h⟩ := bw_in h
    refine z_vcall (pc := 116) (As := [.int p2]) M K (kX5_makes l D cy ad n p2 S19 r20 S22 h21) (cwV 1 M.1.2.2.2.2 gX5_thin_X5_makes rfl rfl rfl (by decide +kernel) ⟨Nat.le_of_ble_eq_true rfl, Nat.le_of_ble_eq_true rfl⟩) o_mod rfl rfl rfl (Nat.le_of_ble_eq_true rfl) dX5_thin_116 ?_
    exact z_zretW (pc := 119) M (congrArg Prod.fst (Option.some.inj h)) (congrArg Prod.snd (Option.some.inj h)) rfl dX5_thin_119
  · refine z_iconst (pc := 10) (v := 0) M dX5_thin_10 (by decide) ?_
    exact z_zretW (pc := 11) M (congrArg Prod.fst (Option.some.inj h)) (congrArg Prod.snd (Option.some.inj h)) rfl dX5_thin_11
def rmX5_part : Room := { frames := 4, cells := 0, slots := 0, locals := 86 }
theorem flX5_part_20 : Cond.fieldLink RX5 20 "ShunLotsModel" "law" "[J" ∈ wsX5_part := by decide +kernel
theorem flX5_part_23 : Cond.fieldLink RX5 23 "ShunLotsModel" "fresh" "[J" ∈ wsX5_part := by decide +kernel
theorem flX5_part_49 : Cond.fieldLink RX5 49 "ShunLotsModel" "sets" "I" ∈ wsX5_part := by decide +kernel
theorem inX5_part_X5 : ∀ w ∈ wsX50, w ∈ wsX5_part := by decide +kernel
set_option maxRecDepth 100000 in
set_option maxHeartbeats 4000000 in
theorem LX5_part_1 {p : Program} {l : Launch} {e : Env} {s : State} {m : MethodId} {args : Array Value} {below : List Frame} {meth : Method} {c : Code} {Q : State → Prop} {D : va_G} {cy ad : Nat → Nat} {n : Nat} (M : MX p m c cX5_part 5 s args wsX5_part RX5 meth (some .boolean)) (K : KK D cy ad s) (x1 : Int32) (x2 : Int32) (x3 : Int32)   : ∀ (fuel : Nat) (x4 : Int32) (S : St) (o : (Unit) × St), lX5_part_1 n x1 x2 x3 fuel x4 S = some o → ∀ (hx : ∀ a S', o = (a, S') → Zz p l e rmX5_part s m args below meth c 5 Q (Hw D cy ad n s S') 58 [(0, .ref (ad 12)), (3, .int x3)] []) , Zz p l e rmX5_part s m args below meth c 5 Q (Hw D cy ad n s S) 19 [(0, .ref (ad 12)), (1, .int x1), (2, .int x2), (3, .int x3), (4, .int x4)] [] := by
  intro fuel
  induction fuel with
  | zero => intro x4 S o h; exact nomatch (show (none : Option _) = some o from h)
  | succ fuel ih =>
    intro x4 S o h hx 
    have h : bX5_part_1 n x1 x2 x3 (lX5_part_1 n x1 x2 x3 fuel) x4 S = some o := h
    unfold bX5_part_1 at h
    refine z_iload (pc := 19) M dX5_part_19 4 rfl ?_
    refine z_aload_n (pc := 21) M dX5_part_21 rfl 0 rfl ?_
    refine z_get (pc := 22) (v := .int (nI (2 ^ n))) M K inX5_part_X5 o_mod rfl 1 (by decide) flX5_part_49 rfl rfl dX5_part_22 ?_
    refine z_icmp_ge (pc := 25) 58 M dX5_part_25 (by decide) h (fun c_6 h => ?_) (fun c_6 h => ?_)
    · refine z_locals [0, 3] [(0, .ref (ad 12)), (3, .int x3)] rfl ?_
      cases h
      exact hx _ _ rfl
    · refine z_aload_n (pc := 28) M dX5_part_28 rfl 0 rfl ?_
      refine z_get (pc := 29) (v := .ref (ad 41)) M K inX5_part_X5 o_mod rfl 6 (by decide) flX5_part_23 rfl rfl dX5_part_29 ?_
      refine z_iload (pc := 32) M dX5_part_32 4 rfl ?_
      refine z_iload_n (pc := 34) M dX5_part_34 rfl 2 rfl ?_
      refine z_iand (pc := 35) M dX5_part_35 ?_
      refine z_dup2_11 (pc := 36) M dX5_part_36 rfl rfl ?_
      refine z_lald (pc := 37) M K ⟨by decide, rfl, rfl⟩ h dX5_part_37 (fun _ h => ?_)
      refine z_aload_n (pc := 38) M dX5_part_38 rfl 0 rfl ?_
      refine z_get (pc := 39) (v := .ref (ad 40)) M K inX5_part_X5 o_mod rfl 5 (by decide) flX5_part_20 rfl rfl dX5_part_39 ?_
      refine z_bipush (pc := 42) (v := 64) M dX5_part_42 (by decide) ?_
      refine z_iload_n (pc := 44) M dX5_part_44 rfl 1 rfl ?_
      refine z_imul (pc := 45) M dX5_part_45 ?_
      refine z_iload (pc := 46) M dX5_part_46 4 rfl ?_
      refine z_iadd (pc := 48) M dX5_part_48 ?_
      refine z_lald (pc := 49) M K ⟨by decide, rfl, rfl⟩ h dX5_part_49 (fun _ h => ?_)
      refine z_ladd (pc := 50) M dX5_part_50 ?_
      refine z_last (pc := 51) M K ⟨by decide, rfl, rfl⟩ h dX5_part_51 (fun h => ?_)
      refine z_iinc (pc := 52) M dX5_part_52 (x4 + 1) rfl 4 rfl (by decide) [1, 2, 3, 4, 0] [(0, .ref (ad 12)), (1, .int x1), (2, .int x2), (3, .int x3), (4, .int (x4 + 1))] rfl ?_
      refine z_goto (pc := 55) 19 M dX5_part_55 (by decide) ?_
      refine z_locals [0, 1, 2, 3, 4] [(0, .ref (ad 12)), (1, .int x1), (2, .int x2), (3, .int x3), (4, .int (x4 + 1))] rfl ?_
      exact ih (x4 + 1) (sJ S 41 (Int32.toNatClampNeg (x4 &&& x2)) ((S.2 41 (Int32.toNatClampNeg (x4 &&& x2))) + (S.2 40 (Int32.toNatClampNeg (((64 : Int32) * x1) + x4))))) _ h hx
set_option maxRecDepth 100000 in
set_option maxHeartbeats 4000000 in
theorem kX5_part (l : Launch) (D : va_G) (cy ad : Nat → Nat) (n : Nat) (p0 : Int32) (p1 : Int32) (p2 : Int32) (S : St) (r : Bool) (S' : St) (h : fX5_part n p0 p1 p2 S = some (r, S')) : CW l D cy ad n yX5_part wsX5_part rmX5_part [.ref (ad 12), .int p0, .int p1, .int p2] S (some (.int (b2i r))) S' := by
  refine CW.of (cc := cX5_part) (nL := 5) (ret := (some .boolean)) (own := RX5) rfl (by decide +kernel) rfl (Nat.le_of_ble_eq_true rfl) ?_
  intro p e s m args below meth c M K
  unfold fX5_part at h
  refine z_locals [0, 1, 2, 3] [(0, .ref (ad 12)), (1, .int p0), (2, .int p1), (3, .int p2)] rfl ?_
  refine z_aload_n (pc := 0) M dX5_part_0 rfl 0 rfl ?_
  refine z_iload_n (pc := 1) M dX5_part_1 rfl 1 rfl ?_
  refine z_iload_n (pc := 2) M dX5_part_2 rfl 2 rfl ?_
  refine z_iload_n (pc := 3) M dX5_part_3 rfl 3 rfl ?_
  obtain ⟨r1, h2, h⟩ := bo_in h
  refine z_vcall (pc := 4) (As := [.int p0, .int p1, .int p2]) M K (kX5_canBe l D cy ad n p0 p1 p2 S r1 h2) (cwV 3 M.1.2.2.2.2 gX5_part_X5_canBe rfl rfl rfl (by decide +kernel) ⟨Nat.le_of_ble_eq_true rfl, Nat.le_of_ble_eq_true rfl⟩) o_mod rfl rfl rfl (Nat.le_of_ble_eq_true rfl) dX5_part_4 ?_
  refine z_if_neB (pc := 7) 12 M dX5_part_7 (by decide) h (fun c_13 h => ?_) (fun c_13 h => ?_)
  · refine z_aload_n (pc := 12) M dX5_part_12 rfl 0 rfl ?_
    obtain ⟨r3, S5, h4, h⟩ := bw_in h
    refine z_vcallV (pc := 13) (As := []) M K (kX5_clear l D cy ad n  S r3 S5 h4) (cwV 0 M.1.2.2.2.2 gX5_part_X5_clear rfl rfl rfl (by decide +kernel) ⟨Nat.le_of_ble_eq_true rfl, Nat.le_of_ble_eq_true rfl⟩) o_mod rfl rfl rfl (Nat.le_of_ble_eq_true rfl) dX5_part_13 ?_
    refine z_iconst (pc := 16) (v := 0) M dX5_part_16 (by decide) ?_
    refine z_istore (pc := 17) M dX5_part_17 (by decide) [1, 2, 3, 4, 0] [(0, .ref (ad 12)), (1, .int p0), (2, .int p1), (3, .int p2), (4, .int (0 : Int32))] rfl ?_
    refine z_locals [0, 1, 2, 3, 4] [(0, .ref (ad 12)), (1, .int p0), (2, .int p1), (3, .int p2), (4, .int (0 : Int32))] rfl ?_
    obtain ⟨q7, S9, h8, h⟩ := bw_in h
    refine LX5_part_1 M K p0 p1 p2 FU (0 : Int32) S5 _ h8 (fun a S' hE => ?_)
    cases hE
    refine z_aload_n (pc := 58) M dX5_part_58 rfl 0 rfl ?_
    refine z_iload_n (pc := 59) M dX5_part_59 rfl 1 rfl ?_
    obtain ⟨r10, S12, h11, h⟩ := bw_in h
    refine z_vcall (pc := 60) (As := [.int p2]) M K (kX5_makes l D cy ad n p2 S9 r10 S12 h11) (cwV 1 M.1.2.2.2.2 gX5_part_X5_makes rfl rfl rfl (by decide +kernel) ⟨Nat.le_of_ble_eq_true rfl, Nat.le_of_ble_eq_true rfl⟩) o_mod rfl rfl rfl (Nat.le_of_ble_eq_true rfl) dX5_part_60 ?_
    exact z_zretW (pc := 63) M (congrArg Prod.fst (Option.some.inj h)) (congrArg Prod.snd (Option.some.inj h)) rfl dX5_part_63
  · refine z_iconst (pc := 10) (v := 0) M dX5_part_10 (by decide) ?_
    exact z_zretW (pc := 11) M (congrArg Prod.fst (Option.some.inj h)) (congrArg Prod.snd (Option.some.inj h)) rfl dX5_part_11
def rmX5_other : Room := { frames := 4, cells := 0, slots := 0, locals := 86 }
theorem flX5_other_20 : Cond.fieldLink RX5 20 "ShunLotsModel" "law" "[J" ∈ wsX5_other := by decide +kernel
theorem flX5_other_23 : Cond.fieldLink RX5 23 "ShunLotsModel" "fresh" "[J" ∈ wsX5_other := by decide +kernel
theorem flX5_other_49 : Cond.fieldLink RX5 49 "ShunLotsModel" "sets" "I" ∈ wsX5_other := by decide +kernel
theorem inX5_other_X5 : ∀ w ∈ wsX50, w ∈ wsX5_other := by decide +kernel
set_option maxRecDepth 100000 in
set_option maxHeartbeats 4000000 in
theorem LX5_other_1 {p : Program} {l : Launch} {e : Env} {s : State} {m : MethodId} {args : Array Value} {below : List Frame} {meth : Method} {c : Code} {Q : State → Prop} {D : va_G} {cy ad : Nat → Nat} {n : Nat} (M : MX p m c cX5_other 5 s args wsX5_other RX5 meth (some .boolean)) (K : KK D cy ad s) (x1 : Int32) (x2 : Int32) (x3 : Int32)   : ∀ (fuel : Nat) (x4 : Int32) (S : St) (o : (Unit) × St), lX5_other_1 n x1 x2 x3 fuel x4 S = some o → ∀ (hx : ∀ a S', o = (a, S') → Zz p l e rmX5_other s m args below meth c 5 Q (Hw D cy ad n s S') 55 [(0, .ref (ad 12)), (3, .int x3)] []) , Zz p l e rmX5_other s m args below meth c 5 Q (Hw D cy ad n s S) 19 [(0, .ref (ad 12)), (1, .int x1), (2, .int x2), (3, .int x3), (4, .int x4)] [] := by
  intro fuel
  induction fuel with
  | zero => intro x4 S o h; exact nomatch (show (none : Option _) = some o from h)
  | succ fuel ih =>
    intro x4 S o h hx 
    have h : bX5_other_1 n x1 x2 x3 (lX5_other_1 n x1 x2 x3 fuel) x4 S = some o := h
    unfold bX5_other_1 at h
    refine z_iload (pc := 19) M dX5_other_19 4 rfl ?_
    refine z_aload_n (pc := 21) M dX5_other_21 rfl 0 rfl ?_
    refine z_get (pc := 22) (v := .int (nI (2 ^ n))) M K inX5_other_X5 o_mod rfl 1 (by decide) flX5_other_49 rfl rfl dX5_other_22 ?_
    refine z_icmp_ge (pc := 25) 55 M dX5_other_25 (by decide) h (fun c_6 h => ?_) (fun c_6 h => ?_)
    · refine z_locals [0, 3] [(0, .ref (ad 12)), (3, .int x3)] rfl ?_
      cases h
      exact hx _ _ rfl
    · refine z_aload_n (pc := 28) M dX5_other_28 rfl 0 rfl ?_
      refine z_get (pc := 29) (v := .ref (ad 41)) M K inX5_other_X5 o_mod rfl 6 (by decide) flX5_other_23 rfl rfl dX5_other_29 ?_
      refine z_iload (pc := 32) M dX5_other_32 4 rfl ?_
      refine z_iload_n (pc := 34) M dX5_other_34 rfl 2 rfl ?_
      refine z_ixor (pc := 35) M dX5_other_35 ?_
      refine z_aload_n (pc := 36) M dX5_other_36 rfl 0 rfl ?_
      refine z_get (pc := 37) (v := .ref (ad 40)) M K inX5_other_X5 o_mod rfl 5 (by decide) flX5_other_20 rfl rfl dX5_other_37 ?_
      refine z_bipush (pc := 40) (v := 64) M dX5_other_40 (by decide) ?_
      refine z_iload_n (pc := 42) M dX5_other_42 rfl 1 rfl ?_
      refine z_imul (pc := 43) M dX5_other_43 ?_
      refine z_iload (pc := 44) M dX5_other_44 4 rfl ?_
      refine z_iadd (pc := 46) M dX5_other_46 ?_
      refine z_lald (pc := 47) M K ⟨by decide, rfl, rfl⟩ h dX5_other_47 (fun _ h => ?_)
      refine z_last (pc := 48) M K ⟨by decide, rfl, rfl⟩ h dX5_other_48 (fun h => ?_)
      refine z_iinc (pc := 49) M dX5_other_49 (x4 + 1) rfl 4 rfl (by decide) [1, 2, 3, 4, 0] [(0, .ref (ad 12)), (1, .int x1), (2, .int x2), (3, .int x3), (4, .int (x4 + 1))] rfl ?_
      refine z_goto (pc := 52) 19 M dX5_other_52 (by decide) ?_
      refine z_locals [0, 1, 2, 3, 4] [(0, .ref (ad 12)), (1, .int x1), (2, .int x2), (3, .int x3), (4, .int (x4 + 1))] rfl ?_
      exact ih (x4 + 1) (sJ S 41 (Int32.toNatClampNeg (x4 ^^^ x2)) (S.2 40 (Int32.toNatClampNeg (((64 : Int32) * x1) + x4)))) _ h hx
set_option maxRecDepth 100000 in
set_option maxHeartbeats 4000000 in
theorem kX5_other (l : Launch) (D : va_G) (cy ad : Nat → Nat) (n : Nat) (p0 : Int32) (p1 : Int32) (p2 : Int32) (S : St) (r : Bool) (S' : St) (h : fX5_other n p0 p1 p2 S = some (r, S')) : CW l D cy ad n yX5_other wsX5_other rmX5_other [.ref (ad 12), .int p0, .int p1, .int p2] S (some (.int (b2i r))) S' := by
  refine CW.of (cc := cX5_other) (nL := 5) (ret := (some .boolean)) (own := RX5) rfl (by decide +kernel) rfl (Nat.le_of_ble_eq_true rfl) ?_
  intro p e s m args below meth c M K
  unfold fX5_other at h
  refine z_locals [0, 1, 2, 3] [(0, .ref (ad 12)), (1, .int p0), (2, .int p1), (3, .int p2)] rfl ?_
  refine z_aload_n (pc := 0) M dX5_other_0 rfl 0 rfl ?_
  refine z_iload_n (pc := 1) M dX5_other_1 rfl 1 rfl ?_
  refine z_iload_n (pc := 2) M dX5_other_2 rfl 2 rfl ?_
  refine z_iload_n (pc := 3) M dX5_other_3 rfl 3 rfl ?_
  obtain ⟨r1, h2, h⟩ := bo_in h
  refine z_vcall (pc := 4) (As := [.int p0, .int p1, .int p2]) M K (kX5_canBe l D cy ad n p0 p1 p2 S r1 h2) (cwV 3 M.1.2.2.2.2 gX5_other_X5_canBe rfl rfl rfl (by decide +kernel) ⟨Nat.le_of_ble_eq_true rfl, Nat.le_of_ble_eq_true rfl⟩) o_mod rfl rfl rfl (Nat.le_of_ble_eq_true rfl) dX5_other_4 ?_
  refine z_if_neB (pc := 7) 12 M dX5_other_7 (by decide) h (fun c_13 h => ?_) (fun c_13 h => ?_)
  · refine z_aload_n (pc := 12) M dX5_other_12 rfl 0 rfl ?_
    obtain ⟨r3, S5, h4, h⟩ := bw_in h
    refine z_vcallV (pc := 13) (As := []) M K (kX5_clear l D cy ad n  S r3 S5 h4) (cwV 0 M.1.2.2.2.2 gX5_other_X5_clear rfl rfl rfl (by decide +kernel) ⟨Nat.le_of_ble_eq_true rfl, Nat.le_of_ble_eq_true rfl⟩) o_mod rfl rfl rfl (Nat.le_of_ble_eq_true rfl) dX5_other_13 ?_
    refine z_iconst (pc := 16) (v := 0) M dX5_other_16 (by decide) ?_
    refine z_istore (pc := 17) M dX5_other_17 (by decide) [1, 2, 3, 4, 0] [(0, .ref (ad 12)), (1, .int p0), (2, .int p1), (3, .int p2), (4, .int (0 : Int32))] rfl ?_
    refine z_locals [0, 1, 2, 3, 4] [(0, .ref (ad 12)), (1, .int p0), (2, .int p1), (3, .int p2), (4, .int (0 : Int32))] rfl ?_
    obtain ⟨q7, S9, h8, h⟩ := bw_in h
    refine LX5_other_1 M K p0 p1 p2 FU (0 : Int32) S5 _ h8 (fun a S' hE => ?_)
    cases hE
    refine z_aload_n (pc := 55) M dX5_other_55 rfl 0 rfl ?_
    refine z_iload_n (pc := 56) M dX5_other_56 rfl 1 rfl ?_
    obtain ⟨r10, S12, h11, h⟩ := bw_in h
    refine z_vcall (pc := 57) (As := [.int p2]) M K (kX5_makes l D cy ad n p2 S9 r10 S12 h11) (cwV 1 M.1.2.2.2.2 gX5_other_X5_makes rfl rfl rfl (by decide +kernel) ⟨Nat.le_of_ble_eq_true rfl, Nat.le_of_ble_eq_true rfl⟩) o_mod rfl rfl rfl (Nat.le_of_ble_eq_true rfl) dX5_other_57 ?_
    exact z_zretW (pc := 60) M (congrArg Prod.fst (Option.some.inj h)) (congrArg Prod.snd (Option.some.inj h)) rfl dX5_other_60
  · refine z_iconst (pc := 10) (v := 0) M dX5_other_10 (by decide) ?_
    exact z_zretW (pc := 11) M (congrArg Prod.fst (Option.some.inj h)) (congrArg Prod.snd (Option.some.inj h)) rfl dX5_other_11
def rmX5_sum : Room := { frames := 0, cells := 0, slots := 0, locals := 0 }
theorem flX5_sum_20 : Cond.fieldLink RX5 20 "ShunLotsModel" "law" "[J" ∈ wsX5_sum := by decide +kernel
theorem flX5_sum_49 : Cond.fieldLink RX5 49 "ShunLotsModel" "sets" "I" ∈ wsX5_sum := by decide +kernel
theorem inX5_sum_X5 : ∀ w ∈ wsX50, w ∈ wsX5_sum := by decide +kernel
set_option maxRecDepth 100000 in
set_option maxHeartbeats 4000000 in
theorem LX5_sum_1 {p : Program} {l : Launch} {e : Env} {s : State} {m : MethodId} {args : Array Value} {below : List Frame} {meth : Method} {c : Code} {Q : State → Prop} {D : va_G} {cy ad : Nat → Nat} {n : Nat} (M : MX p m c cX5_sum 5 s args wsX5_sum RX5 meth (some .long)) (K : KK D cy ad s) (x1 : Int32)  (S : St) : ∀ (fuel : Nat) (x2 : Int64) (x4 : Int32) (o : (Int64)), lX5_sum_1 n x1 S fuel x2 x4 = some o → ∀ (hx : ∀ a, o = a → Zz p l e rmX5_sum s m args below meth c 5 Q (Hw D cy ad n s S) 35 [(2, .long a)] []) , Zz p l e rmX5_sum s m args below meth c 5 Q (Hw D cy ad n s S) 5 [(0, .ref (ad 12)), (1, .int x1), (2, .long x2), (4, .int x4)] [] := by
  intro fuel
  induction fuel with
  | zero => intro x2 x4 o h; exact nomatch (show (none : Option _) = some o from h)
  | succ fuel ih =>
    intro x2 x4 o h hx 
    have h : bX5_sum_1 n x1 S (lX5_sum_1 n x1 S fuel) x2 x4 = some o := h
    unfold bX5_sum_1 at h
    refine z_iload (pc := 5) M dX5_sum_5 3 rfl ?_
    refine z_aload_n (pc := 7) M dX5_sum_7 rfl 0 rfl ?_
    refine z_get (pc := 8) (v := .int (nI (2 ^ n))) M K inX5_sum_X5 o_mod rfl 1 (by decide) flX5_sum_49 rfl rfl dX5_sum_8 ?_
    refine z_icmp_ge (pc := 11) 35 M dX5_sum_11 (by decide) h (fun c_1 h => ?_) (fun c_1 h => ?_)
    · refine z_locals [2] [(2, .long x2)] rfl ?_
      cases h
      exact hx _ rfl
    · refine z_lload_n (pc := 14) M dX5_sum_14 rfl 2 rfl ?_
      refine z_aload_n (pc := 15) M dX5_sum_15 rfl 0 rfl ?_
      refine z_get (pc := 16) (v := .ref (ad 40)) M K inX5_sum_X5 o_mod rfl 5 (by decide) flX5_sum_20 rfl rfl dX5_sum_16 ?_
      refine z_bipush (pc := 19) (v := 64) M dX5_sum_19 (by decide) ?_
      refine z_iload_n (pc := 21) M dX5_sum_21 rfl 1 rfl ?_
      refine z_imul (pc := 22) M dX5_sum_22 ?_
      refine z_iload (pc := 23) M dX5_sum_23 3 rfl ?_
      refine z_iadd (pc := 25) M dX5_sum_25 ?_
      refine z_lald (pc := 26) M K ⟨by decide, rfl, rfl⟩ h dX5_sum_26 (fun _ h => ?_)
      refine z_ladd (pc := 27) M dX5_sum_27 ?_
      refine z_lstore_n (pc := 28) M dX5_sum_28 rfl (by decide) [1, 2, 0, 3] [(0, .ref (ad 12)), (1, .int x1), (2, .long (x2 + (S.2 40 (Int32.toNatClampNeg (((64 : Int32) * x1) + x4))))), (4, .int x4)] rfl ?_
      refine z_iinc (pc := 29) M dX5_sum_29 (x4 + 1) rfl 3 rfl (by decide) [1, 2, 3, 0] [(0, .ref (ad 12)), (1, .int x1), (2, .long (x2 + (S.2 40 (Int32.toNatClampNeg (((64 : Int32) * x1) + x4))))), (4, .int (x4 + 1))] rfl ?_
      refine z_goto (pc := 32) 5 M dX5_sum_32 (by decide) ?_
      refine z_locals [0, 1, 2, 3] [(0, .ref (ad 12)), (1, .int x1), (2, .long (x2 + (S.2 40 (Int32.toNatClampNeg (((64 : Int32) * x1) + x4))))), (4, .int (x4 + 1))] rfl ?_
      exact ih (x2 + (S.2 40 (Int32.toNatClampNeg (((64 : Int32) * x1) + x4)))) (x4 + 1) _ h hx
set_option maxRecDepth 100000 in
set_option maxHeartbeats 4000000 in
theorem kX5_sum (l : Launch) (D : va_G) (cy ad : Nat → Nat) (n : Nat) (p0 : Int32) (S : St) (r : Int64) (h : fX5_sum n p0 S = some r) : CW l D cy ad n yX5_sum wsX5_sum rmX5_sum [.ref (ad 12), .int p0] S (some (.long r)) S := by
  refine CW.of (cc := cX5_sum) (nL := 5) (ret := (some .long)) (own := RX5) rfl (by decide +kernel) rfl (Nat.le_of_ble_eq_true rfl) ?_
  intro p e s m args below meth c M K
  unfold fX5_sum at h
  refine z_locals [0, 1] [(0, .ref (ad 12)), (1, .int p0)] rfl ?_
  refine z_lconst (pc := 0) (v := 0) M dX5_sum_0 (by decide) ?_
  refine z_lstore_n (pc := 1) M dX5_sum_1 rfl (by decide) [1, 2, 0] [(0, .ref (ad 12)), (1, .int p0), (2, .long (0 : Int64))] rfl ?_
  refine z_iconst (pc := 2) (v := 0) M dX5_sum_2 (by decide) ?_
  refine z_istore (pc := 3) M dX5_sum_3 (by decide) [1, 2, 3, 0] [(0, .ref (ad 12)), (1, .int p0), (2, .long (0 : Int64)), (4, .int (0 : Int32))] rfl ?_
  refine z_locals [0, 1, 2, 3] [(0, .ref (ad 12)), (1, .int p0), (2, .long (0 : Int64)), (4, .int (0 : Int32))] rfl ?_
  obtain ⟨q2, h3, h⟩ := bo_in h
  refine LX5_sum_1 M K p0 S FU (0 : Int64) (0 : Int32) _ h3 (fun a hE => ?_)
  cases hE
  refine z_lload_n (pc := 35) M dX5_sum_35 rfl 0 rfl ?_
  exact z_lretW (pc := 36) M (Option.some.inj h) rfl dX5_sum_36
def rmX5_mix : Room := { frames := 3, cells := 0, slots := 0, locals := 63 }
theorem flX5_mix_20 : Cond.fieldLink RX5 20 "ShunLotsModel" "law" "[J" ∈ wsX5_mix := by decide +kernel
theorem flX5_mix_23 : Cond.fieldLink RX5 23 "ShunLotsModel" "fresh" "[J" ∈ wsX5_mix := by decide +kernel
theorem flX5_mix_49 : Cond.fieldLink RX5 49 "ShunLotsModel" "sets" "I" ∈ wsX5_mix := by decide +kernel
theorem inX5_mix_X5 : ∀ w ∈ wsX50, w ∈ wsX5_mix := by decide +kernel
set_option maxRecDepth 100000 in
set_option maxHeartbeats 4000000 in
theorem LX5_mix_1 {p : Program} {l : Launch} {e : Env} {s : State} {m : MethodId} {args : Array Value} {below : List Frame} {meth : Method} {c : Code} {Q : State → Prop} {D : va_G} {cy ad : Nat → Nat} {n : Nat} (M : MX p m c cX5_mix 7 s args wsX5_mix RX5 meth (some .boolean)) (K : KK D cy ad s) (x1 : Int32) (x2 : Int32) (x3 : Int32) (x4 : Int32) (x5 : Int32)   : ∀ (fuel : Nat) (x6 : Int32) (S : St) (o : (Unit) × St), lX5_mix_1 n x1 x2 x3 x4 x5 fuel x6 S = some o → ∀ (hx : ∀ a S', o = (a, S') → Zz p l e rmX5_mix s m args below meth c 7 Q (Hw D cy ad n s S') 120 [(0, .ref (ad 12)), (5, .int x5)] []) , Zz p l e rmX5_mix s m args below meth c 7 Q (Hw D cy ad n s S) 54 [(0, .ref (ad 12)), (1, .int x1), (2, .int x2), (3, .int x3), (4, .int x4), (5, .int x5), (6, .int x6)] [] := by
  intro fuel
  induction fuel with
  | zero => intro x6 S o h; exact nomatch (show (none : Option _) = some o from h)
  | succ fuel ih =>
    intro x6 S o h hx 
    have h : bX5_mix_1 n x1 x2 x3 x4 x5 (lX5_mix_1 n x1 x2 x3 x4 x5 fuel) x6 S = some o := h
    unfold bX5_mix_1 at h
    refine z_iload (pc := 54) M dX5_mix_54 6 rfl ?_
    refine z_aload_n (pc := 56) M dX5_mix_56 rfl 0 rfl ?_
    refine z_get (pc := 57) (v := .int (nI (2 ^ n))) M K inX5_mix_X5 o_mod rfl 1 (by decide) flX5_mix_49 rfl rfl dX5_mix_57 ?_
    refine z_icmp_ge (pc := 60) 120 M dX5_mix_60 (by decide) h (fun c_18 h => ?_) (fun c_18 h => ?_)
    · refine z_locals [0, 5] [(0, .ref (ad 12)), (5, .int x5)] rfl ?_
      cases h
      exact hx _ _ rfl
    · refine z_aload_n (pc := 63) M dX5_mix_63 rfl 0 rfl ?_
      refine z_get (pc := 64) (v := .ref (ad 41)) M K inX5_mix_X5 o_mod rfl 6 (by decide) flX5_mix_23 rfl rfl dX5_mix_64 ?_
      refine z_iload (pc := 67) M dX5_mix_67 6 rfl ?_
      refine z_aload_n (pc := 69) M dX5_mix_69 rfl 0 rfl ?_
      refine z_get (pc := 70) (v := .ref (ad 40)) M K inX5_mix_X5 o_mod rfl 5 (by decide) flX5_mix_20 rfl rfl dX5_mix_70 ?_
      refine z_bipush (pc := 73) (v := 64) M dX5_mix_73 (by decide) ?_
      refine z_iload_n (pc := 75) M dX5_mix_75 rfl 1 rfl ?_
      refine z_imul (pc := 76) M dX5_mix_76 ?_
      refine z_iload (pc := 77) M dX5_mix_77 6 rfl ?_
      refine z_iadd (pc := 79) M dX5_mix_79 ?_
      refine z_lald (pc := 80) M K ⟨by decide, rfl, rfl⟩ h dX5_mix_80 (fun _ h => ?_)
      refine z_iload_n (pc := 81) M dX5_mix_81 rfl 3 rfl ?_
      refine z_i2l (pc := 82) M dX5_mix_82 ?_
      refine z_lmul (pc := 83) M dX5_mix_83 ?_
      refine z_aload_n (pc := 84) M dX5_mix_84 rfl 0 rfl ?_
      refine z_iload_n (pc := 85) M dX5_mix_85 rfl 2 rfl ?_
      obtain ⟨r14, h15, h⟩ := bo_in h
      refine z_vcall (pc := 86) (As := [.int x2]) M K (kX5_sum l D cy ad n x2 S r14 h15) (cwV 1 M.1.2.2.2.2 gX5_mix_X5_sum rfl rfl rfl (by decide +kernel) ⟨Nat.le_of_ble_eq_true rfl, Nat.le_of_ble_eq_true rfl⟩) o_mod rfl rfl rfl (Nat.le_of_ble_eq_true rfl) dX5_mix_86 ?_
      refine z_lmul (pc := 89) M dX5_mix_89 ?_
      refine z_aload_n (pc := 90) M dX5_mix_90 rfl 0 rfl ?_
      refine z_get (pc := 91) (v := .ref (ad 40)) M K inX5_mix_X5 o_mod rfl 5 (by decide) flX5_mix_20 rfl rfl dX5_mix_91 ?_
      refine z_bipush (pc := 94) (v := 64) M dX5_mix_94 (by decide) ?_
      refine z_iload_n (pc := 96) M dX5_mix_96 rfl 2 rfl ?_
      refine z_imul (pc := 97) M dX5_mix_97 ?_
      refine z_iload (pc := 98) M dX5_mix_98 6 rfl ?_
      refine z_iadd (pc := 100) M dX5_mix_100 ?_
      refine z_lald (pc := 101) M K ⟨by decide, rfl, rfl⟩ h dX5_mix_101 (fun _ h => ?_)
      refine z_iload (pc := 102) M dX5_mix_102 4 rfl ?_
      refine z_i2l (pc := 104) M dX5_mix_104 ?_
      refine z_lmul (pc := 105) M dX5_mix_105 ?_
      refine z_aload_n (pc := 106) M dX5_mix_106 rfl 0 rfl ?_
      refine z_iload_n (pc := 107) M dX5_mix_107 rfl 1 rfl ?_
      obtain ⟨r16, h17, h⟩ := bo_in h
      refine z_vcall (pc := 108) (As := [.int x1]) M K (kX5_sum l D cy ad n x1 S r16 h17) (cwV 1 M.1.2.2.2.2 gX5_mix_X5_sum rfl rfl rfl (by decide +kernel) ⟨Nat.le_of_ble_eq_true rfl, Nat.le_of_ble_eq_true rfl⟩) o_mod rfl rfl rfl (Nat.le_of_ble_eq_true rfl) dX5_mix_108 ?_
      refine z_lmul (pc := 111) M dX5_mix_111 ?_
      refine z_ladd (pc := 112) M dX5_mix_112 ?_
      refine z_last (pc := 113) M K ⟨by decide, rfl, rfl⟩ h dX5_mix_113 (fun h => ?_)
      refine z_iinc (pc := 114) M dX5_mix_114 (x6 + 1) rfl 6 rfl (by decide) [1, 2, 3, 4, 5, 6, 0] [(0, .ref (ad 12)), (1, .int x1), (2, .int x2), (3, .int x3), (4, .int x4), (5, .int x5), (6, .int (x6 + 1))] rfl ?_
      refine z_goto (pc := 117) 54 M dX5_mix_117 (by decide) ?_
      refine z_locals [0, 1, 2, 3, 4, 5, 6] [(0, .ref (ad 12)), (1, .int x1), (2, .int x2), (3, .int x3), (4, .int x4), (5, .int x5), (6, .int (x6 + 1))] rfl ?_
      exact ih (x6 + 1) (sJ S 41 (Int32.toNatClampNeg x6) ((((S.2 40 (Int32.toNatClampNeg (((64 : Int32) * x1) + x6))) * (Int32.toInt64 x3)) * r14) + (((S.2 40 (Int32.toNatClampNeg (((64 : Int32) * x2) + x6))) * (Int32.toInt64 x4)) * r16))) _ h hx
set_option maxRecDepth 100000 in
set_option maxHeartbeats 4000000 in
theorem kX5_mix (l : Launch) (D : va_G) (cy ad : Nat → Nat) (n : Nat) (p0 : Int32) (p1 : Int32) (p2 : Int32) (p3 : Int32) (p4 : Int32) (S : St) (r : Bool) (S' : St) (h : fX5_mix n p0 p1 p2 p3 p4 S = some (r, S')) : CW l D cy ad n yX5_mix wsX5_mix rmX5_mix [.ref (ad 12), .int p0, .int p1, .int p2, .int p3, .int p4] S (some (.int (b2i r))) S' := by
  refine CW.of (cc := cX5_mix) (nL := 7) (ret := (some .boolean)) (own := RX5) rfl (by decide +kernel) rfl (Nat.le_of_ble_eq_true rfl) ?_
  intro p e s m args below meth c M K
  unfold fX5_mix at h
  refine z_locals [0, 1, 2, 3, 4, 5] [(0, .ref (ad 12)), (1, .int p0), (2, .int p1), (3, .int p2), (4, .int p3), (5, .int p4)] rfl ?_
  refine z_aload_n (pc := 0) M dX5_mix_0 rfl 0 rfl ?_
  refine z_iload_n (pc := 1) M dX5_mix_1 rfl 1 rfl ?_
  obtain ⟨r1, h2, h⟩ := bo_in h
  refine z_vcall (pc := 2) (As := [.int p0]) M K (kX5_isLaw l D cy ad n p0 S r1 h2) (cwV 1 M.1.2.2.2.2 gX5_mix_X5_isLaw rfl rfl rfl (by decide +kernel) ⟨Nat.le_of_ble_eq_true rfl, Nat.le_of_ble_eq_true rfl⟩) o_mod rfl rfl rfl (Nat.le_of_ble_eq_true rfl) dX5_mix_2 ?_
  refine z_if_eqB (pc := 5) 45 M dX5_mix_5 (by decide) h (fun c_29 h => ?_) (fun c_29 h => ?_)
  · refine z_iconst (pc := 45) (v := 0) M dX5_mix_45 (by decide) ?_
    exact z_zretW (pc := 46) M (congrArg Prod.fst (Option.some.inj h)) (congrArg Prod.snd (Option.some.inj h)) rfl dX5_mix_46
  · refine z_aload_n (pc := 8) M dX5_mix_8 rfl 0 rfl ?_
    refine z_iload_n (pc := 9) M dX5_mix_9 rfl 2 rfl ?_
    obtain ⟨r3, h4, h⟩ := bo_in h
    refine z_vcall (pc := 10) (As := [.int p1]) M K (kX5_isLaw l D cy ad n p1 S r3 h4) (cwV 1 M.1.2.2.2.2 gX5_mix_X5_isLaw rfl rfl rfl (by decide +kernel) ⟨Nat.le_of_ble_eq_true rfl, Nat.le_of_ble_eq_true rfl⟩) o_mod rfl rfl rfl (Nat.le_of_ble_eq_true rfl) dX5_mix_10 ?_
    refine z_if_eqB (pc := 13) 45 M dX5_mix_13 (by decide) h (fun c_28 h => ?_) (fun c_28 h => ?_)
    · refine z_iconst (pc := 45) (v := 0) M dX5_mix_45 (by decide) ?_
      exact z_zretW (pc := 46) M (congrArg Prod.fst (Option.some.inj h)) (congrArg Prod.snd (Option.some.inj h)) rfl dX5_mix_46
    · refine z_iload_n (pc := 16) M dX5_mix_16 rfl 3 rfl ?_
      refine z_iconst (pc := 17) (v := 1) M dX5_mix_17 (by decide) ?_
      refine z_bipush (pc := 18) (v := 9) M dX5_mix_18 (by decide) ?_
      obtain ⟨r5, h6, h⟩ := bo_in h
      refine z_scall (pc := 20) (As := [.int p2, .int (1 : Int32), .int (9 : Int32)]) M (kX5_in l p2 (1 : Int32) (9 : Int32) r5 h6) (va_cwS 3 M.1.2.2.2.2 gX5_mix_X5_in rfl rfl rfl (by decide +kernel) ⟨Nat.le_of_ble_eq_true rfl, Nat.le_of_ble_eq_true rfl⟩) rfl rfl (Nat.le_of_ble_eq_true rfl) dX5_mix_20 ?_
      refine z_if_eqB (pc := 23) 45 M dX5_mix_23 (by decide) h (fun c_27 h => ?_) (fun c_27 h => ?_)
      · refine z_iconst (pc := 45) (v := 0) M dX5_mix_45 (by decide) ?_
        exact z_zretW (pc := 46) M (congrArg Prod.fst (Option.some.inj h)) (congrArg Prod.snd (Option.some.inj h)) rfl dX5_mix_46
      · refine z_iload (pc := 26) M dX5_mix_26 4 rfl ?_
        refine z_iconst (pc := 28) (v := 1) M dX5_mix_28 (by decide) ?_
        refine z_bipush (pc := 29) (v := 9) M dX5_mix_29 (by decide) ?_
        obtain ⟨r7, h8, h⟩ := bo_in h
        refine z_scall (pc := 31) (As := [.int p3, .int (1 : Int32), .int (9 : Int32)]) M (kX5_in l p3 (1 : Int32) (9 : Int32) r7 h8) (va_cwS 3 M.1.2.2.2.2 gX5_mix_X5_in rfl rfl rfl (by decide +kernel) ⟨Nat.le_of_ble_eq_true rfl, Nat.le_of_ble_eq_true rfl⟩) rfl rfl (Nat.le_of_ble_eq_true rfl) dX5_mix_31 ?_
        refine z_if_eqB (pc := 34) 45 M dX5_mix_34 (by decide) h (fun c_26 h => ?_) (fun c_26 h => ?_)
        · refine z_iconst (pc := 45) (v := 0) M dX5_mix_45 (by decide) ?_
          exact z_zretW (pc := 46) M (congrArg Prod.fst (Option.some.inj h)) (congrArg Prod.snd (Option.some.inj h)) rfl dX5_mix_46
        · refine z_iload (pc := 37) M dX5_mix_37 5 rfl ?_
          obtain ⟨r9, h10, h⟩ := bo_in h
          refine z_scall (pc := 39) (As := [.int p4]) M (kX5_isPlace l p4 r9 h10) (va_cwS 1 M.1.2.2.2.2 gX5_mix_X5_isPlace rfl rfl rfl (by decide +kernel) ⟨Nat.le_of_ble_eq_true rfl, Nat.le_of_ble_eq_true rfl⟩) rfl rfl (Nat.le_of_ble_eq_true rfl) dX5_mix_39 ?_
          refine z_if_neB (pc := 42) 47 M dX5_mix_42 (by decide) h (fun c_25 h => ?_) (fun c_25 h => ?_)
          · refine z_aload_n (pc := 47) M dX5_mix_47 rfl 0 rfl ?_
            obtain ⟨r11, S13, h12, h⟩ := bw_in h
            refine z_vcallV (pc := 48) (As := []) M K (kX5_clear l D cy ad n  S r11 S13 h12) (cwV 0 M.1.2.2.2.2 gX5_mix_X5_clear rfl rfl rfl (by decide +kernel) ⟨Nat.le_of_ble_eq_true rfl, Nat.le_of_ble_eq_true rfl⟩) o_mod rfl rfl rfl (Nat.le_of_ble_eq_true rfl) dX5_mix_48 ?_
            refine z_iconst (pc := 51) (v := 0) M dX5_mix_51 (by decide) ?_
            refine z_istore (pc := 52) M dX5_mix_52 (by decide) [1, 2, 3, 4, 5, 6, 0] [(0, .ref (ad 12)), (1, .int p0), (2, .int p1), (3, .int p2), (4, .int p3), (5, .int p4), (6, .int (0 : Int32))] rfl ?_
            refine z_locals [0, 1, 2, 3, 4, 5, 6] [(0, .ref (ad 12)), (1, .int p0), (2, .int p1), (3, .int p2), (4, .int p3), (5, .int p4), (6, .int (0 : Int32))] rfl ?_
            obtain ⟨q19, S21, h20, h⟩ := bw_in h
            refine LX5_mix_1 M K p0 p1 p2 p3 p4 FU (0 : Int32) S13 _ h20 (fun a S' hE => ?_)
            cases hE
            refine z_aload_n (pc := 120) M dX5_mix_120 rfl 0 rfl ?_
            refine z_iload (pc := 121) M dX5_mix_121 1 rfl ?_
            obtain ⟨r22, S24, h23, h⟩ := bw_in h
            refine z_vcall (pc := 123) (As := [.int p4]) M K (kX5_makes l D cy ad n p4 S21 r22 S24 h23) (cwV 1 M.1.2.2.2.2 gX5_mix_X5_makes rfl rfl rfl (by decide +kernel) ⟨Nat.le_of_ble_eq_true rfl, Nat.le_of_ble_eq_true rfl⟩) o_mod rfl rfl rfl (Nat.le_of_ble_eq_true rfl) dX5_mix_123 ?_
            exact z_zretW (pc := 126) M (congrArg Prod.fst (Option.some.inj h)) (congrArg Prod.snd (Option.some.inj h)) rfl dX5_mix_126
          · refine z_iconst (pc := 45) (v := 0) M dX5_mix_45 (by decide) ?_
            exact z_zretW (pc := 46) M (congrArg Prod.fst (Option.some.inj h)) (congrArg Prod.snd (Option.some.inj h)) rfl dX5_mix_46
def rmX5_share : Room := { frames := 3, cells := 0, slots := 0, locals := 63 }
theorem flX5_share_20 : Cond.fieldLink RX5 20 "ShunLotsModel" "law" "[J" ∈ wsX5_share := by decide +kernel
theorem wdX5_share_Cond_constantLong_RX5_104_1 : Cond.constantLong RX5 104 (-1) ∈ wsX5_share := by decide +kernel
theorem inX5_share_X5 : ∀ w ∈ wsX50, w ∈ wsX5_share := by decide +kernel
set_option maxRecDepth 100000 in
set_option maxHeartbeats 4000000 in
theorem kX5_share (l : Launch) (D : va_G) (cy ad : Nat → Nat) (n : Nat) (p0 : Int32) (p1 : Int32) (S : St) (r : Int64) (h : fX5_share n p0 p1 S = some r) : CW l D cy ad n yX5_share wsX5_share rmX5_share [.ref (ad 12), .int p0, .int p1] S (some (.long r)) S := by
  refine CW.of (cc := cX5_share) (nL := 3) (ret := (some .long)) (own := RX5) rfl (by decide +kernel) rfl (Nat.le_of_ble_eq_true rfl) ?_
  intro p e s m args below meth c M K
  unfold fX5_share at h
  refine z_locals [0, 1, 2] [(0, .ref (ad 12)), (1, .int p0), (2, .int p1)] rfl ?_
  refine z_aload_n (pc := 0) M dX5_share_0 rfl 0 rfl ?_
  refine z_iload_n (pc := 1) M dX5_share_1 rfl 1 rfl ?_
  obtain ⟨r1, h2, h⟩ := bo_in h
  refine z_vcall (pc := 2) (As := [.int p0]) M K (kX5_isLaw l D cy ad n p0 S r1 h2) (cwV 1 M.1.2.2.2.2 gX5_share_X5_isLaw rfl rfl rfl (by decide +kernel) ⟨Nat.le_of_ble_eq_true rfl, Nat.le_of_ble_eq_true rfl⟩) o_mod rfl rfl rfl (Nat.le_of_ble_eq_true rfl) dX5_share_2 ?_
  refine z_if_eqB (pc := 5) 30 M dX5_share_5 (by decide) h (fun c_6 h => ?_) (fun c_6 h => ?_)
  · refine z_ldc2 (pc := 30) M wdX5_share_Cond_constantLong_RX5_104_1 dX5_share_30 ?_
    exact z_lretW (pc := 33) M (Option.some.inj h) rfl dX5_share_33
  · refine z_aload_n (pc := 8) M dX5_share_8 rfl 0 rfl ?_
    refine z_iload_n (pc := 9) M dX5_share_9 rfl 2 rfl ?_
    obtain ⟨r3, h4, h⟩ := bo_in h
    refine z_vcall (pc := 10) (As := [.int p1]) M K (kX5_isSet l D cy ad n p1 S r3 h4) (cwV 1 M.1.2.2.2.2 gX5_share_X5_isSet rfl rfl rfl (by decide +kernel) ⟨Nat.le_of_ble_eq_true rfl, Nat.le_of_ble_eq_true rfl⟩) o_mod rfl rfl rfl (Nat.le_of_ble_eq_true rfl) dX5_share_10 ?_
    refine z_if_eqB (pc := 13) 30 M dX5_share_13 (by decide) h (fun c_5 h => ?_) (fun c_5 h => ?_)
    · refine z_ldc2 (pc := 30) M wdX5_share_Cond_constantLong_RX5_104_1 dX5_share_30 ?_
      exact z_lretW (pc := 33) M (Option.some.inj h) rfl dX5_share_33
    · refine z_aload_n (pc := 16) M dX5_share_16 rfl 0 rfl ?_
      refine z_get (pc := 17) (v := .ref (ad 40)) M K inX5_share_X5 o_mod rfl 5 (by decide) flX5_share_20 rfl rfl dX5_share_17 ?_
      refine z_bipush (pc := 20) (v := 64) M dX5_share_20 (by decide) ?_
      refine z_iload_n (pc := 22) M dX5_share_22 rfl 1 rfl ?_
      refine z_imul (pc := 23) M dX5_share_23 ?_
      refine z_iload_n (pc := 24) M dX5_share_24 rfl 2 rfl ?_
      refine z_iadd (pc := 25) M dX5_share_25 ?_
      refine z_lald (pc := 26) M K ⟨by decide, rfl, rfl⟩ h dX5_share_26 (fun _ h => ?_)
      refine z_goto (pc := 27) 33 M dX5_share_27 (by decide) ?_
      exact z_lretW (pc := 33) M (Option.some.inj h) rfl dX5_share_33
def rmX5_fraction : Room := { frames := 1, cells := 0, slots := 0, locals := 29 }
set_option maxRecDepth 100000 in
set_option maxHeartbeats 4000000 in
theorem kX5_fraction (l : Launch) (p0 : Int64) (p1 : Int64) (p2 : Int32) (r : Int64) (h : fX5_fraction p0 p1 p2 = some r) : CP l yX5_fraction wsX5_fraction rmX5_fraction [.long p0, .long p1, .int p2] (some (.long r)) := by
  refine CP.of (cc := cX5_fraction) (nL := 7) (ret := (some .long)) (own := RX5) rfl (by decide +kernel) rfl (Nat.le_of_ble_eq_true rfl) ?_
  intro p e s m args below meth c M
  unfold fX5_fraction at h
  refine z_locals [0, 1, 2] [(0, .long p0), (2, .long p1), (4, .int p2)] rfl ?_
  refine z_lload_n (pc := 0) M dX5_fraction_0 rfl 1 rfl ?_
  refine z_lload_n (pc := 1) M dX5_fraction_1 rfl 0 rfl ?_
  refine z_lconst (pc := 2) (v := 0) M dX5_fraction_2 (by decide) ?_
  refine z_lcmp (pc := 3) M dX5_fraction_3 ?_
  refine z_if_ge (pc := 4) 12 M dX5_fraction_4 (by decide) h (fun c_7 h => ?_) (fun c_7 h => ?_)
  · refine z_lload_n (pc := 12) M dX5_fraction_12 rfl 0 rfl ?_
    obtain ⟨r1, h2, h⟩ := bo_in h
    refine z_scall (pc := 13) (As := [.long p1, .long p0]) M (kX5_common l p1 p0 r1 h2) (va_cwS 2 M.1.2.2.2.2 gX5_fraction_X5_common rfl rfl rfl (by decide +kernel) ⟨Nat.le_of_ble_eq_true rfl, Nat.le_of_ble_eq_true rfl⟩) rfl rfl (Nat.le_of_ble_eq_true rfl) dX5_fraction_13 ?_
    refine z_lstore (pc := 16) M dX5_fraction_16 (by decide) [1, 2, 3, 0] [(0, .long p0), (2, .long p1), (4, .int p2), (5, .long r1)] rfl ?_
    refine z_iload (pc := 18) M dX5_fraction_18 2 rfl ?_
    refine z_if_ne (pc := 20) 30 M dX5_fraction_20 (by decide) h (fun c_3 h => ?_) (fun c_3 h => ?_)
    · refine z_lload_n (pc := 30) M dX5_fraction_30 rfl 1 rfl ?_
      refine z_lload (pc := 31) M dX5_fraction_31 3 rfl ?_
      refine z_ldiv (pc := 33) M dX5_fraction_33 h (fun h => ?_)
      exact z_lretP (pc := 34) M h dX5_fraction_34
    · refine z_lload_n (pc := 23) M dX5_fraction_23 rfl 0 rfl ?_
      refine z_lload (pc := 24) M dX5_fraction_24 3 rfl ?_
      refine z_ldiv (pc := 26) M dX5_fraction_26 h (fun h => ?_)
      refine z_goto (pc := 27) 34 M dX5_fraction_27 (by decide) ?_
      exact z_lretP (pc := 34) M h dX5_fraction_34
  · refine z_lload_n (pc := 7) M dX5_fraction_7 rfl 0 rfl ?_
    refine z_lneg (pc := 8) M dX5_fraction_8 ?_
    refine z_goto (pc := 9) 13 M dX5_fraction_9 (by decide) ?_
    obtain ⟨r4, h5, h⟩ := bo_in h
    refine z_scall (pc := 13) (As := [.long p1, .long (-p0)]) M (kX5_common l p1 (-p0) r4 h5) (va_cwS 2 M.1.2.2.2.2 gX5_fraction_X5_common rfl rfl rfl (by decide +kernel) ⟨Nat.le_of_ble_eq_true rfl, Nat.le_of_ble_eq_true rfl⟩) rfl rfl (Nat.le_of_ble_eq_true rfl) dX5_fraction_13 ?_
    refine z_lstore (pc := 16) M dX5_fraction_16 (by decide) [1, 2, 3, 0] [(0, .long p0), (2, .long p1), (4, .int p2), (5, .long r4)] rfl ?_
    refine z_iload (pc := 18) M dX5_fraction_18 2 rfl ?_
    refine z_if_ne (pc := 20) 30 M dX5_fraction_20 (by decide) h (fun c_6 h => ?_) (fun c_6 h => ?_)
    · refine z_lload_n (pc := 30) M dX5_fraction_30 rfl 1 rfl ?_
      refine z_lload (pc := 31) M dX5_fraction_31 3 rfl ?_
      refine z_ldiv (pc := 33) M dX5_fraction_33 h (fun h => ?_)
      exact z_lretP (pc := 34) M h dX5_fraction_34
    · refine z_lload_n (pc := 23) M dX5_fraction_23 rfl 0 rfl ?_
      refine z_lload (pc := 24) M dX5_fraction_24 3 rfl ?_
      refine z_ldiv (pc := 26) M dX5_fraction_26 h (fun h => ?_)
      refine z_goto (pc := 27) 34 M dX5_fraction_27 (by decide) ?_
      exact z_lretP (pc := 34) M h dX5_fraction_34
def rmX5_isWhat : Room := { frames := 1, cells := 0, slots := 0, locals := 22 }
set_option maxRecDepth 100000 in
set_option maxHeartbeats 4000000 in
theorem kX5_isWhat (l : Launch) (p0 : Int32) (r : Bool) (h : fX5_isWhat p0 = some r) : CP l yX5_isWhat wsX5_isWhat rmX5_isWhat [.int p0] (some (.int (b2i r))) := by
  refine CP.of (cc := cX5_isWhat) (nL := 1) (ret := (some .boolean)) (own := RX5) rfl (by decide +kernel) rfl (Nat.le_of_ble_eq_true rfl) ?_
  intro p e s m args below meth c M
  unfold fX5_isWhat at h
  refine z_locals [0] [(0, .int p0)] rfl ?_
  refine z_iload_n (pc := 0) M dX5_isWhat_0 rfl 0 rfl ?_
  refine z_iconst (pc := 1) (v := 0) M dX5_isWhat_1 (by decide) ?_
  refine z_iconst (pc := 2) (v := 1) M dX5_isWhat_2 (by decide) ?_
  obtain ⟨r1, h2, h⟩ := bo_in h
  refine z_scall (pc := 3) (As := [.int p0, .int (0 : Int32), .int (1 : Int32)]) M (kX5_in l p0 (0 : Int32) (1 : Int32) r1 h2) (va_cwS 3 M.1.2.2.2.2 gX5_isWhat_X5_in rfl rfl rfl (by decide +kernel) ⟨Nat.le_of_ble_eq_true rfl, Nat.le_of_ble_eq_true rfl⟩) rfl rfl (Nat.le_of_ble_eq_true rfl) dX5_isWhat_3 ?_
  exact z_zretP (pc := 6) M h rfl dX5_isWhat_6
def rmX5_chance : Room := { frames := 3, cells := 0, slots := 0, locals := 63 }
theorem flX5_chance_20 : Cond.fieldLink RX5 20 "ShunLotsModel" "law" "[J" ∈ wsX5_chance := by decide +kernel
theorem wdX5_chance_Cond_constantLong_RX5_104_1 : Cond.constantLong RX5 104 (-1) ∈ wsX5_chance := by decide +kernel
theorem inX5_chance_X5 : ∀ w ∈ wsX50, w ∈ wsX5_chance := by decide +kernel
set_option maxRecDepth 100000 in
set_option maxHeartbeats 4000000 in
theorem kX5_chance (l : Launch) (D : va_G) (cy ad : Nat → Nat) (n : Nat) (p0 : Int32) (p1 : Int32) (p2 : Int32) (S : St) (r : Int64) (h : fX5_chance n p0 p1 p2 S = some r) : CW l D cy ad n yX5_chance wsX5_chance rmX5_chance [.ref (ad 12), .int p0, .int p1, .int p2] S (some (.long r)) S := by
  refine CW.of (cc := cX5_chance) (nL := 4) (ret := (some .long)) (own := RX5) rfl (by decide +kernel) rfl (Nat.le_of_ble_eq_true rfl) ?_
  intro p e s m args below meth c M K
  unfold fX5_chance at h
  refine z_locals [0, 1, 2, 3] [(0, .ref (ad 12)), (1, .int p0), (2, .int p1), (3, .int p2)] rfl ?_
  refine z_aload_n (pc := 0) M dX5_chance_0 rfl 0 rfl ?_
  refine z_iload_n (pc := 1) M dX5_chance_1 rfl 1 rfl ?_
  obtain ⟨r1, h2, h⟩ := bo_in h
  refine z_vcall (pc := 2) (As := [.int p0]) M K (kX5_isLaw l D cy ad n p0 S r1 h2) (cwV 1 M.1.2.2.2.2 gX5_chance_X5_isLaw rfl rfl rfl (by decide +kernel) ⟨Nat.le_of_ble_eq_true rfl, Nat.le_of_ble_eq_true rfl⟩) o_mod rfl rfl rfl (Nat.le_of_ble_eq_true rfl) dX5_chance_2 ?_
  refine z_if_eqB (pc := 5) 46 M dX5_chance_5 (by decide) h (fun c_13 h => ?_) (fun c_13 h => ?_)
  · refine z_ldc2 (pc := 46) M wdX5_chance_Cond_constantLong_RX5_104_1 dX5_chance_46 ?_
    exact z_lretW (pc := 49) M (Option.some.inj h) rfl dX5_chance_49
  · refine z_aload_n (pc := 8) M dX5_chance_8 rfl 0 rfl ?_
    refine z_iload_n (pc := 9) M dX5_chance_9 rfl 2 rfl ?_
    obtain ⟨r3, h4, h⟩ := bo_in h
    refine z_vcall (pc := 10) (As := [.int p1]) M K (kX5_isSet l D cy ad n p1 S r3 h4) (cwV 1 M.1.2.2.2.2 gX5_chance_X5_isSet rfl rfl rfl (by decide +kernel) ⟨Nat.le_of_ble_eq_true rfl, Nat.le_of_ble_eq_true rfl⟩) o_mod rfl rfl rfl (Nat.le_of_ble_eq_true rfl) dX5_chance_10 ?_
    refine z_if_eqB (pc := 13) 46 M dX5_chance_13 (by decide) h (fun c_12 h => ?_) (fun c_12 h => ?_)
    · refine z_ldc2 (pc := 46) M wdX5_chance_Cond_constantLong_RX5_104_1 dX5_chance_46 ?_
      exact z_lretW (pc := 49) M (Option.some.inj h) rfl dX5_chance_49
    · refine z_iload_n (pc := 16) M dX5_chance_16 rfl 3 rfl ?_
      obtain ⟨r5, h6, h⟩ := bo_in h
      refine z_scall (pc := 17) (As := [.int p2]) M (kX5_isWhat l p2 r5 h6) (va_cwS 1 M.1.2.2.2.2 gX5_chance_X5_isWhat rfl rfl rfl (by decide +kernel) ⟨Nat.le_of_ble_eq_true rfl, Nat.le_of_ble_eq_true rfl⟩) rfl rfl (Nat.le_of_ble_eq_true rfl) dX5_chance_17 ?_
      refine z_if_eqB (pc := 20) 46 M dX5_chance_20 (by decide) h (fun c_11 h => ?_) (fun c_11 h => ?_)
      · refine z_ldc2 (pc := 46) M wdX5_chance_Cond_constantLong_RX5_104_1 dX5_chance_46 ?_
        exact z_lretW (pc := 49) M (Option.some.inj h) rfl dX5_chance_49
      · refine z_aload_n (pc := 23) M dX5_chance_23 rfl 0 rfl ?_
        refine z_get (pc := 24) (v := .ref (ad 40)) M K inX5_chance_X5 o_mod rfl 5 (by decide) flX5_chance_20 rfl rfl dX5_chance_24 ?_
        refine z_bipush (pc := 27) (v := 64) M dX5_chance_27 (by decide) ?_
        refine z_iload_n (pc := 29) M dX5_chance_29 rfl 1 rfl ?_
        refine z_imul (pc := 30) M dX5_chance_30 ?_
        refine z_iload_n (pc := 31) M dX5_chance_31 rfl 2 rfl ?_
        refine z_iadd (pc := 32) M dX5_chance_32 ?_
        refine z_lald (pc := 33) M K ⟨by decide, rfl, rfl⟩ h dX5_chance_33 (fun _ h => ?_)
        refine z_aload_n (pc := 34) M dX5_chance_34 rfl 0 rfl ?_
        refine z_iload_n (pc := 35) M dX5_chance_35 rfl 1 rfl ?_
        obtain ⟨r7, h8, h⟩ := bo_in h
        refine z_vcall (pc := 36) (As := [.int p0]) M K (kX5_sum l D cy ad n p0 S r7 h8) (cwV 1 M.1.2.2.2.2 gX5_chance_X5_sum rfl rfl rfl (by decide +kernel) ⟨Nat.le_of_ble_eq_true rfl, Nat.le_of_ble_eq_true rfl⟩) o_mod rfl rfl rfl (Nat.le_of_ble_eq_true rfl) dX5_chance_36 ?_
        refine z_iload_n (pc := 39) M dX5_chance_39 rfl 3 rfl ?_
        obtain ⟨r9, h10, h⟩ := bo_in h
        refine z_scall (pc := 40) (As := [.long (S.2 40 (Int32.toNatClampNeg (((64 : Int32) * p0) + p1))), .long r7, .int p2]) M (kX5_fraction l (S.2 40 (Int32.toNatClampNeg (((64 : Int32) * p0) + p1))) r7 p2 r9 h10) (va_cwS 3 M.1.2.2.2.2 gX5_chance_X5_fraction rfl rfl rfl (by decide +kernel) ⟨Nat.le_of_ble_eq_true rfl, Nat.le_of_ble_eq_true rfl⟩) rfl rfl (Nat.le_of_ble_eq_true rfl) dX5_chance_40 ?_
        refine z_goto (pc := 43) 49 M dX5_chance_43 (by decide) ?_
        exact z_lretW (pc := 49) M (Option.some.inj h) rfl dX5_chance_49
def rmX5_sumOf : Room := { frames := 0, cells := 0, slots := 0, locals := 0 }
theorem flX5_sumOf_20 : Cond.fieldLink RX5 20 "ShunLotsModel" "law" "[J" ∈ wsX5_sumOf := by decide +kernel
theorem flX5_sumOf_49 : Cond.fieldLink RX5 49 "ShunLotsModel" "sets" "I" ∈ wsX5_sumOf := by decide +kernel
theorem inX5_sumOf_X5 : ∀ w ∈ wsX50, w ∈ wsX5_sumOf := by decide +kernel
set_option maxRecDepth 100000 in
set_option maxHeartbeats 4000000 in
theorem LX5_sumOf_1 {p : Program} {l : Launch} {e : Env} {s : State} {m : MethodId} {args : Array Value} {below : List Frame} {meth : Method} {c : Code} {Q : State → Prop} {D : va_G} {cy ad : Nat → Nat} {n : Nat} (M : MX p m c cX5_sumOf 7 s args wsX5_sumOf RX5 meth (some .long)) (K : KK D cy ad s) (x1 : Int32) (x2 : Int32) (x3 : Int32)  (S : St) : ∀ (fuel : Nat) (x4 : Int64) (x6 : Int32) (o : (Int64)), lX5_sumOf_1 n x1 x2 x3 S fuel x4 x6 = some o → ∀ (hx : ∀ a, o = a → Zz p l e rmX5_sumOf s m args below meth c 7 Q (Hw D cy ad n s S) 53 [(4, .long a)] []) , Zz p l e rmX5_sumOf s m args below meth c 7 Q (Hw D cy ad n s S) 6 [(0, .ref (ad 12)), (1, .int x1), (2, .int x2), (3, .int x3), (4, .long x4), (6, .int x6)] [] := by
  intro fuel
  induction fuel with
  | zero => intro x4 x6 o h; exact nomatch (show (none : Option _) = some o from h)
  | succ fuel ih =>
    intro x4 x6 o h hx 
    have h : bX5_sumOf_1 n x1 x2 x3 S (lX5_sumOf_1 n x1 x2 x3 S fuel) x4 x6 = some o := h
    unfold bX5_sumOf_1 at h
    refine z_iload (pc := 6) M dX5_sumOf_6 5 rfl ?_
    refine z_aload_n (pc := 8) M dX5_sumOf_8 rfl 0 rfl ?_
    refine z_get (pc := 9) (v := .int (nI (2 ^ n))) M K inX5_sumOf_X5 o_mod rfl 1 (by decide) flX5_sumOf_49 rfl rfl dX5_sumOf_9 ?_
    refine z_icmp_ge (pc := 12) 53 M dX5_sumOf_12 (by decide) h (fun c_3 h => ?_) (fun c_3 h => ?_)
    · refine z_locals [4] [(4, .long x4)] rfl ?_
      cases h
      exact hx _ rfl
    · refine z_iload (pc := 15) M dX5_sumOf_15 5 rfl ?_
      refine z_iload_n (pc := 17) M dX5_sumOf_17 rfl 2 rfl ?_
      refine z_iand (pc := 18) M dX5_sumOf_18 ?_
      refine z_iload_n (pc := 19) M dX5_sumOf_19 rfl 2 rfl ?_
      refine z_icmp_ne (pc := 20) 47 M dX5_sumOf_20 (by decide) h (fun c_2 h => ?_) (fun c_2 h => ?_)
      · refine z_iinc (pc := 47) M dX5_sumOf_47 (x6 + 1) rfl 5 rfl (by decide) [1, 2, 3, 4, 5, 0] [(0, .ref (ad 12)), (1, .int x1), (2, .int x2), (3, .int x3), (4, .long x4), (6, .int (x6 + 1))] rfl ?_
        refine z_goto (pc := 50) 6 M dX5_sumOf_50 (by decide) ?_
        refine z_locals [0, 1, 2, 3, 4, 5] [(0, .ref (ad 12)), (1, .int x1), (2, .int x2), (3, .int x3), (4, .long x4), (6, .int (x6 + 1))] rfl ?_
        exact ih x4 (x6 + 1) _ h hx
      · refine z_iload (pc := 23) M dX5_sumOf_23 5 rfl ?_
        refine z_iload_n (pc := 25) M dX5_sumOf_25 rfl 3 rfl ?_
        refine z_iand (pc := 26) M dX5_sumOf_26 ?_
        refine z_if_ne (pc := 27) 47 M dX5_sumOf_27 (by decide) h (fun c_1 h => ?_) (fun c_1 h => ?_)
        · refine z_iinc (pc := 47) M dX5_sumOf_47 (x6 + 1) rfl 5 rfl (by decide) [1, 2, 3, 4, 5, 0] [(0, .ref (ad 12)), (1, .int x1), (2, .int x2), (3, .int x3), (4, .long x4), (6, .int (x6 + 1))] rfl ?_
          refine z_goto (pc := 50) 6 M dX5_sumOf_50 (by decide) ?_
          refine z_locals [0, 1, 2, 3, 4, 5] [(0, .ref (ad 12)), (1, .int x1), (2, .int x2), (3, .int x3), (4, .long x4), (6, .int (x6 + 1))] rfl ?_
          exact ih x4 (x6 + 1) _ h hx
        · refine z_lload (pc := 30) M dX5_sumOf_30 4 rfl ?_
          refine z_aload_n (pc := 32) M dX5_sumOf_32 rfl 0 rfl ?_
          refine z_get (pc := 33) (v := .ref (ad 40)) M K inX5_sumOf_X5 o_mod rfl 5 (by decide) flX5_sumOf_20 rfl rfl dX5_sumOf_33 ?_
          refine z_bipush (pc := 36) (v := 64) M dX5_sumOf_36 (by decide) ?_
          refine z_iload_n (pc := 38) M dX5_sumOf_38 rfl 1 rfl ?_
          refine z_imul (pc := 39) M dX5_sumOf_39 ?_
          refine z_iload (pc := 40) M dX5_sumOf_40 5 rfl ?_
          refine z_iadd (pc := 42) M dX5_sumOf_42 ?_
          refine z_lald (pc := 43) M K ⟨by decide, rfl, rfl⟩ h dX5_sumOf_43 (fun _ h => ?_)
          refine z_ladd (pc := 44) M dX5_sumOf_44 ?_
          refine z_lstore (pc := 45) M dX5_sumOf_45 (by decide) [1, 2, 3, 4, 0, 5] [(0, .ref (ad 12)), (1, .int x1), (2, .int x2), (3, .int x3), (4, .long (x4 + (S.2 40 (Int32.toNatClampNeg (((64 : Int32) * x1) + x6))))), (6, .int x6)] rfl ?_
          refine z_iinc (pc := 47) M dX5_sumOf_47 (x6 + 1) rfl 5 rfl (by decide) [1, 2, 3, 4, 5, 0] [(0, .ref (ad 12)), (1, .int x1), (2, .int x2), (3, .int x3), (4, .long (x4 + (S.2 40 (Int32.toNatClampNeg (((64 : Int32) * x1) + x6))))), (6, .int (x6 + 1))] rfl ?_
          refine z_goto (pc := 50) 6 M dX5_sumOf_50 (by decide) ?_
          refine z_locals [0, 1, 2, 3, 4, 5] [(0, .ref (ad 12)), (1, .int x1), (2, .int x2), (3, .int x3), (4, .long (x4 + (S.2 40 (Int32.toNatClampNeg (((64 : Int32) * x1) + x6))))), (6, .int (x6 + 1))] rfl ?_
          exact ih (x4 + (S.2 40 (Int32.toNatClampNeg (((64 : Int32) * x1) + x6)))) (x6 + 1) _ h hx
set_option maxRecDepth 100000 in
set_option maxHeartbeats 4000000 in
theorem kX5_sumOf (l : Launch) (D : va_G) (cy ad : Nat → Nat) (n : Nat) (p0 : Int32) (p1 : Int32) (p2 : Int32) (S : St) (r : Int64) (h : fX5_sumOf n p0 p1 p2 S = some r) : CW l D cy ad n yX5_sumOf wsX5_sumOf rmX5_sumOf [.ref (ad 12), .int p0, .int p1, .int p2] S (some (.long r)) S := by
  refine CW.of (cc := cX5_sumOf) (nL := 7) (ret := (some .long)) (own := RX5) rfl (by decide +kernel) rfl (Nat.le_of_ble_eq_true rfl) ?_
  intro p e s m args below meth c M K
  unfold fX5_sumOf at h
  refine z_locals [0, 1, 2, 3] [(0, .ref (ad 12)), (1, .int p0), (2, .int p1), (3, .int p2)] rfl ?_
  refine z_lconst (pc := 0) (v := 0) M dX5_sumOf_0 (by decide) ?_
  refine z_lstore (pc := 1) M dX5_sumOf_1 (by decide) [1, 2, 3, 4, 0] [(0, .ref (ad 12)), (1, .int p0), (2, .int p1), (3, .int p2), (4, .long (0 : Int64))] rfl ?_
  refine z_iconst (pc := 3) (v := 0) M dX5_sumOf_3 (by decide) ?_
  refine z_istore (pc := 4) M dX5_sumOf_4 (by decide) [1, 2, 3, 4, 5, 0] [(0, .ref (ad 12)), (1, .int p0), (2, .int p1), (3, .int p2), (4, .long (0 : Int64)), (6, .int (0 : Int32))] rfl ?_
  refine z_locals [0, 1, 2, 3, 4, 5] [(0, .ref (ad 12)), (1, .int p0), (2, .int p1), (3, .int p2), (4, .long (0 : Int64)), (6, .int (0 : Int32))] rfl ?_
  obtain ⟨q4, h5, h⟩ := bo_in h
  refine LX5_sumOf_1 M K p0 p1 p2 S FU (0 : Int64) (0 : Int32) _ h5 (fun a hE => ?_)
  cases hE
  refine z_lload (pc := 53) M dX5_sumOf_53 0 rfl ?_
  exact z_lretW (pc := 55) M (Option.some.inj h) rfl dX5_sumOf_55
