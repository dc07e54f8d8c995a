def rmX4_draftWorths : Room := { frames := 4, cells := 0, slots := 0, locals := 97 }
theorem flX4_draftWorths_22 : Cond.fieldLink RX4 22 "ShunLots" "sets" "I" ∈ wsX4_draftWorths := by decide +kernel
theorem flX4_draftWorths_52 : Cond.fieldLink RX4 52 "ShunLots" "draft" "[J" ∈ wsX4_draftWorths := by decide +kernel
theorem flX4_draftWorths_58 : Cond.fieldLink RX4 58 "ShunLots" "square" "LShunLots$Square;" ∈ wsX4_draftWorths := by decide +kernel
theorem inX4_draftWorths_X4 : ∀ w ∈ wsX40, w ∈ wsX4_draftWorths := by decide +kernel
set_option maxRecDepth 100000 in
set_option maxHeartbeats 4000000 in
theorem LX4_draftWorths_1 {p : Program} {l : Launch} {e : Env} {s : State} {m : MethodId} {args : Array Value} {below : List Frame} {meth : Method} {c : Code} {Q : State → Prop} {D : va_G} {cy ad : Nat → Nat} {n : Nat} (M : MX p m c cX4_draftWorths 3 s args wsX4_draftWorths RX4 meth (some .int)) (K : KK D cy ad s) (t1 : Nat) (h_t1 : t1 < 6)  : ∀ (fuel : Nat) (x2 : Int32) (S : St) (o : ((Unit) ⊕ Int32) × St), lX4_draftWorths_1 n t1 fuel x2 S = some o → ∀ (hx : ∀ a S', o = (.inl a, S') → Zz p l e rmX4_draftWorths s m args below meth c 3 Q (Hw D cy ad n s S') 45 [] []) (hq : ∀ r S', o = (.inr r, S') → Q = Qw D cy ad n below args s (some (.int r)) S'), Zz p l e rmX4_draftWorths s m args below meth c 3 Q (Hw D cy ad n s S) 2 [(0, .ref (ad 0)), (1, .ref (ad (13 + t1))), (2, .int x2)] [] := by
  intro fuel
  induction fuel with
  | zero => intro x2 S o h; exact nomatch (show (none : Option _) = some o from h)
  | succ fuel ih =>
    intro x2 S o h hx hq
    have h : bX4_draftWorths_1 n t1 (lX4_draftWorths_1 n t1 fuel) x2 S = some o := h
    unfold bX4_draftWorths_1 at h
    refine z_iload_n (pc := 2) M dX4_draftWorths_2 rfl 2 rfl ?_
    refine z_aload_n (pc := 3) M dX4_draftWorths_3 rfl 0 rfl ?_
    refine z_get (pc := 4) (v := .int (nI (2 ^ n))) M K inX4_draftWorths_X4 o_obj rfl 1 (by decide) flX4_draftWorths_22 rfl rfl dX4_draftWorths_4 ?_
    refine z_icmp_ge (pc := 7) 45 M dX4_draftWorths_7 (by decide) h (fun c_5 h => ?_) (fun c_5 h => ?_)
    · refine z_locals [] [] rfl ?_
      cases h
      exact hx _ _ rfl
    · refine z_aload_n (pc := 10) M dX4_draftWorths_10 rfl 0 rfl ?_
      refine z_get (pc := 11) (v := .ref (ad 5)) M K inX4_draftWorths_X4 o_obj rfl 6 (by decide) flX4_draftWorths_52 rfl rfl dX4_draftWorths_11 ?_
      refine z_iload_n (pc := 14) M dX4_draftWorths_14 rfl 2 rfl ?_
      refine z_aload_n (pc := 15) M dX4_draftWorths_15 rfl 1 rfl ?_
      refine z_iload_n (pc := 16) M dX4_draftWorths_16 rfl 2 rfl ?_
      refine z_iconst (pc := 17) (v := 0) M dX4_draftWorths_17 (by decide) ?_
      refine z_aload_n (pc := 18) M dX4_draftWorths_18 rfl 0 rfl ?_
      refine z_get (pc := 19) (v := .ref (ad 6)) M K inX4_draftWorths_X4 o_obj rfl 7 (by decide) flX4_draftWorths_58 rfl rfl dX4_draftWorths_19 ?_
      obtain ⟨r1, S3, h2, h⟩ := bw_in h
      refine z_vcall (pc := 22) (As := [.int x2, .int (0 : Int32), .ref (ad 6)]) M K (kX3_worthOf l D cy ad n t1 h_t1 x2 (0 : Int32) S r1 S3 h2) (cwV 3 M.1.2.2.2.2 gX4_draftWorths_X3_worthOf rfl rfl rfl (by decide +kernel) ⟨Nat.le_of_ble_eq_true rfl, Nat.le_of_ble_eq_true rfl⟩) (o_tab h_t1) rfl rfl rfl (Nat.le_of_ble_eq_true rfl) dX4_draftWorths_22 ?_
      refine z_last (pc := 25) M K ⟨by decide, rfl, rfl⟩ h dX4_draftWorths_25 (fun h => ?_)
      refine z_aload_n (pc := 26) M dX4_draftWorths_26 rfl 0 rfl ?_
      refine z_get (pc := 27) (v := .ref (ad 5)) M K inX4_draftWorths_X4 o_obj rfl 6 (by decide) flX4_draftWorths_52 rfl rfl dX4_draftWorths_27 ?_
      refine z_iload_n (pc := 30) M dX4_draftWorths_30 rfl 2 rfl ?_
      refine z_lald (pc := 31) M K ⟨by decide, rfl, rfl⟩ h dX4_draftWorths_31 (fun _ h => ?_)
      refine z_lconst (pc := 32) (v := 0) M dX4_draftWorths_32 (by decide) ?_
      refine z_lcmp (pc := 33) M dX4_draftWorths_33 ?_
      refine z_if_ge (pc := 34) 39 M dX4_draftWorths_34 (by decide) h (fun c_4 h => ?_) (fun c_4 h => ?_)
      · refine z_iinc (pc := 39) M dX4_draftWorths_39 (x2 + 1) rfl 2 rfl (by decide) [1, 2, 0] [(0, .ref (ad 0)), (1, .ref (ad (13 + t1))), (2, .int (x2 + 1))] rfl ?_
        refine z_goto (pc := 42) 2 M dX4_draftWorths_42 (by decide) ?_
        refine z_locals [0, 1, 2] [(0, .ref (ad 0)), (1, .ref (ad (13 + t1))), (2, .int (x2 + 1))] rfl ?_
        exact ih (x2 + 1) (sJ S3 5 (Int32.toNatClampNeg x2) r1) _ h hx hq
      · refine z_iload_n (pc := 37) M dX4_draftWorths_37 rfl 2 rfl ?_
        cases h
        rw [hq _ _ rfl]
        exact z_iretW (pc := 38) M rfl rfl dX4_draftWorths_38
set_option maxRecDepth 100000 in
set_option maxHeartbeats 4000000 in
theorem kX4_draftWorths (l : Launch) (D : va_G) (cy ad : Nat → Nat) (n : Nat) (a0 : Nat) (h_a0 : a0 < 6) (S : St) (r : Int32) (S' : St) (h : fX4_draftWorths n a0 S = some (r, S')) : CW l D cy ad n yX4_draftWorths wsX4_draftWorths rmX4_draftWorths [.ref (ad 0), .ref (ad (13 + a0))] S (some (.int r)) S' := by
  refine CW.of (cc := cX4_draftWorths) (nL := 3) (ret := (some .int)) (own := RX4) rfl (by decide +kernel) rfl (Nat.le_of_ble_eq_true rfl) ?_
  intro p e s m args below meth c M K
  unfold fX4_draftWorths at h
  refine z_locals [0, 1] [(0, .ref (ad 0)), (1, .ref (ad (13 + a0)))] rfl ?_
  refine z_iconst (pc := 0) (v := 0) M dX4_draftWorths_0 (by decide) ?_
  refine z_istore_n (pc := 1) M dX4_draftWorths_1 rfl (by decide) [1, 2, 0] [(0, .ref (ad 0)), (1, .ref (ad (13 + a0))), (2, .int (0 : Int32))] rfl ?_
  refine z_locals [0, 1, 2] [(0, .ref (ad 0)), (1, .ref (ad (13 + a0))), (2, .int (0 : Int32))] rfl ?_
  rcases bsw_in h with ⟨q6, S8, h7, h⟩ | ⟨r9, S9, h7, h⟩
  · refine LX4_draftWorths_1 M K a0 h_a0 FU (0 : Int32) S _ h7 (fun a S' hE => ?_) (fun r S' e9 => nomatch e9)
    cases hE
    refine z_iconst (pc := 45) (v := -1) M dX4_draftWorths_45 (by decide) ?_
    exact z_iretW (pc := 46) M (congrArg Prod.fst (Option.some.inj h)) (congrArg Prod.snd (Option.some.inj h)) dX4_draftWorths_46
  · exact LX4_draftWorths_1 M K a0 h_a0 FU (0 : Int32) S _ h7 (fun a S' e9 => nomatch e9) (fun r S' e9 => by cases e9; cases h; rfl)
def rmX4_why : Room := { frames := 5, cells := 0, slots := 0, locals := 119 }
theorem flX4_why_27 : Cond.fieldLink RX4 27 "ShunLots" "tables" "[LShunLots$Table;" ∈ wsX4_why := by decide +kernel
theorem inX4_why_X4 : ∀ w ∈ wsX40, w ∈ wsX4_why := by decide +kernel
set_option maxRecDepth 100000 in
set_option maxHeartbeats 4000000 in
theorem kX4_why (l : Launch) (D : va_G) (cy ad : Nat → Nat) (n : Nat) (p0 : Int32) (S : St) (r : Int32) (S' : St) (h : fX4_why n p0 S = some (r, S')) : CW l D cy ad n yX4_why wsX4_why rmX4_why [.ref (ad 0), .int p0] S (some (.int r)) S' := by
  refine CW.of (cc := cX4_why) (nL := 2) (ret := (some .int)) (own := RX4) rfl (by decide +kernel) rfl (Nat.le_of_ble_eq_true rfl) ?_
  intro p e s m args below meth c M K
  unfold fX4_why at h
  refine z_locals [0, 1] [(0, .ref (ad 0)), (1, .int p0)] rfl ?_
  refine z_iload_n (pc := 0) M dX4_why_0 rfl 1 rfl ?_
  obtain ⟨r1, h2, h⟩ := bo_in h
  refine z_scall (pc := 1) (As := [.int p0]) M (kX4_isPlace l p0 r1 h2) (va_cwS 1 M.1.2.2.2.2 gX4_why_X4_isPlace rfl rfl rfl (by decide +kernel) ⟨Nat.le_of_ble_eq_true rfl, Nat.le_of_ble_eq_true rfl⟩) rfl rfl (Nat.le_of_ble_eq_true rfl) dX4_why_1 ?_
  refine z_if_neB (pc := 4) 9 M dX4_why_4 (by decide) h (fun c_6 h => ?_) (fun c_6 h => ?_)
  · refine z_aload_n (pc := 9) M dX4_why_9 rfl 0 rfl ?_
    refine z_aload_n (pc := 10) M dX4_why_10 rfl 0 rfl ?_
    refine z_get (pc := 11) (v := .ref (ad 1)) M K inX4_why_X4 o_obj rfl 2 (by decide) flX4_why_27 rfl rfl dX4_why_11 ?_
    refine z_iload_n (pc := 14) M dX4_why_14 rfl 1 rfl ?_
    refine z_aaldT (pc := 15) M K h dX4_why_15 (fun h_Int32_toNatClampNeg_p0 h => ?_)
    obtain ⟨r3, S5, h4, h⟩ := bw_in h
    refine z_vcall (pc := 16) (As := [.ref (ad (13 + (Int32.toNatClampNeg p0)))]) M K (kX4_draftWorths l D cy ad n (Int32.toNatClampNeg p0) h_Int32_toNatClampNeg_p0 S r3 S5 h4) (cwV 1 M.1.2.2.2.2 gX4_why_X4_draftWorths rfl rfl rfl (by decide +kernel) ⟨Nat.le_of_ble_eq_true rfl, Nat.le_of_ble_eq_true rfl⟩) o_obj rfl rfl rfl (Nat.le_of_ble_eq_true rfl) dX4_why_16 ?_
    exact z_iretW (pc := 19) M (congrArg Prod.fst (Option.some.inj h)) (congrArg Prod.snd (Option.some.inj h)) dX4_why_19
  · refine z_iconst (pc := 7) (v := -1) M dX4_why_7 (by decide) ?_
    exact z_iretW (pc := 8) M (congrArg Prod.fst (Option.some.inj h)) (congrArg Prod.snd (Option.some.inj h)) dX4_why_8
def rmX4_whole : Room := { frames := 4, cells := 0, slots := 0, locals := 97 }
theorem flX4_whole_22 : Cond.fieldLink RX4 22 "ShunLots" "sets" "I" ∈ wsX4_whole := by decide +kernel
theorem flX4_whole_27 : Cond.fieldLink RX4 27 "ShunLots" "tables" "[LShunLots$Table;" ∈ wsX4_whole := by decide +kernel
theorem flX4_whole_58 : Cond.fieldLink RX4 58 "ShunLots" "square" "LShunLots$Square;" ∈ wsX4_whole := by decide +kernel
theorem inX4_whole_X4 : ∀ w ∈ wsX40, w ∈ wsX4_whole := by decide +kernel
set_option maxRecDepth 100000 in
set_option maxHeartbeats 4000000 in
theorem kX4_whole (l : Launch) (D : va_G) (cy ad : Nat → Nat) (n : Nat) (p0 : Int32) (S : St) (r : Int64) (S' : St) (h : fX4_whole n p0 S = some (r, S')) : CW l D cy ad n yX4_whole wsX4_whole rmX4_whole [.ref (ad 0), .int p0] S (some (.long r)) S' := by
  refine CW.of (cc := cX4_whole) (nL := 2) (ret := (some .long)) (own := RX4) rfl (by decide +kernel) rfl (Nat.le_of_ble_eq_true rfl) ?_
  intro p e s m args below meth c M K
  unfold fX4_whole at h
  refine z_locals [0, 1] [(0, .ref (ad 0)), (1, .int p0)] rfl ?_
  refine z_iload_n (pc := 0) M dX4_whole_0 rfl 1 rfl ?_
  obtain ⟨r1, h2, h⟩ := bo_in h
  refine z_scall (pc := 1) (As := [.int p0]) M (kX4_isPlace l p0 r1 h2) (va_cwS 1 M.1.2.2.2.2 gX4_whole_X4_isPlace rfl rfl rfl (by decide +kernel) ⟨Nat.le_of_ble_eq_true rfl, Nat.le_of_ble_eq_true rfl⟩) rfl rfl (Nat.le_of_ble_eq_true rfl) dX4_whole_1 ?_
  refine z_if_neB (pc := 4) 9 M dX4_whole_4 (by decide) h (fun c_6 h => ?_) (fun c_6 h => ?_)
  · refine z_aload_n (pc := 9) M dX4_whole_9 rfl 0 rfl ?_
    refine z_get (pc := 10) (v := .ref (ad 1)) M K inX4_whole_X4 o_obj rfl 2 (by decide) flX4_whole_27 rfl rfl dX4_whole_10 ?_
    refine z_iload_n (pc := 13) M dX4_whole_13 rfl 1 rfl ?_
    refine z_aaldT (pc := 14) M K h dX4_whole_14 (fun h_Int32_toNatClampNeg_p0 h => ?_)
    refine z_aload_n (pc := 15) M dX4_whole_15 rfl 0 rfl ?_
    refine z_get (pc := 16) (v := .int (nI (2 ^ n))) M K inX4_whole_X4 o_obj rfl 1 (by decide) flX4_whole_22 rfl rfl dX4_whole_16 ?_
    refine z_iconst (pc := 19) (v := 1) M dX4_whole_19 (by decide) ?_
    refine z_isub (pc := 20) M dX4_whole_20 ?_
    refine z_iconst (pc := 21) (v := 1) M dX4_whole_21 (by decide) ?_
    refine z_aload_n (pc := 22) M dX4_whole_22 rfl 0 rfl ?_
    refine z_get (pc := 23) (v := .ref (ad 6)) M K inX4_whole_X4 o_obj rfl 7 (by decide) flX4_whole_58 rfl rfl dX4_whole_23 ?_
    obtain ⟨r3, S5, h4, h⟩ := bw_in h
    refine z_vcall (pc := 26) (As := [.int ((nI (2 ^ n)) - (1 : Int32)), .int (1 : Int32), .ref (ad 6)]) M K (kX3_worthOf l D cy ad n (Int32.toNatClampNeg p0) h_Int32_toNatClampNeg_p0 ((nI (2 ^ n)) - (1 : Int32)) (1 : Int32) S r3 S5 h4) (cwV 3 M.1.2.2.2.2 gX4_whole_X3_worthOf rfl rfl rfl (by decide +kernel) ⟨Nat.le_of_ble_eq_true rfl, Nat.le_of_ble_eq_true rfl⟩) (o_tab h_Int32_toNatClampNeg_p0) rfl rfl rfl (Nat.le_of_ble_eq_true rfl) dX4_whole_26 ?_
    exact z_lretW (pc := 29) M (congrArg Prod.fst (Option.some.inj h)) (congrArg Prod.snd (Option.some.inj h)) dX4_whole_29
  · refine z_lconst (pc := 7) (v := 0) M dX4_whole_7 (by decide) ?_
    exact z_lretW (pc := 8) M (congrArg Prod.fst (Option.some.inj h)) (congrArg Prod.snd (Option.some.inj h)) dX4_whole_8
def rmX4_commonDivisor : Room := { frames := 0, cells := 0, slots := 0, locals := 0 }
set_option maxRecDepth 100000 in
set_option maxHeartbeats 4000000 in
theorem LX4_commonDivisor_1 {p : Program} {l : Launch} {e : Env} {s : State} {m : MethodId} {args : Array Value} {below : List Frame} {meth : Method} {c : Code} {Q : State → Prop} (M : MX p m c cX4_commonDivisor 11 s args wsX4_commonDivisor RX4 meth (some .long))    : ∀ (fuel : Nat) (x4 : Int64) (x6 : Int64) (x8 : Int32) (o : (Int64)), lX4_commonDivisor_1  fuel x4 x6 x8 = some o → ∀ (hx : ∀ a, o = a → Zz p l e rmX4_commonDivisor s m args below meth c 11 Q (Hp s) 44 [(4, .long a)] []) , Zz p l e rmX4_commonDivisor s m args below meth c 11 Q (Hp s) 9 [(4, .long x4), (6, .long x6), (8, .int x8)] [] := by
  intro fuel
  induction fuel with
  | zero => intro x4 x6 x8 o h; exact nomatch (show (none : Option _) = some o from h)
  | succ fuel ih =>
    intro x4 x6 x8 o h hx 
    have h : bX4_commonDivisor_1  (lX4_commonDivisor_1  fuel) x4 x6 x8 = some o := h
    unfold bX4_commonDivisor_1 at h
    refine z_iload (pc := 9) M dX4_commonDivisor_9 2 rfl ?_
    refine z_bipush (pc := 11) (v := 100) M dX4_commonDivisor_11 (by decide) ?_
    refine z_icmp_ge (pc := 13) 44 M dX4_commonDivisor_13 (by decide) h (fun c_2 h => ?_) (fun c_2 h => ?_)
    · refine z_locals [0] [(4, .long x4)] rfl ?_
      cases h
      exact hx _ rfl
    · refine z_lload (pc := 16) M dX4_commonDivisor_16 1 rfl ?_
      refine z_lconst (pc := 18) (v := 0) M dX4_commonDivisor_18 (by decide) ?_
      refine z_lcmp (pc := 19) M dX4_commonDivisor_19 ?_
      refine z_if_eq (pc := 20) 44 M dX4_commonDivisor_20 (by decide) h (fun c_1 h => ?_) (fun c_1 h => ?_)
      · refine z_locals [0] [(4, .long x4)] rfl ?_
        cases h
        exact hx _ rfl
      · refine z_lload (pc := 23) M dX4_commonDivisor_23 0 rfl ?_
        refine z_lload (pc := 25) M dX4_commonDivisor_25 1 rfl ?_
        refine z_lrem (pc := 27) M dX4_commonDivisor_27 h (fun h => ?_)
        refine z_lstore (pc := 28) M dX4_commonDivisor_28 (by decide) [2, 3, 0] [(6, .long x6), (8, .int x8), (9, .long (x4 - x4 / x6 * x6))] rfl ?_
        refine z_lload (pc := 30) M dX4_commonDivisor_30 0 rfl ?_
        refine z_lstore (pc := 32) M dX4_commonDivisor_32 (by decide) [0, 2, 3] [(4, .long x6), (8, .int x8), (9, .long (x4 - x4 / x6 * x6))] rfl ?_
        refine z_lload (pc := 34) M dX4_commonDivisor_34 2 rfl ?_
        refine z_lstore (pc := 36) M dX4_commonDivisor_36 (by decide) [1, 0, 2] [(4, .long x6), (6, .long (x4 - x4 / x6 * x6)), (8, .int x8)] rfl ?_
        refine z_iinc (pc := 38) M dX4_commonDivisor_38 (x8 + 1) rfl 2 rfl (by decide) [1, 2, 0] [(4, .long x6), (6, .long (x4 - x4 / x6 * x6)), (8, .int (x8 + 1))] rfl ?_
        refine z_goto (pc := 41) 9 M dX4_commonDivisor_41 (by decide) ?_
        refine z_locals [0, 1, 2] [(4, .long x6), (6, .long (x4 - x4 / x6 * x6)), (8, .int (x8 + 1))] rfl ?_
        exact ih x6 (x4 - x4 / x6 * x6) (x8 + 1) _ h hx
set_option maxRecDepth 100000 in
set_option maxHeartbeats 4000000 in
theorem kX4_commonDivisor (l : Launch) (p0 : Int64) (p1 : Int64) (r : Int64) (h : fX4_commonDivisor p0 p1 = some r) : CP l yX4_commonDivisor wsX4_commonDivisor rmX4_commonDivisor [.long p0, .long p1] (some (.long r)) := by
  refine CP.of (cc := cX4_commonDivisor) (nL := 11) (ret := (some .long)) (own := RX4) rfl (by decide +kernel) rfl (Nat.le_of_ble_eq_true rfl) ?_
  intro p e s m args below meth c M
  unfold fX4_commonDivisor at h
  refine z_locals [0, 1] [(0, .long p0), (2, .long p1)] rfl ?_
  refine z_lload_n (pc := 0) M dX4_commonDivisor_0 rfl 0 rfl ?_
  refine z_lstore (pc := 1) M dX4_commonDivisor_1 (by decide) [2, 0] [(2, .long p1), (4, .long p0)] rfl ?_
  refine z_lload_n (pc := 3) M dX4_commonDivisor_3 rfl 0 rfl ?_
  refine z_lstore (pc := 4) M dX4_commonDivisor_4 (by decide) [2, 0] [(4, .long p0), (6, .long p1)] rfl ?_
  refine z_iconst (pc := 6) (v := 0) M dX4_commonDivisor_6 (by decide) ?_
  refine z_istore (pc := 7) M dX4_commonDivisor_7 (by decide) [1, 2, 0] [(4, .long p0), (6, .long p1), (8, .int (0 : Int32))] rfl ?_
  refine z_locals [0, 1, 2] [(4, .long p0), (6, .long p1), (8, .int (0 : Int32))] rfl ?_
  obtain ⟨q3, h4, h⟩ := bo_in h
  refine LX4_commonDivisor_1 M FU p0 p1 (0 : Int32) _ h4 (fun a hE => ?_)
  cases hE
  refine z_lload (pc := 44) M dX4_commonDivisor_44 0 rfl ?_
  exact z_lretP (pc := 46) M h dX4_commonDivisor_46
def rmX4_settle : Room := { frames := 1, cells := 0, slots := 0, locals := 30 }
theorem flX4_settle_22 : Cond.fieldLink RX4 22 "ShunLots" "sets" "I" ∈ wsX4_settle := by decide +kernel
theorem flX4_settle_33 : Cond.fieldLink RX4 33 "ShunLots" "laws" "[LShunLots$Law;" ∈ wsX4_settle := by decide +kernel
theorem flX4_settle_52 : Cond.fieldLink RX4 52 "ShunLots" "draft" "[J" ∈ wsX4_settle := by decide +kernel
theorem wdX4_settle_Cond_constantLong_RX4_115_4000000 : Cond.constantLong RX4 115 (4000000) ∈ wsX4_settle := by decide +kernel
theorem inX4_settle_X4 : ∀ w ∈ wsX40, w ∈ wsX4_settle := by decide +kernel
set_option maxRecDepth 100000 in
set_option maxHeartbeats 4000000 in
theorem LX4_settle_1 {p : Program} {l : Launch} {e : Env} {s : State} {m : MethodId} {args : Array Value} {below : List Frame} {meth : Method} {c : Code} {Q : State → Prop} {D : va_G} {cy ad : Nat → Nat} {n : Nat} (M : MX p m c cX4_settle 5 s args wsX4_settle RX4 meth (some .boolean)) (K : KK D cy ad s) (x1 : Int32)  (S : St) : ∀ (fuel : Nat) (x2 : Int64) (x4 : Int32) (o : (Int64)), lX4_settle_1 n x1 S fuel x2 x4 = some o → ∀ (hx : ∀ a, o = a → Zz p l e rmX4_settle s m args below meth c 5 Q (Hw D cy ad n s S) 32 [(0, .ref (ad 0)), (1, .int x1), (2, .long a)] []) , Zz p l e rmX4_settle s m args below meth c 5 Q (Hw D cy ad n s S) 5 [(0, .ref (ad 0)), (1, .int x1), (2, .long x2), (4, .int x4)] [] := by
  intro fuel
  induction fuel with
  | zero => intro x2 x4 o h; exact nomatch (show (none : Option _) = some o from h)
  | succ fuel ih =>
    intro x2 x4 o h hx 
    have h : bX4_settle_1 n x1 S (lX4_settle_1 n x1 S fuel) x2 x4 = some o := h
    unfold bX4_settle_1 at h
    refine z_iload (pc := 5) M dX4_settle_5 3 rfl ?_
    refine z_aload_n (pc := 7) M dX4_settle_7 rfl 0 rfl ?_
    refine z_get (pc := 8) (v := .int (nI (2 ^ n))) M K inX4_settle_X4 o_obj rfl 1 (by decide) flX4_settle_22 rfl rfl dX4_settle_8 ?_
    refine z_icmp_ge (pc := 11) 32 M dX4_settle_11 (by decide) h (fun c_3 h => ?_) (fun c_3 h => ?_)
    · refine z_locals [0, 1, 2] [(0, .ref (ad 0)), (1, .int x1), (2, .long x2)] rfl ?_
      cases h
      exact hx _ rfl
    · refine z_aload_n (pc := 14) M dX4_settle_14 rfl 0 rfl ?_
      refine z_get (pc := 15) (v := .ref (ad 5)) M K inX4_settle_X4 o_obj rfl 6 (by decide) flX4_settle_52 rfl rfl dX4_settle_15 ?_
      refine z_iload (pc := 18) M dX4_settle_18 3 rfl ?_
      refine z_lald (pc := 20) M K ⟨by decide, rfl, rfl⟩ h dX4_settle_20 (fun _ h => ?_)
      refine z_lload_n (pc := 21) M dX4_settle_21 rfl 2 rfl ?_
      obtain ⟨r1, h2, h⟩ := bo_in h
      refine z_scall (pc := 22) (As := [.long (S.2 5 (Int32.toNatClampNeg x4)), .long x2]) M (kX4_commonDivisor l (S.2 5 (Int32.toNatClampNeg x4)) x2 r1 h2) (va_cwS 2 M.1.2.2.2.2 gX4_settle_X4_commonDivisor rfl rfl rfl (by decide +kernel) ⟨Nat.le_of_ble_eq_true rfl, Nat.le_of_ble_eq_true rfl⟩) rfl rfl (Nat.le_of_ble_eq_true rfl) dX4_settle_22 ?_
      refine z_lstore_n (pc := 25) M dX4_settle_25 rfl (by decide) [1, 2, 0, 3] [(0, .ref (ad 0)), (1, .int x1), (2, .long r1), (4, .int x4)] rfl ?_
      refine z_iinc (pc := 26) M dX4_settle_26 (x4 + 1) rfl 3 rfl (by decide) [1, 2, 3, 0] [(0, .ref (ad 0)), (1, .int x1), (2, .long r1), (4, .int (x4 + 1))] rfl ?_
      refine z_goto (pc := 29) 5 M dX4_settle_29 (by decide) ?_
      refine z_locals [0, 1, 2, 3] [(0, .ref (ad 0)), (1, .int x1), (2, .long r1), (4, .int (x4 + 1))] rfl ?_
      exact ih r1 (x4 + 1) _ h hx
set_option maxRecDepth 100000 in
set_option maxHeartbeats 4000000 in
theorem LX4_settle_2 {p : Program} {l : Launch} {e : Env} {s : State} {m : MethodId} {args : Array Value} {below : List Frame} {meth : Method} {c : Code} {Q : State → Prop} {D : va_G} {cy ad : Nat → Nat} {n : Nat} (M : MX p m c cX4_settle 5 s args wsX4_settle RX4 meth (some .boolean)) (K : KK D cy ad s) (x1 : Int32) (x2 : Int64)   : ∀ (fuel : Nat) (x4 : Int32) (S : St) (o : ((Unit) ⊕ Bool) × St), lX4_settle_2 n x1 x2 fuel x4 S = some o → ∀ (hx : ∀ a S', o = (.inl a, S') → Zz p l e rmX4_settle s m args below meth c 5 Q (Hw D cy ad n s S') 85 [(0, .ref (ad 0)), (1, .int x1)] []) (hq : ∀ r S', o = (.inr r, S') → Q = Qw D cy ad n below args s (some (.int (b2i r))) S'), Zz p l e rmX4_settle s m args below meth c 5 Q (Hw D cy ad n s S) 43 [(0, .ref (ad 0)), (1, .int x1), (2, .long x2), (4, .int x4)] [] := by
  intro fuel
  induction fuel with
  | zero => intro x4 S o h; exact nomatch (show (none : Option _) = some o from h)
  | succ fuel ih =>
    intro x4 S o h hx hq
    have h : bX4_settle_2 n x1 x2 (lX4_settle_2 n x1 x2 fuel) x4 S = some o := h
    unfold bX4_settle_2 at h
    refine z_iload (pc := 43) M dX4_settle_43 3 rfl ?_
    refine z_aload_n (pc := 45) M dX4_settle_45 rfl 0 rfl ?_
    refine z_get (pc := 46) (v := .int (nI (2 ^ n))) M K inX4_settle_X4 o_obj rfl 1 (by decide) flX4_settle_22 rfl rfl dX4_settle_46 ?_
    refine z_icmp_ge (pc := 49) 85 M dX4_settle_49 (by decide) h (fun c_7 h => ?_) (fun c_7 h => ?_)
    · refine z_locals [0, 1] [(0, .ref (ad 0)), (1, .int x1)] rfl ?_
      cases h
      exact hx _ _ rfl
    · refine z_aload_n (pc := 52) M dX4_settle_52 rfl 0 rfl ?_
      refine z_get (pc := 53) (v := .ref (ad 5)) M K inX4_settle_X4 o_obj rfl 6 (by decide) flX4_settle_52 rfl rfl dX4_settle_53 ?_
      refine z_iload (pc := 56) M dX4_settle_56 3 rfl ?_
      refine z_dup2_11 (pc := 58) M dX4_settle_58 rfl rfl ?_
      refine z_lald (pc := 59) M K ⟨by decide, rfl, rfl⟩ h dX4_settle_59 (fun _ h => ?_)
      refine z_lload_n (pc := 60) M dX4_settle_60 rfl 2 rfl ?_
      refine z_ldiv (pc := 61) M dX4_settle_61 h (fun h => ?_)
      refine z_last (pc := 62) M K ⟨by decide, rfl, rfl⟩ h dX4_settle_62 (fun h => ?_)
      refine z_aload_n (pc := 63) M dX4_settle_63 rfl 0 rfl ?_
      refine z_get (pc := 64) (v := .ref (ad 5)) M K inX4_settle_X4 o_obj rfl 6 (by decide) flX4_settle_52 rfl rfl dX4_settle_64 ?_
      refine z_iload (pc := 67) M dX4_settle_67 3 rfl ?_
      refine z_lald (pc := 69) M K ⟨by decide, rfl, rfl⟩ h dX4_settle_69 (fun _ h => ?_)
      refine z_ldc2 (pc := 70) M wdX4_settle_Cond_constantLong_RX4_115_4000000 dX4_settle_70 ?_
      refine z_lcmp (pc := 73) M dX4_settle_73 ?_
      refine z_if_le (pc := 74) 79 M dX4_settle_74 (by decide) h (fun c_6 h => ?_) (fun c_6 h => ?_)
      · refine z_iinc (pc := 79) M dX4_settle_79 (x4 + 1) rfl 3 rfl (by decide) [1, 2, 3, 0] [(0, .ref (ad 0)), (1, .int x1), (2, .long x2), (4, .int (x4 + 1))] rfl ?_
        refine z_goto (pc := 82) 43 M dX4_settle_82 (by decide) ?_
        refine z_locals [0, 1, 2, 3] [(0, .ref (ad 0)), (1, .int x1), (2, .long x2), (4, .int (x4 + 1))] rfl ?_
        exact ih (x4 + 1) (sJ S 5 (Int32.toNatClampNeg x4) ((S.2 5 (Int32.toNatClampNeg x4)) / x2)) _ h hx hq
      · refine z_iconst (pc := 77) (v := 0) M dX4_settle_77 (by decide) ?_
        cases h
        rw [hq _ _ rfl]
        exact z_zretW (pc := 78) M rfl rfl rfl dX4_settle_78
set_option maxRecDepth 100000 in
set_option maxHeartbeats 4000000 in
theorem kX4_settle (l : Launch) (D : va_G) (cy ad : Nat → Nat) (n : Nat) (p0 : Int32) (S : St) (r : Bool) (S' : St) (h : fX4_settle n p0 S = some (r, S')) : CW l D cy ad n yX4_settle wsX4_settle rmX4_settle [.ref (ad 0), .int p0] S (some (.int (b2i r))) S' := by
  refine CW.of (cc := cX4_settle) (nL := 5) (ret := (some .boolean)) (own := RX4) rfl (by decide +kernel) rfl (Nat.le_of_ble_eq_true rfl) ?_
  intro p e s m args below meth c M K
  unfold fX4_settle at h
  refine z_locals [0, 1] [(0, .ref (ad 0)), (1, .int p0)] rfl ?_
  refine z_lconst (pc := 0) (v := 0) M dX4_settle_0 (by decide) ?_
  refine z_lstore_n (pc := 1) M dX4_settle_1 rfl (by decide) [1, 2, 0] [(0, .ref (ad 0)), (1, .int p0), (2, .long (0 : Int64))] rfl ?_
  refine z_iconst (pc := 2) (v := 0) M dX4_settle_2 (by decide) ?_
  refine z_istore (pc := 3) M dX4_settle_3 (by decide) [1, 2, 3, 0] [(0, .ref (ad 0)), (1, .int p0), (2, .long (0 : Int64)), (4, .int (0 : Int32))] rfl ?_
  refine z_locals [0, 1, 2, 3] [(0, .ref (ad 0)), (1, .int p0), (2, .long (0 : Int64)), (4, .int (0 : Int32))] rfl ?_
  obtain ⟨q4, h5, h⟩ := bo_in h
  refine LX4_settle_1 M K p0 S FU (0 : Int64) (0 : Int32) _ h5 (fun a hE => ?_)
  cases hE
  refine z_lload_n (pc := 32) M dX4_settle_32 rfl 2 rfl ?_
  refine z_lconst (pc := 33) (v := 1) M dX4_settle_33 (by decide) ?_
  refine z_lcmp (pc := 34) M dX4_settle_34 ?_
  refine z_if_ge (pc := 35) 40 M dX4_settle_35 (by decide) h (fun c_14 h => ?_) (fun c_14 h => ?_)
  · refine z_iconst (pc := 40) (v := 0) M dX4_settle_40 (by decide) ?_
    refine z_istore (pc := 41) M dX4_settle_41 (by decide) [1, 2, 3, 0] [(0, .ref (ad 0)), (1, .int p0), (2, .long q4), (4, .int (0 : Int32))] rfl ?_
    refine z_locals [0, 1, 2, 3] [(0, .ref (ad 0)), (1, .int p0), (2, .long q4), (4, .int (0 : Int32))] rfl ?_
    rcases bsw_in h with ⟨q8, S10, h9, h⟩ | ⟨r9, S9, h9, h⟩
    · refine LX4_settle_2 M K p0 q4 FU (0 : Int32) S _ h9 (fun a S' hE => ?_) (fun r S' e9 => nomatch e9)
      cases hE
      refine z_aload_n (pc := 85) M dX4_settle_85 rfl 0 rfl ?_
      refine z_get (pc := 86) (v := .ref (ad 3)) M K inX4_settle_X4 o_obj rfl 4 (by decide) flX4_settle_33 rfl rfl dX4_settle_86 ?_
      refine z_iload_n (pc := 89) M dX4_settle_89 rfl 1 rfl ?_
      refine z_aaldL (pc := 90) M K h dX4_settle_90 (fun h_Int32_toNatClampNeg_p0 h => ?_)
      refine z_aload_n (pc := 91) M dX4_settle_91 rfl 0 rfl ?_
      refine z_get (pc := 92) (v := .ref (ad 5)) M K inX4_settle_X4 o_obj rfl 6 (by decide) flX4_settle_52 rfl rfl dX4_settle_92 ?_
      obtain ⟨r11, S13, h12, h⟩ := bw_in h
      refine z_vcallV (pc := 95) (As := [.ref (ad 5)]) M K (kX0_become l D cy ad n (Int32.toNatClampNeg p0) h_Int32_toNatClampNeg_p0 S10 r11 S13 h12) (cwV 1 M.1.2.2.2.2 gX4_settle_X0_become rfl rfl rfl (by decide +kernel) ⟨Nat.le_of_ble_eq_true rfl, Nat.le_of_ble_eq_true rfl⟩) (o_law h_Int32_toNatClampNeg_p0) rfl rfl rfl (Nat.le_of_ble_eq_true rfl) dX4_settle_95 ?_
      refine z_iconst (pc := 98) (v := 1) M dX4_settle_98 (by decide) ?_
      exact z_zretW (pc := 99) M (congrArg Prod.fst (Option.some.inj h)) (congrArg Prod.snd (Option.some.inj h)) rfl dX4_settle_99
    · exact LX4_settle_2 M K p0 q4 FU (0 : Int32) S _ h9 (fun a S' e9 => nomatch e9) (fun r S' e9 => by cases e9; cases h; rfl)
  · refine z_iconst (pc := 38) (v := 0) M dX4_settle_38 (by decide) ?_
    exact z_zretW (pc := 39) M (congrArg Prod.fst (Option.some.inj h)) (congrArg Prod.snd (Option.some.inj h)) rfl dX4_settle_39
def rmX4_shun : Room := { frames := 5, cells := 0, slots := 0, locals := 119 }
theorem flX4_shun_27 : Cond.fieldLink RX4 27 "ShunLots" "tables" "[LShunLots$Table;" ∈ wsX4_shun := by decide +kernel
theorem inX4_shun_X4 : ∀ w ∈ wsX40, w ∈ wsX4_shun := by decide +kernel
set_option maxRecDepth 100000 in
set_option maxHeartbeats 4000000 in
theorem kX4_shun (l : Launch) (D : va_G) (cy ad : Nat → Nat) (n : Nat) (p0 : Int32) (p1 : Int32) (S : St) (r : Bool) (S' : St) (h : fX4_shun n p0 p1 S = some (r, S')) : CW l D cy ad n yX4_shun wsX4_shun rmX4_shun [.ref (ad 0), .int p0, .int p1] S (some (.int (b2i r))) S' := by
  refine CW.of (cc := cX4_shun) (nL := 3) (ret := (some .boolean)) (own := RX4) rfl (by decide +kernel) rfl (Nat.le_of_ble_eq_true rfl) ?_
  intro p e s m args below meth c M K
  unfold fX4_shun at h
  refine z_locals [0, 1, 2] [(0, .ref (ad 0)), (1, .int p0), (2, .int p1)] rfl ?_
  refine z_iload_n (pc := 0) M dX4_shun_0 rfl 1 rfl ?_
  obtain ⟨r1, h2, h⟩ := bo_in h
  refine z_scall (pc := 1) (As := [.int p0]) M (kX4_isPlace l p0 r1 h2) (va_cwS 1 M.1.2.2.2.2 gX4_shun_X4_isPlace rfl rfl rfl (by decide +kernel) ⟨Nat.le_of_ble_eq_true rfl, Nat.le_of_ble_eq_true rfl⟩) rfl rfl (Nat.le_of_ble_eq_true rfl) dX4_shun_1 ?_
  refine z_if_eqB (pc := 4) 14 M dX4_shun_4 (by decide) h (fun c_14 h => ?_) (fun c_14 h => ?_)
  · refine z_iconst (pc := 14) (v := 0) M dX4_shun_14 (by decide) ?_
    exact z_zretW (pc := 15) M (congrArg Prod.fst (Option.some.inj h)) (congrArg Prod.snd (Option.some.inj h)) rfl dX4_shun_15
  · refine z_iload_n (pc := 7) M dX4_shun_7 rfl 2 rfl ?_
    obtain ⟨r3, h4, h⟩ := bo_in h
    refine z_scall (pc := 8) (As := [.int p1]) M (kX4_isPlace l p1 r3 h4) (va_cwS 1 M.1.2.2.2.2 gX4_shun_X4_isPlace rfl rfl rfl (by decide +kernel) ⟨Nat.le_of_ble_eq_true rfl, Nat.le_of_ble_eq_true rfl⟩) rfl rfl (Nat.le_of_ble_eq_true rfl) dX4_shun_8 ?_
    refine z_if_neB (pc := 11) 16 M dX4_shun_11 (by decide) h (fun c_13 h => ?_) (fun c_13 h => ?_)
    · refine z_aload_n (pc := 16) M dX4_shun_16 rfl 0 rfl ?_
      refine z_aload_n (pc := 17) M dX4_shun_17 rfl 0 rfl ?_
      refine z_get (pc := 18) (v := .ref (ad 1)) M K inX4_shun_X4 o_obj rfl 2 (by decide) flX4_shun_27 rfl rfl dX4_shun_18 ?_
      refine z_iload_n (pc := 21) M dX4_shun_21 rfl 1 rfl ?_
      refine z_aaldT (pc := 22) M K h dX4_shun_22 (fun h_Int32_toNatClampNeg_p0 h => ?_)
      obtain ⟨r5, S7, h6, h⟩ := bw_in h
      refine z_vcall (pc := 23) (As := [.ref (ad (13 + (Int32.toNatClampNeg p0)))]) M K (kX4_draftWorths l D cy ad n (Int32.toNatClampNeg p0) h_Int32_toNatClampNeg_p0 S r5 S7 h6) (cwV 1 M.1.2.2.2.2 gX4_shun_X4_draftWorths rfl rfl rfl (by decide +kernel) ⟨Nat.le_of_ble_eq_true rfl, Nat.le_of_ble_eq_true rfl⟩) o_obj rfl rfl rfl (Nat.le_of_ble_eq_true rfl) dX4_shun_23 ?_
      refine z_iconst (pc := 26) (v := -1) M dX4_shun_26 (by decide) ?_
      refine z_icmp_ne (pc := 27) 42 M dX4_shun_27 (by decide) h (fun c_12 h => ?_) (fun c_12 h => ?_)
      · refine z_iconst (pc := 42) (v := 0) M dX4_shun_42 (by decide) ?_
        exact z_zretW (pc := 43) M (congrArg Prod.fst (Option.some.inj h)) (congrArg Prod.snd (Option.some.inj h)) rfl dX4_shun_43
      · refine z_aload_n (pc := 30) M dX4_shun_30 rfl 0 rfl ?_
        refine z_iload_n (pc := 31) M dX4_shun_31 rfl 2 rfl ?_
        obtain ⟨r8, S10, h9, h⟩ := bw_in h
        refine z_vcall (pc := 32) (As := [.int p1]) M K (kX4_settle l D cy ad n p1 S7 r8 S10 h9) (cwV 1 M.1.2.2.2.2 gX4_shun_X4_settle rfl rfl rfl (by decide +kernel) ⟨Nat.le_of_ble_eq_true rfl, Nat.le_of_ble_eq_true rfl⟩) o_obj rfl rfl rfl (Nat.le_of_ble_eq_true rfl) dX4_shun_32 ?_
        refine z_if_eqB (pc := 35) 42 M dX4_shun_35 (by decide) h (fun c_11 h => ?_) (fun c_11 h => ?_)
        · refine z_iconst (pc := 42) (v := 0) M dX4_shun_42 (by decide) ?_
          exact z_zretW (pc := 43) M (congrArg Prod.fst (Option.some.inj h)) (congrArg Prod.snd (Option.some.inj h)) rfl dX4_shun_43
        · refine z_iconst (pc := 38) (v := 1) M dX4_shun_38 (by decide) ?_
          refine z_goto (pc := 39) 43 M dX4_shun_39 (by decide) ?_
          exact z_zretW (pc := 43) M (congrArg Prod.fst (Option.some.inj h)) (congrArg Prod.snd (Option.some.inj h)) rfl dX4_shun_43
    · refine z_iconst (pc := 14) (v := 0) M dX4_shun_14 (by decide) ?_
      exact z_zretW (pc := 15) M (congrArg Prod.fst (Option.some.inj h)) (congrArg Prod.snd (Option.some.inj h)) rfl dX4_shun_15
def rmX4_isPost : Room := { frames := 1, cells := 0, slots := 0, locals := 22 }
set_option maxRecDepth 100000 in
set_option maxHeartbeats 4000000 in
theorem kX4_isPost (l : Launch) (p0 : Int32) (r : Bool) (h : fX4_isPost p0 = some r) : CP l yX4_isPost wsX4_isPost rmX4_isPost [.int p0] (some (.int (b2i r))) := by
  refine CP.of (cc := cX4_isPost) (nL := 1) (ret := (some .boolean)) (own := RX4) rfl (by decide +kernel) rfl (Nat.le_of_ble_eq_true rfl) ?_
  intro p e s m args below meth c M
  unfold fX4_isPost at h
  refine z_locals [0] [(0, .int p0)] rfl ?_
  refine z_iload_n (pc := 0) M dX4_isPost_0 rfl 0 rfl ?_
  refine z_iconst (pc := 1) (v := 0) M dX4_isPost_1 (by decide) ?_
  refine z_iconst (pc := 2) (v := 4) M dX4_isPost_2 (by decide) ?_
  obtain ⟨r1, h2, h⟩ := bo_in h
  refine z_scall (pc := 3) (As := [.int p0, .int (0 : Int32), .int (4 : Int32)]) M (kX4_isAmong l p0 (0 : Int32) (4 : Int32) r1 h2) (va_cwS 3 M.1.2.2.2.2 gX4_isPost_X4_isAmong rfl rfl rfl (by decide +kernel) ⟨Nat.le_of_ble_eq_true rfl, Nat.le_of_ble_eq_true rfl⟩) rfl rfl (Nat.le_of_ble_eq_true rfl) dX4_isPost_3 ?_
  exact z_zretP (pc := 6) M h rfl dX4_isPost_6
def rmX4_edge : Room := { frames := 2, cells := 0, slots := 0, locals := 43 }
theorem flX4_edge_44 : Cond.fieldLink RX4 44 "ShunLots" "net" "LShunLots$Net;" ∈ wsX4_edge := by decide +kernel
theorem inX4_edge_X4 : ∀ w ∈ wsX40, w ∈ wsX4_edge := by decide +kernel
set_option maxRecDepth 100000 in
set_option maxHeartbeats 4000000 in
theorem kX4_edge (l : Launch) (D : va_G) (cy ad : Nat → Nat) (n : Nat) (p0 : Int32) (p1 : Int32) (p2 : Int32) (p3 : Int32) (S : St) (r : Bool) (S' : St) (h : fX4_edge n p0 p1 p2 p3 S = some (r, S')) : CW l D cy ad n yX4_edge wsX4_edge rmX4_edge [.ref (ad 0), .int p0, .int p1, .int p2, .int p3] S (some (.int (b2i r))) S' := by
  refine CW.of (cc := cX4_edge) (nL := 5) (ret := (some .boolean)) (own := RX4) rfl (by decide +kernel) rfl (Nat.le_of_ble_eq_true rfl) ?_
  intro p e s m args below meth c M K
  unfold fX4_edge at h
  refine z_locals [0, 1, 2, 3, 4] [(0, .ref (ad 0)), (1, .int p0), (2, .int p1), (3, .int p2), (4, .int p3)] rfl ?_
  refine z_aload_n (pc := 0) M dX4_edge_0 rfl 0 rfl ?_
  refine z_iload_n (pc := 1) M dX4_edge_1 rfl 1 rfl ?_
  obtain ⟨r1, h2, h⟩ := bo_in h
  refine z_vcall (pc := 2) (As := [.int p0]) M K (kX4_isThing l D cy ad n p0 S r1 h2) (cwV 1 M.1.2.2.2.2 gX4_edge_X4_isThing rfl rfl rfl (by decide +kernel) ⟨Nat.le_of_ble_eq_true rfl, Nat.le_of_ble_eq_true rfl⟩) o_obj rfl rfl rfl (Nat.le_of_ble_eq_true rfl) dX4_edge_2 ?_
  refine z_if_eqB (pc := 5) 33 M dX4_edge_5 (by decide) h (fun c_15 h => ?_) (fun c_15 h => ?_)
  · refine z_iconst (pc := 33) (v := 0) M dX4_edge_33 (by decide) ?_
    exact z_zretW (pc := 34) M (congrArg Prod.fst (Option.some.inj h)) (congrArg Prod.snd (Option.some.inj h)) rfl dX4_edge_34
  · refine z_iload_n (pc := 8) M dX4_edge_8 rfl 2 rfl ?_
    obtain ⟨r3, h4, h⟩ := bo_in h
    refine z_scall (pc := 9) (As := [.int p1]) M (kX4_isPost l p1 r3 h4) (va_cwS 1 M.1.2.2.2.2 gX4_edge_X4_isPost rfl rfl rfl (by decide +kernel) ⟨Nat.le_of_ble_eq_true rfl, Nat.le_of_ble_eq_true rfl⟩) rfl rfl (Nat.le_of_ble_eq_true rfl) dX4_edge_9 ?_
    refine z_if_eqB (pc := 12) 33 M dX4_edge_12 (by decide) h (fun c_14 h => ?_) (fun c_14 h => ?_)
    · refine z_iconst (pc := 33) (v := 0) M dX4_edge_33 (by decide) ?_
      exact z_zretW (pc := 34) M (congrArg Prod.fst (Option.some.inj h)) (congrArg Prod.snd (Option.some.inj h)) rfl dX4_edge_34
    · refine z_iload_n (pc := 15) M dX4_edge_15 rfl 3 rfl ?_
      obtain ⟨r5, h6, h⟩ := bo_in h
      refine z_scall (pc := 16) (As := [.int p2]) M (kX4_isPost l p2 r5 h6) (va_cwS 1 M.1.2.2.2.2 gX4_edge_X4_isPost rfl rfl rfl (by decide +kernel) ⟨Nat.le_of_ble_eq_true rfl, Nat.le_of_ble_eq_true rfl⟩) rfl rfl (Nat.le_of_ble_eq_true rfl) dX4_edge_16 ?_
      refine z_if_eqB (pc := 19) 33 M dX4_edge_19 (by decide) h (fun c_13 h => ?_) (fun c_13 h => ?_)
      · refine z_iconst (pc := 33) (v := 0) M dX4_edge_33 (by decide) ?_
        exact z_zretW (pc := 34) M (congrArg Prod.fst (Option.some.inj h)) (congrArg Prod.snd (Option.some.inj h)) rfl dX4_edge_34
      · refine z_iload (pc := 22) M dX4_edge_22 4 rfl ?_
        refine z_iconst (pc := 24) (v := 0) M dX4_edge_24 (by decide) ?_
        refine z_bipush (pc := 25) (v := 9) M dX4_edge_25 (by decide) ?_
        obtain ⟨r7, h8, h⟩ := bo_in h
        refine z_scall (pc := 27) (As := [.int p3, .int (0 : Int32), .int (9 : Int32)]) M (kX4_isAmong l p3 (0 : Int32) (9 : Int32) r7 h8) (va_cwS 3 M.1.2.2.2.2 gX4_edge_X4_isAmong rfl rfl rfl (by decide +kernel) ⟨Nat.le_of_ble_eq_true rfl, Nat.le_of_ble_eq_true rfl⟩) rfl rfl (Nat.le_of_ble_eq_true rfl) dX4_edge_27 ?_
        refine z_if_neB (pc := 30) 35 M dX4_edge_30 (by decide) h (fun c_12 h => ?_) (fun c_12 h => ?_)
        · refine z_aload_n (pc := 35) M dX4_edge_35 rfl 0 rfl ?_
          refine z_get (pc := 36) (v := .ref (ad 2)) M K inX4_edge_X4 o_obj rfl 3 (by decide) flX4_edge_44 rfl rfl dX4_edge_36 ?_
          refine z_iload_n (pc := 39) M dX4_edge_39 rfl 1 rfl ?_
          refine z_iload_n (pc := 40) M dX4_edge_40 rfl 2 rfl ?_
          refine z_iload_n (pc := 41) M dX4_edge_41 rfl 3 rfl ?_
          refine z_iload (pc := 42) M dX4_edge_42 4 rfl ?_
          obtain ⟨r9, S11, h10, h⟩ := bw_in h
          refine z_vcallV (pc := 44) (As := [.int p0, .int p1, .int p2, .int p3]) M K (kX1_put l D cy ad n p0 p1 p2 p3 S r9 S11 h10) (cwV 4 M.1.2.2.2.2 gX4_edge_X1_put rfl rfl rfl (by decide +kernel) ⟨Nat.le_of_ble_eq_true rfl, Nat.le_of_ble_eq_true rfl⟩) o_net rfl rfl rfl (Nat.le_of_ble_eq_true rfl) dX4_edge_44 ?_
          refine z_iconst (pc := 47) (v := 1) M dX4_edge_47 (by decide) ?_
          exact z_zretW (pc := 48) M (congrArg Prod.fst (Option.some.inj h)) (congrArg Prod.snd (Option.some.inj h)) rfl dX4_edge_48
        · refine z_iconst (pc := 33) (v := 0) M dX4_edge_33 (by decide) ?_
          exact z_zretW (pc := 34) M (congrArg Prod.fst (Option.some.inj h)) (congrArg Prod.snd (Option.some.inj h)) rfl dX4_edge_34
def rmX4_isPosts : Room := { frames := 1, cells := 0, slots := 0, locals := 22 }
set_option maxRecDepth 100000 in
set_option maxHeartbeats 4000000 in
theorem kX4_isPosts (l : Launch) (p0 : Int32) (r : Bool) (h : fX4_isPosts p0 = some r) : CP l yX4_isPosts wsX4_isPosts rmX4_isPosts [.int p0] (some (.int (b2i r))) := by
  refine CP.of (cc := cX4_isPosts) (nL := 1) (ret := (some .boolean)) (own := RX4) rfl (by decide +kernel) rfl (Nat.le_of_ble_eq_true rfl) ?_
  intro p e s m args below meth c M
  unfold fX4_isPosts at h
  refine z_locals [0] [(0, .int p0)] rfl ?_
  refine z_iload_n (pc := 0) M dX4_isPosts_0 rfl 0 rfl ?_
  refine z_iconst (pc := 1) (v := 2) M dX4_isPosts_1 (by decide) ?_
  refine z_iconst (pc := 2) (v := 5) M dX4_isPosts_2 (by decide) ?_
  obtain ⟨r1, h2, h⟩ := bo_in h
  refine z_scall (pc := 3) (As := [.int p0, .int (2 : Int32), .int (5 : Int32)]) M (kX4_isAmong l p0 (2 : Int32) (5 : Int32) r1 h2) (va_cwS 3 M.1.2.2.2.2 gX4_isPosts_X4_isAmong rfl rfl rfl (by decide +kernel) ⟨Nat.le_of_ble_eq_true rfl, Nat.le_of_ble_eq_true rfl⟩) rfl rfl (Nat.le_of_ble_eq_true rfl) dX4_isPosts_3 ?_
  exact z_zretP (pc := 6) M h rfl dX4_isPosts_6
def rmX4_all : Room := { frames := 4, cells := 0, slots := 0, locals := 93 }
theorem flX4_all_44 : Cond.fieldLink RX4 44 "ShunLots" "net" "LShunLots$Net;" ∈ wsX4_all := by decide +kernel
theorem flX4_all_58 : Cond.fieldLink RX4 58 "ShunLots" "square" "LShunLots$Square;" ∈ wsX4_all := by decide +kernel
theorem inX4_all_X4 : ∀ w ∈ wsX40, w ∈ wsX4_all := by decide +kernel
set_option maxRecDepth 100000 in
set_option maxHeartbeats 4000000 in
theorem kX4_all (l : Launch) (D : va_G) (cy ad : Nat → Nat) (n : Nat) (p0 : Int32) (S : St) (r : Int64) (S' : St) (h : fX4_all n p0 S = some (r, S')) : CW l D cy ad n yX4_all wsX4_all rmX4_all [.ref (ad 0), .int p0] S (some (.long r)) S' := by
  refine CW.of (cc := cX4_all) (nL := 2) (ret := (some .long)) (own := RX4) rfl (by decide +kernel) rfl (Nat.le_of_ble_eq_true rfl) ?_
  intro p e s m args below meth c M K
  unfold fX4_all at h
  refine z_locals [0, 1] [(0, .ref (ad 0)), (1, .int p0)] rfl ?_
  refine z_iload_n (pc := 0) M dX4_all_0 rfl 1 rfl ?_
  obtain ⟨r1, h2, h⟩ := bo_in h
  refine z_scall (pc := 1) (As := [.int p0]) M (kX4_isPosts l p0 r1 h2) (va_cwS 1 M.1.2.2.2.2 gX4_all_X4_isPosts rfl rfl rfl (by decide +kernel) ⟨Nat.le_of_ble_eq_true rfl, Nat.le_of_ble_eq_true rfl⟩) rfl rfl (Nat.le_of_ble_eq_true rfl) dX4_all_1 ?_
  refine z_if_neB (pc := 4) 9 M dX4_all_4 (by decide) h (fun c_6 h => ?_) (fun c_6 h => ?_)
  · refine z_aload_n (pc := 9) M dX4_all_9 rfl 0 rfl ?_
    refine z_get (pc := 10) (v := .ref (ad 2)) M K inX4_all_X4 o_obj rfl 3 (by decide) flX4_all_44 rfl rfl dX4_all_10 ?_
    refine z_iload_n (pc := 13) M dX4_all_13 rfl 1 rfl ?_
    refine z_aload_n (pc := 14) M dX4_all_14 rfl 0 rfl ?_
    refine z_get (pc := 15) (v := .ref (ad 6)) M K inX4_all_X4 o_obj rfl 7 (by decide) flX4_all_58 rfl rfl dX4_all_15 ?_
    obtain ⟨r3, S5, h4, h⟩ := bw_in h
    refine z_vcall (pc := 18) (As := [.int p0, .ref (ad 6)]) M K (kX1_sumOfTrees l D cy ad n p0 S r3 S5 h4) (cwV 2 M.1.2.2.2.2 gX4_all_X1_sumOfTrees rfl rfl rfl (by decide +kernel) ⟨Nat.le_of_ble_eq_true rfl, Nat.le_of_ble_eq_true rfl⟩) o_net rfl rfl rfl (Nat.le_of_ble_eq_true rfl) dX4_all_18 ?_
    exact z_lretW (pc := 21) M (congrArg Prod.fst (Option.some.inj h)) (congrArg Prod.snd (Option.some.inj h)) dX4_all_21
  · refine z_lconst (pc := 7) (v := 0) M dX4_all_7 (by decide) ?_
    exact z_lretW (pc := 8) M (congrArg Prod.fst (Option.some.inj h)) (congrArg Prod.snd (Option.some.inj h)) dX4_all_8
def rmX4_trees : Room := { frames := 3, cells := 0, slots := 0, locals := 70 }
theorem flX4_trees_22 : Cond.fieldLink RX4 22 "ShunLots" "sets" "I" ∈ wsX4_trees := by decide +kernel
theorem flX4_trees_44 : Cond.fieldLink RX4 44 "ShunLots" "net" "LShunLots$Net;" ∈ wsX4_trees := by decide +kernel
theorem flX4_trees_52 : Cond.fieldLink RX4 52 "ShunLots" "draft" "[J" ∈ wsX4_trees := by decide +kernel
theorem inX4_trees_X4 : ∀ w ∈ wsX40, w ∈ wsX4_trees := by decide +kernel
set_option maxRecDepth 100000 in
set_option maxHeartbeats 4000000 in
theorem LX4_trees_1 {p : Program} {l : Launch} {e : Env} {s : State} {m : MethodId} {args : Array Value} {below : List Frame} {meth : Method} {c : Code} {Q : State → Prop} {D : va_G} {cy ad : Nat → Nat} {n : Nat} (M : MX p m c cX4_trees 4 s args wsX4_trees RX4 meth (some .boolean)) (K : KK D cy ad s) (x1 : Int32) (x2 : Int32)   : ∀ (fuel : Nat) (x3 : Int32) (S : St) (o : (Unit) × St), lX4_trees_1 n x1 x2 fuel x3 S = some o → ∀ (hx : ∀ a S', o = (a, S') → Zz p l e rmX4_trees s m args below meth c 4 Q (Hw D cy ad n s S') 62 [(0, .ref (ad 0)), (2, .int x2)] []) , Zz p l e rmX4_trees s m args below meth c 4 Q (Hw D cy ad n s S) 18 [(0, .ref (ad 0)), (1, .int x1), (2, .int x2), (3, .int x3)] [] := by
  intro fuel
  induction fuel with
  | zero => intro x3 S o h; exact nomatch (show (none : Option _) = some o from h)
  | succ fuel ih =>
    intro x3 S o h hx 
    have h : bX4_trees_1 n x1 x2 (lX4_trees_1 n x1 x2 fuel) x3 S = some o := h
    unfold bX4_trees_1 at h
    refine z_iload_n (pc := 18) M dX4_trees_18 rfl 3 rfl ?_
    refine z_aload_n (pc := 19) M dX4_trees_19 rfl 0 rfl ?_
    refine z_get (pc := 20) (v := .int (nI (2 ^ n))) M K inX4_trees_X4 o_obj rfl 1 (by decide) flX4_trees_22 rfl rfl dX4_trees_20 ?_
    refine z_icmp_ge (pc := 23) 62 M dX4_trees_23 (by decide) h (fun c_10 h => ?_) (fun c_10 h => ?_)
    · refine z_locals [0, 2] [(0, .ref (ad 0)), (2, .int x2)] rfl ?_
      cases h
      exact hx _ _ rfl
    · refine z_aload_n (pc := 26) M dX4_trees_26 rfl 0 rfl ?_
      refine z_get (pc := 27) (v := .ref (ad 5)) M K inX4_trees_X4 o_obj rfl 6 (by decide) flX4_trees_52 rfl rfl dX4_trees_27 ?_
      refine z_iload_n (pc := 30) M dX4_trees_30 rfl 3 rfl ?_
      refine z_aload_n (pc := 31) M dX4_trees_31 rfl 0 rfl ?_
      refine z_get (pc := 32) (v := .ref (ad 2)) M K inX4_trees_X4 o_obj rfl 3 (by decide) flX4_trees_44 rfl rfl dX4_trees_32 ?_
      refine z_iload_n (pc := 35) M dX4_trees_35 rfl 3 rfl ?_
      refine z_iload_n (pc := 36) M dX4_trees_36 rfl 1 rfl ?_
      obtain ⟨r5, h6, h⟩ := bo_in h
      refine z_vcall (pc := 37) (As := [.int x3, .int x1]) M K (kX1_isTree l D cy ad n x3 x1 S r5 h6) (cwV 2 M.1.2.2.2.2 gX4_trees_X1_isTree rfl rfl rfl (by decide +kernel) ⟨Nat.le_of_ble_eq_true rfl, Nat.le_of_ble_eq_true rfl⟩) o_net rfl rfl rfl (Nat.le_of_ble_eq_true rfl) dX4_trees_37 ?_
      refine z_if_eqB (pc := 40) 54 M dX4_trees_40 (by decide) h (fun c_9 h => ?_) (fun c_9 h => ?_)
      · refine z_lconst (pc := 54) (v := 0) M dX4_trees_54 (by decide) ?_
        refine z_last (pc := 55) M K ⟨by decide, rfl, rfl⟩ h dX4_trees_55 (fun h => ?_)
        refine z_iinc (pc := 56) M dX4_trees_56 (x3 + 1) rfl 3 rfl (by decide) [1, 2, 3, 0] [(0, .ref (ad 0)), (1, .int x1), (2, .int x2), (3, .int (x3 + 1))] rfl ?_
        refine z_goto (pc := 59) 18 M dX4_trees_59 (by decide) ?_
        refine z_locals [0, 1, 2, 3] [(0, .ref (ad 0)), (1, .int x1), (2, .int x2), (3, .int (x3 + 1))] rfl ?_
        exact ih (x3 + 1) (sJ S 5 (Int32.toNatClampNeg x3) (0 : Int64)) _ h hx
      · refine z_aload_n (pc := 43) M dX4_trees_43 rfl 0 rfl ?_
        refine z_get (pc := 44) (v := .ref (ad 2)) M K inX4_trees_X4 o_obj rfl 3 (by decide) flX4_trees_44 rfl rfl dX4_trees_44 ?_
        refine z_iload_n (pc := 47) M dX4_trees_47 rfl 3 rfl ?_
        obtain ⟨r7, h8, h⟩ := bo_in h
        refine z_vcall (pc := 48) (As := [.int x3]) M K (kX1_productOf l D cy ad n x3 S r7 h8) (cwV 1 M.1.2.2.2.2 gX4_trees_X1_productOf rfl rfl rfl (by decide +kernel) ⟨Nat.le_of_ble_eq_true rfl, Nat.le_of_ble_eq_true rfl⟩) o_net rfl rfl rfl (Nat.le_of_ble_eq_true rfl) dX4_trees_48 ?_
        refine z_goto (pc := 51) 55 M dX4_trees_51 (by decide) ?_
        refine z_last (pc := 55) M K ⟨by decide, rfl, rfl⟩ h dX4_trees_55 (fun h => ?_)
        refine z_iinc (pc := 56) M dX4_trees_56 (x3 + 1) rfl 3 rfl (by decide) [1, 2, 3, 0] [(0, .ref (ad 0)), (1, .int x1), (2, .int x2), (3, .int (x3 + 1))] rfl ?_
        refine z_goto (pc := 59) 18 M dX4_trees_59 (by decide) ?_
        refine z_locals [0, 1, 2, 3] [(0, .ref (ad 0)), (1, .int x1), (2, .int x2), (3, .int (x3 + 1))] rfl ?_
        exact ih (x3 + 1) (sJ S 5 (Int32.toNatClampNeg x3) r7) _ h hx
set_option maxRecDepth 100000 in
set_option maxHeartbeats 4000000 in
theorem kX4_trees (l : Launch) (D : va_G) (cy ad : Nat → Nat) (n : Nat) (p0 : Int32) (p1 : Int32) (S : St) (r : Bool) (S' : St) (h : fX4_trees n p0 p1 S = some (r, S')) : CW l D cy ad n yX4_trees wsX4_trees rmX4_trees [.ref (ad 0), .int p0, .int p1] S (some (.int (b2i r))) S' := by
  refine CW.of (cc := cX4_trees) (nL := 4) (ret := (some .boolean)) (own := RX4) rfl (by decide +kernel) rfl (Nat.le_of_ble_eq_true rfl) ?_
  intro p e s m args below meth c M K
  unfold fX4_trees at h
  refine z_locals [0, 1, 2] [(0, .ref (ad 0)), (1, .int p0), (2, .int p1)] rfl ?_
  refine z_iload_n (pc := 0) M dX4_trees_0 rfl 1 rfl ?_
  obtain ⟨r1, h2, h⟩ := bo_in h
  refine z_scall (pc := 1) (As := [.int p0]) M (kX4_isPosts l p0 r1 h2) (va_cwS 1 M.1.2.2.2.2 gX4_trees_X4_isPosts rfl rfl rfl (by decide +kernel) ⟨Nat.le_of_ble_eq_true rfl, Nat.le_of_ble_eq_true rfl⟩) rfl rfl (Nat.le_of_ble_eq_true rfl) dX4_trees_1 ?_
  refine z_if_eqB (pc := 4) 14 M dX4_trees_4 (by decide) h (fun c_18 h => ?_) (fun c_18 h => ?_)
  · refine z_iconst (pc := 14) (v := 0) M dX4_trees_14 (by decide) ?_
    exact z_zretW (pc := 15) M (congrArg Prod.fst (Option.some.inj h)) (congrArg Prod.snd (Option.some.inj h)) rfl dX4_trees_15
  · refine z_iload_n (pc := 7) M dX4_trees_7 rfl 2 rfl ?_
    obtain ⟨r3, h4, h⟩ := bo_in h
    refine z_scall (pc := 8) (As := [.int p1]) M (kX4_isPlace l p1 r3 h4) (va_cwS 1 M.1.2.2.2.2 gX4_trees_X4_isPlace rfl rfl rfl (by decide +kernel) ⟨Nat.le_of_ble_eq_true rfl, Nat.le_of_ble_eq_true rfl⟩) rfl rfl (Nat.le_of_ble_eq_true rfl) dX4_trees_8 ?_
    refine z_if_neB (pc := 11) 16 M dX4_trees_11 (by decide) h (fun c_17 h => ?_) (fun c_17 h => ?_)
    · refine z_iconst (pc := 16) (v := 0) M dX4_trees_16 (by decide) ?_
      refine z_istore_n (pc := 17) M dX4_trees_17 rfl (by decide) [1, 2, 3, 0] [(0, .ref (ad 0)), (1, .int p0), (2, .int p1), (3, .int (0 : Int32))] rfl ?_
      refine z_locals [0, 1, 2, 3] [(0, .ref (ad 0)), (1, .int p0), (2, .int p1), (3, .int (0 : Int32))] rfl ?_
      obtain ⟨q11, S13, h12, h⟩ := bw_in h
      refine LX4_trees_1 M K p0 p1 FU (0 : Int32) S _ h12 (fun a S' hE => ?_)
      cases hE
      refine z_aload_n (pc := 62) M dX4_trees_62 rfl 0 rfl ?_
      refine z_iload_n (pc := 63) M dX4_trees_63 rfl 1 rfl ?_
      obtain ⟨r14, S16, h15, h⟩ := bw_in h
      refine z_vcall (pc := 64) (As := [.int p1]) M K (kX4_settle l D cy ad n p1 S13 r14 S16 h15) (cwV 1 M.1.2.2.2.2 gX4_trees_X4_settle rfl rfl rfl (by decide +kernel) ⟨Nat.le_of_ble_eq_true rfl, Nat.le_of_ble_eq_true rfl⟩) o_obj rfl rfl rfl (Nat.le_of_ble_eq_true rfl) dX4_trees_64 ?_
      exact z_zretW (pc := 67) M (congrArg Prod.fst (Option.some.inj h)) (congrArg Prod.snd (Option.some.inj h)) rfl dX4_trees_67
    · refine z_iconst (pc := 14) (v := 0) M dX4_trees_14 (by decide) ?_
      exact z_zretW (pc := 15) M (congrArg Prod.fst (Option.some.inj h)) (congrArg Prod.snd (Option.some.inj h)) rfl dX4_trees_15
def rmX4_tell : Room := { frames := 2, cells := 0, slots := 0, locals := 43 }
theorem flX4_tell_48 : Cond.fieldLink RX4 48 "ShunLots" "handShares" "[J" ∈ wsX4_tell := by decide +kernel
theorem wdX4_tell_Cond_constantLong_RX4_115_4000000 : Cond.constantLong RX4 115 (4000000) ∈ wsX4_tell := by decide +kernel
theorem inX4_tell_X4 : ∀ w ∈ wsX40, w ∈ wsX4_tell := by decide +kernel
set_option maxRecDepth 100000 in
set_option maxHeartbeats 4000000 in
theorem kX4_tell (l : Launch) (D : va_G) (cy ad : Nat → Nat) (n : Nat) (p0 : Int32) (p1 : Int32) (S : St) (r : Bool) (S' : St) (h : fX4_tell n p0 p1 S = some (r, S')) : CW l D cy ad n yX4_tell wsX4_tell rmX4_tell [.ref (ad 0), .int p0, .int p1] S (some (.int (b2i r))) S' := by
  refine CW.of (cc := cX4_tell) (nL := 3) (ret := (some .boolean)) (own := RX4) rfl (by decide +kernel) rfl (Nat.le_of_ble_eq_true rfl) ?_
  intro p e s m args below meth c M K
  unfold fX4_tell at h
  refine z_locals [0, 1, 2] [(0, .ref (ad 0)), (1, .int p0), (2, .int p1)] rfl ?_
  refine z_aload_n (pc := 0) M dX4_tell_0 rfl 0 rfl ?_
  refine z_iload_n (pc := 1) M dX4_tell_1 rfl 1 rfl ?_
  obtain ⟨r1, h2, h⟩ := bo_in h
  refine z_vcall (pc := 2) (As := [.int p0]) M K (kX4_isSet l D cy ad n p0 S r1 h2) (cwV 1 M.1.2.2.2.2 gX4_tell_X4_isSet rfl rfl rfl (by decide +kernel) ⟨Nat.le_of_ble_eq_true rfl, Nat.le_of_ble_eq_true rfl⟩) o_obj rfl rfl rfl (Nat.le_of_ble_eq_true rfl) dX4_tell_2 ?_
  refine z_if_eqB (pc := 5) 21 M dX4_tell_5 (by decide) h (fun c_5 h => ?_) (fun c_5 h => ?_)
  · refine z_iconst (pc := 21) (v := 0) M dX4_tell_21 (by decide) ?_
    exact z_zretW (pc := 22) M (congrArg Prod.fst (Option.some.inj h)) (congrArg Prod.snd (Option.some.inj h)) rfl dX4_tell_22
  · refine z_iload_n (pc := 8) M dX4_tell_8 rfl 2 rfl ?_
    refine z_if_lt (pc := 9) 21 M dX4_tell_9 (by decide) h (fun c_4 h => ?_) (fun c_4 h => ?_)
    · refine z_iconst (pc := 21) (v := 0) M dX4_tell_21 (by decide) ?_
      exact z_zretW (pc := 22) M (congrArg Prod.fst (Option.some.inj h)) (congrArg Prod.snd (Option.some.inj h)) rfl dX4_tell_22
    · refine z_iload_n (pc := 12) M dX4_tell_12 rfl 2 rfl ?_
      refine z_i2l (pc := 13) M dX4_tell_13 ?_
      refine z_ldc2 (pc := 14) M wdX4_tell_Cond_constantLong_RX4_115_4000000 dX4_tell_14 ?_
      refine z_lcmp (pc := 17) M dX4_tell_17 ?_
      refine z_if_le (pc := 18) 23 M dX4_tell_18 (by decide) h (fun c_3 h => ?_) (fun c_3 h => ?_)
      · refine z_aload_n (pc := 23) M dX4_tell_23 rfl 0 rfl ?_
        refine z_get (pc := 24) (v := .ref (ad 4)) M K inX4_tell_X4 o_obj rfl 5 (by decide) flX4_tell_48 rfl rfl dX4_tell_24 ?_
        refine z_iload_n (pc := 27) M dX4_tell_27 rfl 1 rfl ?_
        refine z_iload_n (pc := 28) M dX4_tell_28 rfl 2 rfl ?_
        refine z_i2l (pc := 29) M dX4_tell_29 ?_
        refine z_last (pc := 30) M K ⟨by decide, rfl, rfl⟩ h dX4_tell_30 (fun h => ?_)
        refine z_iconst (pc := 31) (v := 1) M dX4_tell_31 (by decide) ?_
        exact z_zretW (pc := 32) M (congrArg Prod.fst (Option.some.inj h)) (congrArg Prod.snd (Option.some.inj h)) rfl dX4_tell_32
      · refine z_iconst (pc := 21) (v := 0) M dX4_tell_21 (by decide) ?_
        exact z_zretW (pc := 22) M (congrArg Prod.fst (Option.some.inj h)) (congrArg Prod.snd (Option.some.inj h)) rfl dX4_tell_22
def rmX4_hand : Room := { frames := 2, cells := 0, slots := 0, locals := 54 }
theorem flX4_hand_22 : Cond.fieldLink RX4 22 "ShunLots" "sets" "I" ∈ wsX4_hand := by decide +kernel
theorem flX4_hand_48 : Cond.fieldLink RX4 48 "ShunLots" "handShares" "[J" ∈ wsX4_hand := by decide +kernel
theorem flX4_hand_52 : Cond.fieldLink RX4 52 "ShunLots" "draft" "[J" ∈ wsX4_hand := by decide +kernel
theorem wdX4_hand_Cond_initialized_java_lang_System : Cond.initialized "java/lang/System" ∈ wsX4_hand := by decide +kernel
theorem wdX4_hand_Cond_methodLink_RX4_117_arraycopyName : Cond.methodLink RX4 117 arraycopyName ∈ wsX4_hand := by decide +kernel
theorem wdX4_hand_Cond_native_arraycopyName : Cond.native arraycopyName ∈ wsX4_hand := by decide +kernel
theorem wdX4_hand_Cond_static_arraycopyName : Cond.static arraycopyName ∈ wsX4_hand := by decide +kernel
theorem inX4_hand_X4 : ∀ w ∈ wsX40, w ∈ wsX4_hand := by decide +kernel
set_option maxRecDepth 100000 in
set_option maxHeartbeats 4000000 in
theorem kX4_hand (l : Launch) (D : va_G) (cy ad : Nat → Nat) (n : Nat) (p0 : Int32) (S : St) (r : Bool) (S' : St) (h : fX4_hand n p0 S = some (r, S')) : CW l D cy ad n yX4_hand wsX4_hand rmX4_hand [.ref (ad 0), .int p0] S (some (.int (b2i r))) S' := by
  refine CW.of (cc := cX4_hand) (nL := 2) (ret := (some .boolean)) (own := RX4) rfl (by decide +kernel) rfl (Nat.le_of_ble_eq_true rfl) ?_
  intro p e s m args below meth c M K
  unfold fX4_hand at h
  refine z_locals [0, 1] [(0, .ref (ad 0)), (1, .int p0)] rfl ?_
  refine z_iload_n (pc := 0) M dX4_hand_0 rfl 1 rfl ?_
  obtain ⟨r1, h2, h⟩ := bo_in h
  refine z_scall (pc := 1) (As := [.int p0]) M (kX4_isPlace l p0 r1 h2) (va_cwS 1 M.1.2.2.2.2 gX4_hand_X4_isPlace rfl rfl rfl (by decide +kernel) ⟨Nat.le_of_ble_eq_true rfl, Nat.le_of_ble_eq_true rfl⟩) rfl rfl (Nat.le_of_ble_eq_true rfl) dX4_hand_1 ?_
  refine z_if_neB (pc := 4) 9 M dX4_hand_4 (by decide) h (fun c_6 h => ?_) (fun c_6 h => ?_)
  · refine z_aload_n (pc := 9) M dX4_hand_9 rfl 0 rfl ?_
    refine z_get (pc := 10) (v := .ref (ad 4)) M K inX4_hand_X4 o_obj rfl 5 (by decide) flX4_hand_48 rfl rfl dX4_hand_10 ?_
    refine z_iconst (pc := 13) (v := 0) M dX4_hand_13 (by decide) ?_
    refine z_aload_n (pc := 14) M dX4_hand_14 rfl 0 rfl ?_
    refine z_get (pc := 15) (v := .ref (ad 5)) M K inX4_hand_X4 o_obj rfl 6 (by decide) flX4_hand_52 rfl rfl dX4_hand_15 ?_
    refine z_iconst (pc := 18) (v := 0) M dX4_hand_18 (by decide) ?_
    refine z_aload_n (pc := 19) M dX4_hand_19 rfl 0 rfl ?_
    refine z_get (pc := 20) (v := .int (nI (2 ^ n))) M K inX4_hand_X4 o_obj rfl 1 (by decide) flX4_hand_22 rfl rfl dX4_hand_20 ?_
    refine z_copyl (pc := 23) M K wdX4_hand_Cond_methodLink_RX4_117_arraycopyName wdX4_hand_Cond_native_arraycopyName wdX4_hand_Cond_static_arraycopyName wdX4_hand_Cond_initialized_java_lang_System ⟨by decide, rfl, rfl⟩ ⟨by decide, rfl, rfl⟩ h (Nat.le_of_ble_eq_true rfl) (Nat.le_of_ble_eq_true rfl) dX4_hand_23 (fun h => ?_)
    refine z_aload_n (pc := 26) M dX4_hand_26 rfl 0 rfl ?_
    refine z_iload_n (pc := 27) M dX4_hand_27 rfl 1 rfl ?_
    obtain ⟨r3, S5, h4, h⟩ := bw_in h
    refine z_vcall (pc := 28) (As := [.int p0]) M K (kX4_settle l D cy ad n p0 (sC S 5 (va_cpy (S.2 4) (S.2 5) (Int32.toNatClampNeg (0 : Int32)) (Int32.toNatClampNeg (0 : Int32)) (Int32.toNatClampNeg (nI (2 ^ n))))) r3 S5 h4) (cwV 1 M.1.2.2.2.2 gX4_hand_X4_settle rfl rfl rfl (by decide +kernel) ⟨Nat.le_of_ble_eq_true rfl, Nat.le_of_ble_eq_true rfl⟩) o_obj rfl rfl rfl (Nat.le_of_ble_eq_true rfl) dX4_hand_28 ?_
    exact z_zretW (pc := 31) M (congrArg Prod.fst (Option.some.inj h)) (congrArg Prod.snd (Option.some.inj h)) rfl dX4_hand_31
  · refine z_iconst (pc := 7) (v := 0) M dX4_hand_7 (by decide) ?_
    exact z_zretW (pc := 8) M (congrArg Prod.fst (Option.some.inj h)) (congrArg Prod.snd (Option.some.inj h)) rfl dX4_hand_8
def rmX4_lawAt : Room := { frames := 2, cells := 0, slots := 0, locals := 42 }
theorem flX4_lawAt_180 : Cond.fieldLink RX4 180 "ShunLots$Law" "made" "Z" ∈ wsX4_lawAt := by decide +kernel
theorem flX4_lawAt_33 : Cond.fieldLink RX4 33 "ShunLots" "laws" "[LShunLots$Law;" ∈ wsX4_lawAt := by decide +kernel
theorem inX4_lawAt_X0 : ∀ w ∈ wsX00, w ∈ wsX4_lawAt := by decide +kernel
theorem inX4_lawAt_X4 : ∀ w ∈ wsX40, w ∈ wsX4_lawAt := by decide +kernel
set_option maxRecDepth 100000 in
set_option maxHeartbeats 4000000 in
theorem kX4_lawAt (l : Launch) (D : va_G) (cy ad : Nat → Nat) (n : Nat) (p0 : Int32) (S : St) (r : (Option Nat)) (h : fX4_lawAt n p0 S = some r) : CW l D cy ad n yX4_lawAt wsX4_lawAt rmX4_lawAt [.ref (ad 0), .int p0] S (some (vL ad r)) S := by
  refine CW.of (cc := cX4_lawAt) (nL := 2) (ret := (some (.object "ShunLots$Law"))) (own := RX4) rfl (by decide +kernel) rfl (Nat.le_of_ble_eq_true rfl) ?_
  intro p e s m args below meth c M K
  unfold fX4_lawAt at h
  refine z_locals [0, 1] [(0, .ref (ad 0)), (1, .int p0)] rfl ?_
  refine z_iload_n (pc := 0) M dX4_lawAt_0 rfl 1 rfl ?_
  obtain ⟨r1, h2, h⟩ := bo_in h
  refine z_scall (pc := 1) (As := [.int p0]) M (kX4_isPlace l p0 r1 h2) (va_cwS 1 M.1.2.2.2.2 gX4_lawAt_X4_isPlace rfl rfl rfl (by decide +kernel) ⟨Nat.le_of_ble_eq_true rfl, Nat.le_of_ble_eq_true rfl⟩) rfl rfl (Nat.le_of_ble_eq_true rfl) dX4_lawAt_1 ?_
  refine z_if_eqB (pc := 4) 19 M dX4_lawAt_4 (by decide) h (fun c_4 h => ?_) (fun c_4 h => ?_)
  · refine z_null (pc := 19) M dX4_lawAt_19 ?_
    exact z_aretW (pc := 20) M (Option.some.inj h) rfl rfl dX4_lawAt_20
  · refine z_aload_n (pc := 7) M dX4_lawAt_7 rfl 0 rfl ?_
    refine z_get (pc := 8) (v := .ref (ad 3)) M K inX4_lawAt_X4 o_obj rfl 4 (by decide) flX4_lawAt_33 rfl rfl dX4_lawAt_8 ?_
    refine z_iload_n (pc := 11) M dX4_lawAt_11 rfl 1 rfl ?_
    refine z_aaldL (pc := 12) M K h dX4_lawAt_12 (fun h_Int32_toNatClampNeg_p0 h => ?_)
    refine z_get (pc := 13) (v := .int (S.1 (25 + (Int32.toNatClampNeg p0)) 0)) M K inX4_lawAt_X0 (o_law h_Int32_toNatClampNeg_p0) rfl 2 (by decide) flX4_lawAt_180 rfl rfl dX4_lawAt_13 ?_
    refine z_if_ne (pc := 16) 21 M dX4_lawAt_16 (by decide) h (fun c_3 h => ?_) (fun c_3 h => ?_)
    · refine z_aload_n (pc := 21) M dX4_lawAt_21 rfl 0 rfl ?_
      refine z_get (pc := 22) (v := .ref (ad 3)) M K inX4_lawAt_X4 o_obj rfl 4 (by decide) flX4_lawAt_33 rfl rfl dX4_lawAt_22 ?_
      refine z_iload_n (pc := 25) M dX4_lawAt_25 rfl 1 rfl ?_
      refine z_aaldL (pc := 26) M K h dX4_lawAt_26 (fun h_Int32_toNatClampNeg_p0 h => ?_)
      exact z_aretW (pc := 27) M (Option.some.inj h) rfl rfl dX4_lawAt_27
    · refine z_null (pc := 19) M dX4_lawAt_19 ?_
      exact z_aretW (pc := 20) M (Option.some.inj h) rfl rfl dX4_lawAt_20
def rmX4_given : Room := { frames := 3, cells := 0, slots := 0, locals := 63 }
theorem flX4_given_130 : Cond.fieldLink RX4 130 "ShunLots$Law" "shares" "[J" ∈ wsX4_given := by decide +kernel
theorem flX4_given_22 : Cond.fieldLink RX4 22 "ShunLots" "sets" "I" ∈ wsX4_given := by decide +kernel
theorem flX4_given_52 : Cond.fieldLink RX4 52 "ShunLots" "draft" "[J" ∈ wsX4_given := by decide +kernel
theorem inX4_given_X0 : ∀ w ∈ wsX00, w ∈ wsX4_given := by decide +kernel
theorem inX4_given_X4 : ∀ w ∈ wsX40, w ∈ wsX4_given := by decide +kernel
set_option maxRecDepth 100000 in
set_option maxHeartbeats 4000000 in
theorem LX4_given_1 {p : Program} {l : Launch} {e : Env} {s : State} {m : MethodId} {args : Array Value} {below : List Frame} {meth : Method} {c : Code} {Q : State → Prop} {D : va_G} {cy ad : Nat → Nat} {n : Nat} (M : MX p m c cX4_given 7 s args wsX4_given RX4 meth (some .boolean)) (K : KK D cy ad s) (x2 : Int32) (x3 : Int32) (x4 : Int32) (t5 : Nat) (h_t5 : t5 < 6)  : ∀ (fuel : Nat) (x6 : Int32) (S : St) (o : (Unit) × St), lX4_given_1 n x2 x3 x4 t5 fuel x6 S = some o → ∀ (hx : ∀ a S', o = (a, S') → Zz p l e rmX4_given s m args below meth c 7 Q (Hw D cy ad n s S') 85 [(0, .ref (ad 0)), (4, .int x4)] []) , Zz p l e rmX4_given s m args below meth c 7 Q (Hw D cy ad n s S) 41 [(0, .ref (ad 0)), (2, .int x2), (3, .int x3), (4, .int x4), (5, .ref (ad (25 + t5))), (6, .int x6)] [] := by
  intro fuel
  induction fuel with
  | zero => intro x6 S o h; exact nomatch (show (none : Option _) = some o from h)
  | succ fuel ih =>
    intro x6 S o h hx 
    have h : bX4_given_1 n x2 x3 x4 t5 (lX4_given_1 n x2 x3 x4 t5 fuel) x6 S = some o := h
    unfold bX4_given_1 at h
    refine z_iload (pc := 41) M dX4_given_41 5 rfl ?_
    refine z_aload_n (pc := 43) M dX4_given_43 rfl 0 rfl ?_
    refine z_get (pc := 44) (v := .int (nI (2 ^ n))) M K inX4_given_X4 o_obj rfl 1 (by decide) flX4_given_22 rfl rfl dX4_given_44 ?_
    refine z_icmp_ge (pc := 47) 85 M dX4_given_47 (by decide) h (fun c_13 h => ?_) (fun c_13 h => ?_)
    · refine z_locals [0, 3] [(0, .ref (ad 0)), (4, .int x4)] rfl ?_
      cases h
      exact hx _ _ rfl
    · refine z_aload_n (pc := 50) M dX4_given_50 rfl 0 rfl ?_
      refine z_get (pc := 51) (v := .ref (ad 5)) M K inX4_given_X4 o_obj rfl 6 (by decide) flX4_given_52 rfl rfl dX4_given_51 ?_
      refine z_iload (pc := 54) M dX4_given_54 5 rfl ?_
      refine z_iload (pc := 56) M dX4_given_56 5 rfl ?_
      refine z_iload_n (pc := 58) M dX4_given_58 rfl 1 rfl ?_
      refine z_iload_n (pc := 59) M dX4_given_59 rfl 2 rfl ?_
      obtain ⟨r10, h11, h⟩ := bo_in h
      refine z_scall (pc := 60) (As := [.int x6, .int x2, .int x3]) M (kX4_fits l x6 x2 x3 r10 h11) (va_cwS 3 M.1.2.2.2.2 gX4_given_X4_fits rfl rfl rfl (by decide +kernel) ⟨Nat.le_of_ble_eq_true rfl, Nat.le_of_ble_eq_true rfl⟩) rfl rfl (Nat.le_of_ble_eq_true rfl) dX4_given_60 ?_
      refine z_if_eqB (pc := 63) 77 M dX4_given_63 (by decide) h (fun c_12 h => ?_) (fun c_12 h => ?_)
      · refine z_lconst (pc := 77) (v := 0) M dX4_given_77 (by decide) ?_
        refine z_last (pc := 78) M K ⟨by decide, rfl, rfl⟩ h dX4_given_78 (fun h => ?_)
        refine z_iinc (pc := 79) M dX4_given_79 (x6 + 1) rfl 5 rfl (by decide) [1, 2, 3, 4, 5, 0] [(0, .ref (ad 0)), (2, .int x2), (3, .int x3), (4, .int x4), (5, .ref (ad (25 + t5))), (6, .int (x6 + 1))] rfl ?_
        refine z_goto (pc := 82) 41 M dX4_given_82 (by decide) ?_
        refine z_locals [0, 1, 2, 3, 4, 5] [(0, .ref (ad 0)), (2, .int x2), (3, .int x3), (4, .int x4), (5, .ref (ad (25 + t5))), (6, .int (x6 + 1))] rfl ?_
        exact ih (x6 + 1) (sJ S 5 (Int32.toNatClampNeg x6) (0 : Int64)) _ h hx
      · refine z_aload (pc := 66) M dX4_given_66 4 rfl ?_
        refine z_get (pc := 68) (v := .ref (ad (31 + t5))) M K inX4_given_X0 (o_law h_t5) rfl 0 (by decide) flX4_given_130 rfl rfl dX4_given_68 ?_
        refine z_iload (pc := 71) M dX4_given_71 5 rfl ?_
        refine z_lald (pc := 73) M K (ro_shr h_t5) h dX4_given_73 (fun _ h => ?_)
        refine z_goto (pc := 74) 78 M dX4_given_74 (by decide) ?_
        refine z_last (pc := 78) M K ⟨by decide, rfl, rfl⟩ h dX4_given_78 (fun h => ?_)
        refine z_iinc (pc := 79) M dX4_given_79 (x6 + 1) rfl 5 rfl (by decide) [1, 2, 3, 4, 5, 0] [(0, .ref (ad 0)), (2, .int x2), (3, .int x3), (4, .int x4), (5, .ref (ad (25 + t5))), (6, .int (x6 + 1))] rfl ?_
        refine z_goto (pc := 82) 41 M dX4_given_82 (by decide) ?_
        refine z_locals [0, 1, 2, 3, 4, 5] [(0, .ref (ad 0)), (2, .int x2), (3, .int x3), (4, .int x4), (5, .ref (ad (25 + t5))), (6, .int (x6 + 1))] rfl ?_
        exact ih (x6 + 1) (sJ S 5 (Int32.toNatClampNeg x6) (S.2 (31 + t5) (Int32.toNatClampNeg x6))) _ h hx
set_option maxRecDepth 100000 in
set_option maxHeartbeats 4000000 in
theorem kX4_given (l : Launch) (D : va_G) (cy ad : Nat → Nat) (n : Nat) (p0 : Int32) (p1 : Int32) (p2 : Int32) (p3 : Int32) (S : St) (r : Bool) (S' : St) (h : fX4_given n p0 p1 p2 p3 S = some (r, S')) : CW l D cy ad n yX4_given wsX4_given rmX4_given [.ref (ad 0), .int p0, .int p1, .int p2, .int p3] S (some (.int (b2i r))) S' := by
  refine CW.of (cc := cX4_given) (nL := 7) (ret := (some .boolean)) (own := RX4) rfl (by decide +kernel) rfl (Nat.le_of_ble_eq_true rfl) ?_
  intro p e s m args below meth c M K
  unfold fX4_given at h
  refine z_locals [0, 1, 2, 3, 4] [(0, .ref (ad 0)), (1, .int p0), (2, .int p1), (3, .int p2), (4, .int p3)] rfl ?_
  refine z_aload_n (pc := 0) M dX4_given_0 rfl 0 rfl ?_
  refine z_iload_n (pc := 1) M dX4_given_1 rfl 1 rfl ?_
  obtain ⟨r1, h2, h⟩ := bo_in h
  refine z_vcall (pc := 2) (As := [.int p0]) M K (kX4_lawAt l D cy ad n p0 S r1 h2) (cwV 1 M.1.2.2.2.2 gX4_given_X4_lawAt rfl rfl rfl (by decide +kernel) ⟨Nat.le_of_ble_eq_true rfl, Nat.le_of_ble_eq_true rfl⟩) o_obj rfl rfl rfl (Nat.le_of_ble_eq_true rfl) dX4_given_2 ?_
  cases r1 with
  | none =>
    refine z_astoreN (pc := 5) M dX4_given_5 (by decide) [1, 3, 4, 5, 0] [(0, .ref (ad 0)), (2, .int p1), (3, .int p2), (4, .int p3), (5, .null)] rfl ?_
    refine z_aloadN (pc := 7) M dX4_given_7 4 rfl ?_
    refine z_ifnullN (pc := 9) 36 M dX4_given_9 (by decide) ?_
    refine z_iconst (pc := 36) (v := 0) M dX4_given_36 (by decide) ?_
    exact z_zretW (pc := 37) M (congrArg Prod.fst (Option.some.inj h)) (congrArg Prod.snd (Option.some.inj h)) rfl dX4_given_37
  | some lw3 =>
    obtain ⟨h_lw3, h⟩ := gd_in (show gd (decide (lw3 < 6)) _ = some _ from h)
    have h_lw3 := of_decide_eq_true h_lw3
    refine z_astore (pc := 5) M dX4_given_5 (by decide) [1, 3, 4, 5, 0] [(0, .ref (ad 0)), (2, .int p1), (3, .int p2), (4, .int p3), (5, .ref (ad (25 + lw3)))] rfl ?_
    refine z_aload (pc := 7) M dX4_given_7 4 rfl ?_
    refine z_ifnull (pc := 9) M dX4_given_9 ?_
    refine z_aload_n (pc := 12) M dX4_given_12 rfl 0 rfl ?_
    refine z_iload_n (pc := 13) M dX4_given_13 rfl 1 rfl ?_
    obtain ⟨r4, h5, h⟩ := bo_in h
    refine z_vcall (pc := 14) (As := [.int p1]) M K (kX4_isSet l D cy ad n p1 S r4 h5) (cwV 1 M.1.2.2.2.2 gX4_given_X4_isSet rfl rfl rfl (by decide +kernel) ⟨Nat.le_of_ble_eq_true rfl, Nat.le_of_ble_eq_true rfl⟩) o_obj rfl rfl rfl (Nat.le_of_ble_eq_true rfl) dX4_given_14 ?_
    refine z_if_eqB (pc := 17) 36 M dX4_given_17 (by decide) h (fun c_22 h => ?_) (fun c_22 h => ?_)
    · refine z_iconst (pc := 36) (v := 0) M dX4_given_36 (by decide) ?_
      exact z_zretW (pc := 37) M (congrArg Prod.fst (Option.some.inj h)) (congrArg Prod.snd (Option.some.inj h)) rfl dX4_given_37
    · refine z_aload_n (pc := 20) M dX4_given_20 rfl 0 rfl ?_
      refine z_iload_n (pc := 21) M dX4_given_21 rfl 2 rfl ?_
      obtain ⟨r6, h7, h⟩ := bo_in h
      refine z_vcall (pc := 22) (As := [.int p2]) M K (kX4_isSet l D cy ad n p2 S r6 h7) (cwV 1 M.1.2.2.2.2 gX4_given_X4_isSet rfl rfl rfl (by decide +kernel) ⟨Nat.le_of_ble_eq_true rfl, Nat.le_of_ble_eq_true rfl⟩) o_obj rfl rfl rfl (Nat.le_of_ble_eq_true rfl) dX4_given_22 ?_
      refine z_if_eqB (pc := 25) 36 M dX4_given_25 (by decide) h (fun c_21 h => ?_) (fun c_21 h => ?_)
      · refine z_iconst (pc := 36) (v := 0) M dX4_given_36 (by decide) ?_
        exact z_zretW (pc := 37) M (congrArg Prod.fst (Option.some.inj h)) (congrArg Prod.snd (Option.some.inj h)) rfl dX4_given_37
      · refine z_iload (pc := 28) M dX4_given_28 3 rfl ?_
        obtain ⟨r8, h9, h⟩ := bo_in h
        refine z_scall (pc := 30) (As := [.int p3]) M (kX4_isPlace l p3 r8 h9) (va_cwS 1 M.1.2.2.2.2 gX4_given_X4_isPlace rfl rfl rfl (by decide +kernel) ⟨Nat.le_of_ble_eq_true rfl, Nat.le_of_ble_eq_true rfl⟩) rfl rfl (Nat.le_of_ble_eq_true rfl) dX4_given_30 ?_
        refine z_if_neB (pc := 33) 38 M dX4_given_33 (by decide) h (fun c_20 h => ?_) (fun c_20 h => ?_)
        · refine z_iconst (pc := 38) (v := 0) M dX4_given_38 (by decide) ?_
          refine z_istore (pc := 39) M dX4_given_39 (by decide) [1, 2, 3, 4, 5, 0] [(0, .ref (ad 0)), (2, .int p1), (3, .int p2), (4, .int p3), (5, .ref (ad (25 + lw3))), (6, .int (0 : Int32))] rfl ?_
          refine z_locals [0, 1, 2, 3, 4, 5] [(0, .ref (ad 0)), (2, .int p1), (3, .int p2), (4, .int p3), (5, .ref (ad (25 + lw3))), (6, .int (0 : Int32))] rfl ?_
          obtain ⟨q14, S16, h15, h⟩ := bw_in h
          refine LX4_given_1 M K p1 p2 p3 lw3 h_lw3 FU (0 : Int32) S _ h15 (fun a S' hE => ?_)
          cases hE
          refine z_aload_n (pc := 85) M dX4_given_85 rfl 0 rfl ?_
          refine z_iload (pc := 86) M dX4_given_86 1 rfl ?_
          obtain ⟨r17, S19, h18, h⟩ := bw_in h
          refine z_vcall (pc := 88) (As := [.int p3]) M K (kX4_settle l D cy ad n p3 S16 r17 S19 h18) (cwV 1 M.1.2.2.2.2 gX4_given_X4_settle rfl rfl rfl (by decide +kernel) ⟨Nat.le_of_ble_eq_true rfl, Nat.le_of_ble_eq_true rfl⟩) o_obj rfl rfl rfl (Nat.le_of_ble_eq_true rfl) dX4_given_88 ?_
          exact z_zretW (pc := 91) M (congrArg Prod.fst (Option.some.inj h)) (congrArg Prod.snd (Option.some.inj h)) rfl dX4_given_91
        · refine z_iconst (pc := 36) (v := 0) M dX4_given_36 (by decide) ?_
          exact z_zretW (pc := 37) M (congrArg Prod.fst (Option.some.inj h)) (congrArg Prod.snd (Option.some.inj h)) rfl dX4_given_37
def rmX4_halveDraft : Room := { frames := 0, cells := 0, slots := 0, locals := 0 }
theorem flX4_halveDraft_22 : Cond.fieldLink RX4 22 "ShunLots" "sets" "I" ∈ wsX4_halveDraft := by decide +kernel
theorem flX4_halveDraft_52 : Cond.fieldLink RX4 52 "ShunLots" "draft" "[J" ∈ wsX4_halveDraft := by decide +kernel
theorem wdX4_halveDraft_Cond_constantLong_RX4_184_2 : Cond.constantLong RX4 184 (2) ∈ wsX4_halveDraft := by decide +kernel
theorem inX4_halveDraft_X4 : ∀ w ∈ wsX40, w ∈ wsX4_halveDraft := by decide +kernel
set_option maxRecDepth 100000 in
set_option maxHeartbeats 4000000 in
theorem LX4_halveDraft_1 {p : Program} {l : Launch} {e : Env} {s : State} {m : MethodId} {args : Array Value} {below : List Frame} {meth : Method} {c : Code} {Q : State → Prop} {D : va_G} {cy ad : Nat → Nat} {n : Nat} (M : MX p m c cX4_halveDraft 3 s args wsX4_halveDraft RX4 meth none) (K : KK D cy ad s) (x1 : Int32)   : ∀ (fuel : Nat) (x2 : Int32) (S : St) (o : (Unit) × St), lX4_halveDraft_1 n x1 fuel x2 S = some o → ∀ (hx : ∀ a S', o = (a, S') → Zz p l e rmX4_halveDraft s m args below meth c 3 Q (Hw D cy ad n s S') 47 [] []) , Zz p l e rmX4_halveDraft s m args below meth c 3 Q (Hw D cy ad n s S) 2 [(0, .ref (ad 0)), (1, .int x1), (2, .int x2)] [] := by
  intro fuel
  induction fuel with
  | zero => intro x2 S o h; exact nomatch (show (none : Option _) = some o from h)
  | succ fuel ih =>
    intro x2 S o h hx 
    have h : bX4_halveDraft_1 n x1 (lX4_halveDraft_1 n x1 fuel) x2 S = some o := h
    unfold bX4_halveDraft_1 at h
    refine z_iload_n (pc := 2) M dX4_halveDraft_2 rfl 2 rfl ?_
    refine z_aload_n (pc := 3) M dX4_halveDraft_3 rfl 0 rfl ?_
    refine z_get (pc := 4) (v := .int (nI (2 ^ n))) M K inX4_halveDraft_X4 o_obj rfl 1 (by decide) flX4_halveDraft_22 rfl rfl dX4_halveDraft_4 ?_
    refine z_icmp_ge (pc := 7) 47 M dX4_halveDraft_7 (by decide) h (fun c_2 h => ?_) (fun c_2 h => ?_)
    · refine z_locals [] [] rfl ?_
      cases h
      exact hx _ _ rfl
    · refine z_iload_n (pc := 10) M dX4_halveDraft_10 rfl 2 rfl ?_
      refine z_iload_n (pc := 11) M dX4_halveDraft_11 rfl 1 rfl ?_
      refine z_iand (pc := 12) M dX4_halveDraft_12 ?_
      refine z_if_ne (pc := 13) 41 M dX4_halveDraft_13 (by decide) h (fun c_1 h => ?_) (fun c_1 h => ?_)
      · refine z_iinc (pc := 41) M dX4_halveDraft_41 (x2 + 1) rfl 2 rfl (by decide) [1, 2, 0] [(0, .ref (ad 0)), (1, .int x1), (2, .int (x2 + 1))] rfl ?_
        refine z_goto (pc := 44) 2 M dX4_halveDraft_44 (by decide) ?_
        refine z_locals [0, 1, 2] [(0, .ref (ad 0)), (1, .int x1), (2, .int (x2 + 1))] rfl ?_
        exact ih (x2 + 1) S _ h hx
      · refine z_aload_n (pc := 16) M dX4_halveDraft_16 rfl 0 rfl ?_
        refine z_get (pc := 17) (v := .ref (ad 5)) M K inX4_halveDraft_X4 o_obj rfl 6 (by decide) flX4_halveDraft_52 rfl rfl dX4_halveDraft_17 ?_
        refine z_iload_n (pc := 20) M dX4_halveDraft_20 rfl 2 rfl ?_
        refine z_ldc2 (pc := 21) M wdX4_halveDraft_Cond_constantLong_RX4_184_2 dX4_halveDraft_21 ?_
        refine z_aload_n (pc := 24) M dX4_halveDraft_24 rfl 0 rfl ?_
        refine z_get (pc := 25) (v := .ref (ad 5)) M K inX4_halveDraft_X4 o_obj rfl 6 (by decide) flX4_halveDraft_52 rfl rfl dX4_halveDraft_25 ?_
        refine z_iload_n (pc := 28) M dX4_halveDraft_28 rfl 2 rfl ?_
        refine z_lald (pc := 29) M K ⟨by decide, rfl, rfl⟩ h dX4_halveDraft_29 (fun _ h => ?_)
        refine z_lmul (pc := 30) M dX4_halveDraft_30 ?_
        refine z_aload_n (pc := 31) M dX4_halveDraft_31 rfl 0 rfl ?_
        refine z_get (pc := 32) (v := .ref (ad 5)) M K inX4_halveDraft_X4 o_obj rfl 6 (by decide) flX4_halveDraft_52 rfl rfl dX4_halveDraft_32 ?_
        refine z_iload_n (pc := 35) M dX4_halveDraft_35 rfl 2 rfl ?_
        refine z_iload_n (pc := 36) M dX4_halveDraft_36 rfl 1 rfl ?_
        refine z_ior (pc := 37) M dX4_halveDraft_37 ?_
        refine z_lald (pc := 38) M K ⟨by decide, rfl, rfl⟩ h dX4_halveDraft_38 (fun _ h => ?_)
        refine z_ladd (pc := 39) M dX4_halveDraft_39 ?_
        refine z_last (pc := 40) M K ⟨by decide, rfl, rfl⟩ h dX4_halveDraft_40 (fun h => ?_)
        refine z_iinc (pc := 41) M dX4_halveDraft_41 (x2 + 1) rfl 2 rfl (by decide) [1, 2, 0] [(0, .ref (ad 0)), (1, .int x1), (2, .int (x2 + 1))] rfl ?_
        refine z_goto (pc := 44) 2 M dX4_halveDraft_44 (by decide) ?_
        refine z_locals [0, 1, 2] [(0, .ref (ad 0)), (1, .int x1), (2, .int (x2 + 1))] rfl ?_
        exact ih (x2 + 1) (sJ S 5 (Int32.toNatClampNeg x2) (((2 : Int64) * (S.2 5 (Int32.toNatClampNeg x2))) + (S.2 5 (Int32.toNatClampNeg (x2 ||| x1))))) _ h hx
set_option maxRecDepth 100000 in
set_option maxHeartbeats 4000000 in
theorem kX4_halveDraft (l : Launch) (D : va_G) (cy ad : Nat → Nat) (n : Nat) (p0 : Int32) (S : St) (r : Unit) (S' : St) (h : fX4_halveDraft n p0 S = some (r, S')) : CW l D cy ad n yX4_halveDraft wsX4_halveDraft rmX4_halveDraft [.ref (ad 0), .int p0] S none S' := by
  refine CW.of (cc := cX4_halveDraft) (nL := 3) (ret := none) (own := RX4) rfl (by decide +kernel) rfl (Nat.le_of_ble_eq_true rfl) ?_
  intro p e s m args below meth c M K
  unfold fX4_halveDraft at h
  refine z_locals [0, 1] [(0, .ref (ad 0)), (1, .int p0)] rfl ?_
  refine z_iconst (pc := 0) (v := 0) M dX4_halveDraft_0 (by decide) ?_
  refine z_istore_n (pc := 1) M dX4_halveDraft_1 rfl (by decide) [1, 2, 0] [(0, .ref (ad 0)), (1, .int p0), (2, .int (0 : Int32))] rfl ?_
  refine z_locals [0, 1, 2] [(0, .ref (ad 0)), (1, .int p0), (2, .int (0 : Int32))] rfl ?_
  obtain ⟨q3, S5, h4, h⟩ := bw_in h
  refine LX4_halveDraft_1 M K p0 FU (0 : Int32) S _ h4 (fun a S' hE => ?_)
  cases hE
  exact z_vretW (pc := 47) M (congrArg Prod.snd (Option.some.inj h)) dX4_halveDraft_47
def rmX4_thin : Room := { frames := 3, cells := 0, slots := 0, locals := 63 }
theorem flX4_thin_130 : Cond.fieldLink RX4 130 "ShunLots$Law" "shares" "[J" ∈ wsX4_thin := by decide +kernel
theorem flX4_thin_18 : Cond.fieldLink RX4 18 "ShunLots" "things" "I" ∈ wsX4_thin := by decide +kernel
theorem flX4_thin_22 : Cond.fieldLink RX4 22 "ShunLots" "sets" "I" ∈ wsX4_thin := by decide +kernel
theorem flX4_thin_52 : Cond.fieldLink RX4 52 "ShunLots" "draft" "[J" ∈ wsX4_thin := by decide +kernel
theorem wdX4_thin_Cond_initialized_java_lang_System : Cond.initialized "java/lang/System" ∈ wsX4_thin := by decide +kernel
theorem wdX4_thin_Cond_methodLink_RX4_117_arraycopyName : Cond.methodLink RX4 117 arraycopyName ∈ wsX4_thin := by decide +kernel
theorem wdX4_thin_Cond_native_arraycopyName : Cond.native arraycopyName ∈ wsX4_thin := by decide +kernel
theorem wdX4_thin_Cond_static_arraycopyName : Cond.static arraycopyName ∈ wsX4_thin := by decide +kernel
theorem inX4_thin_X0 : ∀ w ∈ wsX00, w ∈ wsX4_thin := by decide +kernel
theorem inX4_thin_X4 : ∀ w ∈ wsX40, w ∈ wsX4_thin := by decide +kernel
set_option maxRecDepth 100000 in
set_option maxHeartbeats 4000000 in
theorem LX4_thin_1 {p : Program} {l : Launch} {e : Env} {s : State} {m : MethodId} {args : Array Value} {below : List Frame} {meth : Method} {c : Code} {Q : State → Prop} {D : va_G} {cy ad : Nat → Nat} {n : Nat} (M : MX p m c cX4_thin 6 s args wsX4_thin RX4 meth (some .boolean)) (K : KK D cy ad s) (x2 : Int32) (x3 : Int32)   : ∀ (fuel : Nat) (x5 : Int32) (S : St) (o : (Unit) × St), lX4_thin_1 n x2 x3 fuel x5 S = some o → ∀ (hx : ∀ a S', o = (a, S') → Zz p l e rmX4_thin s m args below meth c 6 Q (Hw D cy ad n s S') 82 [(0, .ref (ad 0)), (3, .int x3)] []) , Zz p l e rmX4_thin s m args below meth c 6 Q (Hw D cy ad n s S) 50 [(0, .ref (ad 0)), (2, .int x2), (3, .int x3), (5, .int x5)] [] := by
  intro fuel
  induction fuel with
  | zero => intro x5 S o h; exact nomatch (show (none : Option _) = some o from h)
  | succ fuel ih =>
    intro x5 S o h hx 
    have h : bX4_thin_1 n x2 x3 (lX4_thin_1 n x2 x3 fuel) x5 S = some o := h
    unfold bX4_thin_1 at h
    refine z_iload (pc := 50) M dX4_thin_50 3 rfl ?_
    refine z_aload_n (pc := 52) M dX4_thin_52 rfl 0 rfl ?_
    refine z_get (pc := 53) (v := .int (nI n)) M K inX4_thin_X4 o_obj rfl 0 (by decide) flX4_thin_18 rfl rfl dX4_thin_53 ?_
    refine z_icmp_ge (pc := 56) 82 M dX4_thin_56 (by decide) h (fun c_14 h => ?_) (fun c_14 h => ?_)
    · refine z_locals [0, 2] [(0, .ref (ad 0)), (3, .int x3)] rfl ?_
      cases h
      exact hx _ _ rfl
    · refine z_iload_n (pc := 59) M dX4_thin_59 rfl 1 rfl ?_
      refine z_iload (pc := 60) M dX4_thin_60 3 rfl ?_
      obtain ⟨r8, h9, h⟩ := bo_in h
      refine z_scall (pc := 62) (As := [.int x2, .int x5]) M (kX4_has l x2 x5 r8 h9) (va_cwS 2 M.1.2.2.2.2 gX4_thin_X4_has rfl rfl rfl (by decide +kernel) ⟨Nat.le_of_ble_eq_true rfl, Nat.le_of_ble_eq_true rfl⟩) rfl rfl (Nat.le_of_ble_eq_true rfl) dX4_thin_62 ?_
      refine z_if_eqB (pc := 65) 76 M dX4_thin_65 (by decide) h (fun c_13 h => ?_) (fun c_13 h => ?_)
      · refine z_iinc (pc := 76) M dX4_thin_76 (x5 + 1) rfl 3 rfl (by decide) [1, 2, 3, 0] [(0, .ref (ad 0)), (2, .int x2), (3, .int x3), (5, .int (x5 + 1))] rfl ?_
        refine z_goto (pc := 79) 50 M dX4_thin_79 (by decide) ?_
        refine z_locals [0, 1, 2, 3] [(0, .ref (ad 0)), (2, .int x2), (3, .int x3), (5, .int (x5 + 1))] rfl ?_
        exact ih (x5 + 1) S _ h hx
      · refine z_aload_n (pc := 68) M dX4_thin_68 rfl 0 rfl ?_
        refine z_iconst (pc := 69) (v := 1) M dX4_thin_69 (by decide) ?_
        refine z_iload (pc := 70) M dX4_thin_70 3 rfl ?_
        refine z_ishl (pc := 72) M dX4_thin_72 ?_
        obtain ⟨r10, S12, h11, h⟩ := bw_in h
        refine z_vcallV (pc := 73) (As := [.int ((1 : Int32) <<< (x5 &&& 31))]) M K (kX4_halveDraft l D cy ad n ((1 : Int32) <<< (x5 &&& 31)) S r10 S12 h11) (cwV 1 M.1.2.2.2.2 gX4_thin_X4_halveDraft rfl rfl rfl (by decide +kernel) ⟨Nat.le_of_ble_eq_true rfl, Nat.le_of_ble_eq_true rfl⟩) o_obj rfl rfl rfl (Nat.le_of_ble_eq_true rfl) dX4_thin_73 ?_
        refine z_iinc (pc := 76) M dX4_thin_76 (x5 + 1) rfl 3 rfl (by decide) [1, 2, 3, 0] [(0, .ref (ad 0)), (2, .int x2), (3, .int x3), (5, .int (x5 + 1))] rfl ?_
        refine z_goto (pc := 79) 50 M dX4_thin_79 (by decide) ?_
        refine z_locals [0, 1, 2, 3] [(0, .ref (ad 0)), (2, .int x2), (3, .int x3), (5, .int (x5 + 1))] rfl ?_
        exact ih (x5 + 1) S12 _ h hx
set_option maxRecDepth 100000 in
set_option maxHeartbeats 4000000 in
theorem kX4_thin (l : Launch) (D : va_G) (cy ad : Nat → Nat) (n : Nat) (p0 : Int32) (p1 : Int32) (p2 : Int32) (S : St) (r : Bool) (S' : St) (h : fX4_thin n p0 p1 p2 S = some (r, S')) : CW l D cy ad n yX4_thin wsX4_thin rmX4_thin [.ref (ad 0), .int p0, .int p1, .int p2] S (some (.int (b2i r))) S' := by
  refine CW.of (cc := cX4_thin) (nL := 6) (ret := (some .boolean)) (own := RX4) rfl (by decide +kernel) rfl (Nat.le_of_ble_eq_true rfl) ?_
  intro p e s m args below meth c M K
  unfold fX4_thin at h
  refine z_locals [0, 1, 2, 3] [(0, .ref (ad 0)), (1, .int p0), (2, .int p1), (3, .int p2)] rfl ?_
  refine z_aload_n (pc := 0) M dX4_thin_0 rfl 0 rfl ?_
  refine z_iload_n (pc := 1) M dX4_thin_1 rfl 1 rfl ?_
  obtain ⟨r1, h2, h⟩ := bo_in h
  refine z_vcall (pc := 2) (As := [.int p0]) M K (kX4_lawAt l D cy ad n p0 S r1 h2) (cwV 1 M.1.2.2.2.2 gX4_thin_X4_lawAt rfl rfl rfl (by decide +kernel) ⟨Nat.le_of_ble_eq_true rfl, Nat.le_of_ble_eq_true rfl⟩) o_obj rfl rfl rfl (Nat.le_of_ble_eq_true rfl) dX4_thin_2 ?_
  cases r1 with
  | none =>
    refine z_astoreN (pc := 5) M dX4_thin_5 (by decide) [1, 3, 4, 0] [(0, .ref (ad 0)), (2, .int p1), (3, .int p2), (4, .null)] rfl ?_
    refine z_aloadN (pc := 7) M dX4_thin_7 3 rfl ?_
    refine z_ifnullN (pc := 9) 27 M dX4_thin_9 (by decide) ?_
    refine z_iconst (pc := 27) (v := 0) M dX4_thin_27 (by decide) ?_
    exact z_zretW (pc := 28) M (congrArg Prod.fst (Option.some.inj h)) (congrArg Prod.snd (Option.some.inj h)) rfl dX4_thin_28
  | some lw3 =>
    obtain ⟨h_lw3, h⟩ := gd_in (show gd (decide (lw3 < 6)) _ = some _ from h)
    have h_lw3 := of_decide_eq_true h_lw3
    refine z_astore (pc := 5) M dX4_thin_5 (by decide) [1, 3, 4, 0] [(0, .ref (ad 0)), (2, .int p1), (3, .int p2), (4, .ref (ad (25 + lw3)))] rfl ?_
    refine z_aload (pc := 7) M dX4_thin_7 3 rfl ?_
    refine z_ifnull (pc := 9) M dX4_thin_9 ?_
    refine z_aload_n (pc := 12) M dX4_thin_12 rfl 0 rfl ?_
    refine z_iload_n (pc := 13) M dX4_thin_13 rfl 1 rfl ?_
    obtain ⟨r4, h5, h⟩ := bo_in h
    refine z_vcall (pc := 14) (As := [.int p1]) M K (kX4_isSet l D cy ad n p1 S r4 h5) (cwV 1 M.1.2.2.2.2 gX4_thin_X4_isSet rfl rfl rfl (by decide +kernel) ⟨Nat.le_of_ble_eq_true rfl, Nat.le_of_ble_eq_true rfl⟩) o_obj rfl rfl rfl (Nat.le_of_ble_eq_true rfl) dX4_thin_14 ?_
    refine z_if_eqB (pc := 17) 27 M dX4_thin_17 (by decide) h (fun c_22 h => ?_) (fun c_22 h => ?_)
    · refine z_iconst (pc := 27) (v := 0) M dX4_thin_27 (by decide) ?_
      exact z_zretW (pc := 28) M (congrArg Prod.fst (Option.some.inj h)) (congrArg Prod.snd (Option.some.inj h)) rfl dX4_thin_28
    · refine z_iload_n (pc := 20) M dX4_thin_20 rfl 2 rfl ?_
      obtain ⟨r6, h7, h⟩ := bo_in h
      refine z_scall (pc := 21) (As := [.int p2]) M (kX4_isPlace l p2 r6 h7) (va_cwS 1 M.1.2.2.2.2 gX4_thin_X4_isPlace rfl rfl rfl (by decide +kernel) ⟨Nat.le_of_ble_eq_true rfl, Nat.le_of_ble_eq_true rfl⟩) rfl rfl (Nat.le_of_ble_eq_true rfl) dX4_thin_21 ?_
      refine z_if_neB (pc := 24) 29 M dX4_thin_24 (by decide) h (fun c_21 h => ?_) (fun c_21 h => ?_)
      · refine z_aload (pc := 29) M dX4_thin_29 3 rfl ?_
        refine z_get (pc := 31) (v := .ref (ad (31 + lw3))) M K inX4_thin_X0 (o_law h_lw3) rfl 0 (by decide) flX4_thin_130 rfl rfl dX4_thin_31 ?_
        refine z_iconst (pc := 34) (v := 0) M dX4_thin_34 (by decide) ?_
        refine z_aload_n (pc := 35) M dX4_thin_35 rfl 0 rfl ?_
        refine z_get (pc := 36) (v := .ref (ad 5)) M K inX4_thin_X4 o_obj rfl 6 (by decide) flX4_thin_52 rfl rfl dX4_thin_36 ?_
        refine z_iconst (pc := 39) (v := 0) M dX4_thin_39 (by decide) ?_
        refine z_aload_n (pc := 40) M dX4_thin_40 rfl 0 rfl ?_
        refine z_get (pc := 41) (v := .int (nI (2 ^ n))) M K inX4_thin_X4 o_obj rfl 1 (by decide) flX4_thin_22 rfl rfl dX4_thin_41 ?_
        refine z_copyl (pc := 44) M K wdX4_thin_Cond_methodLink_RX4_117_arraycopyName wdX4_thin_Cond_native_arraycopyName wdX4_thin_Cond_static_arraycopyName wdX4_thin_Cond_initialized_java_lang_System (ro_shr h_lw3) ⟨by decide, rfl, rfl⟩ h (Nat.le_of_ble_eq_true rfl) (Nat.le_of_ble_eq_true rfl) dX4_thin_44 (fun h => ?_)
        refine z_iconst (pc := 47) (v := 0) M dX4_thin_47 (by decide) ?_
        refine z_istore (pc := 48) M dX4_thin_48 (by decide) [1, 2, 3, 0] [(0, .ref (ad 0)), (2, .int p1), (3, .int p2), (5, .int (0 : Int32))] rfl ?_
        refine z_locals [0, 1, 2, 3] [(0, .ref (ad 0)), (2, .int p1), (3, .int p2), (5, .int (0 : Int32))] rfl ?_
        obtain ⟨q15, S17, h16, h⟩ := bw_in h
        refine LX4_thin_1 M K p1 p2 FU (0 : Int32) (sC S 5 (va_cpy (S.2 (31 + lw3)) (S.2 5) (Int32.toNatClampNeg (0 : Int32)) (Int32.toNatClampNeg (0 : Int32)) (Int32.toNatClampNeg (nI (2 ^ n))))) _ h16 (fun a S' hE => ?_)
        cases hE
        refine z_aload_n (pc := 82) M dX4_thin_82 rfl 0 rfl ?_
        refine z_iload_n (pc := 83) M dX4_thin_83 rfl 1 rfl ?_
        obtain ⟨r18, S20, h19, h⟩ := bw_in h
        refine z_vcall (pc := 84) (As := [.int p2]) M K (kX4_settle l D cy ad n p2 S17 r18 S20 h19) (cwV 1 M.1.2.2.2.2 gX4_thin_X4_settle rfl rfl rfl (by decide +kernel) ⟨Nat.le_of_ble_eq_true rfl, Nat.le_of_ble_eq_true rfl⟩) o_obj rfl rfl rfl (Nat.le_of_ble_eq_true rfl) dX4_thin_84 ?_
        exact z_zretW (pc := 87) M (congrArg Prod.fst (Option.some.inj h)) (congrArg Prod.snd (Option.some.inj h)) rfl dX4_thin_87
      · refine z_iconst (pc := 27) (v := 0) M dX4_thin_27 (by decide) ?_
        exact z_zretW (pc := 28) M (congrArg Prod.fst (Option.some.inj h)) (congrArg Prod.snd (Option.some.inj h)) rfl dX4_thin_28
def rmX4_part : Room := { frames := 3, cells := 0, slots := 0, locals := 63 }
theorem flX4_part_130 : Cond.fieldLink RX4 130 "ShunLots$Law" "shares" "[J" ∈ wsX4_part := by decide +kernel
theorem flX4_part_22 : Cond.fieldLink RX4 22 "ShunLots" "sets" "I" ∈ wsX4_part := by decide +kernel
theorem flX4_part_52 : Cond.fieldLink RX4 52 "ShunLots" "draft" "[J" ∈ wsX4_part := by decide +kernel
theorem inX4_part_X0 : ∀ w ∈ wsX00, w ∈ wsX4_part := by decide +kernel
theorem inX4_part_X4 : ∀ w ∈ wsX40, w ∈ wsX4_part := by decide +kernel
set_option maxRecDepth 100000 in
set_option maxHeartbeats 4000000 in
theorem LX4_part_1 {p : Program} {l : Launch} {e : Env} {s : State} {m : MethodId} {args : Array Value} {below : List Frame} {meth : Method} {c : Code} {Q : State → Prop} {D : va_G} {cy ad : Nat → Nat} {n : Nat} (M : MX p m c cX4_part 6 s args wsX4_part RX4 meth (some .boolean)) (K : KK D cy ad s) (x2 : Int32) (x3 : Int32) (t4 : Nat) (h_t4 : t4 < 6)  : ∀ (fuel : Nat) (x5 : Int32) (S : St) (o : (Unit) × St), lX4_part_1 n x2 x3 t4 fuel x5 S = some o → ∀ (hx : ∀ a S', o = (a, S') → Zz p l e rmX4_part s m args below meth c 6 Q (Hw D cy ad n s S') 55 [(0, .ref (ad 0)), (2, .int x2), (3, .int x3), (4, .ref (ad (25 + t4)))] []) , Zz p l e rmX4_part s m args below meth c 6 Q (Hw D cy ad n s S) 32 [(0, .ref (ad 0)), (2, .int x2), (3, .int x3), (4, .ref (ad (25 + t4))), (5, .int x5)] [] := by
  intro fuel
  induction fuel with
  | zero => intro x5 S o h; exact nomatch (show (none : Option _) = some o from h)
  | succ fuel ih =>
    intro x5 S o h hx 
    have h : bX4_part_1 n x2 x3 t4 (lX4_part_1 n x2 x3 t4 fuel) x5 S = some o := h
    unfold bX4_part_1 at h
    refine z_iload (pc := 32) M dX4_part_32 4 rfl ?_
    refine z_aload_n (pc := 34) M dX4_part_34 rfl 0 rfl ?_
    refine z_get (pc := 35) (v := .int (nI (2 ^ n))) M K inX4_part_X4 o_obj rfl 1 (by decide) flX4_part_22 rfl rfl dX4_part_35 ?_
    refine z_icmp_ge (pc := 38) 55 M dX4_part_38 (by decide) h (fun c_8 h => ?_) (fun c_8 h => ?_)
    · refine z_locals [0, 1, 2, 3] [(0, .ref (ad 0)), (2, .int x2), (3, .int x3), (4, .ref (ad (25 + t4)))] rfl ?_
      cases h
      exact hx _ _ rfl
    · refine z_aload_n (pc := 41) M dX4_part_41 rfl 0 rfl ?_
      refine z_get (pc := 42) (v := .ref (ad 5)) M K inX4_part_X4 o_obj rfl 6 (by decide) flX4_part_52 rfl rfl dX4_part_42 ?_
      refine z_iload (pc := 45) M dX4_part_45 4 rfl ?_
      refine z_lconst (pc := 47) (v := 0) M dX4_part_47 (by decide) ?_
      refine z_last (pc := 48) M K ⟨by decide, rfl, rfl⟩ h dX4_part_48 (fun h => ?_)
      refine z_iinc (pc := 49) M dX4_part_49 (x5 + 1) rfl 4 rfl (by decide) [1, 2, 3, 4, 0] [(0, .ref (ad 0)), (2, .int x2), (3, .int x3), (4, .ref (ad (25 + t4))), (5, .int (x5 + 1))] rfl ?_
      refine z_goto (pc := 52) 32 M dX4_part_52 (by decide) ?_
      refine z_locals [0, 1, 2, 3, 4] [(0, .ref (ad 0)), (2, .int x2), (3, .int x3), (4, .ref (ad (25 + t4))), (5, .int (x5 + 1))] rfl ?_
      exact ih (x5 + 1) (sJ S 5 (Int32.toNatClampNeg x5) (0 : Int64)) _ h hx
set_option maxRecDepth 100000 in
set_option maxHeartbeats 4000000 in
theorem LX4_part_2 {p : Program} {l : Launch} {e : Env} {s : State} {m : MethodId} {args : Array Value} {below : List Frame} {meth : Method} {c : Code} {Q : State → Prop} {D : va_G} {cy ad : Nat → Nat} {n : Nat} (M : MX p m c cX4_part 6 s args wsX4_part RX4 meth (some .boolean)) (K : KK D cy ad s) (x2 : Int32) (x3 : Int32) (t4 : Nat) (h_t4 : t4 < 6)  : ∀ (fuel : Nat) (x5 : Int32) (S : St) (o : (Unit) × St), lX4_part_2 n x2 x3 t4 fuel x5 S = some o → ∀ (hx : ∀ a S', o = (a, S') → Zz p l e rmX4_part s m args below meth c 6 Q (Hw D cy ad n s S') 93 [(0, .ref (ad 0)), (3, .int x3)] []) , Zz p l e rmX4_part s m args below meth c 6 Q (Hw D cy ad n s S) 58 [(0, .ref (ad 0)), (2, .int x2), (3, .int x3), (4, .ref (ad (25 + t4))), (5, .int x5)] [] := by
  intro fuel
  induction fuel with
  | zero => intro x5 S o h; exact nomatch (show (none : Option _) = some o from h)
  | succ fuel ih =>
    intro x5 S o h hx 
    have h : bX4_part_2 n x2 x3 t4 (lX4_part_2 n x2 x3 t4 fuel) x5 S = some o := h
    unfold bX4_part_2 at h
    refine z_iload (pc := 58) M dX4_part_58 4 rfl ?_
    refine z_aload_n (pc := 60) M dX4_part_60 rfl 0 rfl ?_
    refine z_get (pc := 61) (v := .int (nI (2 ^ n))) M K inX4_part_X4 o_obj rfl 1 (by decide) flX4_part_22 rfl rfl dX4_part_61 ?_
    refine z_icmp_ge (pc := 64) 93 M dX4_part_64 (by decide) h (fun c_12 h => ?_) (fun c_12 h => ?_)
    · refine z_locals [0, 2] [(0, .ref (ad 0)), (3, .int x3)] rfl ?_
      cases h
      exact hx _ _ rfl
    · refine z_aload_n (pc := 67) M dX4_part_67 rfl 0 rfl ?_
      refine z_get (pc := 68) (v := .ref (ad 5)) M K inX4_part_X4 o_obj rfl 6 (by decide) flX4_part_52 rfl rfl dX4_part_68 ?_
      refine z_iload (pc := 71) M dX4_part_71 4 rfl ?_
      refine z_iload_n (pc := 73) M dX4_part_73 rfl 1 rfl ?_
      refine z_iand (pc := 74) M dX4_part_74 ?_
      refine z_dup2_11 (pc := 75) M dX4_part_75 rfl rfl ?_
      refine z_lald (pc := 76) M K ⟨by decide, rfl, rfl⟩ h dX4_part_76 (fun _ h => ?_)
      refine z_aload (pc := 77) M dX4_part_77 3 rfl ?_
      refine z_get (pc := 79) (v := .ref (ad (31 + t4))) M K inX4_part_X0 (o_law h_t4) rfl 0 (by decide) flX4_part_130 rfl rfl dX4_part_79 ?_
      refine z_iload (pc := 82) M dX4_part_82 4 rfl ?_
      refine z_lald (pc := 84) M K (ro_shr h_t4) h dX4_part_84 (fun _ h => ?_)
      refine z_ladd (pc := 85) M dX4_part_85 ?_
      refine z_last (pc := 86) M K ⟨by decide, rfl, rfl⟩ h dX4_part_86 (fun h => ?_)
      refine z_iinc (pc := 87) M dX4_part_87 (x5 + 1) rfl 4 rfl (by decide) [1, 2, 3, 4, 0] [(0, .ref (ad 0)), (2, .int x2), (3, .int x3), (4, .ref (ad (25 + t4))), (5, .int (x5 + 1))] rfl ?_
      refine z_goto (pc := 90) 58 M dX4_part_90 (by decide) ?_
      refine z_locals [0, 1, 2, 3, 4] [(0, .ref (ad 0)), (2, .int x2), (3, .int x3), (4, .ref (ad (25 + t4))), (5, .int (x5 + 1))] rfl ?_
      exact ih (x5 + 1) (sJ S 5 (Int32.toNatClampNeg (x5 &&& x2)) ((S.2 5 (Int32.toNatClampNeg (x5 &&& x2))) + (S.2 (31 + t4) (Int32.toNatClampNeg x5)))) _ h hx
set_option maxRecDepth 100000 in
set_option maxHeartbeats 4000000 in
theorem kX4_part (l : Launch) (D : va_G) (cy ad : Nat → Nat) (n : Nat) (p0 : Int32) (p1 : Int32) (p2 : Int32) (S : St) (r : Bool) (S' : St) (h : fX4_part n p0 p1 p2 S = some (r, S')) : CW l D cy ad n yX4_part wsX4_part rmX4_part [.ref (ad 0), .int p0, .int p1, .int p2] S (some (.int (b2i r))) S' := by
  refine CW.of (cc := cX4_part) (nL := 6) (ret := (some .boolean)) (own := RX4) rfl (by decide +kernel) rfl (Nat.le_of_ble_eq_true rfl) ?_
  intro p e s m args below meth c M K
  unfold fX4_part at h
  refine z_locals [0, 1, 2, 3] [(0, .ref (ad 0)), (1, .int p0), (2, .int p1), (3, .int p2)] rfl ?_
  refine z_aload_n (pc := 0) M dX4_part_0 rfl 0 rfl ?_
  refine z_iload_n (pc := 1) M dX4_part_1 rfl 1 rfl ?_
  obtain ⟨r1, h2, h⟩ := bo_in h
  refine z_vcall (pc := 2) (As := [.int p0]) M K (kX4_lawAt l D cy ad n p0 S r1 h2) (cwV 1 M.1.2.2.2.2 gX4_part_X4_lawAt rfl rfl rfl (by decide +kernel) ⟨Nat.le_of_ble_eq_true rfl, Nat.le_of_ble_eq_true rfl⟩) o_obj rfl rfl rfl (Nat.le_of_ble_eq_true rfl) dX4_part_2 ?_
  cases r1 with
  | none =>
    refine z_astoreN (pc := 5) M dX4_part_5 (by decide) [1, 3, 4, 0] [(0, .ref (ad 0)), (2, .int p1), (3, .int p2), (4, .null)] rfl ?_
    refine z_aloadN (pc := 7) M dX4_part_7 3 rfl ?_
    refine z_ifnullN (pc := 9) 27 M dX4_part_9 (by decide) ?_
    refine z_iconst (pc := 27) (v := 0) M dX4_part_27 (by decide) ?_
    exact z_zretW (pc := 28) M (congrArg Prod.fst (Option.some.inj h)) (congrArg Prod.snd (Option.some.inj h)) rfl dX4_part_28
  | some lw3 =>
    obtain ⟨h_lw3, h⟩ := gd_in (show gd (decide (lw3 < 6)) _ = some _ from h)
    have h_lw3 := of_decide_eq_true h_lw3
    refine z_astore (pc := 5) M dX4_part_5 (by decide) [1, 3, 4, 0] [(0, .ref (ad 0)), (2, .int p1), (3, .int p2), (4, .ref (ad (25 + lw3)))] rfl ?_
    refine z_aload (pc := 7) M dX4_part_7 3 rfl ?_
    refine z_ifnull (pc := 9) M dX4_part_9 ?_
    refine z_aload_n (pc := 12) M dX4_part_12 rfl 0 rfl ?_
    refine z_iload_n (pc := 13) M dX4_part_13 rfl 1 rfl ?_
    obtain ⟨r4, h5, h⟩ := bo_in h
    refine z_vcall (pc := 14) (As := [.int p1]) M K (kX4_isSet l D cy ad n p1 S r4 h5) (cwV 1 M.1.2.2.2.2 gX4_part_X4_isSet rfl rfl rfl (by decide +kernel) ⟨Nat.le_of_ble_eq_true rfl, Nat.le_of_ble_eq_true rfl⟩) o_obj rfl rfl rfl (Nat.le_of_ble_eq_true rfl) dX4_part_14 ?_
    refine z_if_eqB (pc := 17) 27 M dX4_part_17 (by decide) h (fun c_20 h => ?_) (fun c_20 h => ?_)
    · refine z_iconst (pc := 27) (v := 0) M dX4_part_27 (by decide) ?_
      exact z_zretW (pc := 28) M (congrArg Prod.fst (Option.some.inj h)) (congrArg Prod.snd (Option.some.inj h)) rfl dX4_part_28
    · refine z_iload_n (pc := 20) M dX4_part_20 rfl 2 rfl ?_
      obtain ⟨r6, h7, h⟩ := bo_in h
      refine z_scall (pc := 21) (As := [.int p2]) M (kX4_isPlace l p2 r6 h7) (va_cwS 1 M.1.2.2.2.2 gX4_part_X4_isPlace rfl rfl rfl (by decide +kernel) ⟨Nat.le_of_ble_eq_true rfl, Nat.le_of_ble_eq_true rfl⟩) rfl rfl (Nat.le_of_ble_eq_true rfl) dX4_part_21 ?_
      refine z_if_neB (pc := 24) 29 M dX4_part_24 (by decide) h (fun c_19 h => ?_) (fun c_19 h => ?_)
      · refine z_iconst (pc := 29) (v := 0) M dX4_part_29 (by decide) ?_
        refine z_istore (pc := 30) M dX4_part_30 (by decide) [1, 2, 3, 4, 0] [(0, .ref (ad 0)), (2, .int p1), (3, .int p2), (4, .ref (ad (25 + lw3))), (5, .int (0 : Int32))] rfl ?_
        refine z_locals [0, 1, 2, 3, 4] [(0, .ref (ad 0)), (2, .int p1), (3, .int p2), (4, .ref (ad (25 + lw3))), (5, .int (0 : Int32))] rfl ?_
        obtain ⟨q9, S11, h10, h⟩ := bw_in h
        refine LX4_part_1 M K p1 p2 lw3 h_lw3 FU (0 : Int32) S _ h10 (fun a S' hE => ?_)
        cases hE
        refine z_iconst (pc := 55) (v := 0) M dX4_part_55 (by decide) ?_
        refine z_istore (pc := 56) M dX4_part_56 (by decide) [1, 2, 3, 4, 0] [(0, .ref (ad 0)), (2, .int p1), (3, .int p2), (4, .ref (ad (25 + lw3))), (5, .int (0 : Int32))] rfl ?_
        refine z_locals [0, 1, 2, 3, 4] [(0, .ref (ad 0)), (2, .int p1), (3, .int p2), (4, .ref (ad (25 + lw3))), (5, .int (0 : Int32))] rfl ?_
        obtain ⟨q13, S15, h14, h⟩ := bw_in h
        refine LX4_part_2 M K p1 p2 lw3 h_lw3 FU (0 : Int32) S11 _ h14 (fun a S' hE => ?_)
        cases hE
        refine z_aload_n (pc := 93) M dX4_part_93 rfl 0 rfl ?_
        refine z_iload_n (pc := 94) M dX4_part_94 rfl 1 rfl ?_
        obtain ⟨r16, S18, h17, h⟩ := bw_in h
        refine z_vcall (pc := 95) (As := [.int p2]) M K (kX4_settle l D cy ad n p2 S15 r16 S18 h17) (cwV 1 M.1.2.2.2.2 gX4_part_X4_settle rfl rfl rfl (by decide +kernel) ⟨Nat.le_of_ble_eq_true rfl, Nat.le_of_ble_eq_true rfl⟩) o_obj rfl rfl rfl (Nat.le_of_ble_eq_true rfl) dX4_part_95 ?_
        exact z_zretW (pc := 98) M (congrArg Prod.fst (Option.some.inj h)) (congrArg Prod.snd (Option.some.inj h)) rfl dX4_part_98
      · refine z_iconst (pc := 27) (v := 0) M dX4_part_27 (by decide) ?_
        exact z_zretW (pc := 28) M (congrArg Prod.fst (Option.some.inj h)) (congrArg Prod.snd (Option.some.inj h)) rfl dX4_part_28
def rmX4_other : Room := { frames := 3, cells := 0, slots := 0, locals := 63 }
theorem flX4_other_130 : Cond.fieldLink RX4 130 "ShunLots$Law" "shares" "[J" ∈ wsX4_other := by decide +kernel
theorem flX4_other_22 : Cond.fieldLink RX4 22 "ShunLots" "sets" "I" ∈ wsX4_other := by decide +kernel
theorem flX4_other_52 : Cond.fieldLink RX4 52 "ShunLots" "draft" "[J" ∈ wsX4_other := by decide +kernel
theorem inX4_other_X0 : ∀ w ∈ wsX00, w ∈ wsX4_other := by decide +kernel
theorem inX4_other_X4 : ∀ w ∈ wsX40, w ∈ wsX4_other := by decide +kernel
set_option maxRecDepth 100000 in
set_option maxHeartbeats 4000000 in
theorem LX4_other_1 {p : Program} {l : Launch} {e : Env} {s : State} {m : MethodId} {args : Array Value} {below : List Frame} {meth : Method} {c : Code} {Q : State → Prop} {D : va_G} {cy ad : Nat → Nat} {n : Nat} (M : MX p m c cX4_other 6 s args wsX4_other RX4 meth (some .boolean)) (K : KK D cy ad s) (x2 : Int32) (x3 : Int32) (t4 : Nat) (h_t4 : t4 < 6)  : ∀ (fuel : Nat) (x5 : Int32) (S : St) (o : (Unit) × St), lX4_other_1 n x2 x3 t4 fuel x5 S = some o → ∀ (hx : ∀ a S', o = (a, S') → Zz p l e rmX4_other s m args below meth c 6 Q (Hw D cy ad n s S') 64 [(0, .ref (ad 0)), (3, .int x3)] []) , Zz p l e rmX4_other s m args below meth c 6 Q (Hw D cy ad n s S) 32 [(0, .ref (ad 0)), (2, .int x2), (3, .int x3), (4, .ref (ad (25 + t4))), (5, .int x5)] [] := by
  intro fuel
  induction fuel with
  | zero => intro x5 S o h; exact nomatch (show (none : Option _) = some o from h)
  | succ fuel ih =>
    intro x5 S o h hx 
    have h : bX4_other_1 n x2 x3 t4 (lX4_other_1 n x2 x3 t4 fuel) x5 S = some o := h
    unfold bX4_other_1 at h
    refine z_iload (pc := 32) M dX4_other_32 4 rfl ?_
    refine z_aload_n (pc := 34) M dX4_other_34 rfl 0 rfl ?_
    refine z_get (pc := 35) (v := .int (nI (2 ^ n))) M K inX4_other_X4 o_obj rfl 1 (by decide) flX4_other_22 rfl rfl dX4_other_35 ?_
    refine z_icmp_ge (pc := 38) 64 M dX4_other_38 (by decide) h (fun c_8 h => ?_) (fun c_8 h => ?_)
    · refine z_locals [0, 2] [(0, .ref (ad 0)), (3, .int x3)] rfl ?_
      cases h
      exact hx _ _ rfl
    · refine z_aload_n (pc := 41) M dX4_other_41 rfl 0 rfl ?_
      refine z_get (pc := 42) (v := .ref (ad 5)) M K inX4_other_X4 o_obj rfl 6 (by decide) flX4_other_52 rfl rfl dX4_other_42 ?_
      refine z_iload (pc := 45) M dX4_other_45 4 rfl ?_
      refine z_iload_n (pc := 47) M dX4_other_47 rfl 1 rfl ?_
      refine z_ixor (pc := 48) M dX4_other_48 ?_
      refine z_aload (pc := 49) M dX4_other_49 3 rfl ?_
      refine z_get (pc := 51) (v := .ref (ad (31 + t4))) M K inX4_other_X0 (o_law h_t4) rfl 0 (by decide) flX4_other_130 rfl rfl dX4_other_51 ?_
      refine z_iload (pc := 54) M dX4_other_54 4 rfl ?_
      refine z_lald (pc := 56) M K (ro_shr h_t4) h dX4_other_56 (fun _ h => ?_)
      refine z_last (pc := 57) M K ⟨by decide, rfl, rfl⟩ h dX4_other_57 (fun h => ?_)
      refine z_iinc (pc := 58) M dX4_other_58 (x5 + 1) rfl 4 rfl (by decide) [1, 2, 3, 4, 0] [(0, .ref (ad 0)), (2, .int x2), (3, .int x3), (4, .ref (ad (25 + t4))), (5, .int (x5 + 1))] rfl ?_
      refine z_goto (pc := 61) 32 M dX4_other_61 (by decide) ?_
      refine z_locals [0, 1, 2, 3, 4] [(0, .ref (ad 0)), (2, .int x2), (3, .int x3), (4, .ref (ad (25 + t4))), (5, .int (x5 + 1))] rfl ?_
      exact ih (x5 + 1) (sJ S 5 (Int32.toNatClampNeg (x5 ^^^ x2)) (S.2 (31 + t4) (Int32.toNatClampNeg x5))) _ h hx
set_option maxRecDepth 100000 in
set_option maxHeartbeats 4000000 in
theorem kX4_other (l : Launch) (D : va_G) (cy ad : Nat → Nat) (n : Nat) (p0 : Int32) (p1 : Int32) (p2 : Int32) (S : St) (r : Bool) (S' : St) (h : fX4_other n p0 p1 p2 S = some (r, S')) : CW l D cy ad n yX4_other wsX4_other rmX4_other [.ref (ad 0), .int p0, .int p1, .int p2] S (some (.int (b2i r))) S' := by
  refine CW.of (cc := cX4_other) (nL := 6) (ret := (some .boolean)) (own := RX4) rfl (by decide +kernel) rfl (Nat.le_of_ble_eq_true rfl) ?_
  intro p e s m args below meth c M K
  unfold fX4_other at h
  refine z_locals [0, 1, 2, 3] [(0, .ref (ad 0)), (1, .int p0), (2, .int p1), (3, .int p2)] rfl ?_
  refine z_aload_n (pc := 0) M dX4_other_0 rfl 0 rfl ?_
  refine z_iload_n (pc := 1) M dX4_other_1 rfl 1 rfl ?_
  obtain ⟨r1, h2, h⟩ := bo_in h
  refine z_vcall (pc := 2) (As := [.int p0]) M K (kX4_lawAt l D cy ad n p0 S r1 h2) (cwV 1 M.1.2.2.2.2 gX4_other_X4_lawAt rfl rfl rfl (by decide +kernel) ⟨Nat.le_of_ble_eq_true rfl, Nat.le_of_ble_eq_true rfl⟩) o_obj rfl rfl rfl (Nat.le_of_ble_eq_true rfl) dX4_other_2 ?_
  cases r1 with
  | none =>
    refine z_astoreN (pc := 5) M dX4_other_5 (by decide) [1, 3, 4, 0] [(0, .ref (ad 0)), (2, .int p1), (3, .int p2), (4, .null)] rfl ?_
    refine z_aloadN (pc := 7) M dX4_other_7 3 rfl ?_
    refine z_ifnullN (pc := 9) 27 M dX4_other_9 (by decide) ?_
    refine z_iconst (pc := 27) (v := 0) M dX4_other_27 (by decide) ?_
    exact z_zretW (pc := 28) M (congrArg Prod.fst (Option.some.inj h)) (congrArg Prod.snd (Option.some.inj h)) rfl dX4_other_28
  | some lw3 =>
    obtain ⟨h_lw3, h⟩ := gd_in (show gd (decide (lw3 < 6)) _ = some _ from h)
    have h_lw3 := of_decide_eq_true h_lw3
    refine z_astore (pc := 5) M dX4_other_5 (by decide) [1, 3, 4, 0] [(0, .ref (ad 0)), (2, .int p1), (3, .int p2), (4, .ref (ad (25 + lw3)))] rfl ?_
    refine z_aload (pc := 7) M dX4_other_7 3 rfl ?_
    refine z_ifnull (pc := 9) M dX4_other_9 ?_
    refine z_aload_n (pc := 12) M dX4_other_12 rfl 0 rfl ?_
    refine z_iload_n (pc := 13) M dX4_other_13 rfl 1 rfl ?_
    obtain ⟨r4, h5, h⟩ := bo_in h
    refine z_vcall (pc := 14) (As := [.int p1]) M K (kX4_isSet l D cy ad n p1 S r4 h5) (cwV 1 M.1.2.2.2.2 gX4_other_X4_isSet rfl rfl rfl (by decide +kernel) ⟨Nat.le_of_ble_eq_true rfl, Nat.le_of_ble_eq_true rfl⟩) o_obj rfl rfl rfl (Nat.le_of_ble_eq_true rfl) dX4_other_14 ?_
    refine z_if_eqB (pc := 17) 27 M dX4_other_17 (by decide) h (fun c_16 h => ?_) (fun c_16 h => ?_)
    · refine z_iconst (pc := 27) (v := 0) M dX4_other_27 (by decide) ?_
      exact z_zretW (pc := 28) M (congrArg Prod.fst (Option.some.inj h)) (congrArg Prod.snd (Option.some.inj h)) rfl dX4_other_28
    · refine z_iload_n (pc := 20) M dX4_other_20 rfl 2 rfl ?_
      obtain ⟨r6, h7, h⟩ := bo_in h
      refine z_scall (pc := 21) (As := [.int p2]) M (kX4_isPlace l p2 r6 h7) (va_cwS 1 M.1.2.2.2.2 gX4_other_X4_isPlace rfl rfl rfl (by decide +kernel) ⟨Nat.le_of_ble_eq_true rfl, Nat.le_of_ble_eq_true rfl⟩) rfl rfl (Nat.le_of_ble_eq_true rfl) dX4_other_21 ?_
      refine z_if_neB (pc := 24) 29 M dX4_other_24 (by decide) h (fun c_15 h => ?_) (fun c_15 h => ?_)
      · refine z_iconst (pc := 29) (v := 0) M dX4_other_29 (by decide) ?_
        refine z_istore (pc := 30) M dX4_other_30 (by decide) [1, 2, 3, 4, 0] [(0, .ref (ad 0)), (2, .int p1), (3, .int p2), (4, .ref (ad (25 + lw3))), (5, .int (0 : Int32))] rfl ?_
        refine z_locals [0, 1, 2, 3, 4] [(0, .ref (ad 0)), (2, .int p1), (3, .int p2), (4, .ref (ad (25 + lw3))), (5, .int (0 : Int32))] rfl ?_
        obtain ⟨q9, S11, h10, h⟩ := bw_in h
        refine LX4_other_1 M K p1 p2 lw3 h_lw3 FU (0 : Int32) S _ h10 (fun a S' hE => ?_)
        cases hE
        refine z_aload_n (pc := 64) M dX4_other_64 rfl 0 rfl ?_
        refine z_iload_n (pc := 65) M dX4_other_65 rfl 1 rfl ?_
        obtain ⟨r12, S14, h13, h⟩ := bw_in h
        refine z_vcall (pc := 66) (As := [.int p2]) M K (kX4_settle l D cy ad n p2 S11 r12 S14 h13) (cwV 1 M.1.2.2.2.2 gX4_other_X4_settle rfl rfl rfl (by decide +kernel) ⟨Nat.le_of_ble_eq_true rfl, Nat.le_of_ble_eq_true rfl⟩) o_obj rfl rfl rfl (Nat.le_of_ble_eq_true rfl) dX4_other_66 ?_
        exact z_zretW (pc := 69) M (congrArg Prod.fst (Option.some.inj h)) (congrArg Prod.snd (Option.some.inj h)) rfl dX4_other_69
      · refine z_iconst (pc := 27) (v := 0) M dX4_other_27 (by decide) ?_
        exact z_zretW (pc := 28) M (congrArg Prod.fst (Option.some.inj h)) (congrArg Prod.snd (Option.some.inj h)) rfl dX4_other_28
def rmX4_mix : Room := { frames := 3, cells := 0, slots := 0, locals := 63 }
theorem flX4_mix_130 : Cond.fieldLink RX4 130 "ShunLots$Law" "shares" "[J" ∈ wsX4_mix := by decide +kernel
theorem flX4_mix_139 : Cond.fieldLink RX4 139 "ShunLots$Law" "sum" "J" ∈ wsX4_mix := by decide +kernel
theorem flX4_mix_22 : Cond.fieldLink RX4 22 "ShunLots" "sets" "I" ∈ wsX4_mix := by decide +kernel
theorem flX4_mix_52 : Cond.fieldLink RX4 52 "ShunLots" "draft" "[J" ∈ wsX4_mix := by decide +kernel
theorem inX4_mix_X0 : ∀ w ∈ wsX00, w ∈ wsX4_mix := by decide +kernel
theorem inX4_mix_X4 : ∀ w ∈ wsX40, w ∈ wsX4_mix := by decide +kernel
set_option maxRecDepth 100000 in
set_option maxHeartbeats 4000000 in
theorem LX4_mix_1 {p : Program} {l : Launch} {e : Env} {s : State} {m : MethodId} {args : Array Value} {below : List Frame} {meth : Method} {c : Code} {Q : State → Prop} {D : va_G} {cy ad : Nat → Nat} {n : Nat} (M : MX p m c cX4_mix 13 s args wsX4_mix RX4 meth (some .boolean)) (K : KK D cy ad s) (x5 : Int32) (t6 : Nat) (t7 : Nat) (x8 : Int64) (x10 : Int64) (h_t6 : t6 < 6) (h_t7 : t7 < 6)  : ∀ (fuel : Nat) (x12 : Int32) (S : St) (o : (Unit) × St), lX4_mix_1 n x5 t6 t7 x8 x10 fuel x12 S = some o → ∀ (hx : ∀ a S', o = (a, S') → Zz p l e rmX4_mix s m args below meth c 13 Q (Hw D cy ad n s S') 126 [(0, .ref (ad 0)), (5, .int x5)] []) , Zz p l e rmX4_mix s m args below meth c 13 Q (Hw D cy ad n s S) 81 [(0, .ref (ad 0)), (5, .int x5), (6, .ref (ad (25 + t6))), (7, .ref (ad (25 + t7))), (8, .long x8), (10, .long x10), (12, .int x12)] [] := by
  intro fuel
  induction fuel with
  | zero => intro x12 S o h; exact nomatch (show (none : Option _) = some o from h)
  | succ fuel ih =>
    intro x12 S o h hx 
    have h : bX4_mix_1 n x5 t6 t7 x8 x10 (lX4_mix_1 n x5 t6 t7 x8 x10 fuel) x12 S = some o := h
    unfold bX4_mix_1 at h
    refine z_iload (pc := 81) M dX4_mix_81 6 rfl ?_
    refine z_aload_n (pc := 83) M dX4_mix_83 rfl 0 rfl ?_
    refine z_get (pc := 84) (v := .int (nI (2 ^ n))) M K inX4_mix_X4 o_obj rfl 1 (by decide) flX4_mix_22 rfl rfl dX4_mix_84 ?_
    refine z_icmp_ge (pc := 87) 126 M dX4_mix_87 (by decide) h (fun c_16 h => ?_) (fun c_16 h => ?_)
    · refine z_locals [0, 1] [(0, .ref (ad 0)), (5, .int x5)] rfl ?_
      cases h
      exact hx _ _ rfl
    · refine z_aload_n (pc := 90) M dX4_mix_90 rfl 0 rfl ?_
      refine z_get (pc := 91) (v := .ref (ad 5)) M K inX4_mix_X4 o_obj rfl 6 (by decide) flX4_mix_52 rfl rfl dX4_mix_91 ?_
      refine z_iload (pc := 94) M dX4_mix_94 6 rfl ?_
      refine z_aload (pc := 96) M dX4_mix_96 2 rfl ?_
      refine z_get (pc := 98) (v := .ref (ad (31 + t6))) M K inX4_mix_X0 (o_law h_t6) rfl 0 (by decide) flX4_mix_130 rfl rfl dX4_mix_98 ?_
      refine z_iload (pc := 101) M dX4_mix_101 6 rfl ?_
      refine z_lald (pc := 103) M K (ro_shr h_t6) h dX4_mix_103 (fun _ h => ?_)
      refine z_lload (pc := 104) M dX4_mix_104 4 rfl ?_
      refine z_lmul (pc := 106) M dX4_mix_106 ?_
      refine z_aload (pc := 107) M dX4_mix_107 3 rfl ?_
      refine z_get (pc := 109) (v := .ref (ad (31 + t7))) M K inX4_mix_X0 (o_law h_t7) rfl 0 (by decide) flX4_mix_130 rfl rfl dX4_mix_109 ?_
      refine z_iload (pc := 112) M dX4_mix_112 6 rfl ?_
      refine z_lald (pc := 114) M K (ro_shr h_t7) h dX4_mix_114 (fun _ h => ?_)
      refine z_lload (pc := 115) M dX4_mix_115 5 rfl ?_
      refine z_lmul (pc := 117) M dX4_mix_117 ?_
      refine z_ladd (pc := 118) M dX4_mix_118 ?_
      refine z_last (pc := 119) M K ⟨by decide, rfl, rfl⟩ h dX4_mix_119 (fun h => ?_)
      refine z_iinc (pc := 120) M dX4_mix_120 (x12 + 1) rfl 6 rfl (by decide) [1, 2, 3, 4, 5, 6, 0] [(0, .ref (ad 0)), (5, .int x5), (6, .ref (ad (25 + t6))), (7, .ref (ad (25 + t7))), (8, .long x8), (10, .long x10), (12, .int (x12 + 1))] rfl ?_
      refine z_goto (pc := 123) 81 M dX4_mix_123 (by decide) ?_
      refine z_locals [0, 1, 2, 3, 4, 5, 6] [(0, .ref (ad 0)), (5, .int x5), (6, .ref (ad (25 + t6))), (7, .ref (ad (25 + t7))), (8, .long x8), (10, .long x10), (12, .int (x12 + 1))] rfl ?_
      exact ih (x12 + 1) (sJ S 5 (Int32.toNatClampNeg x12) (((S.2 (31 + t6) (Int32.toNatClampNeg x12)) * x8) + ((S.2 (31 + t7) (Int32.toNatClampNeg x12)) * x10))) _ h hx
set_option maxRecDepth 100000 in
set_option maxHeartbeats 4000000 in
theorem kX4_mix (l : Launch) (D : va_G) (cy ad : Nat → Nat) (n : Nat) (p0 : Int32) (p1 : Int32) (p2 : Int32) (p3 : Int32) (p4 : Int32) (S : St) (r : Bool) (S' : St) (h : fX4_mix n p0 p1 p2 p3 p4 S = some (r, S')) : CW l D cy ad n yX4_mix wsX4_mix rmX4_mix [.ref (ad 0), .int p0, .int p1, .int p2, .int p3, .int p4] S (some (.int (b2i r))) S' := by
  refine CW.of (cc := cX4_mix) (nL := 13) (ret := (some .boolean)) (own := RX4) rfl (by decide +kernel) rfl (Nat.le_of_ble_eq_true rfl) ?_
  intro p e s m args below meth c M K
  unfold fX4_mix at h
  refine z_locals [0, 1, 2, 3, 4, 5] [(0, .ref (ad 0)), (1, .int p0), (2, .int p1), (3, .int p2), (4, .int p3), (5, .int p4)] rfl ?_
  refine z_aload_n (pc := 0) M dX4_mix_0 rfl 0 rfl ?_
  refine z_iload_n (pc := 1) M dX4_mix_1 rfl 1 rfl ?_
  obtain ⟨r1, h2, h⟩ := bo_in h
  refine z_vcall (pc := 2) (As := [.int p0]) M K (kX4_lawAt l D cy ad n p0 S r1 h2) (cwV 1 M.1.2.2.2.2 gX4_mix_X4_lawAt rfl rfl rfl (by decide +kernel) ⟨Nat.le_of_ble_eq_true rfl, Nat.le_of_ble_eq_true rfl⟩) o_obj rfl rfl rfl (Nat.le_of_ble_eq_true rfl) dX4_mix_2 ?_
  cases r1 with
  | none =>
    refine z_astoreN (pc := 5) M dX4_mix_5 (by decide) [1, 3, 4, 5, 6, 0] [(0, .ref (ad 0)), (2, .int p1), (3, .int p2), (4, .int p3), (5, .int p4), (6, .null)] rfl ?_
    refine z_aload_n (pc := 7) M dX4_mix_7 rfl 0 rfl ?_
    refine z_iload_n (pc := 8) M dX4_mix_8 rfl 1 rfl ?_
    obtain ⟨r4, h5, h⟩ := bo_in h
    refine z_vcall (pc := 9) (As := [.int p1]) M K (kX4_lawAt l D cy ad n p1 S r4 h5) (cwV 1 M.1.2.2.2.2 gX4_mix_X4_lawAt rfl rfl rfl (by decide +kernel) ⟨Nat.le_of_ble_eq_true rfl, Nat.le_of_ble_eq_true rfl⟩) o_obj rfl rfl rfl (Nat.le_of_ble_eq_true rfl) dX4_mix_9 ?_
    cases r4 with
    | none =>
      refine z_astoreN (pc := 12) M dX4_mix_12 (by decide) [1, 3, 4, 5, 6, 0] [(0, .ref (ad 0)), (3, .int p2), (4, .int p3), (5, .int p4), (6, .null), (7, .null)] rfl ?_
      refine z_aloadN (pc := 14) M dX4_mix_14 4 rfl ?_
      refine z_ifnullN (pc := 16) 32 M dX4_mix_16 (by decide) ?_
      refine z_iconst (pc := 32) (v := 0) M dX4_mix_32 (by decide) ?_
      exact z_zretW (pc := 33) M (congrArg Prod.fst (Option.some.inj h)) (congrArg Prod.snd (Option.some.inj h)) rfl dX4_mix_33
    | some lw6 =>
      obtain ⟨h_lw6, h⟩ := gd_in (show gd (decide (lw6 < 6)) _ = some _ from h)
      have h_lw6 := of_decide_eq_true h_lw6
      refine z_astore (pc := 12) M dX4_mix_12 (by decide) [1, 3, 4, 5, 6, 0] [(0, .ref (ad 0)), (3, .int p2), (4, .int p3), (5, .int p4), (6, .null), (7, .ref (ad (25 + lw6)))] rfl ?_
      refine z_aloadN (pc := 14) M dX4_mix_14 4 rfl ?_
      refine z_ifnullN (pc := 16) 32 M dX4_mix_16 (by decide) ?_
      refine z_iconst (pc := 32) (v := 0) M dX4_mix_32 (by decide) ?_
      exact z_zretW (pc := 33) M (congrArg Prod.fst (Option.some.inj h)) (congrArg Prod.snd (Option.some.inj h)) rfl dX4_mix_33
  | some lw3 =>
    obtain ⟨h_lw3, h⟩ := gd_in (show gd (decide (lw3 < 6)) _ = some _ from h)
    have h_lw3 := of_decide_eq_true h_lw3
    refine z_astore (pc := 5) M dX4_mix_5 (by decide) [1, 3, 4, 5, 6, 0] [(0, .ref (ad 0)), (2, .int p1), (3, .int p2), (4, .int p3), (5, .int p4), (6, .ref (ad (25 + lw3)))] rfl ?_
    refine z_aload_n (pc := 7) M dX4_mix_7 rfl 0 rfl ?_
    refine z_iload_n (pc := 8) M dX4_mix_8 rfl 1 rfl ?_
    obtain ⟨r7, h8, h⟩ := bo_in h
    refine z_vcall (pc := 9) (As := [.int p1]) M K (kX4_lawAt l D cy ad n p1 S r7 h8) (cwV 1 M.1.2.2.2.2 gX4_mix_X4_lawAt rfl rfl rfl (by decide +kernel) ⟨Nat.le_of_ble_eq_true rfl, Nat.le_of_ble_eq_true rfl⟩) o_obj rfl rfl rfl (Nat.le_of_ble_eq_true rfl) dX4_mix_9 ?_
    cases r7 with
    | none =>
      refine z_astoreN (pc := 12) M dX4_mix_12 (by decide) [1, 3, 4, 5, 6, 0] [(0, .ref (ad 0)), (3, .int p2), (4, .int p3), (5, .int p4), (6, .ref (ad (25 + lw3))), (7, .null)] rfl ?_
      refine z_aload (pc := 14) M dX4_mix_14 4 rfl ?_
      refine z_ifnull (pc := 16) M dX4_mix_16 ?_
      refine z_aloadN (pc := 19) M dX4_mix_19 5 rfl ?_
      refine z_ifnullN (pc := 21) 32 M dX4_mix_21 (by decide) ?_
      refine z_iconst (pc := 32) (v := 0) M dX4_mix_32 (by decide) ?_
      exact z_zretW (pc := 33) M (congrArg Prod.fst (Option.some.inj h)) (congrArg Prod.snd (Option.some.inj h)) rfl dX4_mix_33
    | some lw9 =>
      obtain ⟨h_lw9, h⟩ := gd_in (show gd (decide (lw9 < 6)) _ = some _ from h)
      have h_lw9 := of_decide_eq_true h_lw9
      refine z_astore (pc := 12) M dX4_mix_12 (by decide) [1, 3, 4, 5, 6, 0] [(0, .ref (ad 0)), (3, .int p2), (4, .int p3), (5, .int p4), (6, .ref (ad (25 + lw3))), (7, .ref (ad (25 + lw9)))] rfl ?_
      refine z_aload (pc := 14) M dX4_mix_14 4 rfl ?_
      refine z_ifnull (pc := 16) M dX4_mix_16 ?_
      refine z_aload (pc := 19) M dX4_mix_19 5 rfl ?_
      refine z_ifnull (pc := 21) M dX4_mix_21 ?_
      refine z_iload (pc := 24) M dX4_mix_24 3 rfl ?_
      obtain ⟨r10, h11, h⟩ := bo_in h
      refine z_scall (pc := 26) (As := [.int p4]) M (kX4_isPlace l p4 r10 h11) (va_cwS 1 M.1.2.2.2.2 gX4_mix_X4_isPlace rfl rfl rfl (by decide +kernel) ⟨Nat.le_of_ble_eq_true rfl, Nat.le_of_ble_eq_true rfl⟩) rfl rfl (Nat.le_of_ble_eq_true rfl) dX4_mix_26 ?_
      refine z_if_neB (pc := 29) 34 M dX4_mix_29 (by decide) h (fun c_25 h => ?_) (fun c_25 h => ?_)
      · refine z_iload_n (pc := 34) M dX4_mix_34 rfl 1 rfl ?_
        refine z_iconst (pc := 35) (v := 1) M dX4_mix_35 (by decide) ?_
        refine z_bipush (pc := 36) (v := 9) M dX4_mix_36 (by decide) ?_
        obtain ⟨r12, h13, h⟩ := bo_in h
        refine z_scall (pc := 38) (As := [.int p2, .int (1 : Int32), .int (9 : Int32)]) M (kX4_isAmong l p2 (1 : Int32) (9 : Int32) r12 h13) (va_cwS 3 M.1.2.2.2.2 gX4_mix_X4_isAmong rfl rfl rfl (by decide +kernel) ⟨Nat.le_of_ble_eq_true rfl, Nat.le_of_ble_eq_true rfl⟩) rfl rfl (Nat.le_of_ble_eq_true rfl) dX4_mix_38 ?_
        refine z_if_eqB (pc := 41) 55 M dX4_mix_41 (by decide) h (fun c_24 h => ?_) (fun c_24 h => ?_)
        · refine z_iconst (pc := 55) (v := 0) M dX4_mix_55 (by decide) ?_
          exact z_zretW (pc := 56) M (congrArg Prod.fst (Option.some.inj h)) (congrArg Prod.snd (Option.some.inj h)) rfl dX4_mix_56
        · refine z_iload (pc := 44) M dX4_mix_44 2 rfl ?_
          refine z_iconst (pc := 46) (v := 1) M dX4_mix_46 (by decide) ?_
          refine z_bipush (pc := 47) (v := 9) M dX4_mix_47 (by decide) ?_
          obtain ⟨r14, h15, h⟩ := bo_in h
          refine z_scall (pc := 49) (As := [.int p3, .int (1 : Int32), .int (9 : Int32)]) M (kX4_isAmong l p3 (1 : Int32) (9 : Int32) r14 h15) (va_cwS 3 M.1.2.2.2.2 gX4_mix_X4_isAmong rfl rfl rfl (by decide +kernel) ⟨Nat.le_of_ble_eq_true rfl, Nat.le_of_ble_eq_true rfl⟩) rfl rfl (Nat.le_of_ble_eq_true rfl) dX4_mix_49 ?_
          refine z_if_neB (pc := 52) 57 M dX4_mix_52 (by decide) h (fun c_23 h => ?_) (fun c_23 h => ?_)
          · refine z_iload_n (pc := 57) M dX4_mix_57 rfl 1 rfl ?_
            refine z_i2l (pc := 58) M dX4_mix_58 ?_
            refine z_aload (pc := 59) M dX4_mix_59 5 rfl ?_
            refine z_get (pc := 61) (v := .long (S.2 (25 + lw9) 0)) M K inX4_mix_X0 (o_law h_lw9) rfl 1 (by decide) flX4_mix_139 rfl rfl dX4_mix_61 ?_
            refine z_lmul (pc := 64) M dX4_mix_64 ?_
            refine z_lstore (pc := 65) M dX4_mix_65 (by decide) [1, 3, 4, 5, 6, 0] [(0, .ref (ad 0)), (4, .int p3), (5, .int p4), (6, .ref (ad (25 + lw3))), (7, .ref (ad (25 + lw9))), (8, .long ((Int32.toInt64 p2) * (S.2 (25 + lw9) 0)))] rfl ?_
            refine z_iload (pc := 67) M dX4_mix_67 1 rfl ?_
            refine z_i2l (pc := 69) M dX4_mix_69 ?_
            refine z_aload (pc := 70) M dX4_mix_70 3 rfl ?_
            refine z_get (pc := 72) (v := .long (S.2 (25 + lw3) 0)) M K inX4_mix_X0 (o_law h_lw3) rfl 1 (by decide) flX4_mix_139 rfl rfl dX4_mix_72 ?_
            refine z_lmul (pc := 75) M dX4_mix_75 ?_
            refine z_lstore (pc := 76) M dX4_mix_76 (by decide) [1, 3, 4, 5, 6, 0] [(0, .ref (ad 0)), (5, .int p4), (6, .ref (ad (25 + lw3))), (7, .ref (ad (25 + lw9))), (8, .long ((Int32.toInt64 p2) * (S.2 (25 + lw9) 0))), (10, .long ((Int32.toInt64 p3) * (S.2 (25 + lw3) 0)))] rfl ?_
            refine z_iconst (pc := 78) (v := 0) M dX4_mix_78 (by decide) ?_
            refine z_istore (pc := 79) M dX4_mix_79 (by decide) [1, 2, 3, 4, 5, 6, 0] [(0, .ref (ad 0)), (5, .int p4), (6, .ref (ad (25 + lw3))), (7, .ref (ad (25 + lw9))), (8, .long ((Int32.toInt64 p2) * (S.2 (25 + lw9) 0))), (10, .long ((Int32.toInt64 p3) * (S.2 (25 + lw3) 0))), (12, .int (0 : Int32))] rfl ?_
            refine z_locals [0, 1, 2, 3, 4, 5, 6] [(0, .ref (ad 0)), (5, .int p4), (6, .ref (ad (25 + lw3))), (7, .ref (ad (25 + lw9))), (8, .long ((Int32.toInt64 p2) * (S.2 (25 + lw9) 0))), (10, .long ((Int32.toInt64 p3) * (S.2 (25 + lw3) 0))), (12, .int (0 : Int32))] rfl ?_
            obtain ⟨q17, S19, h18, h⟩ := bw_in h
            refine LX4_mix_1 M K p4 lw3 lw9 ((Int32.toInt64 p2) * (S.2 (25 + lw9) 0)) ((Int32.toInt64 p3) * (S.2 (25 + lw3) 0)) h_lw3 h_lw9 FU (0 : Int32) S _ h18 (fun a S' hE => ?_)
            cases hE
            refine z_aload_n (pc := 126) M dX4_mix_126 rfl 0 rfl ?_
            refine z_iload (pc := 127) M dX4_mix_127 1 rfl ?_
            obtain ⟨r20, S22, h21, h⟩ := bw_in h
            refine z_vcall (pc := 129) (As := [.int p4]) M K (kX4_settle l D cy ad n p4 S19 r20 S22 h21) (cwV 1 M.1.2.2.2.2 gX4_mix_X4_settle rfl rfl rfl (by decide +kernel) ⟨Nat.le_of_ble_eq_true rfl, Nat.le_of_ble_eq_true rfl⟩) o_obj rfl rfl rfl (Nat.le_of_ble_eq_true rfl) dX4_mix_129 ?_
            exact z_zretW (pc := 132) M (congrArg Prod.fst (Option.some.inj h)) (congrArg Prod.snd (Option.some.inj h)) rfl dX4_mix_132
          · refine z_iconst (pc := 55) (v := 0) M dX4_mix_55 (by decide) ?_
            exact z_zretW (pc := 56) M (congrArg Prod.fst (Option.some.inj h)) (congrArg Prod.snd (Option.some.inj h)) rfl dX4_mix_56
      · refine z_iconst (pc := 32) (v := 0) M dX4_mix_32 (by decide) ?_
        exact z_zretW (pc := 33) M (congrArg Prod.fst (Option.some.inj h)) (congrArg Prod.snd (Option.some.inj h)) rfl dX4_mix_33
def rmX4_share : Room := { frames := 3, cells := 0, slots := 0, locals := 63 }
theorem flX4_share_130 : Cond.fieldLink RX4 130 "ShunLots$Law" "shares" "[J" ∈ wsX4_share := by decide +kernel
theorem wdX4_share_Cond_constantLong_RX4_143_1 : Cond.constantLong RX4 143 (-1) ∈ wsX4_share := by decide +kernel
theorem inX4_share_X0 : ∀ w ∈ wsX00, w ∈ wsX4_share := by decide +kernel
set_option maxRecDepth 100000 in
set_option maxHeartbeats 4000000 in
theorem kX4_share (l : Launch) (D : va_G) (cy ad : Nat → Nat) (n : Nat) (p0 : Int32) (p1 : Int32) (S : St) (r : Int64) (h : fX4_share n p0 p1 S = some r) : CW l D cy ad n yX4_share wsX4_share rmX4_share [.ref (ad 0), .int p0, .int p1] S (some (.long r)) S := by
  refine CW.of (cc := cX4_share) (nL := 4) (ret := (some .long)) (own := RX4) rfl (by decide +kernel) rfl (Nat.le_of_ble_eq_true rfl) ?_
  intro p e s m args below meth c M K
  unfold fX4_share at h
  refine z_locals [0, 1, 2] [(0, .ref (ad 0)), (1, .int p0), (2, .int p1)] rfl ?_
  refine z_aload_n (pc := 0) M dX4_share_0 rfl 0 rfl ?_
  refine z_iload_n (pc := 1) M dX4_share_1 rfl 1 rfl ?_
  obtain ⟨r1, h2, h⟩ := bo_in h
  refine z_vcall (pc := 2) (As := [.int p0]) M K (kX4_lawAt l D cy ad n p0 S r1 h2) (cwV 1 M.1.2.2.2.2 gX4_share_X4_lawAt rfl rfl rfl (by decide +kernel) ⟨Nat.le_of_ble_eq_true rfl, Nat.le_of_ble_eq_true rfl⟩) o_obj rfl rfl rfl (Nat.le_of_ble_eq_true rfl) dX4_share_2 ?_
  cases r1 with
  | none =>
    refine z_astore_nN (pc := 5) M dX4_share_5 rfl (by decide) [1, 3, 0] [(0, .ref (ad 0)), (2, .int p1), (3, .null)] rfl ?_
    refine z_aload_nN (pc := 6) M dX4_share_6 rfl 2 rfl ?_
    refine z_ifnullN (pc := 7) 18 M dX4_share_7 (by decide) ?_
    refine z_ldc2 (pc := 18) M wdX4_share_Cond_constantLong_RX4_143_1 dX4_share_18 ?_
    exact z_lretW (pc := 21) M (Option.some.inj h) rfl dX4_share_21
  | some lw3 =>
    obtain ⟨h_lw3, h⟩ := gd_in (show gd (decide (lw3 < 6)) _ = some _ from h)
    have h_lw3 := of_decide_eq_true h_lw3
    refine z_astore_n (pc := 5) M dX4_share_5 rfl (by decide) [1, 3, 0] [(0, .ref (ad 0)), (2, .int p1), (3, .ref (ad (25 + lw3)))] rfl ?_
    refine z_aload_n (pc := 6) M dX4_share_6 rfl 2 rfl ?_
    refine z_ifnull (pc := 7) M dX4_share_7 ?_
    refine z_aload_n (pc := 10) M dX4_share_10 rfl 0 rfl ?_
    refine z_iload_n (pc := 11) M dX4_share_11 rfl 1 rfl ?_
    obtain ⟨r4, h5, h⟩ := bo_in h
    refine z_vcall (pc := 12) (As := [.int p1]) M K (kX4_isSet l D cy ad n p1 S r4 h5) (cwV 1 M.1.2.2.2.2 gX4_share_X4_isSet rfl rfl rfl (by decide +kernel) ⟨Nat.le_of_ble_eq_true rfl, Nat.le_of_ble_eq_true rfl⟩) o_obj rfl rfl rfl (Nat.le_of_ble_eq_true rfl) dX4_share_12 ?_
    refine z_if_neB (pc := 15) 22 M dX4_share_15 (by decide) h (fun c_6 h => ?_) (fun c_6 h => ?_)
    · refine z_aload_n (pc := 22) M dX4_share_22 rfl 2 rfl ?_
      refine z_get (pc := 23) (v := .ref (ad (31 + lw3))) M K inX4_share_X0 (o_law h_lw3) rfl 0 (by decide) flX4_share_130 rfl rfl dX4_share_23 ?_
      refine z_iload_n (pc := 26) M dX4_share_26 rfl 1 rfl ?_
      refine z_lald (pc := 27) M K (ro_shr h_lw3) h dX4_share_27 (fun _ h => ?_)
      exact z_lretW (pc := 28) M (Option.some.inj h) rfl dX4_share_28
    · refine z_ldc2 (pc := 18) M wdX4_share_Cond_constantLong_RX4_143_1 dX4_share_18 ?_
      exact z_lretW (pc := 21) M (Option.some.inj h) rfl dX4_share_21
def rmX4_isWhat : Room := { frames := 1, cells := 0, slots := 0, locals := 22 }
set_option maxRecDepth 100000 in
set_option maxHeartbeats 4000000 in
theorem kX4_isWhat (l : Launch) (p0 : Int32) (r : Bool) (h : fX4_isWhat p0 = some r) : CP l yX4_isWhat wsX4_isWhat rmX4_isWhat [.int p0] (some (.int (b2i r))) := by
  refine CP.of (cc := cX4_isWhat) (nL := 1) (ret := (some .boolean)) (own := RX4) rfl (by decide +kernel) rfl (Nat.le_of_ble_eq_true rfl) ?_
  intro p e s m args below meth c M
  unfold fX4_isWhat at h
  refine z_locals [0] [(0, .int p0)] rfl ?_
  refine z_iload_n (pc := 0) M dX4_isWhat_0 rfl 0 rfl ?_
  refine z_iconst (pc := 1) (v := 0) M dX4_isWhat_1 (by decide) ?_
  refine z_iconst (pc := 2) (v := 1) M dX4_isWhat_2 (by decide) ?_
  obtain ⟨r1, h2, h⟩ := bo_in h
  refine z_scall (pc := 3) (As := [.int p0, .int (0 : Int32), .int (1 : Int32)]) M (kX4_isAmong l p0 (0 : Int32) (1 : Int32) r1 h2) (va_cwS 3 M.1.2.2.2.2 gX4_isWhat_X4_isAmong rfl rfl rfl (by decide +kernel) ⟨Nat.le_of_ble_eq_true rfl, Nat.le_of_ble_eq_true rfl⟩) rfl rfl (Nat.le_of_ble_eq_true rfl) dX4_isWhat_3 ?_
  exact z_zretP (pc := 6) M h rfl dX4_isWhat_6
def rmX4_lowest : Room := { frames := 1, cells := 0, slots := 0, locals := 30 }
theorem wdX4_lowest_Cond_code_Lib_MathLoose_abs_long_x_Lib_MathLoose_abs_long_code_2_some_long : Cond.code Lib.MathLoose.abs_long.x Lib.MathLoose.abs_long.code 2 (some .long) ∈ wsX4_lowest := by decide +kernel
theorem wdX4_lowest_Cond_constantLong_RX4_143_1 : Cond.constantLong RX4 143 (-1) ∈ wsX4_lowest := by decide +kernel
theorem wdX4_lowest_Cond_initialized_java_lang_Math : Cond.initialized "java/lang/Math" ∈ wsX4_lowest := by decide +kernel
theorem wdX4_lowest_Cond_methodLink_RX4_194_Lib_MathLoose_abs_long_x : Cond.methodLink RX4 194 Lib.MathLoose.abs_long.x ∈ wsX4_lowest := by decide +kernel
theorem wdX4_lowest_Cond_static_Lib_MathLoose_abs_long_x : Cond.static Lib.MathLoose.abs_long.x ∈ wsX4_lowest := by decide +kernel
set_option maxRecDepth 100000 in
set_option maxHeartbeats 4000000 in
theorem kX4_lowest (l : Launch) (p0 : Int64) (p1 : Int64) (p2 : Int32) (r : Int64) (h : fX4_lowest p0 p1 p2 = some r) : CP l yX4_lowest wsX4_lowest rmX4_lowest [.long p0, .long p1, .int p2] (some (.long r)) := by
  refine CP.of (cc := cX4_lowest) (nL := 7) (ret := (some .long)) (own := RX4) rfl (by decide +kernel) rfl (Nat.le_of_ble_eq_true rfl) ?_
  intro p e s m args below meth c M
  unfold fX4_lowest at h
  refine z_locals [0, 1, 2] [(0, .long p0), (2, .long p1), (4, .int p2)] rfl ?_
  refine z_lload_n (pc := 0) M dX4_lowest_0 rfl 0 rfl ?_
  refine z_mabs (pc := 1) M wdX4_lowest_Cond_methodLink_RX4_194_Lib_MathLoose_abs_long_x wdX4_lowest_Cond_static_Lib_MathLoose_abs_long_x wdX4_lowest_Cond_initialized_java_lang_Math wdX4_lowest_Cond_code_Lib_MathLoose_abs_long_x_Lib_MathLoose_abs_long_code_2_some_long (Nat.le_of_ble_eq_true rfl) (Nat.le_of_ble_eq_true rfl) dX4_lowest_1 ?_
  refine z_lload_n (pc := 4) M dX4_lowest_4 rfl 1 rfl ?_
  obtain ⟨r1, h2, h⟩ := bo_in h
  refine z_scall (pc := 5) (As := [.long (if 0 < p0 then p0 else -p0), .long p1]) M (kX4_commonDivisor l (if 0 < p0 then p0 else -p0) p1 r1 h2) (va_cwS 2 M.1.2.2.2.2 gX4_lowest_X4_commonDivisor rfl rfl rfl (by decide +kernel) ⟨Nat.le_of_ble_eq_true rfl, Nat.le_of_ble_eq_true rfl⟩) rfl rfl (Nat.le_of_ble_eq_true rfl) dX4_lowest_5 ?_
  refine z_lstore (pc := 8) M dX4_lowest_8 (by decide) [1, 2, 3, 0] [(0, .long p0), (2, .long p1), (4, .int p2), (5, .long r1)] rfl ?_
  refine z_lload (pc := 10) M dX4_lowest_10 3 rfl ?_
  refine z_lconst (pc := 12) (v := 1) M dX4_lowest_12 (by decide) ?_
  refine z_lcmp (pc := 13) M dX4_lowest_13 ?_
  refine z_if_ge (pc := 14) 21 M dX4_lowest_14 (by decide) h (fun c_4 h => ?_) (fun c_4 h => ?_)
  · refine z_iload (pc := 21) M dX4_lowest_21 2 rfl ?_
    refine z_if_ne (pc := 23) 33 M dX4_lowest_23 (by decide) h (fun c_3 h => ?_) (fun c_3 h => ?_)
    · refine z_lload_n (pc := 33) M dX4_lowest_33 rfl 1 rfl ?_
      refine z_lload (pc := 34) M dX4_lowest_34 3 rfl ?_
      refine z_ldiv (pc := 36) M dX4_lowest_36 h (fun h => ?_)
      exact z_lretP (pc := 37) M h dX4_lowest_37
    · refine z_lload_n (pc := 26) M dX4_lowest_26 rfl 0 rfl ?_
      refine z_lload (pc := 27) M dX4_lowest_27 3 rfl ?_
      refine z_ldiv (pc := 29) M dX4_lowest_29 h (fun h => ?_)
      refine z_goto (pc := 30) 37 M dX4_lowest_30 (by decide) ?_
      exact z_lretP (pc := 37) M h dX4_lowest_37
  · refine z_ldc2 (pc := 17) M wdX4_lowest_Cond_constantLong_RX4_143_1 dX4_lowest_17 ?_
    exact z_lretP (pc := 20) M h dX4_lowest_20
def rmX4_chance : Room := { frames := 3, cells := 0, slots := 0, locals := 63 }
theorem flX4_chance_130 : Cond.fieldLink RX4 130 "ShunLots$Law" "shares" "[J" ∈ wsX4_chance := by decide +kernel
theorem flX4_chance_139 : Cond.fieldLink RX4 139 "ShunLots$Law" "sum" "J" ∈ wsX4_chance := by decide +kernel
theorem wdX4_chance_Cond_constantLong_RX4_143_1 : Cond.constantLong RX4 143 (-1) ∈ wsX4_chance := by decide +kernel
theorem inX4_chance_X0 : ∀ w ∈ wsX00, w ∈ wsX4_chance := by decide +kernel
set_option maxRecDepth 100000 in
set_option maxHeartbeats 4000000 in
theorem kX4_chance (l : Launch) (D : va_G) (cy ad : Nat → Nat) (n : Nat) (p0 : Int32) (p1 : Int32) (p2 : Int32) (S : St) (r : Int64) (h : fX4_chance n p0 p1 p2 S = some r) : CW l D cy ad n yX4_chance wsX4_chance rmX4_chance [.ref (ad 0), .int p0, .int p1, .int p2] S (some (.long r)) S := by
  refine CW.of (cc := cX4_chance) (nL := 5) (ret := (some .long)) (own := RX4) rfl (by decide +kernel) rfl (Nat.le_of_ble_eq_true rfl) ?_
  intro p e s m args below meth c M K
  unfold fX4_chance at h
  refine z_locals [0, 1, 2, 3] [(0, .ref (ad 0)), (1, .int p0), (2, .int p1), (3, .int p2)] rfl ?_
  refine z_aload_n (pc := 0) M dX4_chance_0 rfl 0 rfl ?_
  refine z_iload_n (pc := 1) M dX4_chance_1 rfl 1 rfl ?_
  obtain ⟨r1, h2, h⟩ := bo_in h
  refine z_vcall (pc := 2) (As := [.int p0]) M K (kX4_lawAt l D cy ad n p0 S r1 h2) (cwV 1 M.1.2.2.2.2 gX4_chance_X4_lawAt rfl rfl rfl (by decide +kernel) ⟨Nat.le_of_ble_eq_true rfl, Nat.le_of_ble_eq_true rfl⟩) o_obj rfl rfl rfl (Nat.le_of_ble_eq_true rfl) dX4_chance_2 ?_
  cases r1 with
  | none =>
    refine z_astoreN (pc := 5) M dX4_chance_5 (by decide) [1, 3, 4, 0] [(0, .ref (ad 0)), (2, .int p1), (3, .int p2), (4, .null)] rfl ?_
    refine z_aloadN (pc := 7) M dX4_chance_7 3 rfl ?_
    refine z_ifnullN (pc := 9) 27 M dX4_chance_9 (by decide) ?_
    refine z_ldc2 (pc := 27) M wdX4_chance_Cond_constantLong_RX4_143_1 dX4_chance_27 ?_
    exact z_lretW (pc := 30) M (Option.some.inj h) rfl dX4_chance_30
  | some lw3 =>
    obtain ⟨h_lw3, h⟩ := gd_in (show gd (decide (lw3 < 6)) _ = some _ from h)
    have h_lw3 := of_decide_eq_true h_lw3
    refine z_astore (pc := 5) M dX4_chance_5 (by decide) [1, 3, 4, 0] [(0, .ref (ad 0)), (2, .int p1), (3, .int p2), (4, .ref (ad (25 + lw3)))] rfl ?_
    refine z_aload (pc := 7) M dX4_chance_7 3 rfl ?_
    refine z_ifnull (pc := 9) M dX4_chance_9 ?_
    refine z_aload_n (pc := 12) M dX4_chance_12 rfl 0 rfl ?_
    refine z_iload_n (pc := 13) M dX4_chance_13 rfl 1 rfl ?_
    obtain ⟨r4, h5, h⟩ := bo_in h
    refine z_vcall (pc := 14) (As := [.int p1]) M K (kX4_isSet l D cy ad n p1 S r4 h5) (cwV 1 M.1.2.2.2.2 gX4_chance_X4_isSet rfl rfl rfl (by decide +kernel) ⟨Nat.le_of_ble_eq_true rfl, Nat.le_of_ble_eq_true rfl⟩) o_obj rfl rfl rfl (Nat.le_of_ble_eq_true rfl) dX4_chance_14 ?_
    refine z_if_eqB (pc := 17) 27 M dX4_chance_17 (by decide) h (fun c_11 h => ?_) (fun c_11 h => ?_)
    · refine z_ldc2 (pc := 27) M wdX4_chance_Cond_constantLong_RX4_143_1 dX4_chance_27 ?_
      exact z_lretW (pc := 30) M (Option.some.inj h) rfl dX4_chance_30
    · refine z_iload_n (pc := 20) M dX4_chance_20 rfl 2 rfl ?_
      obtain ⟨r6, h7, h⟩ := bo_in h
      refine z_scall (pc := 21) (As := [.int p2]) M (kX4_isWhat l p2 r6 h7) (va_cwS 1 M.1.2.2.2.2 gX4_chance_X4_isWhat rfl rfl rfl (by decide +kernel) ⟨Nat.le_of_ble_eq_true rfl, Nat.le_of_ble_eq_true rfl⟩) rfl rfl (Nat.le_of_ble_eq_true rfl) dX4_chance_21 ?_
      refine z_if_neB (pc := 24) 31 M dX4_chance_24 (by decide) h (fun c_10 h => ?_) (fun c_10 h => ?_)
      · refine z_aload (pc := 31) M dX4_chance_31 3 rfl ?_
        refine z_get (pc := 33) (v := .ref (ad (31 + lw3))) M K inX4_chance_X0 (o_law h_lw3) rfl 0 (by decide) flX4_chance_130 rfl rfl dX4_chance_33 ?_
        refine z_iload_n (pc := 36) M dX4_chance_36 rfl 1 rfl ?_
        refine z_lald (pc := 37) M K (ro_shr h_lw3) h dX4_chance_37 (fun _ h => ?_)
        refine z_aload (pc := 38) M dX4_chance_38 3 rfl ?_
        refine z_get (pc := 40) (v := .long (S.2 (25 + lw3) 0)) M K inX4_chance_X0 (o_law h_lw3) rfl 1 (by decide) flX4_chance_139 rfl rfl dX4_chance_40 ?_
        refine z_iload_n (pc := 43) M dX4_chance_43 rfl 2 rfl ?_
        obtain ⟨r8, h9, h⟩ := bo_in h
        refine z_scall (pc := 44) (As := [.long (S.2 (31 + lw3) (Int32.toNatClampNeg p1)), .long (S.2 (25 + lw3) 0), .int p2]) M (kX4_lowest l (S.2 (31 + lw3) (Int32.toNatClampNeg p1)) (S.2 (25 + lw3) 0) p2 r8 h9) (va_cwS 3 M.1.2.2.2.2 gX4_chance_X4_lowest rfl rfl rfl (by decide +kernel) ⟨Nat.le_of_ble_eq_true rfl, Nat.le_of_ble_eq_true rfl⟩) rfl rfl (Nat.le_of_ble_eq_true rfl) dX4_chance_44 ?_
        exact z_lretW (pc := 47) M (Option.some.inj h) rfl dX4_chance_47
      · refine z_ldc2 (pc := 27) M wdX4_chance_Cond_constantLong_RX4_143_1 dX4_chance_27 ?_
        exact z_lretW (pc := 30) M (Option.some.inj h) rfl dX4_chance_30
def rmX4_within : Room := { frames := 3, cells := 0, slots := 0, locals := 63 }
theorem flX4_within_139 : Cond.fieldLink RX4 139 "ShunLots$Law" "sum" "J" ∈ wsX4_within := by decide +kernel
theorem wdX4_within_Cond_constantLong_RX4_143_1 : Cond.constantLong RX4 143 (-1) ∈ wsX4_within := by decide +kernel
theorem inX4_within_X0 : ∀ w ∈ wsX00, w ∈ wsX4_within := by decide +kernel
set_option maxRecDepth 100000 in
set_option maxHeartbeats 4000000 in
theorem kX4_within (l : Launch) (D : va_G) (cy ad : Nat → Nat) (n : Nat) (p0 : Int32) (p1 : Int32) (p2 : Int32) (S : St) (r : Int64) (h : fX4_within n p0 p1 p2 S = some r) : CW l D cy ad n yX4_within wsX4_within rmX4_within [.ref (ad 0), .int p0, .int p1, .int p2] S (some (.long r)) S := by
  refine CW.of (cc := cX4_within) (nL := 5) (ret := (some .long)) (own := RX4) rfl (by decide +kernel) rfl (Nat.le_of_ble_eq_true rfl) ?_
  intro p e s m args below meth c M K
  unfold fX4_within at h
  refine z_locals [0, 1, 2, 3] [(0, .ref (ad 0)), (1, .int p0), (2, .int p1), (3, .int p2)] rfl ?_
  refine z_aload_n (pc := 0) M dX4_within_0 rfl 0 rfl ?_
  refine z_iload_n (pc := 1) M dX4_within_1 rfl 1 rfl ?_
  obtain ⟨r1, h2, h⟩ := bo_in h
  refine z_vcall (pc := 2) (As := [.int p0]) M K (kX4_lawAt l D cy ad n p0 S r1 h2) (cwV 1 M.1.2.2.2.2 gX4_within_X4_lawAt rfl rfl rfl (by decide +kernel) ⟨Nat.le_of_ble_eq_true rfl, Nat.le_of_ble_eq_true rfl⟩) o_obj rfl rfl rfl (Nat.le_of_ble_eq_true rfl) dX4_within_2 ?_
  cases r1 with
  | none =>
    refine z_astoreN (pc := 5) M dX4_within_5 (by decide) [1, 3, 4, 0] [(0, .ref (ad 0)), (2, .int p1), (3, .int p2), (4, .null)] rfl ?_
    refine z_aloadN (pc := 7) M dX4_within_7 3 rfl ?_
    refine z_ifnullN (pc := 9) 27 M dX4_within_9 (by decide) ?_
    refine z_ldc2 (pc := 27) M wdX4_within_Cond_constantLong_RX4_143_1 dX4_within_27 ?_
    exact z_lretW (pc := 30) M (Option.some.inj h) rfl dX4_within_30
  | some lw3 =>
    obtain ⟨h_lw3, h⟩ := gd_in (show gd (decide (lw3 < 6)) _ = some _ from h)
    have h_lw3 := of_decide_eq_true h_lw3
    refine z_astore (pc := 5) M dX4_within_5 (by decide) [1, 3, 4, 0] [(0, .ref (ad 0)), (2, .int p1), (3, .int p2), (4, .ref (ad (25 + lw3)))] rfl ?_
    refine z_aload (pc := 7) M dX4_within_7 3 rfl ?_
    refine z_ifnull (pc := 9) M dX4_within_9 ?_
    refine z_aload_n (pc := 12) M dX4_within_12 rfl 0 rfl ?_
    refine z_iload_n (pc := 13) M dX4_within_13 rfl 1 rfl ?_
    obtain ⟨r4, h5, h⟩ := bo_in h
    refine z_vcall (pc := 14) (As := [.int p1]) M K (kX4_isSet l D cy ad n p1 S r4 h5) (cwV 1 M.1.2.2.2.2 gX4_within_X4_isSet rfl rfl rfl (by decide +kernel) ⟨Nat.le_of_ble_eq_true rfl, Nat.le_of_ble_eq_true rfl⟩) o_obj rfl rfl rfl (Nat.le_of_ble_eq_true rfl) dX4_within_14 ?_
    refine z_if_eqB (pc := 17) 27 M dX4_within_17 (by decide) h (fun c_13 h => ?_) (fun c_13 h => ?_)
    · refine z_ldc2 (pc := 27) M wdX4_within_Cond_constantLong_RX4_143_1 dX4_within_27 ?_
      exact z_lretW (pc := 30) M (Option.some.inj h) rfl dX4_within_30
    · refine z_iload_n (pc := 20) M dX4_within_20 rfl 2 rfl ?_
      obtain ⟨r6, h7, h⟩ := bo_in h
      refine z_scall (pc := 21) (As := [.int p2]) M (kX4_isWhat l p2 r6 h7) (va_cwS 1 M.1.2.2.2.2 gX4_within_X4_isWhat rfl rfl rfl (by decide +kernel) ⟨Nat.le_of_ble_eq_true rfl, Nat.le_of_ble_eq_true rfl⟩) rfl rfl (Nat.le_of_ble_eq_true rfl) dX4_within_21 ?_
      refine z_if_neB (pc := 24) 31 M dX4_within_24 (by decide) h (fun c_12 h => ?_) (fun c_12 h => ?_)
      · refine z_aload (pc := 31) M dX4_within_31 3 rfl ?_
        refine z_iload_n (pc := 33) M dX4_within_33 rfl 1 rfl ?_
        refine z_iconst (pc := 34) (v := 0) M dX4_within_34 (by decide) ?_
        obtain ⟨r8, h9, h⟩ := bo_in h
        refine z_vcall (pc := 35) (As := [.int p1, .int (0 : Int32)]) M K (kX0_sumFitting l D cy ad n lw3 h_lw3 p1 (0 : Int32) S r8 h9) (cwV 2 M.1.2.2.2.2 gX4_within_X0_sumFitting rfl rfl rfl (by decide +kernel) ⟨Nat.le_of_ble_eq_true rfl, Nat.le_of_ble_eq_true rfl⟩) (o_law h_lw3) rfl rfl rfl (Nat.le_of_ble_eq_true rfl) dX4_within_35 ?_
        refine z_aload (pc := 38) M dX4_within_38 3 rfl ?_
        refine z_get (pc := 40) (v := .long (S.2 (25 + lw3) 0)) M K inX4_within_X0 (o_law h_lw3) rfl 1 (by decide) flX4_within_139 rfl rfl dX4_within_40 ?_
        refine z_iload_n (pc := 43) M dX4_within_43 rfl 2 rfl ?_
        obtain ⟨r10, h11, h⟩ := bo_in h
        refine z_scall (pc := 44) (As := [.long r8, .long (S.2 (25 + lw3) 0), .int p2]) M (kX4_lowest l r8 (S.2 (25 + lw3) 0) p2 r10 h11) (va_cwS 3 M.1.2.2.2.2 gX4_within_X4_lowest rfl rfl rfl (by decide +kernel) ⟨Nat.le_of_ble_eq_true rfl, Nat.le_of_ble_eq_true rfl⟩) rfl rfl (Nat.le_of_ble_eq_true rfl) dX4_within_44 ?_
        exact z_lretW (pc := 47) M (Option.some.inj h) rfl dX4_within_47
      · refine z_ldc2 (pc := 27) M wdX4_within_Cond_constantLong_RX4_143_1 dX4_within_27 ?_
        exact z_lretW (pc := 30) M (Option.some.inj h) rfl dX4_within_30
def rmX4_out : Room := { frames := 3, cells := 0, slots := 0, locals := 63 }
theorem flX4_out_139 : Cond.fieldLink RX4 139 "ShunLots$Law" "sum" "J" ∈ wsX4_out := by decide +kernel
theorem wdX4_out_Cond_constantLong_RX4_143_1 : Cond.constantLong RX4 143 (-1) ∈ wsX4_out := by decide +kernel
theorem inX4_out_X0 : ∀ w ∈ wsX00, w ∈ wsX4_out := by decide +kernel
set_option maxRecDepth 100000 in
set_option maxHeartbeats 4000000 in
theorem kX4_out (l : Launch) (D : va_G) (cy ad : Nat → Nat) (n : Nat) (p0 : Int32) (p1 : Int32) (p2 : Int32) (S : St) (r : Int64) (h : fX4_out n p0 p1 p2 S = some r) : CW l D cy ad n yX4_out wsX4_out rmX4_out [.ref (ad 0), .int p0, .int p1, .int p2] S (some (.long r)) S := by
  refine CW.of (cc := cX4_out) (nL := 5) (ret := (some .long)) (own := RX4) rfl (by decide +kernel) rfl (Nat.le_of_ble_eq_true rfl) ?_
  intro p e s m args below meth c M K
  unfold fX4_out at h
  refine z_locals [0, 1, 2, 3] [(0, .ref (ad 0)), (1, .int p0), (2, .int p1), (3, .int p2)] rfl ?_
  refine z_aload_n (pc := 0) M dX4_out_0 rfl 0 rfl ?_
  refine z_iload_n (pc := 1) M dX4_out_1 rfl 1 rfl ?_
  obtain ⟨r1, h2, h⟩ := bo_in h
  refine z_vcall (pc := 2) (As := [.int p0]) M K (kX4_lawAt l D cy ad n p0 S r1 h2) (cwV 1 M.1.2.2.2.2 gX4_out_X4_lawAt rfl rfl rfl (by decide +kernel) ⟨Nat.le_of_ble_eq_true rfl, Nat.le_of_ble_eq_true rfl⟩) o_obj rfl rfl rfl (Nat.le_of_ble_eq_true rfl) dX4_out_2 ?_
  cases r1 with
  | none =>
    refine z_astoreN (pc := 5) M dX4_out_5 (by decide) [1, 3, 4, 0] [(0, .ref (ad 0)), (2, .int p1), (3, .int p2), (4, .null)] rfl ?_
    refine z_aloadN (pc := 7) M dX4_out_7 3 rfl ?_
    refine z_ifnullN (pc := 9) 27 M dX4_out_9 (by decide) ?_
    refine z_ldc2 (pc := 27) M wdX4_out_Cond_constantLong_RX4_143_1 dX4_out_27 ?_
    exact z_lretW (pc := 30) M (Option.some.inj h) rfl dX4_out_30
  | some lw3 =>
    obtain ⟨h_lw3, h⟩ := gd_in (show gd (decide (lw3 < 6)) _ = some _ from h)
    have h_lw3 := of_decide_eq_true h_lw3
    refine z_astore (pc := 5) M dX4_out_5 (by decide) [1, 3, 4, 0] [(0, .ref (ad 0)), (2, .int p1), (3, .int p2), (4, .ref (ad (25 + lw3)))] rfl ?_
    refine z_aload (pc := 7) M dX4_out_7 3 rfl ?_
    refine z_ifnull (pc := 9) M dX4_out_9 ?_
    refine z_aload_n (pc := 12) M dX4_out_12 rfl 0 rfl ?_
    refine z_iload_n (pc := 13) M dX4_out_13 rfl 1 rfl ?_
    obtain ⟨r4, h5, h⟩ := bo_in h
    refine z_vcall (pc := 14) (As := [.int p1]) M K (kX4_isSet l D cy ad n p1 S r4 h5) (cwV 1 M.1.2.2.2.2 gX4_out_X4_isSet rfl rfl rfl (by decide +kernel) ⟨Nat.le_of_ble_eq_true rfl, Nat.le_of_ble_eq_true rfl⟩) o_obj rfl rfl rfl (Nat.le_of_ble_eq_true rfl) dX4_out_14 ?_
    refine z_if_eqB (pc := 17) 27 M dX4_out_17 (by decide) h (fun c_13 h => ?_) (fun c_13 h => ?_)
    · refine z_ldc2 (pc := 27) M wdX4_out_Cond_constantLong_RX4_143_1 dX4_out_27 ?_
      exact z_lretW (pc := 30) M (Option.some.inj h) rfl dX4_out_30
    · refine z_iload_n (pc := 20) M dX4_out_20 rfl 2 rfl ?_
      obtain ⟨r6, h7, h⟩ := bo_in h
      refine z_scall (pc := 21) (As := [.int p2]) M (kX4_isWhat l p2 r6 h7) (va_cwS 1 M.1.2.2.2.2 gX4_out_X4_isWhat rfl rfl rfl (by decide +kernel) ⟨Nat.le_of_ble_eq_true rfl, Nat.le_of_ble_eq_true rfl⟩) rfl rfl (Nat.le_of_ble_eq_true rfl) dX4_out_21 ?_
      refine z_if_neB (pc := 24) 31 M dX4_out_24 (by decide) h (fun c_12 h => ?_) (fun c_12 h => ?_)
      · refine z_aload (pc := 31) M dX4_out_31 3 rfl ?_
        refine z_iconst (pc := 33) (v := 0) M dX4_out_33 (by decide) ?_
        refine z_iload_n (pc := 34) M dX4_out_34 rfl 1 rfl ?_
        obtain ⟨r8, h9, h⟩ := bo_in h
        refine z_vcall (pc := 35) (As := [.int (0 : Int32), .int p1]) M K (kX0_sumFitting l D cy ad n lw3 h_lw3 (0 : Int32) p1 S r8 h9) (cwV 2 M.1.2.2.2.2 gX4_out_X0_sumFitting rfl rfl rfl (by decide +kernel) ⟨Nat.le_of_ble_eq_true rfl, Nat.le_of_ble_eq_true rfl⟩) (o_law h_lw3) rfl rfl rfl (Nat.le_of_ble_eq_true rfl) dX4_out_35 ?_
        refine z_aload (pc := 38) M dX4_out_38 3 rfl ?_
        refine z_get (pc := 40) (v := .long (S.2 (25 + lw3) 0)) M K inX4_out_X0 (o_law h_lw3) rfl 1 (by decide) flX4_out_139 rfl rfl dX4_out_40 ?_
        refine z_iload_n (pc := 43) M dX4_out_43 rfl 2 rfl ?_
        obtain ⟨r10, h11, h⟩ := bo_in h
        refine z_scall (pc := 44) (As := [.long r8, .long (S.2 (25 + lw3) 0), .int p2]) M (kX4_lowest l r8 (S.2 (25 + lw3) 0) p2 r10 h11) (va_cwS 3 M.1.2.2.2.2 gX4_out_X4_lowest rfl rfl rfl (by decide +kernel) ⟨Nat.le_of_ble_eq_true rfl, Nat.le_of_ble_eq_true rfl⟩) rfl rfl (Nat.le_of_ble_eq_true rfl) dX4_out_44 ?_
        exact z_lretW (pc := 47) M (Option.some.inj h) rfl dX4_out_47
      · refine z_ldc2 (pc := 27) M wdX4_out_Cond_constantLong_RX4_143_1 dX4_out_27 ?_
        exact z_lretW (pc := 30) M (Option.some.inj h) rfl dX4_out_30
def rmX4_isCount : Room := { frames := 1, cells := 0, slots := 0, locals := 22 }
theorem flX4_isCount_18 : Cond.fieldLink RX4 18 "ShunLots" "things" "I" ∈ wsX4_isCount := by decide +kernel
theorem inX4_isCount_X4 : ∀ w ∈ wsX40, w ∈ wsX4_isCount := by decide +kernel
set_option maxRecDepth 100000 in
set_option maxHeartbeats 4000000 in
theorem kX4_isCount (l : Launch) (D : va_G) (cy ad : Nat → Nat) (n : Nat) (p0 : Int32) (S : St) (r : Bool) (h : fX4_isCount n p0 S = some r) : CW l D cy ad n yX4_isCount wsX4_isCount rmX4_isCount [.ref (ad 0), .int p0] S (some (.int (b2i r))) S := by
  refine CW.of (cc := cX4_isCount) (nL := 2) (ret := (some .boolean)) (own := RX4) rfl (by decide +kernel) rfl (Nat.le_of_ble_eq_true rfl) ?_
  intro p e s m args below meth c M K
  unfold fX4_isCount at h
  refine z_locals [0, 1] [(0, .ref (ad 0)), (1, .int p0)] rfl ?_
  refine z_iload_n (pc := 0) M dX4_isCount_0 rfl 1 rfl ?_
  refine z_iconst (pc := 1) (v := 0) M dX4_isCount_1 (by decide) ?_
  refine z_aload_n (pc := 2) M dX4_isCount_2 rfl 0 rfl ?_
  refine z_get (pc := 3) (v := .int (nI n)) M K inX4_isCount_X4 o_obj rfl 0 (by decide) flX4_isCount_18 rfl rfl dX4_isCount_3 ?_
  obtain ⟨r1, h2, h⟩ := bo_in h
  refine z_scall (pc := 6) (As := [.int p0, .int (0 : Int32), .int (nI n)]) M (kX4_isAmong l p0 (0 : Int32) (nI n) r1 h2) (va_cwS 3 M.1.2.2.2.2 gX4_isCount_X4_isAmong rfl rfl rfl (by decide +kernel) ⟨Nat.le_of_ble_eq_true rfl, Nat.le_of_ble_eq_true rfl⟩) rfl rfl (Nat.le_of_ble_eq_true rfl) dX4_isCount_6 ?_
  exact z_zretW (pc := 9) M (Option.some.inj h) rfl rfl dX4_isCount_9
def rmX4_size : Room := { frames := 3, cells := 0, slots := 0, locals := 63 }
theorem flX4_size_139 : Cond.fieldLink RX4 139 "ShunLots$Law" "sum" "J" ∈ wsX4_size := by decide +kernel
theorem wdX4_size_Cond_constantLong_RX4_143_1 : Cond.constantLong RX4 143 (-1) ∈ wsX4_size := by decide +kernel
theorem inX4_size_X0 : ∀ w ∈ wsX00, w ∈ wsX4_size := by decide +kernel
set_option maxRecDepth 100000 in
set_option maxHeartbeats 4000000 in
theorem kX4_size (l : Launch) (D : va_G) (cy ad : Nat → Nat) (n : Nat) (p0 : Int32) (p1 : Int32) (p2 : Int32) (S : St) (r : Int64) (h : fX4_size n p0 p1 p2 S = some r) : CW l D cy ad n yX4_size wsX4_size rmX4_size [.ref (ad 0), .int p0, .int p1, .int p2] S (some (.long r)) S := by
  refine CW.of (cc := cX4_size) (nL := 5) (ret := (some .long)) (own := RX4) rfl (by decide +kernel) rfl (Nat.le_of_ble_eq_true rfl) ?_
  intro p e s m args below meth c M K
  unfold fX4_size at h
  refine z_locals [0, 1, 2, 3] [(0, .ref (ad 0)), (1, .int p0), (2, .int p1), (3, .int p2)] rfl ?_
  refine z_aload_n (pc := 0) M dX4_size_0 rfl 0 rfl ?_
  refine z_iload_n (pc := 1) M dX4_size_1 rfl 1 rfl ?_
  obtain ⟨r1, h2, h⟩ := bo_in h
  refine z_vcall (pc := 2) (As := [.int p0]) M K (kX4_lawAt l D cy ad n p0 S r1 h2) (cwV 1 M.1.2.2.2.2 gX4_size_X4_lawAt rfl rfl rfl (by decide +kernel) ⟨Nat.le_of_ble_eq_true rfl, Nat.le_of_ble_eq_true rfl⟩) o_obj rfl rfl rfl (Nat.le_of_ble_eq_true rfl) dX4_size_2 ?_
  cases r1 with
  | none =>
    refine z_astoreN (pc := 5) M dX4_size_5 (by decide) [1, 3, 4, 0] [(0, .ref (ad 0)), (2, .int p1), (3, .int p2), (4, .null)] rfl ?_
    refine z_aloadN (pc := 7) M dX4_size_7 3 rfl ?_
    refine z_ifnullN (pc := 9) 27 M dX4_size_9 (by decide) ?_
    refine z_ldc2 (pc := 27) M wdX4_size_Cond_constantLong_RX4_143_1 dX4_size_27 ?_
    exact z_lretW (pc := 30) M (Option.some.inj h) rfl dX4_size_30
  | some lw3 =>
    obtain ⟨h_lw3, h⟩ := gd_in (show gd (decide (lw3 < 6)) _ = some _ from h)
    have h_lw3 := of_decide_eq_true h_lw3
    refine z_astore (pc := 5) M dX4_size_5 (by decide) [1, 3, 4, 0] [(0, .ref (ad 0)), (2, .int p1), (3, .int p2), (4, .ref (ad (25 + lw3)))] rfl ?_
    refine z_aload (pc := 7) M dX4_size_7 3 rfl ?_
    refine z_ifnull (pc := 9) M dX4_size_9 ?_
    refine z_aload_n (pc := 12) M dX4_size_12 rfl 0 rfl ?_
    refine z_iload_n (pc := 13) M dX4_size_13 rfl 1 rfl ?_
    obtain ⟨r4, h5, h⟩ := bo_in h
    refine z_vcall (pc := 14) (As := [.int p1]) M K (kX4_isCount l D cy ad n p1 S r4 h5) (cwV 1 M.1.2.2.2.2 gX4_size_X4_isCount rfl rfl rfl (by decide +kernel) ⟨Nat.le_of_ble_eq_true rfl, Nat.le_of_ble_eq_true rfl⟩) o_obj rfl rfl rfl (Nat.le_of_ble_eq_true rfl) dX4_size_14 ?_
    refine z_if_eqB (pc := 17) 27 M dX4_size_17 (by decide) h (fun c_13 h => ?_) (fun c_13 h => ?_)
    · refine z_ldc2 (pc := 27) M wdX4_size_Cond_constantLong_RX4_143_1 dX4_size_27 ?_
      exact z_lretW (pc := 30) M (Option.some.inj h) rfl dX4_size_30
    · refine z_iload_n (pc := 20) M dX4_size_20 rfl 2 rfl ?_
      obtain ⟨r6, h7, h⟩ := bo_in h
      refine z_scall (pc := 21) (As := [.int p2]) M (kX4_isWhat l p2 r6 h7) (va_cwS 1 M.1.2.2.2.2 gX4_size_X4_isWhat rfl rfl rfl (by decide +kernel) ⟨Nat.le_of_ble_eq_true rfl, Nat.le_of_ble_eq_true rfl⟩) rfl rfl (Nat.le_of_ble_eq_true rfl) dX4_size_21 ?_
      refine z_if_neB (pc := 24) 31 M dX4_size_24 (by decide) h (fun c_12 h => ?_) (fun c_12 h => ?_)
      · refine z_aload (pc := 31) M dX4_size_31 3 rfl ?_
        refine z_iload_n (pc := 33) M dX4_size_33 rfl 1 rfl ?_
        obtain ⟨r8, h9, h⟩ := bo_in h
        refine z_vcall (pc := 34) (As := [.int p1]) M K (kX0_sumOfSize l D cy ad n lw3 h_lw3 p1 S r8 h9) (cwV 1 M.1.2.2.2.2 gX4_size_X0_sumOfSize rfl rfl rfl (by decide +kernel) ⟨Nat.le_of_ble_eq_true rfl, Nat.le_of_ble_eq_true rfl⟩) (o_law h_lw3) rfl rfl rfl (Nat.le_of_ble_eq_true rfl) dX4_size_34 ?_
        refine z_aload (pc := 37) M dX4_size_37 3 rfl ?_
        refine z_get (pc := 39) (v := .long (S.2 (25 + lw3) 0)) M K inX4_size_X0 (o_law h_lw3) rfl 1 (by decide) flX4_size_139 rfl rfl dX4_size_39 ?_
        refine z_iload_n (pc := 42) M dX4_size_42 rfl 2 rfl ?_
        obtain ⟨r10, h11, h⟩ := bo_in h
        refine z_scall (pc := 43) (As := [.long r8, .long (S.2 (25 + lw3) 0), .int p2]) M (kX4_lowest l r8 (S.2 (25 + lw3) 0) p2 r10 h11) (va_cwS 3 M.1.2.2.2.2 gX4_size_X4_lowest rfl rfl rfl (by decide +kernel) ⟨Nat.le_of_ble_eq_true rfl, Nat.le_of_ble_eq_true rfl⟩) rfl rfl (Nat.le_of_ble_eq_true rfl) dX4_size_43 ?_
        exact z_lretW (pc := 46) M (Option.some.inj h) rfl dX4_size_46
      · refine z_ldc2 (pc := 27) M wdX4_size_Cond_constantLong_RX4_143_1 dX4_size_27 ?_
        exact z_lretW (pc := 30) M (Option.some.inj h) rfl dX4_size_30
def rmX4_mean : Room := { frames := 3, cells := 0, slots := 0, locals := 63 }
theorem flX4_mean_139 : Cond.fieldLink RX4 139 "ShunLots$Law" "sum" "J" ∈ wsX4_mean := by decide +kernel
theorem wdX4_mean_Cond_constantLong_RX4_143_1 : Cond.constantLong RX4 143 (-1) ∈ wsX4_mean := by decide +kernel
theorem inX4_mean_X0 : ∀ w ∈ wsX00, w ∈ wsX4_mean := by decide +kernel
set_option maxRecDepth 100000 in
set_option maxHeartbeats 4000000 in
theorem kX4_mean (l : Launch) (D : va_G) (cy ad : Nat → Nat) (n : Nat) (p0 : Int32) (p1 : Int32) (S : St) (r : Int64) (h : fX4_mean n p0 p1 S = some r) : CW l D cy ad n yX4_mean wsX4_mean rmX4_mean [.ref (ad 0), .int p0, .int p1] S (some (.long r)) S := by
  refine CW.of (cc := cX4_mean) (nL := 4) (ret := (some .long)) (own := RX4) rfl (by decide +kernel) rfl (Nat.le_of_ble_eq_true rfl) ?_
  intro p e s m args below meth c M K
  unfold fX4_mean at h
  refine z_locals [0, 1, 2] [(0, .ref (ad 0)), (1, .int p0), (2, .int p1)] rfl ?_
  refine z_aload_n (pc := 0) M dX4_mean_0 rfl 0 rfl ?_
  refine z_iload_n (pc := 1) M dX4_mean_1 rfl 1 rfl ?_
  obtain ⟨r1, h2, h⟩ := bo_in h
  refine z_vcall (pc := 2) (As := [.int p0]) M K (kX4_lawAt l D cy ad n p0 S r1 h2) (cwV 1 M.1.2.2.2.2 gX4_mean_X4_lawAt rfl rfl rfl (by decide +kernel) ⟨Nat.le_of_ble_eq_true rfl, Nat.le_of_ble_eq_true rfl⟩) o_obj rfl rfl rfl (Nat.le_of_ble_eq_true rfl) dX4_mean_2 ?_
  cases r1 with
  | none =>
    refine z_astore_nN (pc := 5) M dX4_mean_5 rfl (by decide) [3, 0] [(2, .int p1), (3, .null)] rfl ?_
    refine z_aload_nN (pc := 6) M dX4_mean_6 rfl 1 rfl ?_
    refine z_ifnullN (pc := 7) 17 M dX4_mean_7 (by decide) ?_
    refine z_ldc2 (pc := 17) M wdX4_mean_Cond_constantLong_RX4_143_1 dX4_mean_17 ?_
    exact z_lretW (pc := 20) M (Option.some.inj h) rfl dX4_mean_20
  | some lw3 =>
    obtain ⟨h_lw3, h⟩ := gd_in (show gd (decide (lw3 < 6)) _ = some _ from h)
    have h_lw3 := of_decide_eq_true h_lw3
    refine z_astore_n (pc := 5) M dX4_mean_5 rfl (by decide) [3, 0] [(2, .int p1), (3, .ref (ad (25 + lw3)))] rfl ?_
    refine z_aload_n (pc := 6) M dX4_mean_6 rfl 1 rfl ?_
    refine z_ifnull (pc := 7) M dX4_mean_7 ?_
    refine z_iload_n (pc := 10) M dX4_mean_10 rfl 0 rfl ?_
    obtain ⟨r4, h5, h⟩ := bo_in h
    refine z_scall (pc := 11) (As := [.int p1]) M (kX4_isWhat l p1 r4 h5) (va_cwS 1 M.1.2.2.2.2 gX4_mean_X4_isWhat rfl rfl rfl (by decide +kernel) ⟨Nat.le_of_ble_eq_true rfl, Nat.le_of_ble_eq_true rfl⟩) rfl rfl (Nat.le_of_ble_eq_true rfl) dX4_mean_11 ?_
    refine z_if_neB (pc := 14) 21 M dX4_mean_14 (by decide) h (fun c_10 h => ?_) (fun c_10 h => ?_)
    · refine z_aload_n (pc := 21) M dX4_mean_21 rfl 1 rfl ?_
      obtain ⟨r6, h7, h⟩ := bo_in h
      refine z_vcall (pc := 22) (As := []) M K (kX0_sumOfCounts l D cy ad n lw3 h_lw3 S r6 h7) (cwV 0 M.1.2.2.2.2 gX4_mean_X0_sumOfCounts rfl rfl rfl (by decide +kernel) ⟨Nat.le_of_ble_eq_true rfl, Nat.le_of_ble_eq_true rfl⟩) (o_law h_lw3) rfl rfl rfl (Nat.le_of_ble_eq_true rfl) dX4_mean_22 ?_
      refine z_aload_n (pc := 25) M dX4_mean_25 rfl 1 rfl ?_
      refine z_get (pc := 26) (v := .long (S.2 (25 + lw3) 0)) M K inX4_mean_X0 (o_law h_lw3) rfl 1 (by decide) flX4_mean_139 rfl rfl dX4_mean_26 ?_
      refine z_iload_n (pc := 29) M dX4_mean_29 rfl 0 rfl ?_
      obtain ⟨r8, h9, h⟩ := bo_in h
      refine z_scall (pc := 30) (As := [.long r6, .long (S.2 (25 + lw3) 0), .int p1]) M (kX4_lowest l r6 (S.2 (25 + lw3) 0) p1 r8 h9) (va_cwS 3 M.1.2.2.2.2 gX4_mean_X4_lowest rfl rfl rfl (by decide +kernel) ⟨Nat.le_of_ble_eq_true rfl, Nat.le_of_ble_eq_true rfl⟩) rfl rfl (Nat.le_of_ble_eq_true rfl) dX4_mean_30 ?_
      exact z_lretW (pc := 33) M (Option.some.inj h) rfl dX4_mean_33
    · refine z_ldc2 (pc := 17) M wdX4_mean_Cond_constantLong_RX4_143_1 dX4_mean_17 ?_
      exact z_lretW (pc := 20) M (Option.some.inj h) rfl dX4_mean_20
